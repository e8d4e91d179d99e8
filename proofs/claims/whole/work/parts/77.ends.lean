/-! A throw, a leave, the end of a finally's handler. -/
theorem ins_throw {im : Im} {IA A : Nat} {ms ps : Nat → Nat} {ls : Nat → List Nat} {T : Nat → Nat} {md : Nat} {σc σm : SG} {R : RQ} (h : Bs im IA A ms ps ls T md σc σm R) (hop : cdA im (ms (A - 1)) (ps (A - 1)) = 35) : StpR im IA σc σm := by
  obtain ⟨o1, o2, o3, o4, o5, o6, o7⟩ := Bs_f h
  obtain ⟨k, hk⟩ : ∃ k, cdA im (ms (A - 1)) (ps (A - 1) + 1) = k := ⟨_, rfl⟩
  have hMi := st_mi (q := ps (A - 1) + wdt 35) h.1 h.2.2.2.2.2
  obtain ⟨L', hT⟩ : ∃ L', Tr im (ms (A - 1)) 35 k (some (ls (A - 1))) = some L' := by
    have := o7.1
    rw [hop, hk] at this
    exact Option.ne_none_iff_exists'.mp this
  obtain ⟨-, -, -, d4⟩ := di_0 h.1 hop hk (by omega)
  obtain ⟨-, -, p3⟩ := pf_0 h.1 h.2.2.1.2.2.2 hop o4 (by omega)
  have hA8 := h.1.1.2.1
  have hA1 := h.1.1.1
  obtain ⟨e1, -⟩ := b_ot (o := some (ls (A - 1))) (t := 1) hT
  rw [Option.some.inj e1] at hMi
  obtain ⟨v, a, s1, s2, u1, u2, u3, u4, u5⟩ := mi_pop hMi
  have hva : v.toInt32 = a := by rw [VR_1 u4, i64_32]
  rw [hva] at u2
  obtain ⟨-, -, -, -, -, t6, -, -, -, t10, -, -, t13, -⟩ := Mi_op u5
  obtain ⟨h1, ⟨w1, w2, w3⟩, ⟨q1, q2, q3, q4⟩, q5, q6⟩ := u5
  obtain ⟨H1, H2, ⟨r1, r2, r3, r4⟩, r5, r6, r7⟩ := h
  obtain ⟨f1, f2, f3, f4, f5, f6, f7, f8, f9, f10, f11, f12, f13⟩ := h1.2.2.2.2.1 (A - 1) (by omega)
  have hk0 := H1.2.2.2.2.2.2
  have hk1 := h1.2.2.2.2.2.2
  have hze : EnZ im s1 := fun m r y1 y2 y3 => by
    have hm6 := (wf_m h1.2.1.2.2.1 y1).1
    rw [hk1 _ (by omega), w3 _ _ (by omega), pf_A (by omega), ← hk0 _ (by omega)]
    exact r6 m r y1 y2 y3
  have hr := ru_raise (e := a) t13 hA1 hA8
  rw [t10] at hr
  have hU : Ucg (A - 1) s1 (setI (setI (setI (setI s1 123 5 (bz true)) 123 6 a) 123 7 (Int32.ofNat (ps (A - 1)))) 123 8 (Int32.ofNat 0)) := ⟨rfl, fun x g p q => by rw [rI, if_neg (by omega), rI, if_neg (by omega), rI, if_neg (by omega), rI, if_neg (by omega)], fun _ _ _ _ => rfl, fun _ _ _ => rfl⟩
  obtain ⟨σc1, σm1, v1, v2, v3, v4, v5, v6⟩ := ins_thr (k := some (125 + 6 * (A - 1))) (op := Int32.ofNat 35) (b := false) h1 hU (Umg_refl _ _) hk1 (EnZ_same hze (fun _ => rfl)) r1 r2 r3 (by rw [rI, if_neg (by omega), rI, if_neg (by omega), rI, if_neg (by omega), rI, if_pos ⟨rfl, rfl⟩, bzt]) (by rw [rI, if_neg (by omega), rI, if_neg (by omega), rI, if_pos ⟨rfl, rfl⟩]) (by rw [rI, if_neg (by omega), rI, if_pos ⟨rfl, rfl⟩]) (by rw [rI, if_pos ⟨rfl, rfl⟩]) (by rw [rI, if_neg (by omega), rI, if_neg (by omega), rI, if_neg (by omega), rI, if_neg (by omega)]; exact q1) (by rw [rI, if_neg (by omega), rI, if_neg (by omega), rI, if_neg (by omega), rI, if_neg (by omega)]; exact q2) q3 f5 (Nat.zero_le _) (fun r _ _ z => z) (fun q _ y2 y3 y4 => f13 q y2 y3 y4) (fun f hf => by
      obtain ⟨R', l0, g1, g2, g3, g4, g5, g6, g7⟩ := pf_Cs (m := ms (A - 1)) (q := ps (A - 1) + wdt 35) H2 f hf
      rw [upl_n _ _ (by omega)]
      exact ⟨R', l0, g1, g2, g3, g4, by rw [w3 _ _ (by omega)]; exact g5, g6, g7⟩) r5
  refine ⟨σc1, σm1, (d4 (by omega) false _ ?_).trans v1, (p3 (by omega) σm1 ?_).trans ?_, Wc_trans w1 (Wc_trans (Ucg_W hU) v3), Wm_trans (Umg_W pf_U) (Wm_trans w2 v4), v6⟩
  · simp (disch := omega) only [↓reduceIte, Nat.reduceEqDiff, F_Ru_doFlow, lit32, n_eq, if_neg, if_pos, u2, hr, ite_true, ite_false, if_true, if_false, Bool.false_eq_true, and_self, and_true, true_and, and_false, false_and]
  · simp (disch := omega) only [↓reduceIte, Nat.reduceEqDiff, F_Mo_control, F_Mo_control_83, F_Mo_raise, lit32, n_eq, if_neg, if_pos, u3, v2, ite_true, ite_false, if_true, if_false, Bool.false_eq_true, and_self, and_true, true_and, and_false, false_and]
  · simp (disch := omega) only [F_Mo_perform_100, F_Mo_perform_116, v5, lit32, n_le, if_pos, ite_true, ite_false, if_true, if_false, Bool.false_eq_true, and_self, and_true, true_and, and_false, false_and]
theorem lv_go {im : Im} {IA A : Nat} {ms ps : Nat → Nat} {ls : Nat → List Nat} {T : Nat → Nat} {md : Nat} {R : RQ} {σca σma σc1 σm1 : SG} {q : Nat} {l' : List Nat} (hCs : Cs im A ms ps ls σma) (r1 : Clo im (ms (A - 1)) R) (r2 : ∀ Q, Clo im (ms (A - 1)) Q → LeQ R Q) (r5 : Sv im A ms) (hph : Ph1 σca σma) (h1 : Md im IA A ms (upp ps (A - 1) q) (upl ls (A - 1) l') T md σc1 σm1) (h2 : R q = some l') (h3 : σm1.2.2.2.1 21 (A - 1) = Int32.ofNat q) (h5 : Umg (A - 1) σma σm1) (h6 : ∀ g, σc1.1 123 g = σca.1 123 g) (h7 : σm1.1 = σma.1) (h8 : EnZ im σc1) : Go im IA σc1 σm1 :=
  ⟨A, ms, _, _, T, md, h1, Cs_top hCs h5, ⟨R, r1, r2, by rw [upp_s, upl_s]; exact h2, by rw [upp_s]; exact h3⟩, r5, h8, by rw [h6]; exact hph.1, by rw [h6]; exact hph.2.1, by rw [h6]; exact hph.2.2.1, by rw [h7]; exact hph.2.2.2⟩
theorem ins_leave {im : Im} {IA A : Nat} {ms ps : Nat → Nat} {ls : Nat → List Nat} {T : Nat → Nat} {md : Nat} {σc σm : SG} {R : RQ} (h : Bs im IA A ms ps ls T md σc σm R) (hop : cdA im (ms (A - 1)) (ps (A - 1)) = 36) : StpR im IA σc σm := by
  obtain ⟨o1, o2, o3, o4, o5, o6, o7⟩ := Bs_f h
  obtain ⟨k, hk⟩ : ∃ k, cdA im (ms (A - 1)) (ps (A - 1) + 1) = k := ⟨_, rfl⟩
  have hMi := st_mi (q := ps (A - 1) + wdt 36) h.1 h.2.2.2.2.2
  obtain ⟨g1, tg, g2, g3, g4, g5⟩ := o7.2.2.2.1 hop
  rw [hk] at g1 g2
  rw [hop] at o6
  have hw2 : wdt 36 = 2 := by decide
  rw [hw2] at o6
  have hk15 : im 15 (100 * ms (A - 1) + ps (A - 1) + 1) = k := by
    rw [← hk]
    unfold cdA
    rw [if_pos (by omega), Nat.add_assoc]
  have hk256 : k < 256 := by rw [← hk15]; exact h.1.2.1.2.1.1 _ _
  have hq1 : tg < 100 := by have := g3.1; omega
  rw [g2] at g1
  have hp1 : ps (A - 1) + 1 < 100 := by omega
  obtain ⟨-, -, -, d4⟩ := di_0 h.1 hop hk (by omega)
  obtain ⟨-, -, p3⟩ := pf_0 h.1 h.2.2.1.2.2.2 hop o4 (by omega)
  have hA8 := h.1.1.2.1
  have hA1 := h.1.1.1
  have gq : ((ps (A - 1) : Nat) : Int) + 2 + sg (im 15 (100 * ms (A - 1) + ps (A - 1) + 1)) = tg := by rw [hk15]; exact g2
  obtain ⟨-, -, -, -, -, t6, -, -, -, t10, -⟩ := Mi_op hMi
  have hj2 := mo_tgt t6 o1 hp1 gq hq1
  obtain ⟨x, s1, s2⟩ := a_signed hk256 σc
  have hj1 := (jp_q (by omega) hk256 s2 g2 hq1).2
  have hMd := hMi.1
  rw [upl_id] at hMd
  obtain ⟨H1, H2, ⟨r1, r2, r3, r4⟩, r5, r6, r7⟩ := h
  have hk0 := H1.2.2.2.2.2.2
  obtain ⟨f1, f2, f3, f4, f5, f6, f7, f8, f9, f10, f11, f12, f13⟩ := hMd.2.2.2.2.1 (A - 1) (by omega)
  obtain ⟨σc1, σm1, q, l', v1, v2, v3, v4, v5, v6, v7, v8, v9, v10⟩ := lv_sim (fr := ps (A - 1)) (tg := tg) (r0 := 0) hMd (Ucg_refl _ _) (Umg_refl _ _) hMd.2.2.2.2.2.2 r6 r1 r2 r3 (by omega) hq1 (Nat.zero_le _) g1 g5 (fun r _ _ z => z) (fun q _ y2 y3 y4 => f13 q y2 y3 y4) (fun q y1 y2 y3 => ⟨Nat.zero_le _, (g1 q y1).2.1 y3⟩)
  have hph : Ph1 σc (pfS σm (A - 1) (ms (A - 1)) (ps (A - 1) + wdt 36)) := ⟨r7.1, r7.2.1, r7.2.2.1, by rw [pf_28]; exact r7.2.2.2⟩
  refine ⟨σc1, σm1, (d4 (by omega) false σc1 ?_).trans ?_, (p3 (by omega) σm1 ?_).trans ?_, Ucg_W v6, Wm_trans (Umg_W pf_U) (Umg_W v7), Or.inl (lv_go (σca := σc) (pf_Cs H2) r1 r2 r5 hph v3 v4 v5 v7 v8 v9 v10)⟩
  · simp (disch := omega) only [↓reduceIte, Nat.reduceEqDiff, F_Ru_doFlow, lit32, n_eq, if_neg, if_pos, s1, t10, hj1, v1, ite_true, ite_false, if_true, if_false, Bool.false_eq_true, and_self, and_true, true_and, and_false, false_and]
  · have h5 : σc1.1 123 5 = Int32.ofNat 0 := by rw [v8]; exact r7.1
    simp (disch := omega) only [F_Ru_doInstruction_93, F_Ru_doInstruction_130, h5, zb0, ite_true, ite_false, if_true, if_false, Bool.false_eq_true, and_self, and_true, true_and, and_false, false_and]
  · simp (disch := omega) only [↓reduceIte, Nat.reduceEqDiff, F_Mo_control, F_Mo_control_83, F_Mo_leave, lit32, n_eq, if_neg, if_pos, hj2, v2, ite_true, ite_false, if_true, if_false, Bool.false_eq_true, and_self, and_true, true_and, and_false, false_and]
  · have h44 : σm1.1 0 44 = Int32.ofNat 0 := by rw [v9]; exact pf_44
    simp (disch := omega) only [F_Mo_perform_100, F_Mo_perform_116, h44, lit32, n_le, if_pos, ite_true, ite_false, if_true, if_false, Bool.false_eq_true, and_self, and_true, true_and, and_false, false_and]
theorem ins_done {im : Im} {IA A : Nat} {ms ps : Nat → Nat} {ls : Nat → List Nat} {T : Nat → Nat} {md : Nat} {σc σm : SG} {R : RQ} (h : Bs im IA A ms ps ls T md σc σm R) (hop : cdA im (ms (A - 1)) (ps (A - 1)) = 37) : StpR im IA σc σm := by
  obtain ⟨o1, o2, o3, o4, o5, o6, o7⟩ := Bs_f h
  obtain ⟨k, hk⟩ : ∃ k, cdA im (ms (A - 1)) (ps (A - 1) + 1) = k := ⟨_, rfl⟩
  have hMi := st_mi (q := ps (A - 1) + wdt 37) h.1 h.2.2.2.2.2
  obtain ⟨-, r, hfa⟩ := o7.2.1.2 hop
  obtain ⟨-, -, -, d4⟩ := di_0 h.1 hop hk (by omega)
  obtain ⟨-, -, p3⟩ := pf_0 h.1 h.2.2.1.2.2.2 hop o4 (by omega)
  have hA8 := h.1.1.2.1
  have hA1 := h.1.1.1
  obtain ⟨-, -, -, -, -, t6, -, -, -, t10, -⟩ := Mi_op hMi
  have hMd := hMi.1
  rw [upl_id] at hMd
  obtain ⟨H1, H2, ⟨r1, r2, r3, r4⟩, r5, r6, r7⟩ := h
  have hk0 := hMd.2.2.2.2.2.2
  obtain ⟨f1, f2, f3, f4, f5, f6, f7, f8, f9, f10, f11, f12, f13⟩ := hMd.2.2.2.2.1 (A - 1) (by omega)
  have hb := hMd.2.1
  have w := wf_m hb.2.2.1 f1
  have h9 := w.2.2.2.2.2.2.1
  have hpi : (Int32.ofNat (ps (A - 1))).toInt = (ps (A - 1) : Int) := n_int (by omega)
  obtain ⟨g1, g2, g3, g4⟩ := hfa
  have hfin : F_Me_finallyAround (IA + 4 + 9 * ms (A - 1)) (Int32.ofNat (ps (A - 1))) σc = some (Int32.ofNat r, σc) := by
    obtain ⟨y, y1, y2⟩ := a_fin hb.1 f1 hpi
    rcases y2 with ⟨-, y2⟩ | ⟨r', y2, y3⟩
    · exact absurd ⟨g1, g2, g3, g4⟩ (y2 r)
    · have : r' = r := by
        rcases Nat.lt_trichotomy r' r with c | c | c
        · exact absurd y3.2.1 (g4 r' c).2
        · exact c
        · exact absurd g2 (y3.2.2.2 r c).2
      rw [y1, y2, this]
  have hinn : F_Mo_innermost 0 (Int32.ofNat (ps (A - 1))) (pfS σm (A - 1) (ms (A - 1)) (ps (A - 1) + wdt 37)) = some (Int32.ofNat (3 * ms (A - 1) + r), pfS σm (A - 1) (ms (A - 1)) (ps (A - 1) + wdt 37)) := by
    obtain ⟨y, y1, y2⟩ := m_inner (p := ps (A - 1)) hb.2.2.1 f1 f2.2.1 t6 (by omega)
    rcases y2 with ⟨-, y2⟩ | ⟨r', y2, y3, y4, y5⟩
    · exact absurd g2 (y2 r g1).2
    · have : r' = r := by
        rcases Nat.lt_trichotomy r' r with c | c | c
        · rcases y4 with y4 | y4
          · exact absurd y4 (g4 r' c).1
          · exact absurd y4 (g4 r' c).2
        · exact c
        · exact absurd g2 (y5 r c).2
      rw [y1, y3, this]
  obtain ⟨kd, fr, k1, k2, k3, k4, k5, k6, k7, k8, k9⟩ := f13 r g1 g3 g2
  have hU1 : Ucg (A - 1) σc (setA σc (128 + 6 * (A - 1)) r (Int32.ofNat 0)) := ⟨rfl, fun _ _ _ _ => rfl, fun x g p q => by rw [rA, if_neg (by omega)], fun _ _ _ => rfl⟩
  have hU2 : Umg (A - 1) (pfS σm (A - 1) (ms (A - 1)) (ps (A - 1) + wdt 37)) (setA (pfS σm (A - 1) (ms (A - 1)) (ps (A - 1) + wdt 37)) 28 (3 * (A - 1) + r) (Int32.ofNat 0)) := ⟨rfl, fun _ _ => rfl, fun x g y1 y2 y3 y4 => by rw [rA, if_neg (by omega)]⟩
  obtain ⟨c1, c2, c3, c4, c5, c6, c7⟩ := cF (f := A - 1) (by omega)
  have hMc := d_Mc hb.1 f1
  have hkd0 : 1 ≤ kd ∧ kd ≤ 2 := by rcases k1 with z | z <;> rw [z] <;> exact ⟨by decide, by decide⟩
  have hCs' : Cs im A ms ps ls (setA (pfS σm (A - 1) (ms (A - 1)) (ps (A - 1) + wdt 37)) 28 (3 * (A - 1) + r) (Int32.ofNat 0)) := fun f hf => by
    obtain ⟨R', l0, y1, y2, y3, y4, y5, y6, y7⟩ := pf_Cs (m := ms (A - 1)) (q := ps (A - 1) + wdt 37) H2 f hf
    exact ⟨R', l0, y1, y2, y3, y4, by rw [rA, if_neg (by omega)]; exact y5, y6, y7⟩
  have hpnb : ∀ q, r + 1 ≤ q → q < im 9 (ms (A - 1)) → isF im (ms (A - 1)) q → iH im (ms (A - 1)) q (ps (A - 1)) → PnB im (setA σc (128 + 6 * (A - 1)) r (Int32.ofNat 0)) (setA (pfS σm (A - 1) (ms (A - 1)) (ps (A - 1) + wdt 37)) 28 (3 * (A - 1) + r) (Int32.ofNat 0)) (A - 1) (ms (A - 1)) q := fun q y1 y2 y3 y4 =>
    PnB_congr (f13 q y2 y3 y4) (fun x _ _ => by rw [rA, if_neg (by omega)]) (fun x _ _ => by rw [rA, if_neg (by omega)])
  have hgeo : ∀ q, r + 1 ≤ q → q < im 9 (ms (A - 1)) → iP im (ms (A - 1)) q fr → iP im (ms (A - 1)) q (ps (A - 1)) := fun q y1 y2 y3 => geo_2 f2.2.1 g1 y2 (by omega) g2 k7 y3
  have p28 : (pfS σm (A - 1) (ms (A - 1)) (ps (A - 1) + wdt 37)).1 0 28 = Int32.ofNat 1 := by rw [pf_28]; exact r7.2.2.2
  have hsub : 3 * ms (A - 1) + r - 3 * ms (A - 1) = r := by omega
  have p24 : (pfS σm (A - 1) (ms (A - 1)) (ps (A - 1) + wdt 37)).1 0 24 = Int32.ofNat (ms (A - 1)) := pf_24
  have e129 : (setA σc (128 + 6 * (A - 1)) r (Int32.ofNat 0)).2.2.2.1 (129 + 6 * (A - 1)) r = σc.2.2.2.1 (129 + 6 * (A - 1)) r := by rw [rA, if_neg (by omega)]
  have e130 : (setA σc (128 + 6 * (A - 1)) r (Int32.ofNat 0)).2.2.2.1 (130 + 6 * (A - 1)) r = Int32.ofNat fr := by rw [rA, if_neg (by omega)]; exact k5
  have e29 : (setA (pfS σm (A - 1) (ms (A - 1)) (ps (A - 1) + wdt 37)) 28 (3 * (A - 1) + r) (Int32.ofNat 0)).2.2.2.1 29 (3 * (A - 1) + r) = σc.2.2.2.1 (129 + 6 * (A - 1)) r := by rw [rA, if_neg (by omega)]; exact k8.symm
  have e30 : (setA (pfS σm (A - 1) (ms (A - 1)) (ps (A - 1) + wdt 37)) 28 (3 * (A - 1) + r) (Int32.ofNat 0)).2.2.2.1 30 (3 * (A - 1) + r) = Int32.ofNat fr := by rw [rA, if_neg (by omega)]; exact k6
  by_cases ck : kd = 1
  · subst ck
    have hU : Ucg (A - 1) (setA σc (128 + 6 * (A - 1)) r (Int32.ofNat 0)) (setI (setI (setI (setI (setA σc (128 + 6 * (A - 1)) r (Int32.ofNat 0)) 123 5 (bz true)) 123 6 (σc.2.2.2.1 (129 + 6 * (A - 1)) r)) 123 7 (Int32.ofNat fr)) 123 8 (Int32.ofNat (r + 1))) := ⟨rfl, fun x g p q => by rw [rI, if_neg (by omega), rI, if_neg (by omega), rI, if_neg (by omega), rI, if_neg (by omega)], fun _ _ _ _ => rfl, fun _ _ _ => rfl⟩
    obtain ⟨σc1, σm1, v1, v2, v3, v4, v5, v6⟩ := ins_thr (k := some (125 + 6 * (A - 1))) (op := Int32.ofNat 37) (b := false) hMd (Ucg_trans hU1 hU) hU2 (fun k hk => by
        show (setA σc (128 + 6 * (A - 1)) r (Int32.ofNat 0)).2.2.2.1 175 k = _
        rw [rA, if_neg (by omega), rA, if_neg (by omega)]; exact hk0 k hk) (EnZ_same r6 (fun k => by
        show (setA σc (128 + 6 * (A - 1)) r (Int32.ofNat 0)).2.2.2.1 175 k = _
        rw [rA, if_neg (by omega)])) r1 r2 r3 (by rw [rI, if_neg (by omega), rI, if_neg (by omega), rI, if_neg (by omega), rI, if_pos ⟨rfl, rfl⟩, bzt]) (by rw [rI, if_neg (by omega), rI, if_neg (by omega), rI, if_pos ⟨rfl, rfl⟩]) (by rw [rI, if_neg (by omega), rI, if_pos ⟨rfl, rfl⟩]) (by rw [rI, if_pos ⟨rfl, rfl⟩]) (by rw [rI, if_neg (by omega), rI, if_neg (by omega), rI, if_neg (by omega), rI, if_neg (by omega)]; exact r7.2.1) (by rw [rI, if_neg (by omega), rI, if_neg (by omega), rI, if_neg (by omega), rI, if_neg (by omega)]; exact r7.2.2.1) p28 k2 (by omega) hgeo hpnb hCs' r5
    refine ⟨σc1, σm1, (d4 (by omega) false _ ?_).trans v1, (p3 (by omega) σm1 ?_).trans ?_, Wc_trans (Ucg_W hU1) (Wc_trans (Ucg_W hU) v3), Wm_trans (Umg_W pf_U) (Wm_trans (Umg_W hU2) v4), v6⟩
    · simp (disch := omega) only [↓reduceIte, Nat.reduceEqDiff, F_Ru_doFlow, F_Ru_finish, F_Ru_finish_26, lit32, n_eq, n_le, if_neg, if_pos, f3, hMc, f6, hfin, n_nl0, n_cl, false_or, c4, c5, c6, k3, stl_e, e129, e130, ru_raiseFrom, n_add, ite_true, ite_false, if_true, if_false, Bool.false_eq_true, and_self, and_true, true_and, and_false, false_and]
    · simp (disch := omega) only [↓reduceIte, Nat.reduceEqDiff, F_Mo_control, F_Mo_control_83, F_Mo_goOn, F_Mo_goOn_90, lit32, n_eq, if_neg, if_pos, hinn, p24, n_mul, n_sub, n_add, hsub, n_nl0, n_cl, false_or, cm_40, cm_41, cm_42, k4, stl_e, e29, e30, v2, ite_true, ite_false, if_true, if_false, Bool.false_eq_true, and_self, and_true, true_and, and_false, false_and]
    · simp (disch := omega) only [F_Mo_perform_100, F_Mo_perform_116, v5, lit32, n_le, if_pos, ite_true, ite_false, if_true, if_false, Bool.false_eq_true, and_self, and_true, true_and, and_false, false_and]
  · have ck2 : kd = 2 := by omega
    subst ck2
    obtain ⟨tg, R', y1, y2, y3, y4, y5, y6, y7⟩ := k9 rfl
    rw [y1] at e129 e29
    obtain ⟨σc1, σm1, q, l', v1, v2, v3, v4, v5, v6, v7, v8, v9, v10⟩ := lv_sim (fr := fr) (tg := tg) (r0 := r + 1) hMd hU1 hU2 (fun k hk => by rw [rA, if_neg (by omega), rA, if_neg (by omega)]; exact hk0 k hk) (EnZ_same r6 (fun k => by rw [rA, if_neg (by omega)])) r1 r2 r3 k2 y2 (by omega) y3 (y5 R r1 _ _ y6) hgeo hpnb (fun q z1 z2 z3 => by
      have := geo_3 f2.2.1 g1 z1 g2 k7 y7 z3 ((y3 q z1).2.1 z3)
      exact ⟨by omega, this.2⟩)
    have hph : Ph1 (setA σc (128 + 6 * (A - 1)) r (Int32.ofNat 0)) (setA (pfS σm (A - 1) (ms (A - 1)) (ps (A - 1) + wdt 37)) 28 (3 * (A - 1) + r) (Int32.ofNat 0)) := ⟨r7.1, r7.2.1, r7.2.2.1, p28⟩
    refine ⟨σc1, σm1, (d4 (by omega) false σc1 ?_).trans ?_, (p3 (by omega) σm1 ?_).trans ?_, Wc_trans (Ucg_W hU1) (Ucg_W v6), Wm_trans (Umg_W pf_U) (Wm_trans (Umg_W hU2) (Umg_W v7)), Or.inl (lv_go hCs' r1 r2 r5 hph v3 v4 v5 v7 v8 v9 v10)⟩
    · simp (disch := omega) only [↓reduceIte, Nat.reduceEqDiff, F_Ru_doFlow, F_Ru_finish, F_Ru_finish_26, lit32, n_eq, n_le, if_neg, if_pos, f3, hMc, f6, hfin, n_nl0, n_cl, false_or, c4, c5, c6, k3, stl_e, e129, e130, n_add, v1, ite_true, ite_false, if_true, if_false, Bool.false_eq_true, and_self, and_true, true_and, and_false, false_and]
    · have h5 : σc1.1 123 5 = Int32.ofNat 0 := by rw [v8]; exact r7.1
      simp (disch := omega) only [F_Ru_doInstruction_93, F_Ru_doInstruction_130, h5, zb0, ite_true, ite_false, if_true, if_false, Bool.false_eq_true, and_self, and_true, true_and, and_false, false_and]
    · simp (disch := omega) only [↓reduceIte, Nat.reduceEqDiff, F_Mo_control, F_Mo_control_83, F_Mo_goOn, F_Mo_goOn_90, lit32, n_eq, if_neg, if_pos, hinn, p24, n_mul, n_sub, n_add, hsub, n_nl0, n_cl, false_or, cm_40, cm_41, cm_42, k4, stl_e, e29, e30, v2, ite_true, ite_false, if_true, if_false, Bool.false_eq_true, and_self, and_true, true_and, and_false, false_and]
    · have h44 : σm1.1 0 44 = Int32.ofNat 0 := by rw [v9]; exact pf_44 (σ := σm) (f := A - 1) (m := ms (A - 1)) (q := ps (A - 1) + wdt 37)
      simp (disch := omega) only [F_Mo_perform_100, F_Mo_perform_116, h44, lit32, n_le, if_pos, ite_true, ite_false, if_true, if_false, Bool.false_eq_true, and_self, and_true, true_and, and_false, false_and]
