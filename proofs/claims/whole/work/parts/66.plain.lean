/-! The plain instructions. -/
theorem b_th {o : Option (List Nat)} {t : Nat} {L' : List Nat} (h : o.bind (wth t) = some L') : ∃ L, o = some L ∧ L.length < 8 ∧ t ≠ 0 ∧ L' = t :: L := by
  cases o with
  | none => cases h
  | some L =>
    have h' : wth t L = some L' := h
    unfold wth at h'
    by_cases c : L.length < 8 ∧ t ≠ 0
    · rw [if_pos c] at h'
      cases h'
      exact ⟨L, rfl, c.1, c.2, rfl⟩
    · rw [if_neg c] at h'; cases h'
theorem b_ot {o : Option (List Nat)} {t : Nat} {L' : List Nat} (h : o.bind (wot t) = some L') : o = some (t :: L') ∧ t ≠ 0 := by
  cases o with
  | none => cases h
  | some L =>
    have h' : wot t L = some L' := h
    cases L with
    | nil => cases h'
    | cons x l =>
      rw [wot_c] at h'
      by_cases c : x = t ∧ t ≠ 0
      · rw [if_pos c] at h'
        cases h'
        rw [c.1]
        exact ⟨rfl, c.2⟩
      · rw [if_neg c] at h'; cases h'
theorem TyC_loc {im : Im} {A : Nat} {ms T : Nat → Nat} {md k : Nat} (h1 : 1 ≤ A) (h8 : A ≤ 8) (hk : k < 4) : TyC im A ms T md (4 * (A - 1) + k) = lty im (ms (A - 1)) k := by
  unfold TyC
  rw [if_pos (by omega), if_pos (by omega), show (4 * (A - 1) + k) / 4 = A - 1 by omega, show (4 * (A - 1) + k) % 4 = k by omega]
theorem lty_4 {im : Im} {m k : Nat} (hw : WfI im) (hm : m < im 0 1) (h : lty im m k ≠ 0) : k < 4 := by
  have := (wf_m hw hm).2.2.2.2.1
  unfold lty at h
  by_cases c : k < im 7 m
  · omega
  · rw [if_neg c] at h; omega
theorem aty_3 {im : Im} {m k : Nat} (hw : WfI im) (hm : m < im 0 1) (h : aty im m k ≠ 0) : k < im 5 m ∧ k < 3 ∧ aty im m k = im 6 (3 * m + k) := by
  have := (wf_m hw hm).2.2.1
  unfold aty at h ⊢
  by_cases c : k < im 5 m
  · rw [if_pos c]; omega
  · rw [if_neg c] at h; omega
theorem ra_loc {x : Nat} (h : x < 32) : ra x = x := by unfold ra; rw [if_pos h]
theorem plc_1 {t : Nat} (h : plc t ≠ 0) : t = 1 ∧ plc t = 3 := by
  unfold plc at h ⊢
  by_cases c : t = 1
  · rw [if_pos c]; omega
  · rw [if_neg c] at h; omega
theorem o_0 {im : Im} {IA A : Nat} {ms ps : Nat → Nat} {ls : Nat → List Nat} {T : Nat → Nat} {md : Nat} {σc0 σm0 σc σm : SG} {L : List Nat} {p k : Nat} (h : Mi im IA A ms ps ls T md σc0 σm0 L σc σm) : OpR im IA A ms ps ls σc0 σm0 L (F_Ru_doSimple 123 (125 + 6 * (A - 1)) (Int32.ofNat 0) (Int32.ofNat k) σc) (F_Mo_plain 0 (Int32.ofNat (A - 1)) (Int32.ofNat p) (Int32.ofNat 0) σm) := by
  refine OpR_t ?_ ?_ h
  · simp (disch := omega) only [↓reduceIte, Nat.reduceEqDiff, F_Ru_doSimple, lit32, n_eq, if_neg, ite_true, ite_false, if_true, if_false, Bool.false_eq_true, and_self, and_true, true_and, and_false, false_and]
  · simp (disch := omega) only [↓reduceIte, Nat.reduceEqDiff, F_Mo_plain, F_Mo_plain_349, lit32, n_eq, if_pos, ite_true, ite_false, if_true, if_false, Bool.false_eq_true, and_self, and_true, true_and, and_false, false_and]
theorem sgn_m {k : Nat} {x : Int32} (h : k < 256) (hx : x.toInt = sg k) (σ : SG) : F_Mo_signed (Int32.ofNat k) σ = some (x, σ) := by
  obtain ⟨y, h1, h2⟩ : ∃ y : Int32, F_Mo_signed (Int32.ofNat k) σ = some (y, σ) ∧ y.toInt = sg k := by
    obtain ⟨x, h1, h2⟩ := a_signed h σ
    exact ⟨x, h1, h2⟩
  have : y = x := Int32.toInt.inj (h2.trans hx.symm)
  rw [h1, this]
theorem o_1 {im : Im} {IA A : Nat} {ms ps : Nat → Nat} {ls : Nat → List Nat} {T : Nat → Nat} {md : Nat} {σc0 σm0 σc σm : SG} {L L' : List Nat} {p k : Nat} (h : Mi im IA A ms ps ls T md σc0 σm0 L σc σm) (hp : p + 1 < 100) (hk : im 15 (100 * ms (A - 1) + p + 1) = k) (hT : (some L).bind (wth 1) = some L') : OpR im IA A ms ps ls σc0 σm0 L' (F_Ru_doSimple 123 (125 + 6 * (A - 1)) (Int32.ofNat 1) (Int32.ofNat k) σc) (F_Mo_plain 0 (Int32.ofNat (A - 1)) (Int32.ofNat p) (Int32.ofNat 1) σm) := by
  obtain ⟨L0, e, g1, g2, g3⟩ := b_th hT
  cases e; subst g3
  obtain ⟨o1, o2, o3, o4, o5, o6, o7, o8, -⟩ := Mi_op h
  have hop := m_opnd o6 o5 hp
  rw [hk] at hop
  have hk2 : k < 256 := by have := o8.2.1.1 15 (100 * ms (A - 1) + p + 1); omega
  obtain ⟨x, s1, s2⟩ := a_signed hk2 σc
  have s3 := sgn_m hk2 s2 σm
  obtain ⟨c1, m1, r1, r2, r3, -⟩ := mi_push (t := 1) (b := Int32.ofNat 0) h g1 (VR_num x _)
  refine OpR_t (σc := c1) (σm := m1) ?_ ?_ r3
  · simp (disch := omega) only [↓reduceIte, Nat.reduceEqDiff, F_Ru_doSimple, lit32, n_eq, if_neg, if_pos, s1, r1, ite_true, ite_false, if_true, if_false, Bool.false_eq_true, and_self, and_true, true_and, and_false, false_and]
  · simp (disch := omega) only [↓reduceIte, Nat.reduceEqDiff, F_Mo_plain, F_Mo_plain_349, lit32, n_eq, if_pos, if_neg, hop, s3, r2, ite_true, ite_false, if_true, if_false, Bool.false_eq_true, and_self, and_true, true_and, and_false, false_and]
theorem o_2 {im : Im} {IA A : Nat} {ms ps : Nat → Nat} {ls : Nat → List Nat} {T : Nat → Nat} {md : Nat} {σc0 σm0 σc σm : SG} {L L' : List Nat} {p k : Nat} (h : Mi im IA A ms ps ls T md σc0 σm0 L σc σm) (hp : p + 1 < 100) (hk : im 15 (100 * ms (A - 1) + p + 1) = k) (hT : (some L).bind (wth (lty im (ms (A - 1)) k)) = some L') : OpR im IA A ms ps ls σc0 σm0 L' (F_Ru_doSimple 123 (125 + 6 * (A - 1)) (Int32.ofNat 2) (Int32.ofNat k) σc) (F_Mo_plain 0 (Int32.ofNat (A - 1)) (Int32.ofNat p) (Int32.ofNat 2) σm) := by
  obtain ⟨L0, e, g1, g2, g3⟩ := b_th hT
  cases e; subst g3
  obtain ⟨o1, o2, o3, o4, o5, o6, o7, o8, o9, -⟩ := Mi_op h
  have hop := m_opnd o6 o5 hp
  rw [hk] at hop
  have h4 := lty_4 o8.2.2.1 o4 g2
  have hc := mi_cell (x := 4 * (A - 1) + k) h (by omega) (by rw [TyC_loc o1 o2 h4]; exact g2)
  rw [TyC_loc o1 o2 h4, ra_loc (by omega)] at hc
  obtain ⟨c1, m1, r1, r2, r3, -⟩ := mi_push h g1 hc
  refine OpR_t (σc := c1) (σm := m1) ?_ ?_ r3
  · simp (disch := omega) only [↓reduceIte, Nat.reduceEqDiff, F_Ru_doSimple, lit32, n_eq, if_neg, if_pos, o9, n_add, ru_cell, r1, ite_true, ite_false, if_true, if_false, Bool.false_eq_true, and_self, and_true, true_and, and_false, false_and]
  · simp (disch := omega) only [↓reduceIte, Nat.reduceEqDiff, F_Mo_plain, F_Mo_plain_349, F_Mo_putCell, F_Mo_putCell_20, lit32, n_eq, if_pos, if_neg, hop, n_mul, n_add, n_nl0, n_cl, false_or, cm_37, cm_38, r2, ite_true, ite_false, if_true, if_false, Bool.false_eq_true, and_self, and_true, true_and, and_false, false_and]
theorem o_3 {im : Im} {IA A : Nat} {ms ps : Nat → Nat} {ls : Nat → List Nat} {T : Nat → Nat} {md : Nat} {σc0 σm0 σc σm : SG} {L L' : List Nat} {p k : Nat} (h : Mi im IA A ms ps ls T md σc0 σm0 L σc σm) (hp : p + 1 < 100) (hk : im 15 (100 * ms (A - 1) + p + 1) = k) (hT : (some L).bind (wot (lty im (ms (A - 1)) k)) = some L') : OpR im IA A ms ps ls σc0 σm0 L' (F_Ru_doSimple 123 (125 + 6 * (A - 1)) (Int32.ofNat 3) (Int32.ofNat k) σc) (F_Mo_plain 0 (Int32.ofNat (A - 1)) (Int32.ofNat p) (Int32.ofNat 3) σm) := by
  obtain ⟨e, g2⟩ := b_ot hT
  cases e
  obtain ⟨o1, o2, o3, o4, o5, o6, o7, o8, o9, -⟩ := Mi_op h
  have h4 := lty_4 o8.2.2.1 o4 g2
  obtain ⟨v, a, c1, m1, r1, -, r2, r3, r4⟩ := mi_pop h
  have hop := m_opnd (Mi_op r4).2.2.2.2.2.1 o5 hp
  rw [hk] at hop
  rw [← TyC_loc (T := T) (md := md) o1 o2 h4] at r3
  have r5 := mi_set (x := 4 * (A - 1) + k) (σm1 := setA (setA m1 25 (4 * (A - 1) + k) a) 26 (4 * (A - 1) + k) (m1.1 0 46)) r4 (by omega) r3 rfl rfl (fun y g hy => by rw [ra_loc (by omega)] at hy; rw [rA, if_neg (by omega), rA, if_neg (by omega)]) (by rw [ra_loc (by omega), rA, if_neg (by omega), rA, if_pos ⟨rfl, rfl⟩]) (by rw [ra_loc (by omega), rA, if_pos ⟨rfl, rfl⟩])
  refine OpR_t ?_ ?_ r5
  · simp (disch := omega) only [↓reduceIte, Nat.reduceEqDiff, F_Ru_doSimple, lit32, n_eq, if_neg, if_pos, o9, r1, n_add, ru_setCell, ite_true, ite_false, if_true, if_false, Bool.false_eq_true, and_self, and_true, true_and, and_false, false_and]
  · simp (disch := omega) only [↓reduceIte, Nat.reduceEqDiff, F_Mo_plain, F_Mo_plain_349, lit32, n_eq, if_pos, if_neg, r2, hop, n_mul, n_add, mo_setCell, ite_true, ite_false, if_true, if_false, Bool.false_eq_true, and_self, and_true, true_and, and_false, false_and]
theorem o_4 {im : Im} {IA A : Nat} {ms ps : Nat → Nat} {ls : Nat → List Nat} {T : Nat → Nat} {md : Nat} {σc0 σm0 σc σm : SG} {L L' : List Nat} {p k : Nat} (h : Mi im IA A ms ps ls T md σc0 σm0 L σc σm) (hp : p + 1 < 100) (hk : im 15 (100 * ms (A - 1) + p + 1) = k) (hT : (some L).bind (wth (plc (lty im (ms (A - 1)) k))) = some L') : OpR im IA A ms ps ls σc0 σm0 L' (F_Ru_doSimple 123 (125 + 6 * (A - 1)) (Int32.ofNat 4) (Int32.ofNat k) σc) (F_Mo_plain 0 (Int32.ofNat (A - 1)) (Int32.ofNat p) (Int32.ofNat 4) σm) := by
  obtain ⟨L0, e, g1, g2, g3⟩ := b_th hT
  cases e; subst g3
  obtain ⟨o1, o2, o3, o4, o5, o6, o7, o8, o9, -⟩ := Mi_op h
  have hop := m_opnd o6 o5 hp
  rw [hk] at hop
  obtain ⟨e1, e3⟩ := plc_1 g2
  have h4 := lty_4 (k := k) o8.2.2.1 o4 (by omega)
  have hv : VR im A ms T md (A - 1) 3 _ _ (Int32.ofNat 0) := VR_pl (x := 4 * (A - 1) + k) (Int32.ofNat 0) (by omega) (by rw [TyC_loc o1 o2 h4]; exact e1) (fun _ => by omega)
  rw [ra_loc (by omega)] at hv
  rw [e3]
  obtain ⟨c1, m1, r1, r2, r3, -⟩ := mi_push h g1 hv
  refine OpR_t (σc := c1) (σm := m1) ?_ ?_ r3
  · simp (disch := omega) only [↓reduceIte, Nat.reduceEqDiff, F_Ru_doSimple, lit32, n_eq, if_neg, if_pos, o9, n_add, n64, r1, ite_true, ite_false, if_true, if_false, Bool.false_eq_true, and_self, and_true, true_and, and_false, false_and]
  · simp (disch := omega) only [↓reduceIte, Nat.reduceEqDiff, F_Mo_plain, F_Mo_plain_349, lit32, n_eq, if_pos, if_neg, hop, n_mul, n_add, r2, ite_true, ite_false, if_true, if_false, Bool.false_eq_true, and_self, and_true, true_and, and_false, false_and]
theorem mi_arg {im : Im} {IA A : Nat} {ms ps : Nat → Nat} {ls : Nat → List Nat} {T : Nat → Nat} {md : Nat} {σc0 σm0 σc σm : SG} {L : List Nat} {k : Nat} (h : Mi im IA A ms ps ls T md σc0 σm0 L σc σm) (hk : k < im 5 (ms (A - 1))) : VR im A ms T md (A - 1) (im 6 (3 * ms (A - 1) + k)) (σc.2.2.2.2 (127 + 6 * (A - 1)) k) (σm.2.2.2.1 25 (32 + 3 * (A - 1) + k)) (σm.2.2.2.1 26 (32 + 3 * (A - 1) + k)) := by
  have ho := Mi_op h
  obtain ⟨f1, f2, f3, f4, f5, f6, f7, f8, f9, f10, f11, f12, f13⟩ := h.1.2.2.2.2.1 (A - 1) (by omega)
  exact f12 k hk
theorem o_5 {im : Im} {IA A : Nat} {ms ps : Nat → Nat} {ls : Nat → List Nat} {T : Nat → Nat} {md : Nat} {σc0 σm0 σc σm : SG} {L L' : List Nat} {p k : Nat} (h : Mi im IA A ms ps ls T md σc0 σm0 L σc σm) (hp : p + 1 < 100) (hk : im 15 (100 * ms (A - 1) + p + 1) = k) (hT : (some L).bind (wth (aty im (ms (A - 1)) k)) = some L') : OpR im IA A ms ps ls σc0 σm0 L' (F_Ru_doSimple 123 (125 + 6 * (A - 1)) (Int32.ofNat 5) (Int32.ofNat k) σc) (F_Mo_plain 0 (Int32.ofNat (A - 1)) (Int32.ofNat p) (Int32.ofNat 5) σm) := by
  obtain ⟨L0, e, g1, g2, g3⟩ := b_th hT
  cases e; subst g3
  obtain ⟨o1, o2, o3, o4, o5, o6, o7, o8, o9, -⟩ := Mi_op h
  have hop := m_opnd o6 o5 hp
  rw [hk] at hop
  obtain ⟨h1, h3, h4⟩ := aty_3 o8.2.2.1 o4 g2
  have hc := mi_arg h h1
  rw [← h4] at hc
  obtain ⟨c1, m1, r1, r2, r3, -⟩ := mi_push h g1 hc
  have har := fr_arg (σ := σc) (f := A - 1) (k := k) (by omega) h3
  refine OpR_t (σc := c1) (σm := m1) ?_ ?_ r3
  · simp (disch := omega) only [↓reduceIte, Nat.reduceEqDiff, F_Ru_doSimple, lit32, n_eq, if_neg, if_pos, har, r1, ite_true, ite_false, if_true, if_false, Bool.false_eq_true, and_self, and_true, true_and, and_false, false_and]
  · simp (disch := omega) only [↓reduceIte, Nat.reduceEqDiff, F_Mo_plain, F_Mo_plain_349, F_Mo_putCell, F_Mo_putCell_20, lit32, n_eq, if_pos, if_neg, hop, n_mul, n_add, n_nl0, n_cl, false_or, cm_37, cm_38, r2, ite_true, ite_false, if_true, if_false, Bool.false_eq_true, and_self, and_true, true_and, and_false, false_and]
theorem mi_setArg {im : Im} {IA A : Nat} {ms ps : Nat → Nat} {ls : Nat → List Nat} {T : Nat → Nat} {md : Nat} {σc0 σm0 σc σm : SG} {L : List Nat} {k : Nat} {v : Int64} {a b : Int32} (h : Mi im IA A ms ps ls T md σc0 σm0 L σc σm) (hk : k < im 5 (ms (A - 1))) (hv : VR im A ms T md (A - 1) (im 6 (3 * ms (A - 1) + k)) v a b) : Mi im IA A ms ps ls T md σc0 σm0 L (setL σc (127 + 6 * (A - 1)) k v) (setA (setA σm 25 (32 + 3 * (A - 1) + k) a) 26 (32 + 3 * (A - 1) + k) b) := by
  have ho := Mi_op h
  obtain ⟨⟨⟨a1, a2, a3⟩, b0, c0, d, e, g, q⟩, ⟨w1, w2, w3⟩, ⟨p1, p2, p3, p4⟩, q1, q2⟩ := h
  have w := wf_m b0.2.2.1 ho.2.2.2.1
  have hA : ∀ y j, ¬ ((y = 25 ∨ y = 26) ∧ j = 32 + 3 * (A - 1) + k) → (setA (setA σm 25 (32 + 3 * (A - 1) + k) a) 26 (32 + 3 * (A - 1) + k) b).2.2.2.1 y j = σm.2.2.2.1 y j := fun y j hy => by
    rw [rA, if_neg (by omega), rA, if_neg (by omega)]
  have hwc : Wc σc (setL σc (127 + 6 * (A - 1)) k v) := ⟨fun _ _ _ => rfl, fun _ _ _ => rfl, fun _ _ _ => rfl, fun _ _ => rfl⟩
  have hwm : Wm σm (setA (setA σm 25 (32 + 3 * (A - 1) + k) a) 26 (32 + 3 * (A - 1) + k) b) := ⟨fun _ _ _ _ _ _ _ _ => rfl, fun x g _ => hA x g (by omega), rfl⟩
  refine ⟨⟨⟨a1, a2, a3⟩, Img_congr b0 hwc hwm, c0, d, fun f hf => ?_, ⟨fun y hy ht => ?_, fun j hj => ⟨(g.2 j hj).1, fun e4 => ?_⟩⟩, fun j hj => ?_⟩, ⟨Wc_trans w1 hwc, Wm_trans w2 hwm, fun x j hx => ?_⟩, ⟨p1, p2, p3, p4⟩, q1, q2⟩
  · by_cases ef : f = A - 1
    · subst ef
      obtain ⟨f1, f2, f3, f4, f5, f6, f7, f8, f9, f10, f11, f12, f13⟩ := e (A - 1) hf
      refine ⟨f1, f2, f3, f4, f5, f6, f7, f8, ?_, ?_, StR_congr _ f11 (fun j hj => ⟨by rw [rL, if_neg (by omega)], hA _ _ (by omega), hA _ _ (by omega)⟩), fun i hi => ?_, PnR_congr f13 w.2.2.2.2.2.2.1 (fun _ _ _ _ => rfl) (fun x g _ _ _ => hA _ _ (by omega))⟩
      · rw [hA _ _ (by omega)]; exact f9
      · rw [hA _ _ (by omega)]; exact f10
      · by_cases ei : i = k
        · rw [ei, rL, if_pos ⟨rfl, rfl⟩, rA, if_neg (by omega), rA, if_pos ⟨rfl, rfl⟩, rA, if_pos ⟨rfl, rfl⟩]
          exact hv
        · rw [rL, if_neg (by omega), hA _ _ (by omega), hA _ _ (by omega)]
          exact f12 i hi
    · refine FrI_congr b0.2.2.1 (e f hf) ⟨fun _ => rfl, rfl, fun y g hy => by rw [rL, if_neg (by omega)], fun _ _ _ _ => rfl⟩ ⟨fun y hy => hA _ _ (by omega), fun y g hy _ _ => hA _ _ (by omega), fun y g hy h1 h2 => hA _ _ (by omega), fun y g hy _ _ => hA _ _ (by omega)⟩ (Mono_refl _ _ _ _ _ _) rfl rfl rfl
  · have hr := ra_lt hy
    rw [rL, if_neg (by omega), hA _ _ (by omega), hA _ _ (by omega)]
    exact g.1 y hy ht
  · obtain ⟨n, n1, n2, n3⟩ := (g.2 j hj).2 e4
    exact ⟨n, n1, n2, by rw [hA _ _ (by omega)]; exact n3⟩
  · rw [hA _ _ (by omega)]; exact q j hj
  · rw [hA _ _ (by omega)]; exact w3 x j hx
theorem o_6 {im : Im} {IA A : Nat} {ms ps : Nat → Nat} {ls : Nat → List Nat} {T : Nat → Nat} {md : Nat} {σc0 σm0 σc σm : SG} {L L' : List Nat} {p k : Nat} (h : Mi im IA A ms ps ls T md σc0 σm0 L σc σm) (hp : p + 1 < 100) (hk : im 15 (100 * ms (A - 1) + p + 1) = k) (hT : (some L).bind (wot (aty im (ms (A - 1)) k)) = some L') : OpR im IA A ms ps ls σc0 σm0 L' (F_Ru_doSimple 123 (125 + 6 * (A - 1)) (Int32.ofNat 6) (Int32.ofNat k) σc) (F_Mo_plain 0 (Int32.ofNat (A - 1)) (Int32.ofNat p) (Int32.ofNat 6) σm) := by
  obtain ⟨e, g2⟩ := b_ot hT
  cases e
  obtain ⟨o1, o2, o3, o4, o5, o6, o7, o8, o9, -⟩ := Mi_op h
  obtain ⟨h1, h3, h4⟩ := aty_3 o8.2.2.1 o4 g2
  obtain ⟨v, a, c1, m1, r1, -, r2, r3, r4⟩ := mi_pop h
  have hop := m_opnd (Mi_op r4).2.2.2.2.2.1 o5 hp
  rw [hk] at hop
  rw [h4] at r3
  have r5 := mi_setArg r4 h1 r3
  refine OpR_t ?_ ?_ r5
  · have har := fr_setArg (σ := c1) (f := A - 1) (k := k) (v := v) (by omega) h3
    simp (disch := omega) only [↓reduceIte, Nat.reduceEqDiff, F_Ru_doSimple, lit32, n_eq, if_neg, if_pos, r1, har, ite_true, ite_false, if_true, if_false, Bool.false_eq_true, and_self, and_true, true_and, and_false, false_and]
  · simp (disch := omega) only [↓reduceIte, Nat.reduceEqDiff, F_Mo_plain, F_Mo_plain_349, lit32, n_eq, if_pos, if_neg, r2, hop, n_mul, n_add, mo_setCell, ite_true, ite_false, if_true, if_false, Bool.false_eq_true, and_self, and_true, true_and, and_false, false_and]
theorem o_11 {im : Im} {IA A : Nat} {ms ps : Nat → Nat} {ls : Nat → List Nat} {T : Nat → Nat} {md : Nat} {σc0 σm0 σc σm : SG} {L L' : List Nat} {p k : Nat} (h : Mi im IA A ms ps ls T md σc0 σm0 L σc σm) (hT : (some L).bind (fun l => wth (l.headD 0) l) = some L') : OpR im IA A ms ps ls σc0 σm0 L' (F_Ru_doSimple 123 (125 + 6 * (A - 1)) (Int32.ofNat 11) (Int32.ofNat k) σc) (F_Mo_plain 0 (Int32.ofNat (A - 1)) (Int32.ofNat p) (Int32.ofNat 11) σm) := by
  have hT' : (some L).bind (wth (L.headD 0)) = some L' := hT
  obtain ⟨L0, e, g1, g2, g3⟩ := b_th hT'
  cases e; subst g3
  cases L with
  | nil => exact absurd rfl g2
  | cons t L =>
    show OpR _ _ _ _ _ _ _ _ (t :: t :: L) _ _
    obtain ⟨o1, o2, o3, o4, o5, o6, o7, o8, o9, o10, o11, -⟩ := Mi_op h
    rw [List.length_cons] at g1 o11
    obtain ⟨v, a, c1, m1, r1, -, r2, r3, r4⟩ := mi_pop h
    obtain ⟨c2, m2, s1, s2, s3, s4, -⟩ := mi_push r4 (by omega) r3
    obtain ⟨c3, m3, u1, u2, u3, -⟩ := mi_push s3 (by rw [List.length_cons]; omega) r3
    have hp1 := fr_pop (σ := σc) (f := A - 1) (h := L.length) (by omega) o11 (by omega)
    rw [r1] at hp1
    have hv := fr_val (σ := σc) (f := A - 1) (i := L.length) (by omega) o11 (by omega) (by omega)
    have hv1 : v = σc.2.2.2.2 (126 + 6 * (A - 1)) L.length := by cases hp1; rfl
    have hc1 : c1 = setI σc (125 + 6 * (A - 1)) 4 (Int32.ofNat L.length) := by cases hp1; rfl
    have hpu := fr_push (σ := c1) (f := A - 1) (h := L.length) (v := v) (by omega) (by rw [hc1, rI, if_pos ⟨rfl, rfl⟩]) (by omega)
    rw [s1] at hpu
    have hc2 : c2 = setI (setL c1 (126 + 6 * (A - 1)) L.length v) (125 + 6 * (A - 1)) 4 (Int32.ofNat (L.length + 1)) := by cases hpu; rfl
    have hcc : c2 = σc := by
      have e1 : c2.1 = σc.1 := by
        funext x g
        rw [hc2, rI, hc1]
        by_cases c : x = 125 + 6 * (A - 1) ∧ g = 4
        · rw [if_pos c, c.1, c.2, o11]
        · rw [if_neg c, rL1, rI, if_neg c]
      have e2 : c2.2.2.2.2 = σc.2.2.2.2 := by
        funext x g
        rw [hc2, rI2, rL, hc1]
        by_cases c : x = 126 + 6 * (A - 1) ∧ g = L.length
        · rw [if_pos c, c.1, c.2, hv1]
        · rw [if_neg c, rI2]
      have e3 : c2.2.1 = σc.2.1 := by rw [hc2, hc1]; rfl
      have e4 : c2.2.2.1 = σc.2.2.1 := by rw [hc2, hc1]; rfl
      have e5 : c2.2.2.2.1 = σc.2.2.2.1 := by rw [hc2, hc1]; rfl
      exact Prod.ext e1 (Prod.ext e3 (Prod.ext e4 (Prod.ext e5 e2)))
    rw [hcc, hv1] at u1
    refine OpR_t (σc := c3) (σm := m3) ?_ ?_ u3
    · simp (disch := omega) only [↓reduceIte, Nat.reduceEqDiff, F_Ru_doSimple, lit32, n_eq, if_neg, if_pos, o11, n_sub, Nat.add_sub_cancel, hv, u1, ite_true, ite_false, if_true, if_false, Bool.false_eq_true, and_self, and_true, true_and, and_false, false_and]
    · simp (disch := omega) only [↓reduceIte, Nat.reduceEqDiff, F_Mo_plain, F_Mo_plain_349, lit32, n_eq, if_pos, if_neg, r2, s2, u2, ite_true, ite_false, if_true, if_false, Bool.false_eq_true, and_self, and_true, true_and, and_false, false_and]
theorem o_12 {im : Im} {IA A : Nat} {ms ps : Nat → Nat} {ls : Nat → List Nat} {T : Nat → Nat} {md : Nat} {σc0 σm0 σc σm : SG} {L L' : List Nat} {p k : Nat} (h : Mi im IA A ms ps ls T md σc0 σm0 L σc σm) (hT : (some L).bind (fun l => wot (l.headD 0) l) = some L') : OpR im IA A ms ps ls σc0 σm0 L' (F_Ru_doSimple 123 (125 + 6 * (A - 1)) (Int32.ofNat 12) (Int32.ofNat k) σc) (F_Mo_plain 0 (Int32.ofNat (A - 1)) (Int32.ofNat p) (Int32.ofNat 12) σm) := by
  have hT' : (some L).bind (wot (L.headD 0)) = some L' := hT
  obtain ⟨e, g2⟩ := b_ot hT'
  cases L with
  | nil => exact absurd rfl g2
  | cons t L =>
    have e2 : L = L' := by
      have := Option.some.inj e
      exact (List.cons.inj this).2
    subst e2
    obtain ⟨v, a, c1, m1, r1, -, r2, r3, r4⟩ := mi_pop h
    refine OpR_t ?_ ?_ r4
    · simp (disch := omega) only [↓reduceIte, Nat.reduceEqDiff, F_Ru_doSimple, lit32, n_eq, if_neg, if_pos, r1, ite_true, ite_false, if_true, if_false, Bool.false_eq_true, and_self, and_true, true_and, and_false, false_and]
    · simp (disch := omega) only [↓reduceIte, Nat.reduceEqDiff, F_Mo_plain, F_Mo_plain_349, lit32, n_eq, if_pos, if_neg, r2, ite_true, ite_false, if_true, if_false, Bool.false_eq_true, and_self, and_true, true_and, and_false, false_and]
theorem o_16 {im : Im} {IA A : Nat} {ms ps : Nat → Nat} {ls : Nat → List Nat} {T : Nat → Nat} {md : Nat} {σc0 σm0 σc σm : SG} {L L' : List Nat} {p k : Nat} (h : Mi im IA A ms ps ls T md σc0 σm0 L σc σm) (hT : (some L).bind (wth (nuT im k)) = some L') : OpR im IA A ms ps ls σc0 σm0 L' (F_Ru_doThing 123 (125 + 6 * (A - 1)) (Int32.ofNat 16) (Int32.ofNat k) σc) (F_Mo_plain 0 (Int32.ofNat (A - 1)) (Int32.ofNat p) (Int32.ofNat 16) σm) := by
  obtain ⟨L0, e, g1, g2, g3⟩ := b_th hT
  cases e; subst g3
  have h4 : 4 ≤ nuT im k := by
    unfold nuT at g2 ⊢
    by_cases c : k = 4 ∨ k = 5 ∨ (8 ≤ k ∧ k < 8 + im 0 0)
    · rw [if_pos c]; omega
    · rw [if_neg c] at g2; omega
  obtain ⟨c1, m1, r1, r2, r3, -⟩ := mi_push h g1 (VR_nul (Int32.ofNat 0) h4)
  refine OpR_t (σc := c1) (σm := m1) ?_ ?_ r3
  · have r1' : F_Fr_push (125 + 6 * (A - 1)) (0 : Int64) σc = some c1 := r1
    simp (disch := omega) only [↓reduceIte, Nat.reduceEqDiff, F_Ru_doThing, n_eq, if_neg, if_pos, r1', lit32, ite_true, ite_false, if_true, if_false, Bool.false_eq_true, and_self, and_true, true_and, and_false, false_and]
  · simp (disch := omega) only [↓reduceIte, Nat.reduceEqDiff, F_Mo_plain, F_Mo_plain_349, lit32, n_eq, if_pos, if_neg, r2, ite_true, ite_false, if_true, if_false, Bool.false_eq_true, and_self, and_true, true_and, and_false, false_and]
theorem o_7 {im : Im} {IA A : Nat} {ms ps : Nat → Nat} {ls : Nat → List Nat} {T : Nat → Nat} {md : Nat} {σc0 σm0 σc σm : SG} {L L' : List Nat} {p k op : Nat} (h : Mi im IA A ms ps ls T md σc0 σm0 L σc σm) (ho : op = 7 ∨ op = 8 ∨ op = 9 ∨ op = 10) (hT : (((some L).bind (wot 1)).bind (wot 1)).bind (wth 1) = some L') : OpR im IA A ms ps ls σc0 σm0 L' (F_Ru_doSimple 123 (125 + 6 * (A - 1)) (Int32.ofNat op) (Int32.ofNat k) σc) (F_Mo_plain 0 (Int32.ofNat (A - 1)) (Int32.ofNat p) (Int32.ofNat op) σm) := by
  obtain ⟨L0, e1, g1, -, g3⟩ := b_th hT
  subst g3
  obtain ⟨e2, -⟩ := b_ot e1
  obtain ⟨e3, -⟩ := b_ot e2
  cases e3
  obtain ⟨v, b, c1, m1, -, r1, r2, r3, r4⟩ := mi_pop h
  obtain ⟨w, a, c2, m2, -, s1, s2, s3, s4⟩ := mi_pop r4
  have hb := VR_1 r3
  have ha := VR_1 s3
  rw [hb, i64_32] at r1
  rw [ha, i64_32] at s1
  have s5 := mi_44 s4
  rcases ho with rfl | rfl | rfl | rfl
  · obtain ⟨c3, m3, u1, u2, u3, -⟩ := mi_push s5 g1 (VR_num (a + b) (Int32.ofNat 0))
    refine OpR_t (σc := c3) (σm := m3) ?_ ?_ u3
    · simp (disch := omega) only [↓reduceIte, Nat.reduceEqDiff, F_Ru_doSimple, F_Ru_doSimple_154, F_Ru_compute, F_Ru_compute_84, lit32, n_eq, if_neg, if_pos, r1, s1, u1, ite_true, ite_false, if_true, if_false, Bool.false_eq_true, and_self, and_true, true_and, and_false, false_and]
    · simp (disch := omega) only [↓reduceIte, Nat.reduceEqDiff, F_Mo_plain, F_Mo_plain_349, F_Mo_plain_344, F_Mo_reckon, F_Mo_reckon_25, F_Mo_reckon_26, F_Mo_reckon_76, F_Mo_reckon_80, lit32, n_eq, if_pos, if_neg, r2, s2, stl_e, bzf, rI, u2, ite_true, ite_false, if_true, if_false, Bool.false_eq_true, and_self, and_true, true_and, and_false, false_and]
  · obtain ⟨c3, m3, u1, u2, u3, -⟩ := mi_push s5 g1 (VR_num (a - b) (Int32.ofNat 0))
    refine OpR_t (σc := c3) (σm := m3) ?_ ?_ u3
    · simp (disch := omega) only [↓reduceIte, Nat.reduceEqDiff, F_Ru_doSimple, F_Ru_doSimple_154, F_Ru_compute, F_Ru_compute_84, lit32, n_eq, if_neg, if_pos, r1, s1, u1, ite_true, ite_false, if_true, if_false, Bool.false_eq_true, and_self, and_true, true_and, and_false, false_and]
    · simp (disch := omega) only [↓reduceIte, Nat.reduceEqDiff, F_Mo_plain, F_Mo_plain_349, F_Mo_plain_344, F_Mo_reckon, F_Mo_reckon_25, F_Mo_reckon_26, F_Mo_reckon_76, F_Mo_reckon_80, lit32, n_eq, if_pos, if_neg, r2, s2, stl_e, bzf, rI, u2, ite_true, ite_false, if_true, if_false, Bool.false_eq_true, and_self, and_true, true_and, and_false, false_and]
  · obtain ⟨c3, m3, u1, u2, u3, -⟩ := mi_push s5 g1 (VR_num (a * b) (Int32.ofNat 0))
    refine OpR_t (σc := c3) (σm := m3) ?_ ?_ u3
    · simp (disch := omega) only [↓reduceIte, Nat.reduceEqDiff, F_Ru_doSimple, F_Ru_doSimple_154, F_Ru_compute, F_Ru_compute_84, lit32, n_eq, if_neg, if_pos, r1, s1, u1, ite_true, ite_false, if_true, if_false, Bool.false_eq_true, and_self, and_true, true_and, and_false, false_and]
    · simp (disch := omega) only [↓reduceIte, Nat.reduceEqDiff, F_Mo_plain, F_Mo_plain_349, F_Mo_plain_344, F_Mo_reckon, F_Mo_reckon_25, F_Mo_reckon_26, F_Mo_reckon_76, F_Mo_reckon_80, lit32, n_eq, if_pos, if_neg, r2, s2, stl_e, bzf, rI, u2, ite_true, ite_false, if_true, if_false, Bool.false_eq_true, and_self, and_true, true_and, and_false, false_and]
  · by_cases c0 : b = 0
    · obtain ⟨c3, u1, u3⟩ := mi_raise s4 (e := 1) (by omega)
      have c0' : b = Int32.ofNat 0 := c0
      refine OpR_f (σc := c3) ?_ ?_ u3
      · simp (disch := omega) only [↓reduceIte, Nat.reduceEqDiff, F_Ru_doSimple, F_Ru_doSimple_154, F_Ru_compute, F_Ru_compute_84, lit32, n_eq, if_neg, if_pos, r1, s1, c0', u1, ite_true, ite_false, if_true, if_false, Bool.false_eq_true, and_self, and_true, true_and, and_false, false_and]
      · simp (disch := omega) only [↓reduceIte, Nat.reduceEqDiff, F_Mo_plain, F_Mo_plain_349, F_Mo_plain_344, F_Mo_reckon, F_Mo_reckon_25, F_Mo_reckon_26, F_Mo_reckon_76, F_Mo_reckon_80, lit32, n_eq, if_pos, if_neg, r2, s2, stl_e, bzt, rI, c0', ite_true, ite_false, if_true, if_false, Bool.false_eq_true, and_self, and_true, true_and, and_false, false_and]
    · obtain ⟨c3, m3, u1, u2, u3, -⟩ := mi_push s5 g1 (VR_num (a / b) (Int32.ofNat 0))
      have c0' : ¬ b = Int32.ofNat 0 := c0
      refine OpR_t (σc := c3) (σm := m3) ?_ ?_ u3
      · simp (disch := omega) only [↓reduceIte, Nat.reduceEqDiff, F_Ru_doSimple, F_Ru_doSimple_154, F_Ru_compute, F_Ru_compute_84, lit32, n_eq, if_neg, if_pos, r1, s1, u1, c0', ite_true, ite_false, if_true, if_false, Bool.false_eq_true, and_self, and_true, true_and, and_false, false_and]
      · simp (disch := omega) only [↓reduceIte, Nat.reduceEqDiff, F_Mo_plain, F_Mo_plain_349, F_Mo_plain_344, F_Mo_reckon, F_Mo_reckon_25, F_Mo_reckon_26, F_Mo_reckon_76, F_Mo_reckon_80, lit32, n_eq, if_pos, if_neg, r2, s2, stl_e, bzf, rI, u2, c0', ite_true, ite_false, if_true, if_false, Bool.false_eq_true, and_self, and_true, true_and, and_false, false_and]
