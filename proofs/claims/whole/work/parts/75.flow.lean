/-! Where the flow goes elsewhere: jumps, throws, leaves, ends of finallies. -/
def Bs (im : Im) (IA A : Nat) (ms ps : Nat → Nat) (ls : Nat → List Nat) (T : Nat → Nat) (md : Nat) (σc σm : SG) (R : RQ) : Prop := Md im IA A ms ps ls T md σc σm ∧ Cs im A ms ps ls σm ∧ (Clo im (ms (A - 1)) R ∧ (∀ Q, Clo im (ms (A - 1)) Q → LeQ R Q) ∧ R (ps (A - 1)) = some (ls (A - 1)) ∧ σm.2.2.2.1 21 (A - 1) = Int32.ofNat (ps (A - 1))) ∧ Sv im A ms ∧ EnZ im σc ∧ Ph1 σc σm
def StpR (im : Im) (IA : Nat) (σc σm : SG) : Prop := ∃ σc1 σm1, F_Ru_doInstruction 123 σc = some σc1 ∧ F_Mo_perform 0 σm = some σm1 ∧ Wc σc σc1 ∧ Wm σm σm1 ∧ (Go im IA σc1 σm1 ∨ Over im σc1 σm1)
theorem Bs_f {im : Im} {IA A : Nat} {ms ps : Nat → Nat} {ls : Nat → List Nat} {T : Nat → Nat} {md : Nat} {σc σm : SG} {R : RQ} (h : Bs im IA A ms ps ls T md σc σm R) : ms (A - 1) < 6 ∧ im 14 (ms (A - 1)) ≤ 100 ∧ ms (A - 1) < im 0 1 ∧ ps (A - 1) < im 14 (ms (A - 1)) ∧ cdA im (ms (A - 1)) (ps (A - 1)) ≤ 37 ∧ ps (A - 1) + wdt (cdA im (ms (A - 1)) (ps (A - 1))) ≤ im 14 (ms (A - 1)) ∧ OKat im (ms (A - 1)) R (ps (A - 1)) (ls (A - 1)) := by
  obtain ⟨h1, h2, ⟨r1, r2, r3, r4⟩, -⟩ := h
  obtain ⟨f1, f2, -⟩ := h1.2.2.2.2.1 (A - 1) (by have := h1.1.1; omega)
  have w := wf_m h1.2.1.2.2.1 f1
  have hb := Clo_Beg r1 r2 _ _ r3
  obtain ⟨b1, b2, b3⟩ := beg_w f2.1 hb
  exact ⟨w.1, w.2.2.2.2.2.2.2.2.2.1, f1, hb.1, b2, b3, r1.2 _ _ r3⟩
theorem st_op {im : Im} {IA A : Nat} {ms ps : Nat → Nat} {ls : Nat → List Nat} {T : Nat → Nat} {md : Nat} {σc σm : SG} {R : RQ} {op k : Nat} {L' : List Nat} {x : Option (Bool × SG)} {y : Option SG} (h : Bs im IA A ms ps ls T md σc σm R) (hop : cdA im (ms (A - 1)) (ps (A - 1)) = op) (hk : cdA im (ms (A - 1)) (ps (A - 1) + 1) = k) (h13 : op ≠ 13) (h33 : op < 34) (hT : Tr im (ms (A - 1)) op k (some (ls (A - 1))) = some L')
    (hO : OpR im IA A ms ps ls σc (pfS σm (A - 1) (ms (A - 1)) (ps (A - 1) + wdt op)) L' x y) (hx : ∀ b s, x = some (b, s) → F_Ru_doInstruction 123 σc = F_Ru_doInstruction_93 123 (some (125 + 6 * (A - 1))) (Int32.ofNat op) b s) (hy : ∀ s, y = some s → F_Mo_perform 0 σm = F_Mo_perform_100 0 (Int32.ofNat (ps (A - 1))) s) : StpR im IA σc σm := by
  obtain ⟨o1, o2, o3, o4, o5, o6, o7⟩ := Bs_f h
  obtain ⟨h1, h2, ⟨r1, r2, r3, r4⟩, r5, r6, r7⟩ := h
  obtain ⟨g1, q, g2, g3, g4, g5⟩ := o7.2.2.2.2.2 (by rw [hop]; exact h13) (by rw [hop]; omega)
  rw [hop, hk] at g1 g5
  rw [hop] at g2
  rw [hT] at g5
  have eq1 : q = ps (A - 1) + wdt op := by omega
  subst eq1
  obtain ⟨b, s1, s2, σc1, σm1, u1, u2, u3, u4, u5, u6, u7⟩ := op_step h1 h2 r1 r2 r3 r5 r6 (by omega) (by have := g3.1; omega) g5 (fun r hr hz => ((g1 r hr).1).mpr hz) hO
  exact ⟨σc1, σm1, (hx b s1 u1).trans u3, (hy s2 u2).trans u4, u5, u6, u7⟩
theorem jp_q {p k q : Nat} {x : Int32} (hp : p < 100) (hk : k < 256) (hx : x.toInt = sg k) (hq : (p : Int) + 2 + sg k = q) (hq1 : q < 100) : Int32.ofNat p + (Int32.ofNat 2 + x) = Int32.ofNat q ∧ Int32.ofNat p + Int32.ofNat 2 + x = Int32.ofNat q := by
  have e : Int32.ofNat p + Int32.ofNat 2 + x = Int32.ofNat q := by
    apply Int32.toInt.inj
    rw [a_tgt (by omega) hk hx, n_int (by omega)]
    exact hq
  exact ⟨by rw [← Int32.add_assoc]; exact e, e⟩
theorem ru_jump {σ : SG} {f p k q : Nat} (h3 : σ.1 (125 + 6 * f) 3 = Int32.ofNat p) (hp : p < 100) (hk : k < 256) (hq : (p : Int) + 2 + sg k = q) (hq1 : q < 100) : F_Ru_jump (125 + 6 * f) (Int32.ofNat k) true σ = some (false, setI σ (125 + 6 * f) 3 (Int32.ofNat q)) := by
  obtain ⟨x, s1, s2⟩ := a_signed hk σ
  have e := (jp_q hp hk s2 hq hq1).1
  simp (disch := omega) only [F_Ru_jump, F_Ru_jump_19, F_Ru_jump_28, if_pos, s1, h3, lit32, e, stl_e, ite_true, ite_false, if_true, if_false, Bool.false_eq_true, and_self, and_true, true_and, and_false, false_and]
theorem ru_jump0 {σ : SG} {f : Nat} {k : Int32} : F_Ru_jump (125 + 6 * f) k false σ = some (true, σ) := by
  simp (disch := omega) only [F_Ru_jump, F_Ru_jump_19, F_Ru_jump_28, if_neg, ite_true, ite_false, if_true, if_false, Bool.false_eq_true, and_self, and_true, true_and, and_false, false_and]
theorem mo_tgt {im : Im} {σ : SG} {m p q : Nat} (h : BM im m σ) (hm : m < 6) (hp : p + 1 < 100) (hq : (p : Int) + 2 + sg (im 15 (100 * m + p + 1)) = q) (hq1 : q < 100) : F_Mo_target 0 (Int32.ofNat p) σ = some (Int32.ofNat q, σ) := by
  obtain ⟨x, h1, h2⟩ := m_target h hm hp
  have e : x = Int32.ofNat q := by
    apply Int32.toInt.inj
    rw [h2, n_int (by omega)]
    exact hq
  rw [h1, e]
/-- how a jump that is taken ends -/
theorem st_jump {im : Im} {IA A : Nat} {ms ps : Nat → Nat} {ls : Nat → List Nat} {T : Nat → Nat} {md : Nat} {σc σm : SG} {R : RQ} {op k q q0 : Nat} {L' : List Nat} {s1 s2 : SG} (h : Bs im IA A ms ps ls T md σc σm R) (hMi : Mi im IA A ms ps ls T md σc (pfS σm (A - 1) (ms (A - 1)) q0) L' s1 s2) (hg : goOK im (ms (A - 1)) (ps (A - 1)) (q : Nat) (some L')) (hRq : R q = some L') (hq : q < 100)
    (hx : F_Ru_doInstruction 123 σc = F_Ru_doInstruction_93 123 (some (125 + 6 * (A - 1))) (Int32.ofNat op) false (setI s1 (125 + 6 * (A - 1)) 3 (Int32.ofNat q))) (hy : F_Mo_perform 0 σm = F_Mo_perform_100 0 (Int32.ofNat (ps (A - 1))) (setA s2 21 (A - 1) (Int32.ofNat q))) : StpR im IA σc σm := by
  obtain ⟨h1, h2, ⟨r1, r2, r3, r4⟩, r5, r6, r7⟩ := h
  have hk := h1.2.2.2.2.2.2
  obtain ⟨g1, g2, g3⟩ := go_end hMi (pf_Cs h2) r5 r6 (fun k hk' => by rw [pf_A (by omega)]; exact hk k hk') r1 r2 hRq hq (fun r hr hz => ((hg r hr).1).mpr hz)
  have h5 : (setI s1 (125 + 6 * (A - 1)) 3 (Int32.ofNat q)).1 123 5 = Int32.ofNat 0 := by rw [rI, if_neg (by omega)]; exact hMi.2.2.2.1
  have h44 : (setA s2 21 (A - 1) (Int32.ofNat q)).1 0 44 = Int32.ofNat 0 := hMi.2.2.2.2
  refine ⟨_, _, hx.trans ?_, hy.trans ?_, g2, Wm_trans (Umg_W pf_U) g3, Or.inl g1⟩
  · simp (disch := omega) only [F_Ru_doInstruction_93, F_Ru_doInstruction_130, h5, zb0, ite_true, ite_false, if_true, if_false, Bool.false_eq_true, and_self, and_true, true_and, and_false, false_and]
  · simp (disch := omega) only [F_Mo_perform_100, F_Mo_perform_116, h44, lit32, n_le, if_pos, ite_true, ite_false, if_true, if_false, Bool.false_eq_true, and_self, and_true, true_and, and_false, false_and]
theorem ins_jump {im : Im} {IA A : Nat} {ms ps : Nat → Nat} {ls : Nat → List Nat} {T : Nat → Nat} {md : Nat} {σc σm : SG} {R : RQ} (h : Bs im IA A ms ps ls T md σc σm R) (hj : cdA im (ms (A - 1)) (ps (A - 1)) = 13 ∨ cdA im (ms (A - 1)) (ps (A - 1)) = 14 ∨ cdA im (ms (A - 1)) (ps (A - 1)) = 15) : StpR im IA σc σm := by
  obtain ⟨o1, o2, o3, o4, o5, o6, o7⟩ := Bs_f h
  obtain ⟨k, hk⟩ : ∃ k, cdA im (ms (A - 1)) (ps (A - 1) + 1) = k := ⟨_, rfl⟩
  obtain ⟨op, hop⟩ : ∃ op, cdA im (ms (A - 1)) (ps (A - 1)) = op := ⟨_, rfl⟩
  have hMi := st_mi (q := ps (A - 1) + wdt op) h.1 h.2.2.2.2.2
  obtain ⟨L', hT⟩ : ∃ L', Tr im (ms (A - 1)) op k (some (ls (A - 1))) = some L' := by
    have := o7.1
    rw [hop, hk] at this
    exact Option.ne_none_iff_exists'.mp this
  obtain ⟨g1, q, g2, g3, g4, g5⟩ := o7.2.2.2.2.1 hj
  rw [hop, hk, hT] at g1 g5
  rw [hk] at g2
  rw [hop] at hj o6
  have hw2 : wdt op = 2 := by rcases hj with e | e | e <;> subst e <;> decide
  have hk15 : im 15 (100 * ms (A - 1) + ps (A - 1) + 1) = k := by
    rw [← hk]
    unfold cdA
    rw [if_pos (by omega), Nat.add_assoc]
  have hk256 : k < 256 := by rw [← hk15]; exact h.1.2.1.2.1.1 _ _
  have hq1 : q < 100 := by have := g3.1; omega
  rw [g2] at g1
  have hp1 : ps (A - 1) + 1 < 100 := by omega
  obtain ⟨d1, -⟩ := di_0 h.1 hop hk (by omega)
  obtain ⟨p1, -⟩ := pf_0 h.1 h.2.2.1.2.2.2 hop o4 (by omega)
  have hA8 := h.1.1.2.1
  have hA1 := h.1.1.1
  have hst := fun x y hO hx hy (c : op ≠ 13) => st_op (L' := L') (x := x) (y := y) h hop hk c (by omega) hT hO hx hy
  have gq : ((ps (A - 1) : Nat) : Int) + 2 + sg (im 15 (100 * ms (A - 1) + ps (A - 1) + 1)) = q := by rw [hk15]; exact g2
  rcases hj with e | e | e
  · subst e
    have hT0 : ls (A - 1) = L' := Option.some.inj hT
    rw [hT0] at hMi
    obtain ⟨-, -, -, -, -, t6, -, -, -, t10, -⟩ := Mi_op hMi
    have hj1 := ru_jump (k := k) t10 (by omega) hk256 g2 hq1
    have hj2 := mo_tgt t6 o1 hp1 gq hq1
    refine st_jump (op := 13) (k := k) h hMi g1 g5 hq1 (d1 (by omega) _ _ ?_) (p1 (by omega) _ ?_)
    · simp (disch := omega) only [↓reduceIte, Nat.reduceEqDiff, F_Ru_doSimple, lit32, n_eq, if_neg, if_pos, hj1, ite_true, ite_false, if_true, if_false, Bool.false_eq_true, and_self, and_true, true_and, and_false, false_and]
    · simp (disch := omega) only [↓reduceIte, Nat.reduceEqDiff, F_Mo_plain, F_Mo_plain_349, lit32, n_eq, if_pos, if_neg, hj2, n_nl0, n_cl, false_or, cm_33, stl_e, ite_true, ite_false, if_true, if_false, Bool.false_eq_true, and_self, and_true, true_and, and_false, false_and]
  · subst e
    obtain ⟨e1, -⟩ := b_ot (o := some (ls (A - 1))) (t := 1) hT
    rw [Option.some.inj e1] at hMi
    obtain ⟨v, a, s1, s2, u1, u2, u3, u4, u5⟩ := mi_pop hMi
    have hva : v.toInt32 = a := by rw [VR_1 u4, i64_32]
    rw [hva] at u2
    obtain ⟨-, -, -, -, -, t6, -, -, -, t10, -⟩ := Mi_op u5
    by_cases ca : a = Int32.ofNat 0
    · have h21 : s2.2.2.2.1 21 (A - 1) = s2.2.2.2.1 21 (A - 1) := rfl
      refine hst _ _ (OpR_t (σc := s1) (σm := s2) ?_ ?_ u5) (fun b s => d1 (by omega) b s) (fun s => p1 (by omega) s) (by omega)
      · simp (disch := omega) only [↓reduceIte, Nat.reduceEqDiff, F_Ru_doSimple, F_Ru_doSimple_205, lit32, n_eq, if_neg, if_pos, u2, ca, ru_jump0, ite_true, ite_false, if_true, if_false, Bool.false_eq_true, and_self, and_true, true_and, and_false, false_and]
      · simp (disch := omega) only [↓reduceIte, Nat.reduceEqDiff, F_Mo_plain, F_Mo_plain_293, F_Mo_plain_349, lit32, n_eq, if_pos, if_neg, u3, ca, n_nl0, n_cl, false_or, cm_33, stl_e, setA_self h21, ite_true, ite_false, if_true, if_false, Bool.false_eq_true, and_self, and_true, true_and, and_false, false_and]
    · have hj1 := ru_jump (k := k) t10 (by omega) hk256 g2 hq1
      have hj2 := mo_tgt t6 o1 hp1 gq hq1
      refine st_jump (op := 14) (k := k) h u5 g1 g5 hq1 (d1 (by omega) _ _ ?_) (p1 (by omega) _ ?_)
      · simp (disch := omega) only [↓reduceIte, Nat.reduceEqDiff, F_Ru_doSimple, F_Ru_doSimple_205, lit32, n_eq, if_neg, if_pos, u2, ca, hj1, ite_true, ite_false, if_true, if_false, Bool.false_eq_true, and_self, and_true, true_and, and_false, false_and]
      · simp (disch := omega) only [↓reduceIte, Nat.reduceEqDiff, F_Mo_plain, F_Mo_plain_293, F_Mo_plain_349, lit32, n_eq, if_pos, if_neg, u3, ca, hj2, n_nl0, n_cl, false_or, cm_33, stl_e, ite_true, ite_false, if_true, if_false, Bool.false_eq_true, and_self, and_true, true_and, and_false, false_and]
  · subst e
    obtain ⟨e1, -⟩ := b_ot (o := (some (ls (A - 1))).bind (wot 1)) (t := 1) hT
    obtain ⟨e1, -⟩ := b_ot e1
    rw [Option.some.inj e1] at hMi
    obtain ⟨v, a, s1, s2, u1, u2, u3, u4, u5⟩ := mi_pop hMi
    have hva : v.toInt32 = a := by rw [VR_1 u4, i64_32]
    rw [hva] at u2
    obtain ⟨v', a', s1', s2', u1', u2', u3', u4', u5'⟩ := mi_pop u5
    have hva' : v'.toInt32 = a' := by rw [VR_1 u4', i64_32]
    rw [hva'] at u2'
    obtain ⟨-, -, -, -, -, t6, -, -, -, t10, -⟩ := Mi_op u5'
    by_cases ca : a ≤ a'
    · have h21 : s2'.2.2.2.1 21 (A - 1) = s2'.2.2.2.1 21 (A - 1) := rfl
      refine hst _ _ (OpR_t (σc := s1') (σm := s2') ?_ ?_ u5') (fun b s => d1 (by omega) b s) (fun s => p1 (by omega) s) (by omega)
      · simp (disch := omega) only [↓reduceIte, Nat.reduceEqDiff, F_Ru_doSimple, F_Ru_jumpIfLess, F_Ru_jumpIfLess_22, lit32, n_eq, if_neg, if_pos, u2, u2', ca, ru_jump0, ite_true, ite_false, if_true, if_false, Bool.false_eq_true, and_self, and_true, true_and, and_false, false_and]
      · simp (disch := omega) only [↓reduceIte, Nat.reduceEqDiff, F_Mo_plain, F_Mo_plain_331, F_Mo_plain_349, lit32, n_eq, if_pos, if_neg, u3, u3', ca, n_nl0, n_cl, false_or, cm_33, stl_e, setA_self h21, ite_true, ite_false, if_true, if_false, Bool.false_eq_true, and_self, and_true, true_and, and_false, false_and]
    · have hj1 := ru_jump (k := k) t10 (by omega) hk256 g2 hq1
      have hj2 := mo_tgt t6 o1 hp1 gq hq1
      refine st_jump (op := 15) (k := k) h u5' g1 g5 hq1 (d1 (by omega) _ _ ?_) (p1 (by omega) _ ?_)
      · simp (disch := omega) only [↓reduceIte, Nat.reduceEqDiff, F_Ru_doSimple, F_Ru_jumpIfLess, F_Ru_jumpIfLess_22, lit32, n_eq, if_neg, if_pos, u2, u2', ca, hj1, ite_true, ite_false, if_true, if_false, Bool.false_eq_true, and_self, and_true, true_and, and_false, false_and]
      · simp (disch := omega) only [↓reduceIte, Nat.reduceEqDiff, F_Mo_plain, F_Mo_plain_331, F_Mo_plain_349, lit32, n_eq, if_pos, if_neg, u3, u3', ca, hj2, n_nl0, n_cl, false_or, cm_33, stl_e, ite_true, ite_false, if_true, if_false, Bool.false_eq_true, and_self, and_true, true_and, and_false, false_and]
