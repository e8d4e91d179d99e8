/-! The reference goes on, and leaves. -/
def alk (im : Im) (m r : Nat) (z1 z2 : Int) : Prop := (iP im m r z1 ↔ iP im m r z2) ∧ (iH im m r z1 ↔ iH im m r z2)
def ent (im : Im) (m r : Nat) (z1 z2 : Int) : Prop := alk im m r z1 z2 ∨ (z2 = (im 10 (3 * m + r) : Int) ∧ ¬ iP im m r z1 ∧ ¬ iH im m r z1)
theorem goOK_ref {im : Im} {m : Nat} {z1 z2 : Int} {l : List Nat} (hW : WM im m) : goOK im m z1 z2 (some l) ↔ ((∀ r, r < im 9 m → alk im m r z1 z2) ∨ ((∀ r, r < im 9 m → ent im m r z1 z2) ∧ l = [])) := by
  constructor
  · intro h
    by_cases c : ∀ r, r < im 9 m → alk im m r z1 z2
    · exact Or.inl c
    · right
      have hex : ∃ r, r < im 9 m ∧ ¬ alk im m r z1 z2 := by
        refine Classical.byContradiction (fun hn => c (fun r hr => Classical.byContradiction (fun ha => hn ⟨r, hr, ha⟩)))
      have key : ∀ r, r < im 9 m → ¬ alk im m r z1 z2 → (z2 = (im 10 (3 * m + r) : Int) ∧ ¬ iP im m r z1 ∧ ¬ iH im m r z1) ∧ l = [] := by
        intro r hr ha
        obtain ⟨h1, h2, h3⟩ := h r hr
        have hp : iP im m r z2 ∧ ¬ iP im m r z1 := by
          refine ⟨Classical.byContradiction (fun hn => ha ⟨⟨h2, fun z => absurd z hn⟩, h1⟩), fun hp => ha ⟨⟨h2, fun _ => hp⟩, h1⟩⟩
        obtain ⟨e1, e2⟩ := h3 hp.1 hp.2
        refine ⟨⟨e1, hp.2, fun hh => ?_⟩, Option.some.inj e2⟩
        have hh2 := h1.mp hh
        have hw := hW r hr
        unfold iH at hh2
        omega
      obtain ⟨r0, hr0, ha0⟩ := hex
      refine ⟨fun r hr => ?_, (key r0 hr0 ha0).2⟩
      by_cases ca : alk im m r z1 z2
      · exact Or.inl ca
      · exact Or.inr (key r hr ca).1
  · intro h r hr
    rcases h with h | ⟨h, hl⟩
    · obtain ⟨a, b⟩ := h r hr
      exact ⟨b, a.mp, fun z1 z2 => absurd (a.mpr z1) z2⟩
    · rcases h r hr with ⟨a, b⟩ | ⟨e, n1, n2⟩
      · exact ⟨b, a.mp, fun z1 z2 => absurd (a.mpr z1) z2⟩
      · have hw := hW r hr
        refine ⟨⟨fun z => absurd z n2, fun z => ?_⟩, fun z => absurd z n1, fun _ _ => ⟨e, by rw [hl]⟩⟩
        unfold iH at z
        omega
theorem m_now {im : Im} {m : Nat} {σ : SG} (hw : WfI im) (hm : m < im 0 1) (h : BM im m σ) : σ.1 0 24 = Int32.ofNat m ∧ m < 6 ∧ σ.2.2.2.1 9 m = Int32.ofNat (im 9 m) ∧ im 9 m ≤ 3 := by
  obtain ⟨w1, w2, w3, w4, w5, w6, w7, w8, w9, w10, w11⟩ := wf_m hw hm
  exact ⟨h.2.1, w1, RepM_A h.1 9 m (by omega) (by omega), w7⟩
theorem goes_step {im : Im} {m i fuel : Nat} {σ : SG} {x1 x2 : Int32} {z1 z2 : Int} {s e : Bool} (hw : WfI im) (hm : m < im 0 1) (h : BM im m σ) (hi : i < im 9 m) (hx1 : x1.toInt = z1) (hx2 : x2.toInt = z2) :
    ∃ s' e' : Bool, (s' = true ↔ s = true ∧ alk im m i z1 z2) ∧ (e' = true ↔ e = true ∧ ent im m i z1 z2) ∧ F_Mo_goes_13 (fuel + 1) 0 x1 x2 s e (Int32.ofNat (3 * m + i)) σ = F_Mo_goes_13 fuel 0 x1 x2 s' e' (Int32.ofNat (3 * m + (i + 1))) σ := by
  obtain ⟨n1, n2, n3, n4⟩ := m_now hw hm h
  obtain ⟨p1, hp1, kp1⟩ := m_inPart hw hm h.1 hi hx1
  obtain ⟨p2, hp2, kp2⟩ := m_inPart hw hm h.1 hi hx2
  obtain ⟨q1, hq1, kq1⟩ := m_inHand hw hm h.1 hi hx1
  obtain ⟨q2, hq2, kq2⟩ := m_inHand hw hm h.1 hi hx2
  have hb10 := RepM_b h.1 10 (3 * m + i)
  have hfrom := RepM_A h.1 10 (3 * m + i) (by omega) (by omega)
  have hal : ((p1 == p2 && q1 == q2) = true ↔ alk im m i z1 z2) := by
    unfold alk
    rw [← kp1, ← kp2, ← kq1, ← kq2]
    cases p1 <;> cases p2 <;> cases q1 <;> cases q2 <;> simp
  have hxe : (x2 = Int32.ofNat (im 10 (3 * m + i))) ↔ z2 = (im 10 (3 * m + i) : Int) := by
    rw [← Int32.toInt_inj, n_int (by omega), hx2]
  have h89 : ∀ (rec13 : Nat → Int32 → Int32 → Bool → Bool → Int32 → SG → Option SG) (e al y : Bool), F_Mo_goes_89 rec13 0 x1 x2 e (Int32.ofNat (3 * m + i)) al y σ = rec13 0 x1 x2 y (e && (al || (decide (x2 = Int32.ofNat (im 10 (3 * m + i))) && !p1 && !q1))) (Int32.ofNat (3 * m + (i + 1))) σ := by
    intro rec13 e al y
    by_cases c : x2 = Int32.ofNat (im 10 (3 * m + i))
    · rw [decide_eq_true c]
      cases e <;> cases al <;> cases p1 <;> cases q1 <;> simp (disch := omega) only [F_Mo_goes_89, F_Mo_goes_131, F_Mo_goes_135, F_Mo_goes_136, if_neg, if_pos, lit32, n_nl0, n_cl, false_or, cm_14, hfrom, c, hp1, hq1, n_add, Nat.add_assoc, Bool.and_true, Bool.and_false, Bool.true_and, Bool.false_and, Bool.or_true, Bool.or_false, Bool.true_or, Bool.false_or, Bool.not_true, Bool.not_false, ite_true, ite_false, if_true, if_false, Bool.false_eq_true, and_self, and_true, true_and, and_false, false_and] <;> rw [← c] at * <;> simp (disch := omega) only [hp1, hq1, if_pos, if_neg, ite_true, ite_false, if_true, if_false, Bool.false_eq_true, and_self, and_true, true_and, and_false, false_and]
    · rw [decide_eq_false c]
      cases e <;> cases al <;> simp (disch := omega) only [F_Mo_goes_89, F_Mo_goes_131, F_Mo_goes_135, F_Mo_goes_136, if_neg, if_pos, lit32, n_nl0, n_cl, false_or, cm_14, hfrom, c, n_add, Nat.add_assoc, Bool.and_true, Bool.and_false, Bool.true_and, Bool.false_and, Bool.or_true, Bool.or_false, Bool.true_or, Bool.false_or, Bool.not_true, Bool.not_false, ite_true, ite_false, if_true, if_false, Bool.false_eq_true, and_self, and_true, true_and, and_false, false_and]
  have h73 : ∀ (rec13 : Nat → Int32 → Int32 → Bool → Bool → Int32 → SG → Option SG) (s e al : Bool), F_Mo_goes_73 rec13 0 x1 x2 s e (Int32.ofNat (3 * m + i)) al σ = F_Mo_goes_89 rec13 0 x1 x2 e (Int32.ofNat (3 * m + i)) al (s && al) σ := by
    intro rec13 s e al
    cases s <;> cases al <;> simp (disch := omega) only [F_Mo_goes_73, F_Mo_goes_88, if_neg, if_pos, Bool.and_true, Bool.and_false, ite_true, ite_false, if_true, if_false, Bool.false_eq_true, and_self, and_true, true_and, and_false, false_and]
  refine ⟨s && (p1 == p2 && q1 == q2), e && ((p1 == p2 && q1 == q2) || (decide (x2 = Int32.ofNat (im 10 (3 * m + i))) && !p1 && !q1)), ?_, ?_, ?_⟩
  · rw [Bool.and_eq_true, hal]
  · rw [Bool.and_eq_true, Bool.or_eq_true, hal]
    unfold ent
    have e2 : ((decide (x2 = Int32.ofNat (im 10 (3 * m + i))) && !p1 && !q1) = true) ↔ (z2 = (im 10 (3 * m + i) : Int) ∧ ¬ iP im m i z1 ∧ ¬ iH im m i z1) := by
      rw [Bool.and_eq_true, Bool.and_eq_true, decide_eq_true_eq, hxe, Bool.not_eq_true', Bool.not_eq_true', ← kp1, ← kq1, and_assoc]
      cases p1 <;> cases q1 <;> simp
    rw [e2]
  · by_cases cp : p1 = p2
    · have ep : (p1 == p2) = true := by rw [cp]; simp
      by_cases cq : q1 = q2
      · have eq : (q1 == q2) = true := by rw [cq]; simp
        rw [ep, eq]
        simp (disch := omega) only [F_Mo_goes_13, n1, lit32, n_nl0, n_cl, false_or, if_neg, cm_13, n3, n_mul, n_add, n_le, hp1, hp2, hq1, hq2, cp, cq, if_pos, h73, h89, Bool.and_true, Bool.true_or, ite_true, ite_false, if_true, if_false, Bool.false_eq_true, and_self, and_true, true_and, and_false, false_and]
      · have eq : (q1 == q2) = false := by cases q1 <;> cases q2 <;> simp_all
        rw [ep, eq]
        simp (disch := omega) only [F_Mo_goes_13, F_Mo_goes_72, n1, lit32, n_nl0, n_cl, false_or, if_neg, cm_13, n3, n_mul, n_add, n_le, hp1, hp2, hq1, hq2, cp, if_pos, cq, h73, h89, Bool.and_false, Bool.false_or, ite_true, ite_false, if_true, if_false, Bool.false_eq_true, and_self, and_true, true_and, and_false, false_and]
    · have ep : (p1 == p2) = false := by cases p1 <;> cases p2 <;> simp_all
      rw [ep]
      simp (disch := omega) only [F_Mo_goes_13, F_Mo_goes_72, n1, lit32, n_nl0, n_cl, false_or, if_neg, cm_13, n3, n_mul, n_add, n_le, hp1, hp2, cp, if_pos, h73, h89, Bool.false_and, Bool.and_false, Bool.false_or, ite_true, ite_false, if_true, if_false, Bool.false_eq_true, and_self, and_true, true_and, and_false, false_and]
theorem goes_loop {im : Im} {m : Nat} {σ : SG} {x1 x2 : Int32} {z1 z2 : Int} (hw : WfI im) (hm : m < im 0 1) (h : BM im m σ) (hx1 : x1.toInt = z1) (hx2 : x2.toInt = z2) : ∀ c i fuel s e, i + c = im 9 m →
    ∃ s' e' : Bool, (s' = true ↔ s = true ∧ ∀ r, i ≤ r → r < im 9 m → alk im m r z1 z2) ∧ (e' = true ↔ e = true ∧ ∀ r, i ≤ r → r < im 9 m → ent im m r z1 z2) ∧ F_Mo_goes_13 (fuel + c) 0 x1 x2 s e (Int32.ofNat (3 * m + i)) σ = F_Mo_goes_13 fuel 0 x1 x2 s' e' (Int32.ofNat (3 * m + im 9 m)) σ := by
  intro c
  induction c with
  | zero =>
    intro i fuel s e hi
    refine ⟨s, e, ⟨fun z => ⟨z, fun r a b => by omega⟩, fun z => z.1⟩, ⟨fun z => ⟨z, fun r a b => by omega⟩, fun z => z.1⟩, ?_⟩
    rw [show i = im 9 m by omega]
    rfl
  | succ c ih =>
    intro i fuel s e hi
    obtain ⟨s1, e1, k1, k2, k3⟩ := goes_step (fuel := fuel + c) (s := s) (e := e) hw hm h (show i < im 9 m by omega) hx1 hx2
    obtain ⟨s2, e2, j1, j2, j3⟩ := ih (i + 1) fuel s1 e1 (by omega)
    refine ⟨s2, e2, ?_, ?_, ?_⟩
    · rw [j1, k1]
      constructor
      · rintro ⟨⟨a, b⟩, d⟩
        refine ⟨a, fun r x y => ?_⟩
        by_cases er : r = i
        · rw [er]; exact b
        · exact d r (by omega) y
      · rintro ⟨a, b⟩
        exact ⟨⟨a, b i (by omega) (by omega)⟩, fun r x y => b r (by omega) y⟩
    · rw [j2, k2]
      constructor
      · rintro ⟨⟨a, b⟩, d⟩
        refine ⟨a, fun r x y => ?_⟩
        by_cases er : r = i
        · rw [er]; exact b
        · exact d r (by omega) y
      · rintro ⟨a, b⟩
        exact ⟨⟨a, b i (by omega) (by omega)⟩, fun r x y => b r (by omega) y⟩
    · rw [← j3]
      exact k3
theorem m_goes {im : Im} {m : Nat} {σ : SG} {R0 : RQ} {C : RQ → Prop} {x1 x2 : Int32} {z1 z2 : Int} {l : List Nat} (hw : WfI im) (hm : m < im 0 1) (hW : WM im m) (h : MS im m σ R0 C l) (hC : ∀ R Q, LeQ R Q → C R → C Q) (hx1 : x1.toInt = z1) (hx2 : x2.toInt = z2) :
    ∃ σ1, F_Mo_goes 0 x1 x2 σ = some σ1 ∧ FM m σ σ1 ∧ MS im m σ1 R0 (fun Q => C Q ∧ (goOK im m z1 z2 (some l) ∧ (l.length ≤ 8 ∧ Rch im m Q z2 (some l)))) l := by
  have hB := h.1
  obtain ⟨n1, n2, n3, n4⟩ := m_now hw hm hB
  obtain ⟨s, e, k1, k2, k3⟩ := goes_loop hw hm hB hx1 hx2 (im 9 m) 0 (5000 - im 9 m) true true (by omega)
  rw [show 5000 - im 9 m + im 9 m = 5000 by omega] at k3
  obtain ⟨fuel, hfu⟩ : ∃ f, 5000 - im 9 m = f + 1 := ⟨4999 - im 9 m, by omega⟩
  rw [hfu] at k3
  have hF : F_Mo_goes 0 x1 x2 σ = F_Mo_goes_13 (fuel + 1) 0 x1 x2 s e (Int32.ofNat (3 * m + im 9 m)) σ := by
    rw [← k3]
    simp (disch := omega) only [F_Mo_goes, n1, lit32, n_mul, Nat.add_zero, ite_true, ite_false, if_true, if_false, Bool.false_eq_true, and_self, and_true, true_and, and_false, false_and]
  have h172 : F_Mo_goes_172 0 x2 0 σ = some (setI σ 0 27 (bz false)) := by
    have hz : ¬ (zb ((setI σ 0 27 (bz false)).1 0 27) = true) := by rw [rI, if_pos ⟨rfl, rfl⟩, zbz]; simp
    unfold F_Mo_goes_172 F_Mo_goes_173
    rw [stl_e, if_neg hz]
    rfl
  refine MS_step (F := fun s => F_Mo_goes 0 x1 x2 s) h hC (fun R1 h1 h2 => ?_) (fun h1 => ?_)
  · obtain ⟨g1, g2, g3, g4, g5⟩ := id h2
    rw [goOK_ref hW]
    have hs : s = true ↔ ∀ r, r < im 9 m → alk im m r z1 z2 := by
      rw [k1]
      exact ⟨fun z r a => z.2 r (by omega) a, fun z => ⟨rfl, fun r _ a => z r a⟩⟩
    have he : e = true ↔ ∀ r, r < im 9 m → ent im m r z1 z2 := by
      rw [k2]
      exact ⟨fun z r a => z.2 r (by omega) a, fun z => ⟨rfl, fun r _ a => z r a⟩⟩
    rw [← hs, ← he]
    by_cases cc : s = true ∨ (e = true ∧ l = [])
    · have h168 : F_Mo_goes 0 x1 x2 σ = F_Mo_goes_168 0 x2 0 σ := by
        rw [hF]
        rcases cc with c | ⟨c, cl⟩
        · subst c
          simp (disch := omega) only [F_Mo_goes_13, n1, lit32, n_nl0, n_cl, false_or, if_neg, cm_13, n3, n_mul, n_add, n_le, if_pos, g1, ite_true, ite_false, if_true, if_false, Bool.false_eq_true, and_self, and_true, true_and, and_false, false_and]
        · subst c
          have g2' : σ.1 0 25 = Int32.ofNat 0 := by rw [g2, cl]; rfl
          cases s <;> simp (disch := omega) only [F_Mo_goes_13, n1, lit32, n_nl0, n_cl, false_or, if_neg, cm_13, n3, n_mul, n_add, n_le, if_pos, g1, g2', ite_true, ite_false, if_true, if_false, Bool.false_eq_true, and_self, and_true, true_and, and_false, false_and]
      have hQ0 : QM σ (setI σ 0 27 (bz true)) := QM_I (by omega)
      obtain ⟨σ1, r1, r2, r3⟩ := m_meet_ok (lr := l) hw hm (BM_QM hB hQ0) (RS_QM h1 hQ0) (SM_t h2) hx2 g4 g5
      refine ⟨σ1, ?_, FM_trans (QM_FM hQ0) r2, ?_⟩
      · show F_Mo_goes 0 x1 x2 σ = some σ1
        rw [h168]
        have hz : zb ((setI σ 0 27 (bz true)).1 0 27) = true := by rw [rI, if_pos ⟨rfl, rfl⟩, zbz]
        have hz2 : (setI σ 0 27 (bz true)).1 0 25 = Int32.ofNat l.length := by rw [rI, if_neg (by omega)]; exact g2
        have hz3 : (setI σ 0 27 (bz true)).2.1 0 26 = Int64.ofNat (enc l) := g3
        unfold F_Mo_goes_168 F_Mo_goes_173
        rw [stl_e, if_pos hz, hz2, hz3, r1]
        rfl
      · rcases r3 with ⟨j1, R2, j2, j3, j4, j5⟩ | ⟨j1, j2⟩
        · exact Or.inl ⟨j1, R2, j2, j3, ⟨cc, j4⟩, fun Q a b => j5 Q a b.2⟩
        · exact Or.inr ⟨j1, fun Q a b => j2 Q a b.2⟩
    · refine ⟨setI σ 0 27 (bz false), ?_, QM_FM (QM_I (by omega)), Or.inr ⟨SM_n, fun Q _ b => cc b.1⟩⟩
      show F_Mo_goes 0 x1 x2 σ = _
      rw [hF]
      have cs : s = false := by cases s with | true => exact absurd (Or.inl rfl) cc | false => rfl
      subst cs
      cases e with
      | false => simp (disch := omega) only [F_Mo_goes_13, n1, lit32, n_nl0, n_cl, false_or, if_neg, cm_13, n3, n_mul, n_add, n_le, if_pos, g1, h172, ite_true, ite_false, if_true, if_false, Bool.false_eq_true, and_self, and_true, true_and, and_false, false_and]
      | true =>
        have hl : l.length ≠ 0 := fun z => cc (Or.inr ⟨rfl, List.length_eq_zero_iff.mp z⟩)
        simp (disch := omega) only [F_Mo_goes_13, n1, lit32, n_nl0, n_cl, false_or, if_neg, cm_13, n3, n_mul, n_add, n_le, if_pos, g1, g2, n_eq, h172, ite_true, ite_false, if_true, if_false, Bool.false_eq_true, and_self, and_true, true_and, and_false, false_and]
  · have hb : zb (σ.1 0 27) = false := h1
    refine ⟨setI σ 0 27 (bz false), ?_, QM_FM (QM_I (by omega)), SM_n⟩
    show F_Mo_goes 0 x1 x2 σ = _
    rw [hF]
    simp (disch := omega) only [F_Mo_goes_13, n1, lit32, n_nl0, n_cl, false_or, if_neg, cm_13, n3, n_mul, n_add, n_le, if_pos, hb, h172, ite_true, ite_false, if_true, if_false, Bool.false_eq_true, and_self, and_true, true_and, and_false, false_and]
/-- leaving -/
def lvc (im : Im) (m r : Nat) (z1 z2 : Int) : Prop := (iP im m r z2 → iP im m r z1) ∧ (iH im m r z2 → iH im m r z1) ∧ (iH im m r z1 → ¬ iH im m r z2 → ¬ isF im m r)
theorem lv_step {im : Im} {m i fuel : Nat} {σ : SG} {o : Option (List Nat)} {x1 x2 : Int32} {z1 z2 : Int} (hw : WfI im) (hm : m < im 0 1) (h : BM im m σ) (hS : SM σ o) (hi : i < im 9 m) (hx1 : x1.toInt = z1) (hx2 : x2.toInt = z2) :
    ∃ b : Bool, (b = true ↔ o ≠ none ∧ lvc im m i z1 z2) ∧ F_Mo_leaves_7 (fuel + 1) 0 x1 x2 (Int32.ofNat (3 * m + i)) σ = F_Mo_leaves_7 fuel 0 x1 x2 (Int32.ofNat (3 * m + (i + 1))) (setI σ 0 27 (bz b)) := by
  obtain ⟨n1, n2, n3, n4⟩ := m_now hw hm h
  obtain ⟨w1, w2, w3, w4, w5, w6, w7, w8, w9, w10, w11⟩ := wf_m hw hm
  obtain ⟨p1, hp1, kp1⟩ := m_inPart hw hm h.1 hi hx1
  obtain ⟨p2, hp2, kp2⟩ := m_inPart hw hm h.1 hi hx2
  obtain ⟨q1, hq1, kq1⟩ := m_inHand hw hm h.1 hi hx1
  obtain ⟨q2, hq2, kq2⟩ := m_inHand hw hm h.1 hi hx2
  have hlast := RepM_A h.1 13 (3 * m + i) (by omega) (by omega)
  have h13 := (w8 i hi).2.2.2
  obtain ⟨f, hf, kf⟩ : ∃ f : Bool, zb (Int32.ofNat (im 13 (3 * m + i))) = f ∧ (f = true ↔ isF im m i) := by
    unfold isF
    by_cases c : im 13 (3 * m + i) = 1
    · exact ⟨true, by rw [c]; exact zb1, by simp [c]⟩
    · exact ⟨false, by rw [show im 13 (3 * m + i) = 0 by omega]; exact zb0, by simp [c]⟩
  obtain ⟨fi, hfi, kfi⟩ : ∃ fi : Bool, zb (σ.1 0 27) = fi ∧ (fi = true ↔ o ≠ none) := by
    cases o with
    | none => exact ⟨false, hS, by simp⟩
    | some l => exact ⟨true, hS.1, by simp⟩
  have h68 : ∀ (rec7 : Nat → Int32 → Int32 → Int32 → SG → Option SG) (y : Bool), F_Mo_leaves_68 rec7 0 x1 x2 (Int32.ofNat (3 * m + i)) y σ = rec7 0 x1 x2 (Int32.ofNat (3 * m + (i + 1))) (setI σ 0 27 (bz (fi && !y && (!f || !q1 || q2)))) := by
    intro rec7 y
    cases fi <;> cases y <;> cases f <;> cases q1 <;> cases q2 <;> simp (disch := omega) only [F_Mo_leaves_68, F_Mo_leaves_110, F_Mo_leaves_114, F_Mo_leaves_115, hfi, if_neg, if_pos, lit32, n_nl0, n_cl, false_or, cm_17, hlast, hf, hq1, hq2, stl_e, n_add, Nat.add_assoc, Bool.and_true, Bool.and_false, Bool.true_and, Bool.false_and, Bool.or_true, Bool.or_false, Bool.true_or, Bool.false_or, Bool.not_true, Bool.not_false, ite_true, ite_false, if_true, if_false, Bool.false_eq_true, and_self, and_true, true_and, and_false, false_and]
  refine ⟨fi && !((p2 && !p1) || (q2 && !q1)) && (!f || !q1 || q2), ?_, ?_⟩
  · unfold lvc
    rw [← kfi, ← kp1, ← kp2, ← kq1, ← kq2, ← kf]
    cases fi <;> cases p1 <;> cases p2 <;> cases q1 <;> cases q2 <;> cases f <;> simp
  · cases p1 <;> cases p2 <;> cases q1 <;> cases q2 <;> simp (disch := omega) only [F_Mo_leaves_7, F_Mo_leaves_45, F_Mo_leaves_63, F_Mo_leaves_67, n1, lit32, n_nl0, n_cl, false_or, if_neg, cm_13, n3, n_mul, n_add, n_le, hp1, hp2, hq1, hq2, if_pos, h68, Bool.and_true, Bool.and_false, Bool.true_and, Bool.false_and, Bool.or_true, Bool.or_false, Bool.true_or, Bool.false_or, Bool.not_true, Bool.not_false, ite_true, ite_false, if_true, if_false, Bool.false_eq_true, and_self, and_true, true_and, and_false, false_and]
theorem lv_loop {im : Im} {m : Nat} {x1 x2 : Int32} {z1 z2 : Int} (hw : WfI im) (hm : m < im 0 1) (hx1 : x1.toInt = z1) (hx2 : x2.toInt = z2) : ∀ c i fuel σ (o : Option (List Nat)), BM im m σ → SM σ o → i + c = im 9 m →
    ∃ s, QM σ s ∧ F_Mo_leaves_7 (fuel + c) 0 x1 x2 (Int32.ofNat (3 * m + i)) σ = F_Mo_leaves_7 fuel 0 x1 x2 (Int32.ofNat (3 * m + im 9 m)) s ∧ ((SM s o ∧ (o = none ∨ ∀ r, i ≤ r → r < im 9 m → lvc im m r z1 z2)) ∨ (SM s none ∧ ¬ ∀ r, i ≤ r → r < im 9 m → lvc im m r z1 z2)) := by
  intro c
  induction c with
  | zero =>
    intro i fuel σ o hB hS hi
    refine ⟨σ, QM_refl _, ?_, Or.inl ⟨hS, Or.inr (fun r a b => by omega)⟩⟩
    rw [show i = im 9 m by omega]
    rfl
  | succ c ih =>
    intro i fuel σ o hB hS hi
    obtain ⟨b, hb, hF⟩ := lv_step (fuel := fuel + c) hw hm hB hS (show i < im 9 m by omega) hx1 hx2
    have hQ : QM σ (setI σ 0 27 (bz b)) := QM_I (by omega)
    cases b with
    | true =>
      obtain ⟨ho, hl⟩ := hb.mp rfl
      have hS1 : SM (setI σ 0 27 (bz true)) o := by
        cases o with
        | none => exact absurd rfl ho
        | some l => exact SM_t hS
      obtain ⟨s, g1, g2, g3⟩ := ih (i + 1) fuel _ o (BM_QM hB hQ) hS1 (by omega)
      refine ⟨s, QM_trans hQ g1, hF.trans g2, ?_⟩
      rcases g3 with ⟨a, b⟩ | ⟨a, b⟩
      · refine Or.inl ⟨a, ?_⟩
        rcases b with b | b
        · exact Or.inl b
        · refine Or.inr (fun r x y => ?_)
          by_cases er : r = i
          · rw [er]; exact hl
          · exact b r (by omega) y
      · exact Or.inr ⟨a, fun z => b (fun r x y => z r (by omega) y)⟩
    | false =>
      obtain ⟨s, g1, g2, g3⟩ := ih (i + 1) fuel _ none (BM_QM hB hQ) SM_n (by omega)
      refine ⟨s, QM_trans hQ g1, hF.trans g2, ?_⟩
      have hs : SM s none := by
        rcases g3 with ⟨a, -⟩ | ⟨a, -⟩
        · exact a
        · exact a
      cases o with
      | none => exact Or.inl ⟨hs, Or.inl rfl⟩
      | some l =>
        refine Or.inr ⟨hs, fun z => ?_⟩
        have := hb.mpr ⟨by simp, z i (by omega) (by omega)⟩
        cases this
theorem m_leaves {im : Im} {m : Nat} {σ : SG} {R0 : RQ} {C : RQ → Prop} {x1 x2 : Int32} {z1 z2 : Int} {l : List Nat} (hw : WfI im) (hm : m < im 0 1) (h : MS im m σ R0 C l) (hC : ∀ R Q, LeQ R Q → C R → C Q) (hx1 : x1.toInt = z1) (hx2 : x2.toInt = z2) :
    ∃ σ1, F_Mo_leaves 0 x1 x2 σ = some σ1 ∧ FM m σ σ1 ∧ MS im m σ1 R0 (fun Q => C Q ∧ (mayL im m z1 z2 ∧ Rch im m Q z2 (some []))) l := by
  have hB := h.1
  obtain ⟨n1, n2, n3, n4⟩ := m_now hw hm hB
  have hend : ∀ s (fuel : Nat), BM im m s → F_Mo_leaves_7 (fuel + 1) 0 x1 x2 (Int32.ofNat (3 * m + im 9 m)) s = if zb (s.1 0 27) = true then F_Mo_meet 0 x2 (Int32.ofNat 0) (Int64.ofNat 0) s else some s := by
    intro s fuel hBs
    obtain ⟨n1, n2, n3, n4⟩ := m_now hw hm hBs
    by_cases c : zb (s.1 0 27) = true
    · rw [if_pos c]
      cases hmm : F_Mo_meet 0 x2 (Int32.ofNat 0) (Int64.ofNat 0) s <;> simp (disch := omega) only [F_Mo_leaves_7, F_Mo_leaves_138, n1, lit32, lit64n, n_nl0, n_cl, false_or, if_neg, cm_13, n3, n_mul, n_add, n_le, if_pos, c, hmm, ite_true, ite_false, if_true, if_false, Bool.false_eq_true, and_self, and_true, true_and, and_false, false_and]
    · rw [if_neg c]
      simp (disch := omega) only [F_Mo_leaves_7, F_Mo_leaves_138, n1, lit32, n_nl0, n_cl, false_or, if_neg, cm_13, n3, n_mul, n_add, n_le, if_pos, c, ite_true, ite_false, if_true, if_false, Bool.false_eq_true, and_self, and_true, true_and, and_false, false_and]
  have hF : ∀ (o : Option (List Nat)), SM σ o → ∃ s, QM σ s ∧ F_Mo_leaves 0 x1 x2 σ = (if zb (s.1 0 27) = true then F_Mo_meet 0 x2 (Int32.ofNat 0) (Int64.ofNat 0) s else some s) ∧ ((SM s o ∧ (o = none ∨ mayL im m z1 z2)) ∨ (SM s none ∧ ¬ mayL im m z1 z2)) := by
    intro o hS
    obtain ⟨s, g1, g2, g3⟩ := lv_loop hw hm hx1 hx2 (im 9 m) 0 (5000 - im 9 m) σ o hB hS (by omega)
    rw [show 5000 - im 9 m + im 9 m = 5000 by omega] at g2
    obtain ⟨fuel, hfu⟩ : ∃ f, 5000 - im 9 m = f + 1 := ⟨4999 - im 9 m, by omega⟩
    rw [hfu, hend s fuel (BM_QM hB g1)] at g2
    refine ⟨s, g1, ?_, ?_⟩
    · rw [← g2]
      simp (disch := omega) only [F_Mo_leaves, n1, lit32, n_mul, Nat.add_zero, ite_true, ite_false, if_true, if_false, Bool.false_eq_true, and_self, and_true, true_and, and_false, false_and]
    · have e : (∀ r, 0 ≤ r → r < im 9 m → lvc im m r z1 z2) ↔ mayL im m z1 z2 := ⟨fun z r a => z r (by omega) a, fun z r _ a => z r a⟩
      rw [e] at g3
      exact g3
  refine MS_step (F := fun s => F_Mo_leaves 0 x1 x2 s) h hC (fun R1 h1 h2 => ?_) (fun h1 => ?_)
  · obtain ⟨s, g1, g2, g3⟩ := hF (some l) h2
    rcases g3 with ⟨hs, hm2⟩ | ⟨hs, hm2⟩
    · have hm3 : mayL im m z1 z2 := by
        rcases hm2 with e | e
        · cases e
        · exact e
      obtain ⟨σ1, r1, r2, r3⟩ := m_meet_ok (lr := []) hw hm (BM_QM hB g1) (RS_QM h1 g1) hs hx2 (by simp) (by simp)
      refine ⟨σ1, ?_, FM_trans (QM_FM g1) r2, ?_⟩
      · show F_Mo_leaves 0 x1 x2 σ = some σ1
        rw [g2, if_pos hs.1]
        exact r1
      · rcases r3 with ⟨j1, R2, j2, j3, j4, j5⟩ | ⟨j1, j2⟩
        · exact Or.inl ⟨j1, R2, j2, j3, ⟨hm3, j4.2⟩, fun Q a b => j5 Q a ⟨by simp, b.2⟩⟩
        · exact Or.inr ⟨j1, fun Q a b => j2 Q a ⟨by simp, b.2⟩⟩
    · have hb : zb (s.1 0 27) = false := hs
      refine ⟨s, ?_, QM_FM g1, Or.inr ⟨hs, fun Q _ b => hm2 b.1⟩⟩
      show F_Mo_leaves 0 x1 x2 σ = some s
      rw [g2, hb]
      rfl
  · obtain ⟨s, g1, g2, g3⟩ := hF none h1
    have hs : SM s none := by
      rcases g3 with ⟨a, -⟩ | ⟨a, -⟩
      · exact a
      · exact a
    have hb : zb (s.1 0 27) = false := hs
    refine ⟨s, ?_, QM_FM g1, hs⟩
    show F_Mo_leaves 0 x1 x2 σ = some s
    rw [g2, hb]
    rfl
