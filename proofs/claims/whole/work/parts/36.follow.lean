/-! Following an instruction, in the class. -/
def Post (im : Im) (m IA : Nat) (σ : SG) (R : RQ) (L : List Nat) (b : Bool) (σ1 : SG) (C : RQ → Prop) : Prop :=
  ∃ R1 L1, VS im m IA σ1 R1 L1 ∧ LeQ R R1 ∧ (b = true → C R1) ∧ (∀ Q, LeQ R Q → C Q → b = true ∧ LeQ R1 Q) ∧ Vfr m IA σ σ1 ∧ σ1.1 (IA + 4 + 9 * m) 11 = σ.1 (IA + 4 + 9 * m) 11 ∧ ∃ t, L1 = L ++ t
theorem Post_triv {im : Im} {m IA : Nat} {σ : SG} {R : RQ} {L : List Nat} {b : Bool} {C : RQ → Prop} (hV : VS im m IA σ R L) (h1 : b = true → C R) (h2 : ∀ Q, LeQ R Q → C Q → b = true) : Post im m IA σ R L b σ C :=
  ⟨R, L, hV, LeQ_refl _, h1, fun Q a c => ⟨h2 Q a c, a⟩, Vfr_refl _ _ _, rfl, [], by simp⟩
theorem Post_seq {im : Im} {m IA : Nat} {σ σ1 σ2 : SG} {R : RQ} {L : List Nat} {b : Bool} {C D : RQ → Prop} (hC : ∀ R Q, LeQ R Q → C R → C Q) (h1 : Post im m IA σ R L true σ1 C) (h2 : ∀ R1 L1, VS im m IA σ1 R1 L1 → Post im m IA σ1 R1 L1 b σ2 D) : Post im m IA σ R L b σ2 (fun Q => C Q ∧ D Q) := by
  obtain ⟨R1, L1, hV1, hl1, hc1, hq1, hf1, hk1, t1, e1⟩ := h1
  obtain ⟨R2, L2, hV2, hl2, hc2, hq2, hf2, hk2, t2, e2⟩ := h2 R1 L1 hV1
  refine ⟨R2, L2, hV2, LeQ_trans hl1 hl2, fun e => ⟨hC _ _ hl2 (hc1 rfl), hc2 e⟩, fun Q a c => hq2 Q (hq1 Q a c.1).2 c.2, Vfr_trans hf1 hf2, hk2.trans hk1, t1 ++ t2, ?_⟩
  rw [e2, e1, List.append_assoc]
theorem Post_fail {im : Im} {m IA : Nat} {σ σ1 : SG} {R : RQ} {L : List Nat} {C D : RQ → Prop} (h1 : Post im m IA σ R L false σ1 C) : Post im m IA σ R L false σ1 (fun Q => C Q ∧ D Q) := by
  obtain ⟨R1, L1, hV1, hl1, hc1, hq1, hf1, hk1, t1, e1⟩ := h1
  exact ⟨R1, L1, hV1, hl1, (fun e => nomatch e), (fun Q a c => nomatch (hq1 Q a c.1).1), hf1, hk1, t1, e1⟩
theorem Post_iff {im : Im} {m IA : Nat} {σ σ1 : SG} {R : RQ} {L : List Nat} {b : Bool} {C D : RQ → Prop} (h1 : Post im m IA σ R L b σ1 C) (hi : ∀ Q, C Q ↔ D Q) : Post im m IA σ R L b σ1 D := by
  obtain ⟨R1, L1, hV1, hl1, hc1, hq1, hf1, hk1, t1, e1⟩ := h1
  exact ⟨R1, L1, hV1, hl1, fun e => (hi _).mp (hc1 e), fun Q a c => hq1 Q a ((hi _).mpr c), hf1, hk1, t1, e1⟩
theorem c_reachP {im : Im} {m IA : Nat} {σ : SG} {R : RQ} {L : List Nat} {x : Int32} {z : Int} {o : Option (List Nat)} (hV : VS im m IA σ R L) (hm : m < im 0 1) (hx : x.toInt = z) (ho : GO o) :
    ∃ b σ1, F_Vf_reach 120 x (encO o) σ = some (b, σ1) ∧ Post im m IA σ R L b σ1 (fun Q => Rch im m Q z o) := by
  obtain ⟨b, σ1, R1, L1, h1, h2⟩ := c_reach hV hm hx ho
  exact ⟨b, σ1, h1, R1, L1, h2⟩
theorem VS_I {im : Im} {m IA : Nat} {σ : SG} {R : RQ} {L : List Nat} (hV : VS im m IA σ R L) : ImC σ IA im := hV.2.1
theorem VS_W {im : Im} {m IA : Nat} {σ : SG} {R : RQ} {L : List Nat} (hV : VS im m IA σ R L) : σ.2.2.1 120 1 = IA + 4 + 9 * m := hV.1.2
/-- going on to the next one -/
theorem c_goOn_l {im : Im} {m IA : Nat} {σ : SG} {R : RQ} {L : List Nat} {x : Int32} {z : Int} {o : Option (List Nat)} {bg : Nat} (hV : VS im m IA σ R L) (hm : m < im 0 1) (hx : x.toInt = z) (ho : GO o) (hbg : bg < 8) :
    ∀ c i fuel, i + c = im 9 m → c < fuel → ∃ b σ1, F_Vf_goOn_63 fuel 120 x (encO o) (Int32.ofNat bg) (Int32.ofNat i) σ = some (b, σ1) ∧ Post im m IA σ R L b σ1 (fun Q => (∀ r, i ≤ r → r < im 9 m → bt bg r → z = (im 10 (3 * m + r) : Int) ∧ o = some []) ∧ Rch im m Q z o) := by
  have h := VS_I hV
  have hM := d_Mc h hm
  have hW := VS_W hV
  obtain ⟨h1, h2⟩ := IC_rc h hm
  intro c
  induction c with
  | zero =>
    intro i fuel hi hf
    obtain ⟨fuel, rfl⟩ : ∃ x, fuel = x + 1 := ⟨fuel - 1, by omega⟩
    obtain ⟨b, σ1, hF, hP⟩ := c_reachP hV hm hx ho
    refine ⟨b, σ1, ?_, Post_iff hP (fun Q => ⟨fun z => ⟨fun r a b => by omega, z⟩, fun z => z.2⟩)⟩
    simp (disch := omega) only [F_Vf_goOn_63, hW, hM, h1, n_le, if_pos, hF, ite_true, ite_false, if_true, if_false, Bool.false_eq_true, and_self, and_true, true_and, and_false, false_and]
  | succ c ih =>
    intro i fuel hi hf
    obtain ⟨fuel, rfl⟩ : ∃ x, fuel = x + 1 := ⟨fuel - 1, by omega⟩
    have hrg := IC_rg (r := i) h hm (by omega)
    have hkb := k_bit (a := bg) (r := i) hbg (by omega)
    by_cases cb : bt bg i
    · have hkb' := hkb.mpr cb
      by_cases cz : z = (im 10 (3 * m + i) : Int)
      · have ez : Int32.ofNat (im 10 (3 * m + i)) = x := by
          apply Int32.toInt_inj.mp
          rw [n_int (by omega), hx, cz]
        by_cases co : o = some []
        · have eo : encO o = Int32.ofNat 0 := by rw [co]; rfl
          obtain ⟨b, σ1, hF, hP⟩ := ih (i + 1) fuel (by omega) (by omega)
          refine ⟨b, σ1, ?_, Post_iff hP (fun Q => ⟨fun w => ⟨fun r a b' d => ?_, w.2⟩, fun w => ⟨fun r a b' d => w.1 r (by omega) b' d, w.2⟩⟩)⟩
          · rw [eo] at hF ⊢
            simp (disch := omega) only [F_Vf_goOn_63, F_Vf_goOn_109, hW, hM, h1, n_le, if_neg, if_pos, lit32, hkb', n_nl0, n_cl, false_or, cM7 hM, cMr hM, hrg.1, ez, n_add, hF, ite_true, ite_false, if_true, if_false, Bool.false_eq_true, and_self, and_true, true_and, and_false, false_and]
          · by_cases e : r = i
            · rw [e]; exact ⟨cz, co⟩
            · exact w.1 r (by omega) b' d
        · have eo : ¬ (encO o = Int32.ofNat 0) := fun e => co ((encO_inj ho (p := some []) (fun l hl => by cases hl; exact ⟨by simp, by simp⟩)).mp e)
          refine ⟨false, σ, ?_, Post_triv hV (fun e => nomatch e) (fun Q _ w => absurd (w.1 i (by omega) (by omega) cb).2 co)⟩
          simp (disch := omega) only [F_Vf_goOn_63, F_Vf_goOn_107, hW, hM, h1, n_le, if_neg, if_pos, lit32, hkb', n_nl0, n_cl, false_or, cM7 hM, cMr hM, hrg.1, ez, eo, ite_true, ite_false, if_true, if_false, Bool.false_eq_true, and_self, and_true, true_and, and_false, false_and]
      · have ez : ¬ (Int32.ofNat (im 10 (3 * m + i)) = x) := fun e => by
          have e2 := congrArg Int32.toInt e
          rw [n_int (by omega), hx] at e2
          exact cz e2.symm
        refine ⟨false, σ, ?_, Post_triv hV (fun e => nomatch e) (fun Q _ w => absurd (w.1 i (by omega) (by omega) cb).1 cz)⟩
        simp (disch := omega) only [F_Vf_goOn_63, F_Vf_goOn_107, hW, hM, h1, n_le, if_neg, if_pos, lit32, hkb', n_nl0, n_cl, false_or, cM7 hM, cMr hM, hrg.1, ez, ite_true, ite_false, if_true, if_false, Bool.false_eq_true, and_self, and_true, true_and, and_false, false_and]
    · have hkb' : ¬ _ := fun e => cb (hkb.mp e)
      obtain ⟨b, σ1, hF, hP⟩ := ih (i + 1) fuel (by omega) (by omega)
      refine ⟨b, σ1, ?_, Post_iff hP (fun Q => ⟨fun w => ⟨fun r a b' d => ?_, w.2⟩, fun w => ⟨fun r a b' d => w.1 r (by omega) b' d, w.2⟩⟩)⟩
      · simp (disch := omega) only [F_Vf_goOn_63, F_Vf_goOn_109, hW, hM, h1, n_le, if_neg, if_pos, lit32, hkb', n_add, hF, ite_true, ite_false, if_true, if_false, Bool.false_eq_true, and_self, and_true, true_and, and_false, false_and]
      · by_cases e : r = i
        · rw [e] at d; exact absurd d cb
        · exact w.1 r (by omega) b' d
theorem c_goOn {im : Im} {m IA : Nat} {σ : SG} {R : RQ} {L : List Nat} {x1 x : Int32} {z1 z : Int} {o : Option (List Nat)} (hV : VS im m IA σ R L) (hm : m < im 0 1) (hx1 : x1.toInt = z1) (hx : x.toInt = z) (ho : GO o) :
    ∃ b σ1, F_Vf_goOn 120 x1 x (encO o) σ = some (b, σ1) ∧ Post im m IA σ R L b σ1 (fun Q => goOK im m z1 z o ∧ Rch im m Q z o) := by
  have h := VS_I hV
  have hM := d_Mc h hm
  have hW := VS_W hV
  obtain ⟨h1, h2⟩ := IC_rc h hm
  obtain ⟨p1, hp1, kp1⟩ := a_parts h hm hx1
  obtain ⟨p2, hp2, kp2⟩ := a_parts h hm hx
  obtain ⟨q1, hq1, kq1⟩ := a_hand h hm hx1
  obtain ⟨q2, hq2, kq2⟩ := a_hand h hm hx
  have b1 := Msk_8 kp1 h2
  have b2 := Msk_8 kp2 h2
  have b3 := Msk_8 kq1 h2
  have b4 := Msk_8 kq2 h2
  obtain ⟨bg, hbg, ebg, kbg⟩ := k_dif b2 b1
  have hsub := k_sub b1 b2
  have heq := k_eq b3 b4
  by_cases ch : q1 = q2
  · have eh := heq.mp ch
    by_cases cs : (Int32.ofNat p1 &&& (Int32.ofNat p2 ^^^ (-Int32.ofNat 1))) = Int32.ofNat 0
    · have es := hsub.mp cs
      obtain ⟨b, σ1, hF, hP⟩ := c_goOn_l hV hm hx ho hbg (im 9 m) 0 5000 (by omega) (by omega)
      refine ⟨b, σ1, ?_, Post_iff hP (fun Q => ⟨fun w => ⟨fun r hr => ⟨?_, ?_, ?_⟩, w.2⟩, fun w => ⟨fun r a b' d => ?_, w.2⟩⟩)⟩
      · simp (disch := omega) only [F_Vf_goOn, hW, hM, if_pos, hp1, hp2, hq1, hq2, ch, lit32, cs, ebg, hF, ite_true, ite_false, if_true, if_false, Bool.false_eq_true, and_self, and_true, true_and, and_false, false_and]
      · have := eh r (by omega)
        rw [kq1.2 r (by omega), kq2.2 r (by omega)] at this
        exact ⟨fun z => (this.mp ⟨hr, z⟩).2, fun z => (this.mpr ⟨hr, z⟩).2⟩
      · intro z
        have := es r (by omega)
        rw [kp1.2 r (by omega), kp2.2 r (by omega)] at this
        exact (this ⟨hr, z⟩).2
      · intro z z'
        refine w.1 r (by omega) hr ?_
        rw [kbg r (by omega), kp1.2 r (by omega), kp2.2 r (by omega)]
        exact ⟨⟨hr, z⟩, fun y => z' y.2⟩
      · rw [kbg r (by omega), kp1.2 r (by omega), kp2.2 r (by omega)] at d
        exact (w.1 r b').2.2 d.1.2 (fun y => d.2 ⟨b', y⟩)
    · refine ⟨false, σ, ?_, Post_triv hV (fun e => nomatch e) (fun Q _ w => ?_)⟩
      · simp (disch := omega) only [F_Vf_goOn, F_Vf_goOn_49, hW, hM, if_pos, if_neg, hp1, hp2, hq1, hq2, ch, lit32, cs, ite_true, ite_false, if_true, if_false, Bool.false_eq_true, and_self, and_true, true_and, and_false, false_and]
      · exfalso
        refine cs (hsub.mpr (fun r hr z => ?_))
        rw [kp1.2 r hr] at z
        rw [kp2.2 r hr]
        exact ⟨z.1, (w.1 r z.1).2.1 z.2⟩
  · have ch' : ¬ (Int32.ofNat q1 = Int32.ofNat q2) := by rw [n_eq (by omega) (by omega)]; exact ch
    refine ⟨false, σ, ?_, Post_triv hV (fun e => nomatch e) (fun Q _ w => ?_)⟩
    · simp (disch := omega) only [F_Vf_goOn, F_Vf_goOn_49, hW, hM, if_pos, hp1, hp2, hq1, hq2, ch', if_neg, ite_true, ite_false, if_true, if_false, Bool.false_eq_true, and_self, and_true, true_and, and_false, false_and]
    · exfalso
      refine ch (heq.mpr (fun r hr => ?_))
      rw [kq1.2 r hr, kq2.2 r hr]
      exact ⟨fun z => ⟨z.1, (w.1 r z.1).1.mp z.2⟩, fun z => ⟨z.1, (w.1 r z.1).1.mpr z.2⟩⟩
/-- leaving -/
theorem c_leave_l {im : Im} {m IA : Nat} {σ : SG} {bg : Nat} (h : ImC σ IA im) (hW : σ.2.2.1 120 1 = IA + 4 + 9 * m) (hm : m < im 0 1) (hbg : bg < 8) :
    ∀ c i fuel, i + c = im 9 m → c < fuel → ∃ b, F_Vf_mayLeave_63 fuel 120 (Int32.ofNat bg) (Int32.ofNat i) σ = some (b, σ) ∧ (b = true ↔ ∀ r, i ≤ r → r < im 9 m → bt bg r → ¬ isF im m r) := by
  have hM := d_Mc h hm
  obtain ⟨h1, h2⟩ := IC_rc h hm
  intro c
  induction c with
  | zero =>
    intro i fuel hi hf
    obtain ⟨fuel, rfl⟩ : ∃ x, fuel = x + 1 := ⟨fuel - 1, by omega⟩
    refine ⟨true, ?_, fun _ r a b => by omega, fun _ => rfl⟩
    simp (disch := omega) only [F_Vf_mayLeave_63, hW, hM, h1, n_le, if_pos, ite_true, ite_false, if_true, if_false, Bool.false_eq_true, and_self, and_true, true_and, and_false, false_and]
  | succ c ih =>
    intro i fuel hi hf
    obtain ⟨fuel, rfl⟩ : ∃ x, fuel = x + 1 := ⟨fuel - 1, by omega⟩
    have hrg := IC_rg (r := i) h hm (by omega)
    have hkb := k_bit (a := bg) (r := i) hbg (by omega)
    obtain ⟨b, hF, hP⟩ := ih (i + 1) fuel (by omega) (by omega)
    by_cases cb : bt bg i
    · have hkb' := hkb.mpr cb
      by_cases cf : im 13 (3 * m + i) = 1
      · have zz : zb (Int32.ofNat (im 13 (3 * m + i))) = true := by rw [cf]; exact zb1
        refine ⟨false, ?_, (fun e => nomatch e), fun w => absurd cf (w i (by omega) (by omega) cb)⟩
        simp (disch := omega) only [F_Vf_mayLeave_63, hW, hM, h1, n_le, if_neg, if_pos, lit32, hkb', n_nl0, n_cl, false_or, cM7 hM, cMr hM, hrg.2.2.2.1, zz, ite_true, ite_false, if_true, if_false, Bool.false_eq_true, and_self, and_true, true_and, and_false, false_and]
      · have cf' : im 13 (3 * m + i) = 0 := by omega
        have zz : zb (Int32.ofNat (im 13 (3 * m + i))) = false := by rw [cf']; exact zb0
        refine ⟨b, ?_, ?_⟩
        · simp (disch := omega) only [F_Vf_mayLeave_63, F_Vf_mayLeave_104, hW, hM, h1, n_le, if_neg, if_pos, lit32, hkb', n_nl0, n_cl, false_or, cM7 hM, cMr hM, hrg.2.2.2.1, zz, n_add, hF, ite_true, ite_false, if_true, if_false, Bool.false_eq_true, and_self, and_true, true_and, and_false, false_and]
        · rw [hP]
          constructor
          · intro w r a b' d
            by_cases e : r = i
            · rw [e]; exact cf
            · exact w r (by omega) b' d
          · intro w r a b' d
            exact w r (by omega) b' d
    · have hkb' : ¬ _ := fun e => cb (hkb.mp e)
      refine ⟨b, ?_, ?_⟩
      · simp (disch := omega) only [F_Vf_mayLeave_63, F_Vf_mayLeave_104, hW, hM, h1, n_le, if_neg, if_pos, lit32, hkb', n_add, hF, ite_true, ite_false, if_true, if_false, Bool.false_eq_true, and_self, and_true, true_and, and_false, false_and]
      · rw [hP]
        constructor
        · intro w r a b' d
          by_cases e : r = i
          · rw [e] at d; exact absurd d cb
          · exact w r (by omega) b' d
        · intro w r a b' d
          exact w r (by omega) b' d
theorem c_mayLeave {im : Im} {m IA : Nat} {σ : SG} {x1 x : Int32} {z1 z : Int} (h : ImC σ IA im) (hW : σ.2.2.1 120 1 = IA + 4 + 9 * m) (hm : m < im 0 1) (hx1 : x1.toInt = z1) (hx : x.toInt = z) :
    ∃ b, F_Vf_mayLeave 120 x1 x σ = some (b, σ) ∧ (b = true ↔ mayL im m z1 z) := by
  have hM := d_Mc h hm
  obtain ⟨h1, h2⟩ := IC_rc h hm
  obtain ⟨p1, hp1, kp1⟩ := a_parts h hm hx1
  obtain ⟨p2, hp2, kp2⟩ := a_parts h hm hx
  obtain ⟨q1, hq1, kq1⟩ := a_hand h hm hx1
  obtain ⟨q2, hq2, kq2⟩ := a_hand h hm hx
  have b1 := Msk_8 kp1 h2
  have b2 := Msk_8 kp2 h2
  have b3 := Msk_8 kq1 h2
  have b4 := Msk_8 kq2 h2
  obtain ⟨bg, hbg, ebg, kbg⟩ := k_dif b3 b4
  have hs1 := k_sub b2 b1
  have hs2 := k_sub b4 b3
  by_cases c1 : (Int32.ofNat p2 &&& (Int32.ofNat p1 ^^^ (-Int32.ofNat 1))) = Int32.ofNat 0
  · by_cases c2 : (Int32.ofNat q2 &&& (Int32.ofNat q1 ^^^ (-Int32.ofNat 1))) = Int32.ofNat 0
    · have e1 := hs1.mp c1
      have e2 := hs2.mp c2
      obtain ⟨b, hF, hb⟩ := c_leave_l h hW hm hbg (im 9 m) 0 5000 (by omega) (by omega)
      refine ⟨b, ?_, ?_⟩
      · simp (disch := omega) only [F_Vf_mayLeave, hW, hM, if_pos, hp1, hp2, hq1, hq2, lit32, c1, c2, ebg, hF, ite_true, ite_false, if_true, if_false, Bool.false_eq_true, and_self, and_true, true_and, and_false, false_and]
      · rw [hb]
        constructor
        · intro w r hr
          refine ⟨fun y => ?_, fun y => ?_, fun y y' => w r (by omega) hr ?_⟩
          · have := e1 r (by omega)
            rw [kp1.2 r (by omega), kp2.2 r (by omega)] at this
            exact (this ⟨hr, y⟩).2
          · have := e2 r (by omega)
            rw [kq1.2 r (by omega), kq2.2 r (by omega)] at this
            exact (this ⟨hr, y⟩).2
          · rw [kbg r (by omega), kq1.2 r (by omega), kq2.2 r (by omega)]
            exact ⟨⟨hr, y⟩, fun y => y' y.2⟩
        · intro w r a hr d
          rw [kbg r (by omega), kq1.2 r (by omega), kq2.2 r (by omega)] at d
          exact (w r hr).2.2 d.1.2 (fun y => d.2 ⟨hr, y⟩)
    · refine ⟨false, ?_, (fun e => nomatch e), fun w => ?_⟩
      · simp (disch := omega) only [F_Vf_mayLeave, F_Vf_mayLeave_50, hW, hM, if_pos, if_neg, hp1, hp2, hq1, hq2, lit32, c1, c2, ite_true, ite_false, if_true, if_false, Bool.false_eq_true, and_self, and_true, true_and, and_false, false_and]
      · exfalso
        refine c2 (hs2.mpr (fun r hr y => ?_))
        rw [kq2.2 r hr] at y
        rw [kq1.2 r hr]
        exact ⟨y.1, (w r y.1).2.1 y.2⟩
  · refine ⟨false, ?_, (fun e => nomatch e), fun w => ?_⟩
    · simp (disch := omega) only [F_Vf_mayLeave, F_Vf_mayLeave_50, hW, hM, if_pos, if_neg, hp1, hp2, hq1, hq2, lit32, c1, ite_true, ite_false, if_true, if_false, Bool.false_eq_true, and_self, and_true, true_and, and_false, false_and]
    · exfalso
      refine c1 (hs1.mpr (fun r hr y => ?_))
      rw [kp2.2 r hr] at y
      rw [kp1.2 r hr]
      exact ⟨y.1, (w r y.1).1 y.2⟩
/-- the handlers -/
theorem hRow_GO (im : Im) (m r : Nat) : GO (some (hRow im m r)) := by
  intro l hl
  cases hl
  unfold hRow
  split
  · exact ⟨by simp, by simp⟩
  · refine ⟨by simp, fun t ht => ?_⟩
    rw [List.mem_singleton] at ht
    omega
theorem c_hand_l {im : Im} {m IA : Nat} {p : Nat} (hp : p < 1000) (hm : m < im 0 1) :
    ∀ c i fuel σ R L, VS im m IA σ R L → i + c = im 9 m → c < fuel → ∃ b σ1, F_Vf_reachHandlers_2 fuel 120 (Int32.ofNat p) (Int32.ofNat i) σ = some (b, σ1) ∧ Post im m IA σ R L b σ1 (fun Q => ∀ r, i ≤ r → r < im 9 m → iP im m r p → Rch im m Q (im 11 (3 * m + r)) (some (hRow im m r))) := by
  intro c
  induction c with
  | zero =>
    intro i fuel σ R L hV hi hf
    obtain ⟨fuel, rfl⟩ : ∃ x, fuel = x + 1 := ⟨fuel - 1, by omega⟩
    have h := VS_I hV
    have hM := d_Mc h hm
    have hW := VS_W hV
    obtain ⟨h1, h2⟩ := IC_rc h hm
    refine ⟨true, σ, ?_, Post_triv hV (fun _ r a b => by omega) (fun _ _ _ => rfl)⟩
    simp (disch := omega) only [F_Vf_reachHandlers_2, hW, hM, h1, n_le, if_pos, ite_true, ite_false, if_true, if_false, Bool.false_eq_true, and_self, and_true, true_and, and_false, false_and]
  | succ c ih =>
    intro i fuel σ R L hV hi hf
    obtain ⟨fuel, rfl⟩ : ∃ x, fuel = x + 1 := ⟨fuel - 1, by omega⟩
    have h := VS_I hV
    have hM := d_Mc h hm
    have hW := VS_W hV
    obtain ⟨h1, h2⟩ := IC_rc h hm
    obtain ⟨r1, r2, r3, r4, r5, r6, r7, r8⟩ := IC_rg (r := i) h hm (by omega)
    obtain ⟨kb, hk, hkb⟩ := a_keeps (r := i) (x := Int32.ofNat p) (z := p) h hm (by omega) (n_int (by omega))
    -- the row with which the handler is reached
    have hrow : ∃ y, y = encO (some (hRow im m i)) ∧ F_Vf_reachHandlers_2 (fuel + 1) 120 (Int32.ofNat p) (Int32.ofNat i) σ = F_Vf_reachHandlers_39 (F_Vf_reachHandlers_2 fuel) 120 (Int32.ofNat p) (Int32.ofNat i) (IA + 4 + 9 * m + 4 + i) y σ := by
      by_cases cf : im 13 (3 * m + i) = 1
      · have zz : zb (Int32.ofNat (im 13 (3 * m + i))) = true := by rw [cf]; exact zb1
        refine ⟨Int32.ofNat 0, by unfold hRow; rw [if_pos cf]; rfl, ?_⟩
        simp (disch := omega) only [F_Vf_reachHandlers_2, hW, hM, h1, n_le, if_neg, if_pos, lit32, n_nl0, n_cl, false_or, cM7 hM, cMr hM, r4, zz, ite_true, ite_false, if_true, if_false, Bool.false_eq_true, and_self, and_true, true_and, and_false, false_and]
      · have cf' : im 13 (3 * m + i) = 0 := by omega
        have zz : zb (Int32.ofNat (im 13 (3 * m + i))) = false := by rw [cf']; exact zb0
        have f1 := f_with (o := some []) (t := 1) (fun l hl => by cases hl; exact ⟨by simp, by simp⟩) (by omega) σ
        have f2 : F_Rw_with (Int32.ofNat 0) (Int32.ofNat 1) σ = some (encO ((some []).bind (wth 1)), σ) := f1
        refine ⟨encO ((some []).bind (wth 1)), by unfold hRow; rw [if_neg cf]; rfl, ?_⟩
        simp (disch := omega) only [F_Vf_reachHandlers_2, hW, hM, h1, n_le, if_neg, if_pos, lit32, n_nl0, n_cl, false_or, cM7 hM, cMr hM, r4, zz, f2, ite_true, ite_false, if_true, if_false, Bool.false_eq_true, and_self, and_true, true_and, and_false, false_and]
    obtain ⟨y, ey, hF0⟩ := hrow
    rw [hF0, ey]
    cases kb with
    | false =>
      obtain ⟨b, σ1, hF, hP⟩ := ih (i + 1) fuel σ R L hV (by omega) (by omega)
      refine ⟨b, σ1, ?_, Post_iff hP (fun Q => ⟨fun w r a b' d => ?_, fun w r a b' d => w r (by omega) b' d⟩)⟩
      · simp (disch := omega) only [F_Vf_reachHandlers_39, F_Vf_reachHandlers_64, hk, if_neg, lit32, n_add, hF, ite_true, ite_false, if_true, if_false, Bool.false_eq_true, and_self, and_true, true_and, and_false, false_and]
      · by_cases e : r = i
        · rw [e] at d
          have := hkb.mpr d
          cases this
        · exact w r (by omega) b' d
    | true =>
      have hki := hkb.mp rfl
      obtain ⟨b0, σ0, hF1, hP1⟩ := c_reachP (x := Int32.ofNat (im 11 (3 * m + i))) (z := (im 11 (3 * m + i) : Int)) hV hm (n_int (by omega)) (hRow_GO im m i)
      cases b0 with
      | false =>
        refine ⟨false, σ0, ?_, Post_iff (Post_fail (D := fun Q => ∀ r, i + 1 ≤ r → r < im 9 m → iP im m r p → Rch im m Q (im 11 (3 * m + r)) (some (hRow im m r))) hP1) (fun Q => ⟨fun w r a b' d => ?_, fun w => ⟨w i (by omega) (by omega) hki, fun r a b' d => w r (by omega) b' d⟩⟩)⟩
        · simp (disch := omega) only [F_Vf_reachHandlers_39, hk, if_pos, if_neg, r2, hF1, ite_true, ite_false, if_true, if_false, Bool.false_eq_true, and_self, and_true, true_and, and_false, false_and]
        · by_cases e : r = i
          · rw [e]; exact w.1
          · exact w.2 r (by omega) b' d
      | true =>
        have hfin : ∃ b σ1, F_Vf_reachHandlers_2 fuel 120 (Int32.ofNat p) (Int32.ofNat (i + 1)) σ0 = some (b, σ1) ∧ ∀ R1 L1, VS im m IA σ0 R1 L1 → Post im m IA σ0 R1 L1 b σ1 (fun Q => ∀ r, i + 1 ≤ r → r < im 9 m → iP im m r p → Rch im m Q (im 11 (3 * m + r)) (some (hRow im m r))) := by
          obtain ⟨R1, L1, hV1, -⟩ := hP1
          obtain ⟨b, σ1, hF, -⟩ := ih (i + 1) fuel σ0 R1 L1 hV1 (by omega) (by omega)
          refine ⟨b, σ1, hF, fun R2 L2 hV2 => ?_⟩
          obtain ⟨b', σ1', hF', hP'⟩ := ih (i + 1) fuel σ0 R2 L2 hV2 (by omega) (by omega)
          rw [hF] at hF'
          cases hF'
          exact hP'
        obtain ⟨b, σ1, hF, hP⟩ := hfin
        refine ⟨b, σ1, ?_, Post_iff (Post_seq (fun _ _ a c => Rch_mono c a) hP1 hP) (fun Q => ⟨fun w r a b' d => ?_, fun w => ⟨w i (by omega) (by omega) hki, fun r a b' d => w r (by omega) b' d⟩⟩)⟩
        · simp (disch := omega) only [F_Vf_reachHandlers_39, F_Vf_reachHandlers_64, hk, if_pos, r2, hF1, lit32, n_add, hF, ite_true, ite_false, if_true, if_false, Bool.false_eq_true, and_self, and_true, true_and, and_false, false_and]
        · by_cases e : r = i
          · rw [e]; exact w.1
          · exact w.2 r (by omega) b' d
theorem c_hand {im : Im} {m IA : Nat} {p : Nat} {σ : SG} {R : RQ} {L : List Nat} (hp : p < 1000) (hm : m < im 0 1) (hV : VS im m IA σ R L) : ∃ b σ1, F_Vf_reachHandlers 120 (Int32.ofNat p) σ = some (b, σ1) ∧ Post im m IA σ R L b σ1 (fun Q => ∀ r, r < im 9 m → iP im m r p → Rch im m Q (im 11 (3 * m + r)) (some (hRow im m r))) := by
  have h2 := (IC_rc (VS_I hV) hm).2
  obtain ⟨b, σ1, hF, hP⟩ := c_hand_l hp hm (im 9 m) 0 5000 σ R L hV (by omega) (by omega)
  refine ⟨b, σ1, ?_, Post_iff hP (fun Q => ⟨fun w r a => w r (by omega) a, fun w r _ a => w r a⟩)⟩
  simp (disch := omega) only [F_Vf_reachHandlers, lit32, hF, ite_true, ite_false, if_true, if_false, Bool.false_eq_true, and_self, and_true, true_and, and_false, false_and]
theorem a_row {im : Im} {m IA : Nat} {σ : SG} {R : RQ} {L : List Nat} {p : Nat} (hV : VS im m IA σ R L) (hm : m < im 0 1) (hp : p < im 14 m) : F_Me_rowAt (IA + 4 + 9 * m) (Int32.ofNat p) σ = some (encO (R p), σ) := by
  have h := VS_I hV
  have hM := d_Mc h hm
  obtain ⟨h1, h2, h5⟩ := IC_ln h hm
  have h3 := hV.2.2.2.1 p hp
  simp (disch := omega) only [F_Me_rowAt, F_Me_rowAt_22, F_Me_rowAt_12, h1, lit32, n_le, n_lt, n_eq, n_add, n_mul, n_sub, n_cl, n_nl0, n_ne1, n_1ne, n_1lt, n_1le, n_le1, n_lt1, false_or, if_pos, if_neg, cM10 hM, h3, ite_true, ite_false, if_true, if_false, Bool.false_eq_true, and_self, and_true, true_and, and_false, false_and]
theorem c_lies {im : Im} {m IA : Nat} {σ : SG} {R : RQ} {L : List Nat} {p op : Nat} {l : List Nat} (hV : VS im m IA σ R L) (hm : m < im 0 1) (hp : p < im 14 m) (hop : op < 256) (hR : R p = some l) : ∃ b, F_Vf_liesWhereItMay 120 (Int32.ofNat op) (Int32.ofNat p) σ = some (b, σ) ∧ (b = true ↔ lies im m op p l) := by
  have h := VS_I hV
  have hM := d_Mc h hm
  have hW := VS_W hV
  have hln := (IC_ln h hm).2
  obtain ⟨h1, h2⟩ := IC_rc h hm
  have hxp : (Int32.ofNat p).toInt = (p : Int) := n_int (by omega)
  by_cases c4 : op = 34
  · subst c4
    obtain ⟨a, ha, ka⟩ := a_parts h hm hxp
    obtain ⟨b, hb, kb⟩ := a_hand h hm hxp
    have ba := Msk_8 ka h2
    have bb := Msk_8 kb h2
    have e0 : ∀ y, y < 8 → (y = 0 ↔ ∀ r, r < 3 → ¬ bt y r) := by
      have e0 : ∀ y, y < 8 → (y = 0 ↔ ∀ r, r < 3 → ¬ y / 2 ^ r % 2 = 1) := by decide
      exact e0
    have hl : lies im m 34 p l ↔ a = 0 ∧ b = 0 := by
      rw [e0 a ba, e0 b bb]
      constructor
      · intro w
        have w1 := w.1 rfl
        refine ⟨fun r hr z => ?_, fun r hr z => ?_⟩
        · rw [ka.2 r hr] at z
          exact (w1 r z.1).1 z.2
        · rw [kb.2 r hr] at z
          exact (w1 r z.1).2 z.2
      · intro w
        refine ⟨fun _ r hr => ⟨fun z => ?_, fun z => ?_⟩, fun z => by omega⟩
        · exact w.1 r (by omega) ((ka.2 r (by omega)).mpr ⟨hr, z⟩)
        · exact w.2 r (by omega) ((kb.2 r (by omega)).mpr ⟨hr, z⟩)
    by_cases ca : a = 0
    · by_cases cb : b = 0
      · refine ⟨true, ?_, fun _ => hl.mpr ⟨ca, cb⟩, fun _ => rfl⟩
        simp (disch := omega) only [F_Vf_liesWhereItMay, F_Vf_liesWhereItMay_33, lit32, if_pos, hW, hM, ha, hb, n_eq, ite_true, ite_false, if_true, if_false, Bool.false_eq_true, and_self, and_true, true_and, and_false, false_and]
      · refine ⟨false, ?_, (fun e => nomatch e), fun w => absurd (hl.mp w).2 cb⟩
        simp (disch := omega) only [F_Vf_liesWhereItMay, F_Vf_liesWhereItMay_33, F_Vf_liesWhereItMay_32, lit32, if_pos, if_neg, hW, hM, ha, hb, n_eq, ite_true, ite_false, if_true, if_false, Bool.false_eq_true, and_self, and_true, true_and, and_false, false_and]
    · refine ⟨false, ?_, (fun e => nomatch e), fun w => absurd (hl.mp w).1 ca⟩
      simp (disch := omega) only [F_Vf_liesWhereItMay, F_Vf_liesWhereItMay_33, F_Vf_liesWhereItMay_32, lit32, if_pos, if_neg, hW, hM, ha, hb, n_eq, ite_true, ite_false, if_true, if_false, Bool.false_eq_true, and_self, and_true, true_and, and_false, false_and]
  · by_cases c7 : op = 37
    · subst c7
      obtain ⟨y, hy, hyc⟩ := a_fin h hm hxp
      have hrow := a_row hV hm hp
      rcases hyc with ⟨e, hn⟩ | ⟨r, e, hr⟩
      · refine ⟨false, ?_, (fun e => nomatch e), fun w => ?_⟩
        · have hneg : -Int32.ofNat 1 < Int32.ofNat 0 := by decide
          rw [e] at hy
          simp (disch := omega) only [F_Vf_liesWhereItMay, F_Vf_liesWhereItMay_66, F_Vf_liesWhereItMay_67, lit32, if_pos, if_neg, hW, hM, hy, hneg, n_eq, ite_true, ite_false, if_true, if_false, Bool.false_eq_true, and_self, and_true, true_and, and_false, false_and]
        · obtain ⟨r, hr⟩ := (w.2 rfl).2
          exact absurd hr (hn r)
      · rw [e] at hy
        have hr3 := hr.1
        rw [hR] at hrow
        by_cases cl : l = []
        · have e0 : encO (some l) = Int32.ofNat 0 := by rw [cl]; rfl
          refine ⟨true, ?_, fun _ => ⟨(fun z => by omega), fun _ => ⟨cl, r, hr⟩⟩, fun _ => rfl⟩
          rw [e0] at hrow
          simp (disch := omega) only [F_Vf_liesWhereItMay, F_Vf_liesWhereItMay_66, F_Vf_liesWhereItMay_67, lit32, if_pos, if_neg, hW, hM, hy, n_nl0, hrow, n_eq, ite_true, ite_false, if_true, if_false, Bool.false_eq_true, and_self, and_true, true_and, and_false, false_and]
        · have e0 : ¬ (encO (some l) = Int32.ofNat 0) := fun z => cl (by
            have hg := hV.2.2.2.2.1 p
            rw [hR] at hg
            have := (encO_inj hg (p := some []) (fun l hl => by cases hl; exact ⟨by simp, by simp⟩)).mp z
            cases this
            rfl)
          refine ⟨false, ?_, (fun e => nomatch e), fun w => absurd (w.2 rfl).1 cl⟩
          simp (disch := omega) only [F_Vf_liesWhereItMay, F_Vf_liesWhereItMay_66, F_Vf_liesWhereItMay_67, lit32, if_pos, if_neg, hW, hM, hy, n_nl0, hrow, e0, n_eq, ite_true, ite_false, if_true, if_false, Bool.false_eq_true, and_self, and_true, true_and, and_false, false_and]
    · refine ⟨true, ?_, fun _ => ⟨(fun z => absurd z c4), (fun z => absurd z c7)⟩, fun _ => rfl⟩
      simp (disch := omega) only [F_Vf_liesWhereItMay, lit32, n_eq, if_neg, ite_true, ite_false, if_true, if_false, Bool.false_eq_true, and_self, and_true, true_and, and_false, false_and]
/-- where it goes -/
def nextC (im : Im) (m op k p : Nat) (o : Option (List Nat)) (Q : RQ) : Prop :=
  (op = 36 → mayL im m p (p + 2 + sg k) ∧ Rch im m Q (p + 2 + sg k) (some [])) ∧
  (op = 13 ∨ op = 14 ∨ op = 15 → goOK im m p (p + 2 + sg k) o ∧ Rch im m Q (p + 2 + sg k) o) ∧
  (op ≠ 13 → op < 34 → goOK im m p (p + wdt op : Nat) o ∧ Rch im m Q (p + wdt op : Nat) o)
theorem detP {im : Im} {m IA : Nat} {F : SG → Option (Bool × SG)} {C : RQ → Prop} {σ0 : SG} (hex : ∃ R L, VS im m IA σ0 R L) (hF : ∀ R L, VS im m IA σ0 R L → ∃ b σ1, F σ0 = some (b, σ1) ∧ Post im m IA σ0 R L b σ1 C) : ∃ b σ1, F σ0 = some (b, σ1) ∧ ∀ R L, VS im m IA σ0 R L → Post im m IA σ0 R L b σ1 C := by
  obtain ⟨R, L, hV⟩ := hex
  obtain ⟨b, σ1, h1, -⟩ := hF R L hV
  refine ⟨b, σ1, h1, fun R L hV => ?_⟩
  obtain ⟨b', σ1', h1', h2'⟩ := hF R L hV
  rw [h1] at h1'
  cases h1'
  exact h2'
theorem Post_ex {im : Im} {m IA : Nat} {σ σ1 : SG} {R : RQ} {L : List Nat} {b : Bool} {C : RQ → Prop} (h : Post im m IA σ R L b σ1 C) : ∃ R L, VS im m IA σ1 R L := by
  obtain ⟨R1, L1, hV1, -⟩ := h
  exact ⟨R1, L1, hV1⟩
theorem c_next63 {im : Im} {m IA : Nat} {σ : SG} {R : RQ} {L : List Nat} {p op : Nat} {o : Option (List Nat)} (hV : VS im m IA σ R L) (hm : m < im 0 1) (hp : p < im 14 m) (hop : op < 256) (ho : GO o) :
    ∃ b σ1, F_Vf_reachNext_63 120 (Int32.ofNat p) (Int32.ofNat op) (encO o) σ = some (b, σ1) ∧ Post im m IA σ R L b σ1 (fun Q => op ≠ 13 → op < 34 → goOK im m p (p + wdt op : Nat) o ∧ Rch im m Q (p + wdt op : Nat) o) := by
  have hln := (IC_ln (VS_I hV) hm).2
  have hb := a_behind hop σ
  have hw := a_width hop σ
  by_cases c : op ≠ 13 ∧ op < 34
  · rw [decide_eq_true c] at hb
    have hw2 := wdt_2 op
    obtain ⟨b, σ1, hF, hP⟩ := c_goOn (x1 := Int32.ofNat p) (x := Int32.ofNat (p + wdt op)) (z1 := p) (z := (p + wdt op : Nat)) hV hm (n_int (by omega)) (n_int (by omega)) ho
    refine ⟨b, σ1, ?_, Post_iff hP (fun Q => ⟨fun w _ _ => w, fun w => w c.1 c.2⟩)⟩
    cases b <;> simp (disch := omega) only [F_Vf_reachNext_63, F_Vf_reachNext_86, F_Vf_reachNext_91, hb, hw, if_pos, if_neg, n_add, hF, ite_true, ite_false, if_true, if_false, Bool.false_eq_true, and_self, and_true, true_and, and_false, false_and]
  · rw [decide_eq_false c] at hb
    refine ⟨true, σ, ?_, Post_triv hV (fun _ a b => absurd ⟨a, b⟩ c) (fun _ _ _ => rfl)⟩
    simp (disch := omega) only [F_Vf_reachNext_63, F_Vf_reachNext_86, F_Vf_reachNext_91, hb, if_neg, ite_true, ite_false, if_true, if_false, Bool.false_eq_true, and_self, and_true, true_and, and_false, false_and]
theorem c_next {im : Im} {m IA : Nat} {σ : SG} {R : RQ} {L : List Nat} {p op k : Nat} {o : Option (List Nat)} (hV : VS im m IA σ R L) (hm : m < im 0 1) (hp : p < im 14 m) (hop : op < 256) (hk : k < 256) (ho : GO o) :
    ∃ b σ1, F_Vf_reachNext 120 (Int32.ofNat p) (Int32.ofNat op) (Int32.ofNat k) (encO o) σ = some (b, σ1) ∧ Post im m IA σ R L b σ1 (nextC im m op k p o) := by
  have h := VS_I hV
  have hW := VS_W hV
  have hln := (IC_ln h hm).2
  obtain ⟨x, hx, hxs⟩ := a_signed hk σ
  have ht := a_tgt (p := p) (by omega) hk hxs
  have hxp : (Int32.ofNat p).toInt = (p : Int) := n_int (by omega)
  by_cases c6 : op = 36
  · subst c6
    obtain ⟨b0, hF0, hb0⟩ := c_mayLeave h hW hm hxp ht
    have hnx : ∀ Q, nextC im m 36 k p o Q ↔ mayL im m p (p + 2 + sg k) ∧ Rch im m Q (p + 2 + sg k) (some []) := by
      intro Q
      refine ⟨fun w => w.1 rfl, fun w => ⟨fun _ => w, fun z => by omega, fun _ z => by omega⟩⟩
    cases b0 with
    | false =>
      refine ⟨false, σ, ?_, Post_triv hV (fun e => nomatch e) (fun Q _ w => ?_)⟩
      · simp (disch := omega) only [F_Vf_reachNext, F_Vf_reachNext_40, F_Vf_reachNext_41, hx, lit32, if_pos, hF0, if_neg, ite_true, ite_false, if_true, if_false, Bool.false_eq_true, and_self, and_true, true_and, and_false, false_and]
      · exact hb0.mpr ((hnx Q).mp w).1
    | true =>
      have hmay := hb0.mp rfl
      obtain ⟨b, σ1, hF, hP⟩ := c_reachP (o := some []) hV hm ht (fun l hl => by cases hl; exact ⟨by simp, by simp⟩)
      have hF' : F_Vf_reach 120 (Int32.ofNat p + Int32.ofNat 2 + x) (Int32.ofNat 0) σ = some (b, σ1) := hF
      refine ⟨b, σ1, ?_, Post_iff hP (fun Q => ⟨fun w => (hnx Q).mpr ⟨hmay, w⟩, fun w => ((hnx Q).mp w).2⟩)⟩
      cases b <;> simp (disch := omega) only [F_Vf_reachNext, F_Vf_reachNext_40, F_Vf_reachNext_41, hx, lit32, if_pos, hF0, if_neg, hF', ite_true, ite_false, if_true, if_false, Bool.false_eq_true, and_self, and_true, true_and, and_false, false_and]
  · have hj := a_jumps hop σ
    by_cases cj : op = 13 ∨ op = 14 ∨ op = 15
    · rw [decide_eq_true cj] at hj
      obtain ⟨b0, σ0, hF0, hP0⟩ := c_goOn hV hm hxp ht ho
      have hnx : ∀ Q, nextC im m op k p o Q ↔ (goOK im m p (p + 2 + sg k) o ∧ Rch im m Q (p + 2 + sg k) o) ∧ (op ≠ 13 → op < 34 → goOK im m p (p + wdt op : Nat) o ∧ Rch im m Q (p + wdt op : Nat) o) := by
        intro Q
        refine ⟨fun w => ⟨w.2.1 cj, w.2.2⟩, fun w => ⟨fun z => absurd z c6, fun _ => w.1, w.2⟩⟩
      cases b0 with
      | false =>
        refine ⟨false, σ0, ?_, Post_iff (Post_fail (D := fun Q => op ≠ 13 → op < 34 → goOK im m p (p + wdt op : Nat) o ∧ Rch im m Q (p + wdt op : Nat) o) hP0) (fun Q => (hnx Q).symm)⟩
        simp (disch := omega) only [F_Vf_reachNext, hx, lit32, n_eq, if_neg, hj, if_pos, hF0, ite_true, ite_false, if_true, if_false, Bool.false_eq_true, and_self, and_true, true_and, and_false, false_and]
      | true =>
        obtain ⟨b, σ1, hF, hP⟩ := detP (F := fun s => F_Vf_reachNext_63 120 (Int32.ofNat p) (Int32.ofNat op) (encO o) s) (Post_ex hP0) (fun R L hV => c_next63 hV hm hp hop ho)
        refine ⟨b, σ1, ?_, Post_iff (Post_seq (fun _ _ a c => ⟨c.1, Rch_mono c.2 a⟩) hP0 hP) (fun Q => (hnx Q).symm)⟩
        simp (disch := omega) only [F_Vf_reachNext, hx, lit32, n_eq, if_neg, hj, if_pos, hF0, ite_true, ite_false, if_true, if_false, Bool.false_eq_true, and_self, and_true, true_and, and_false, false_and]
        exact hF
    · rw [decide_eq_false cj] at hj
      obtain ⟨b, σ1, hF, hP⟩ := c_next63 hV hm hp hop ho
      refine ⟨b, σ1, ?_, Post_iff hP (fun Q => ⟨fun w => ⟨fun z => absurd z c6, fun z => absurd z cj, w⟩, fun w => w.2.2⟩)⟩
      simp (disch := omega) only [F_Vf_reachNext, hx, lit32, n_eq, if_neg, hj, hF, ite_true, ite_false, if_true, if_false, Bool.false_eq_true, and_self, and_true, true_and, and_false, false_and]
theorem nextC_mono {im : Im} {m op k p : Nat} {o : Option (List Nat)} {R Q : RQ} (h : LeQ R Q) (w : nextC im m op k p o R) : nextC im m op k p o Q :=
  ⟨fun z => ⟨(w.1 z).1, Rch_mono (w.1 z).2 h⟩, fun z => ⟨(w.2.1 z).1, Rch_mono (w.2.1 z).2 h⟩, fun a b => ⟨(w.2.2 a b).1, Rch_mono (w.2.2 a b).2 h⟩⟩
theorem c_95 {im : Im} {m IA : Nat} {σ : SG} {R : RQ} {L : List Nat} {p op k : Nat} {l : List Nat} {o : Option (List Nat)} (hV : VS im m IA σ R L) (hm : m < im 0 1) (hp : p < im 14 m) (hop : op < 256) (hk : k < 256) (ho : GO o) (hR : R p = some l) :
    ∃ b σ1, F_Vf_follow_95 120 (Int32.ofNat p) (Int32.ofNat op) (Int32.ofNat k) (encO o) σ = some (b, σ1) ∧ Post im m IA σ R L b σ1 (fun Q => (o ≠ none ∧ lies im m op p l) ∧ ((∀ r, r < im 9 m → iP im m r p → Rch im m Q (im 11 (3 * m + r)) (some (hRow im m r))) ∧ nextC im m op k p o Q)) := by
  have hln := (IC_ln (VS_I hV) hm).2
  cases o with
  | none =>
    refine ⟨false, σ, ?_, Post_triv hV (fun e => nomatch e) (fun Q _ w => absurd rfl w.1.1)⟩
    simp (disch := omega) only [F_Vf_follow_95, F_Vf_follow_134, F_Vf_follow_135, lit32, encO, if_pos, ite_true, ite_false, if_true, if_false, Bool.false_eq_true, and_self, and_true, true_and, and_false, false_and]
  | some lo =>
    have hne : ¬ (encO (some lo) = -Int32.ofNat 1) := fun e => by
      have := (encO_none ho).mp e
      cases this
    obtain ⟨b0, hF0, hb0⟩ := c_lies hV hm hp hop hR
    cases b0 with
    | false =>
      refine ⟨false, σ, ?_, Post_triv hV (fun e => nomatch e) (fun Q _ w => hb0.mpr w.1.2)⟩
      simp (disch := omega) only [F_Vf_follow_95, F_Vf_follow_134, F_Vf_follow_135, lit32, hne, if_neg, hF0, ite_true, ite_false, if_true, if_false, Bool.false_eq_true, and_self, and_true, true_and, and_false, false_and]
    | true =>
      have hlie := hb0.mp rfl
      obtain ⟨b1, σ1, hF1, hP1⟩ := c_hand (p := p) (by omega) hm hV
      cases b1 with
      | false =>
        refine ⟨false, σ1, ?_, Post_iff (Post_fail (D := nextC im m op k p (some lo)) hP1) (fun Q => ⟨fun w => ⟨⟨by simp, hlie⟩, w⟩, fun w => w.2⟩)⟩
        simp (disch := omega) only [F_Vf_follow_95, F_Vf_follow_134, F_Vf_follow_135, lit32, hne, if_neg, if_pos, hF0, hF1, ite_true, ite_false, if_true, if_false, Bool.false_eq_true, and_self, and_true, true_and, and_false, false_and]
      | true =>
        obtain ⟨b, σ2, hF, hP⟩ := detP (F := fun s => F_Vf_reachNext 120 (Int32.ofNat p) (Int32.ofNat op) (Int32.ofNat k) (encO (some lo)) s) (Post_ex hP1) (fun R L hV => c_next hV hm hp hop hk ho)
        have hF' : F_Vf_reachNext 120 (Int32.ofNat p) (Int32.ofNat op) (Int32.ofNat k) (encO (some lo)) σ1 = some (b, σ2) := hF
        refine ⟨b, σ2, ?_, Post_iff (Post_seq (fun _ _ a c r d e => Rch_mono (c r d e) a) hP1 hP) (fun Q => ⟨fun w => ⟨⟨by simp, hlie⟩, w⟩, fun w => w.2⟩)⟩
        cases b <;> simp (disch := omega) only [F_Vf_follow_95, F_Vf_follow_134, F_Vf_follow_135, lit32, hne, if_neg, if_pos, hF0, hF1, hF', ite_true, ite_false, if_true, if_false, Bool.false_eq_true, and_self, and_true, true_and, and_false, false_and]
theorem GO_ite {c : Prop} [Decidable c] {a b : Option (List Nat)} (ha : GO a) (hb : GO b) : GO (if c then a else b) := by
  by_cases h : c
  · rw [if_pos h]; exact ha
  · rw [if_neg h]; exact hb
theorem Tr_GO {σ : SG} {IA : Nat} {im : Im} {m op k : Nat} {o : Option (List Nat)} (h : ImC σ IA im) (hm : m < im 0 1) (ho : GO o) : GO (Tr im m op k o) := by
  have tl := lty_lt (k := k) h hm
  have ta := aty_lt (k := k) h hm
  have tf := fty_lt (k := k) h
  have tp := plc_lt (lty im m k)
  have tp2 := plc_lt (fty im k)
  have to := obj_lt (k := k) h
  have tn := nuT_lt (k := k) h
  have te := neT_lt (k := k) h
  have hcall : GO (callT im k o) := by
    unfold callT
    split
    · rename_i c
      have := res_lt h c
      split
      · exact popA_GO _ _ ho
      · exact GO_wth (popA_GO _ _ ho) (by omega)
    · intro l hl; cases hl
  have hd : GO (o.bind (fun l => wth (l.headD 0) l)) := by
    cases o with
    | none => intro l hl; cases hl
    | some x => exact GO_wth (o := some x) ho (head_lt (ho x rfl))
  have hdr : GO (o.bind (fun l => wot (l.headD 0) l)) := by
    cases o with
    | none => intro l hl; cases hl
    | some x => exact GO_wot (o := some x) (t := x.headD 0) ho
  unfold Tr
  repeat' first | exact ho | exact hcall | exact hd | exact hdr | exact GO_wot ho | exact GO_wot (GO_wot ho) | exact GO_wot (GO_wot (GO_wot ho)) | (refine GO_wth ho ?_; omega) | (refine GO_wth (GO_wot ho) ?_; omega) | (refine GO_wth (GO_wot (GO_wot ho)) ?_; omega) | refine GO_ite ?_ ?_
/-- the mark of the methods that are called -/
def clM (im : Im) (m p : Nat) (x : Int32) : Int32 := if cdA im m p = 33 ∧ cdA im m (p + 1) < im 0 1 then x ||| (Int32.ofNat 1 <<< (Int32.ofNat (cdA im m (p + 1)) &&& Int32.ofNat 31)) else x
theorem VS_calls {im : Im} {m IA : Nat} {σ : SG} {R : RQ} {L : List Nat} {v : Int32} (hV : VS im m IA σ R L) (hm : m < im 0 1) : VS im m IA (setI σ (IA + 4 + 9 * m) 11 v) R L := by
  have h6 := (IC_M hV.2.1 hm).1
  have hIA := hV.2.1.1
  obtain ⟨h1, h, hB, hRw, hGO, hRl, hct, hLs, hnd, hmem⟩ := hV
  refine ⟨h1, ?_, hB, hRw, hGO, hRl, ?_, hLs, hnd, hmem⟩
  · exact ImC_vfr (m := m) h hm ⟨rfl, rfl, rfl, fun x f h1 h2 => by rw [rI, if_neg h2], fun x f h1 h2 => rfl⟩
  · rw [rI, if_neg (by omega)]
    exact hct
theorem c_follow {im : Im} {m IA : Nat} {σ : SG} {R : RQ} {L : List Nat} {p : Nat} {l : List Nat} (hV : VS im m IA σ R L) (hm : m < im 0 1) (hR : R p = some l) :
    ∃ b σ1, F_Vf_follow 120 (Int32.ofNat p) σ = some (b, σ1) ∧ ∃ R1 L1, VS im m IA σ1 R1 L1 ∧ LeQ R R1 ∧ (b = true → OKat im m R1 p l) ∧ (∀ Q, LeQ R Q → OKat im m Q p l → b = true ∧ LeQ R1 Q) ∧ Vfr m IA σ σ1 ∧ σ1.1 (IA + 4 + 9 * m) 11 = clM im m p (σ.1 (IA + 4 + 9 * m) 11) ∧ ∃ t, L1 = L ++ t := by
  have h := VS_I hV
  have hM := d_Mc h hm
  have hW := VS_W hV
  have hV1 := hV.1.1
  have hln := (IC_ln h hm).2
  have hp : p < im 14 m := hV.2.2.2.2.2.1 p (by rw [hR]; simp)
  have c1 := a_code (p := p) h hm (by omega)
  have c2 := a_code (p := p + 1) h hm (by omega)
  have k1 := cdA_le (p := p) h hm
  have k2 := cdA_le (p := p + 1) h hm
  have hrow := a_row hV hm hp
  rw [hR] at hrow
  have hl : Gr l := hV.2.2.2.2.1 p l hR
  have hg : GO (some l) := fun x e => by cases e; exact hl
  have hTr := Tr_GO (op := cdA im m p) (k := cdA im m (p + 1)) h hm hg
  have hfin : ∀ Q, ((Tr im m (cdA im m p) (cdA im m (p + 1)) (some l) ≠ none ∧ lies im m (cdA im m p) p l) ∧ ((∀ r, r < im 9 m → iP im m r p → Rch im m Q (im 11 (3 * m + r)) (some (hRow im m r))) ∧ nextC im m (cdA im m p) (cdA im m (p + 1)) p (Tr im m (cdA im m p) (cdA im m (p + 1)) (some l)) Q)) ↔ OKat im m Q p l := by
    intro Q
    exact ⟨fun w => ⟨w.1.1, w.1.2, w.2.1, w.2.2.1, w.2.2.2.1, w.2.2.2.2⟩, fun w => ⟨⟨w.1, w.2.1⟩, w.2.2.1, w.2.2.2.1, w.2.2.2.2.1, w.2.2.2.2.2⟩⟩
  by_cases g33 : 33 ≤ cdA im m p
  · have hfl := r_flow (op := cdA im m p) (k := cdA im m (p + 1)) h hm (by omega) hl hV1 hW g33 (by omega)
    by_cases cc : cdA im m p = 33 ∧ cdA im m (p + 1) < im 0 1
    · rw [if_pos cc] at hfl
      have hV2 := VS_calls (v := σ.1 (IA + 4 + 9 * m) 11 ||| (Int32.ofNat 1 <<< (Int32.ofNat (cdA im m (p + 1)) &&& Int32.ofNat 31))) hV hm
      have hfr : Vfr m IA σ (setI σ (IA + 4 + 9 * m) 11 (σ.1 (IA + 4 + 9 * m) 11 ||| (Int32.ofNat 1 <<< (Int32.ofNat (cdA im m (p + 1)) &&& Int32.ofNat 31)))) := ⟨rfl, rfl, rfl, fun x f _ h2 => by rw [rI, if_neg h2], fun _ _ _ _ => rfl⟩
      obtain ⟨b, σ1, hF, hP⟩ := c_95 (op := cdA im m p) (k := cdA im m (p + 1)) hV2 hm hp (by omega) (by omega) hTr hR
      obtain ⟨R1, L1, q1, q2, q3, q4, q5, q6, q7⟩ := Post_iff hP hfin
      refine ⟨b, σ1, ?_, R1, L1, q1, q2, q3, q4, Vfr_trans hfr q5, ?_, q7⟩
      · simp (disch := omega) only [F_Vf_follow, hW, hM, if_pos, c1, lit32, n_add, c2, hrow, n_lt, hfl, hF, ite_true, ite_false, if_true, if_false, Bool.false_eq_true, and_self, and_true, true_and, and_false, false_and]
      · rw [q6, rI, if_pos ⟨rfl, rfl⟩]
        unfold clM
        rw [if_pos cc]
    · rw [if_neg cc] at hfl
      obtain ⟨b, σ1, hF, hP⟩ := c_95 (op := cdA im m p) (k := cdA im m (p + 1)) hV hm hp (by omega) (by omega) hTr hR
      obtain ⟨R1, L1, q1, q2, q3, q4, q5, q6, q7⟩ := Post_iff hP hfin
      refine ⟨b, σ1, ?_, R1, L1, q1, q2, q3, q4, q5, ?_, q7⟩
      · simp (disch := omega) only [F_Vf_follow, hW, hM, if_pos, c1, lit32, n_add, c2, hrow, n_lt, hfl, hF, ite_true, ite_false, if_true, if_false, Bool.false_eq_true, and_self, and_true, true_and, and_false, false_and]
      · rw [q6]
        unfold clM
        rw [if_neg cc]
  · have cc : ¬ (cdA im m p = 33 ∧ cdA im m (p + 1) < im 0 1) := by omega
    obtain ⟨b, σ1, hF, hP⟩ := c_95 (op := cdA im m p) (k := cdA im m (p + 1)) hV hm hp (by omega) (by omega) hTr hR
    obtain ⟨R1, L1, q1, q2, q3, q4, q5, q6, q7⟩ := Post_iff hP hfin
    refine ⟨b, σ1, ?_, R1, L1, q1, q2, q3, q4, q5, ?_, q7⟩
    · by_cases g26 : 26 ≤ cdA im m p
      · have hv := r_value (σ := σ) (im := im) (m := m) (k := cdA im m (p + 1)) hl g26 (by omega)
        simp (disch := omega) only [F_Vf_follow, hW, hM, if_pos, if_neg, c1, lit32, n_add, c2, hrow, n_lt, hv, hF, ite_true, ite_false, if_true, if_false, Bool.false_eq_true, and_self, and_true, true_and, and_false, false_and]
      · by_cases g16 : 16 ≤ cdA im m p
        · have hv := r_thing (op := cdA im m p) (k := cdA im m (p + 1)) h hm (by omega) hl hV1 hW g16 (by omega)
          simp (disch := omega) only [F_Vf_follow, hW, hM, if_pos, if_neg, c1, lit32, n_add, c2, hrow, n_lt, hv, hF, ite_true, ite_false, if_true, if_false, Bool.false_eq_true, and_self, and_true, true_and, and_false, false_and]
        · have hv := r_simple (op := cdA im m p) (k := cdA im m (p + 1)) h hm (by omega) hl hV1 hW (by omega)
          simp (disch := omega) only [F_Vf_follow, hW, hM, if_pos, if_neg, c1, lit32, n_add, c2, hrow, n_lt, hv, hF, ite_true, ite_false, if_true, if_false, Bool.false_eq_true, and_self, and_true, true_and, and_false, false_and]
    · rw [q6]
      unfold clM
      rw [if_neg cc]
