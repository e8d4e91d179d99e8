/-! The reference meets places. -/
def hiO : Option (List Nat) → Int32
  | none => -Int32.ofNat 1
  | some l => Int32.ofNat l.length
def RS (im : Im) (m : Nat) (σ : SG) (R : RQ) : Prop := (∀ p, p < im 14 m → σ.2.2.2.1 17 (100 * m + p) = hiO (R p) ∧ ∀ l, R p = some l → σ.2.2.2.2 18 (100 * m + p) = Int64.ofNat (enc l)) ∧ (∀ p, GO (R p)) ∧ (∀ p, R p ≠ none → p < im 14 m)
def FM (m : Nat) (σ σ1 : SG) : Prop := (∀ a f, ¬ (a = 0 ∧ (f = 25 ∨ f = 27)) → σ1.1 a f = σ.1 a f) ∧ (∀ a f, ¬ (a = 0 ∧ f = 26) → σ1.2.1 a f = σ.2.1 a f) ∧ σ1.2.2.1 = σ.2.2.1 ∧ (∀ a f, ¬ (a = 17 ∧ 100 * m ≤ f ∧ f < 100 * m + 100) → σ1.2.2.2.1 a f = σ.2.2.2.1 a f) ∧ (∀ a f, ¬ (a = 18 ∧ 100 * m ≤ f ∧ f < 100 * m + 100) → σ1.2.2.2.2 a f = σ.2.2.2.2 a f)
theorem FM_refl (m : Nat) (σ : SG) : FM m σ σ := ⟨fun _ _ _ => rfl, fun _ _ _ => rfl, rfl, fun _ _ _ => rfl, fun _ _ _ => rfl⟩
theorem FM_trans {m : Nat} {a b c : SG} (h : FM m a b) (g : FM m b c) : FM m a c :=
  ⟨fun x f p => (g.1 x f p).trans (h.1 x f p), fun x f p => (g.2.1 x f p).trans (h.2.1 x f p), g.2.2.1.trans h.2.2.1, fun x f p => (g.2.2.2.1 x f p).trans (h.2.2.2.1 x f p), fun x f p => (g.2.2.2.2 x f p).trans (h.2.2.2.2 x f p)⟩
theorem QM_FM {m : Nat} {a b : SG} (h : QM a b) : FM m a b :=
  ⟨h.2.2, h.2.1, by rw [h.1], fun _ _ _ => by rw [h.1], fun _ _ _ => by rw [h.1]⟩
theorem BM_FM {im : Im} {m : Nat} {σ σ1 : SG} (h : BM im m σ) (hf : FM m σ σ1) : BM im m σ1 := by
  obtain ⟨⟨h0, h1, h2, h3⟩, h4, h5⟩ := h
  refine ⟨⟨h0, ?_, ?_, fun a k x y => ?_⟩, ?_, fun p hp => ?_⟩
  · rw [hf.1 _ _ (by omega)]; exact h1
  · rw [hf.1 _ _ (by omega)]; exact h2
  · rw [hf.2.2.2.1 _ _ (by omega)]; exact h3 a k x y
  · rw [hf.1 _ _ (by omega)]; exact h4
  · rw [hf.2.2.2.1 _ _ (by omega)]; exact h5 p hp
theorem RS_QM {im : Im} {m : Nat} {σ σ1 : SG} {R : RQ} (h : RS im m σ R) (hq : QM σ σ1) : RS im m σ1 R := by
  refine ⟨fun p hp => ?_, h.2⟩
  rw [hq.1]
  exact h.1 p hp
theorem m_isBeg {im : Im} {m : Nat} {σ : SG} {x : Int32} {z : Int} (hw : WfI im) (hm : m < im 0 1) (h : BM im m σ) (hx : x.toInt = z) : ∃ b, F_Mo_isBeginning 0 x σ = some (b, σ) ∧ (b = true ↔ ∃ q : Nat, z = q ∧ Beg im m q) := by
  obtain ⟨w1, w2, w3, w4, w5, w6, w7, w8, w9, w10, w11⟩ := wf_m hw hm
  have hl := RepM_A h.1 14 m (by omega) (by omega)
  rcases n_case x with hn | ⟨q, hq, rfl⟩
  · refine ⟨false, ?_, ?_⟩
    · unfold F_Mo_isBeginning
      rw [if_pos hn]
      rfl
    · rw [i_lt] at hn
      have h0 : (0 : Int32).toInt = 0 := by decide
      constructor
      · intro e; cases e
      · rintro ⟨q, e, -⟩
        omega
  · rw [n_int hq] at hx
    by_cases c : q < im 14 m
    · cases hz : zb (σ.2.2.2.1 16 (100 * m + q)) with
      | true =>
        refine ⟨true, ?_, fun _ => ⟨q, hx.symm, (h.2.2 q c).mp hz⟩, fun _ => rfl⟩
        simp (disch := omega) only [F_Mo_isBeginning, F_Mo_isBeginning_38, F_Mo_isBeginning_39, lit32, n_nl0, if_neg, h.2.1, n_cl, false_or, cm_18, hl, n_le, n_mul, n_add, cm_20, hz, if_pos, ite_true, ite_false, if_true, if_false, Bool.false_eq_true, and_self, and_true, true_and, and_false, false_and]
      | false =>
        refine ⟨false, ?_, (fun e => nomatch e), ?_⟩
        · simp (disch := omega) only [F_Mo_isBeginning, F_Mo_isBeginning_38, F_Mo_isBeginning_39, lit32, n_nl0, if_neg, h.2.1, n_cl, false_or, cm_18, hl, n_le, n_mul, n_add, cm_20, hz, ite_true, ite_false, if_true, if_false, Bool.false_eq_true, and_self, and_true, true_and, and_false, false_and]
        · rintro ⟨q', e, hb⟩
          have e' : q' = q := by omega
          rw [e'] at hb
          rw [(h.2.2 q c).mpr hb] at hz
          cases hz
    · refine ⟨false, ?_, (fun e => nomatch e), ?_⟩
      · simp (disch := omega) only [F_Mo_isBeginning, F_Mo_isBeginning_38, F_Mo_isBeginning_39, lit32, n_nl0, if_neg, if_pos, h.2.1, n_cl, false_or, cm_18, hl, n_le, ite_true, ite_false, if_true, if_false, Bool.false_eq_true, and_self, and_true, true_and, and_false, false_and]
      · rintro ⟨q', e, hb⟩
        have := hb.1
        omega
/-- after some conditions -/
def MS (im : Im) (m : Nat) (σ : SG) (R0 : RQ) (C : RQ → Prop) (l : List Nat) : Prop := BM im m σ ∧ ((SM σ (some l) ∧ ∃ R1, RS im m σ R1 ∧ LeQ R0 R1 ∧ C R1 ∧ ∀ Q, LeQ R0 Q → C Q → LeQ R1 Q) ∨ (SM σ none ∧ ∀ Q, LeQ R0 Q → ¬ C Q))
theorem MS_iff {im : Im} {m : Nat} {σ : SG} {R0 : RQ} {C D : RQ → Prop} {l : List Nat} (h : MS im m σ R0 C l) (hi : ∀ Q, C Q ↔ D Q) : MS im m σ R0 D l := by
  obtain ⟨hB, h⟩ := h
  refine ⟨hB, ?_⟩
  rcases h with ⟨h1, R1, h2, h3, h4, h5⟩ | ⟨h1, h2⟩
  · exact Or.inl ⟨h1, R1, h2, h3, (hi _).mp h4, fun Q a b => h5 Q a ((hi _).mpr b)⟩
  · exact Or.inr ⟨h1, fun Q a b => h2 Q a ((hi _).mpr b)⟩
theorem MS_step {im : Im} {m : Nat} {σ : SG} {R0 : RQ} {C D : RQ → Prop} {l l' : List Nat} {F : SG → Option SG} (h : MS im m σ R0 C l) (hC : ∀ R Q, LeQ R Q → C R → C Q)
    (hok : ∀ R1, RS im m σ R1 → SM σ (some l) → ∃ σ1, F σ = some σ1 ∧ FM m σ σ1 ∧ ((SM σ1 (some l') ∧ ∃ R2, RS im m σ1 R2 ∧ LeQ R1 R2 ∧ D R2 ∧ ∀ Q, LeQ R1 Q → D Q → LeQ R2 Q) ∨ (SM σ1 none ∧ ∀ Q, LeQ R1 Q → ¬ D Q)))
    (hno : SM σ none → ∃ σ1, F σ = some σ1 ∧ FM m σ σ1 ∧ SM σ1 none) : ∃ σ1, F σ = some σ1 ∧ FM m σ σ1 ∧ MS im m σ1 R0 (fun Q => C Q ∧ D Q) l' := by
  obtain ⟨hB, h⟩ := h
  rcases h with ⟨h1, R1, h2, h3, h4, h5⟩ | ⟨h1, h2⟩
  · obtain ⟨σ1, g1, g2, g3⟩ := hok R1 h2 h1
    refine ⟨σ1, g1, g2, BM_FM hB g2, ?_⟩
    rcases g3 with ⟨k1, R2, k2, k3, k4, k5⟩ | ⟨k1, k2⟩
    · exact Or.inl ⟨k1, R2, k2, LeQ_trans h3 k3, ⟨hC _ _ k3 h4, k4⟩, fun Q a b => k5 Q (h5 Q a b.1) b.2⟩
    · exact Or.inr ⟨k1, fun Q a b => k2 Q (h5 Q a b.1) b.2⟩
  · obtain ⟨σ1, g1, g2, g3⟩ := hno h1
    exact ⟨σ1, g1, g2, BM_FM hB g2, Or.inr ⟨g3, fun Q a b => h2 Q a b.1⟩⟩
theorem meet27f {σ : SG} {x n : Int32} {v : Int64} : F_Mo_meet_27 0 x n v 0 false σ = some (setI σ 0 27 (bz false)) := by
  have hz : ¬ (zb ((setI σ 0 27 (bz false)).1 0 27) = true) := by rw [rI, if_pos ⟨rfl, rfl⟩, zbz]; simp
  unfold F_Mo_meet_27
  rw [stl_e, if_neg hz]
theorem m_meet_no {σ : SG} {x n : Int32} {v : Int64} {m : Nat} (h : SM σ none) : ∃ σ1, F_Mo_meet 0 x n v σ = some σ1 ∧ FM m σ σ1 ∧ SM σ1 none := by
  have hb : zb (σ.1 0 27) = false := h
  refine ⟨setI σ 0 27 (bz false), ?_, QM_FM (QM_I (by omega)), SM_n⟩
  simp (disch := omega) only [F_Mo_meet, F_Mo_meet_26, hb, if_neg, meet27f, ite_true, ite_false, if_true, if_false, Bool.false_eq_true, and_self, and_true, true_and, and_false, false_and]
theorem SM_FM {m : Nat} {σ σ1 : SG} {l : List Nat} (h : SM σ (some l)) (h1 : σ1.1 = (setI σ 0 27 (bz true)).1) (h2 : σ1.2.1 = σ.2.1) : SM σ1 (some l) := by
  obtain ⟨g1, g2, g3, g4, g5⟩ := h
  refine ⟨?_, ?_, ?_, g4, g5⟩
  · rw [h1, rI, if_pos ⟨rfl, rfl⟩, zbz]
  · rw [h1, rI, if_neg (by omega)]; exact g2
  · rw [h2]; exact g3
theorem m_meet_ok {im : Im} {m : Nat} {σ : SG} {R : RQ} {x : Int32} {z : Int} {l lr : List Nat} (hw : WfI im) (hm : m < im 0 1) (hB : BM im m σ) (hR : RS im m σ R) (hS : SM σ (some l)) (hx : x.toInt = z) (hl9 : lr.length ≤ 9) (hlt : ∀ t, t ∈ lr → 1 ≤ t ∧ t < 15) :
    ∃ σ1, F_Mo_meet 0 x (Int32.ofNat lr.length) (Int64.ofNat (enc lr)) σ = some σ1 ∧ FM m σ σ1 ∧ ((SM σ1 (some l) ∧ ∃ R2, RS im m σ1 R2 ∧ LeQ R R2 ∧ (lr.length ≤ 8 ∧ Rch im m R2 z (some lr)) ∧ ∀ Q, LeQ R Q → (lr.length ≤ 8 ∧ Rch im m Q z (some lr)) → LeQ R2 Q) ∨ (SM σ1 none ∧ ∀ Q, LeQ R Q → ¬ (lr.length ≤ 8 ∧ Rch im m Q z (some lr)))) := by
  obtain ⟨w1, w2, w3, w4, w5, w6, w7, w8, w9, w10, w11⟩ := wf_m hw hm
  have hf : zb (σ.1 0 27) = true := hS.1
  obtain ⟨b, hbF, hb⟩ := m_isBeg hw hm hB hx
  have fail0 : (∀ Q, LeQ R Q → ¬ (lr.length ≤ 8 ∧ Rch im m Q z (some lr))) → F_Mo_meet 0 x (Int32.ofNat lr.length) (Int64.ofNat (enc lr)) σ = some (setI σ 0 27 (bz false)) → ∃ σ1, F_Mo_meet 0 x (Int32.ofNat lr.length) (Int64.ofNat (enc lr)) σ = some σ1 ∧ FM m σ σ1 ∧ ((SM σ1 (some l) ∧ ∃ R2, RS im m σ1 R2 ∧ LeQ R R2 ∧ (lr.length ≤ 8 ∧ Rch im m R2 z (some lr)) ∧ ∀ Q, LeQ R Q → (lr.length ≤ 8 ∧ Rch im m Q z (some lr)) → LeQ R2 Q) ∨ (SM σ1 none ∧ ∀ Q, LeQ R Q → ¬ (lr.length ≤ 8 ∧ Rch im m Q z (some lr)))) := by
    intro h1 h2
    exact ⟨_, h2, QM_FM (QM_I (by omega)), Or.inr ⟨SM_n, h1⟩⟩
  cases b with
  | false =>
    refine fail0 (fun Q _ hr => ?_) ?_
    · obtain ⟨q, e, hb', -⟩ := hr.2
      have := hb.mpr ⟨q, e, hb'⟩
      cases this
    · simp (disch := omega) only [F_Mo_meet, F_Mo_meet_26, hf, hbF, if_neg, if_pos, meet27f, ite_true, ite_false, if_true, if_false, Bool.false_eq_true, and_self, and_true, true_and, and_false, false_and]
  | true =>
    obtain ⟨q, hq, hbeg⟩ := hb.mp rfl
    have hql := hbeg.1
    have hxq : x = Int32.ofNat q := by
      apply Int32.toInt_inj.mp
      rw [n_int (by omega), hx, hq]
    subst hxq
    by_cases c8 : 8 < lr.length
    · refine fail0 (fun Q _ hr => by omega) ?_
      simp (disch := omega) only [F_Mo_meet, F_Mo_meet_26, hf, hbF, if_neg, if_pos, lit32, n_lt, meet27f, ite_true, ite_false, if_true, if_false, Bool.false_eq_true, and_self, and_true, true_and, and_false, false_and]
    · have hG : Gr lr := ⟨by omega, hlt⟩
      obtain ⟨hh, hty⟩ := hR.1 q hql
      have hm24 : (setI σ 0 27 (bz true)).1 0 24 = Int32.ofNat m := by rw [rI, if_neg (by omega)]; exact hB.2.1
      have hz27 : zb ((setI σ 0 27 (bz true)).1 0 27) = true := by rw [rI, if_pos ⟨rfl, rfl⟩, zbz]
      -- the writing
      have h88 : ∀ y, F_Mo_meet_88 0 (Int32.ofNat lr.length) (Int64.ofNat (enc lr)) (Int32.ofNat (100 * m + q)) 0 y (setI σ 0 27 (bz true)) = some (setL (setA (setI (setI σ 0 27 (bz true)) 0 27 (bz y)) 17 (100 * m + q) (Int32.ofNat lr.length)) 18 (100 * m + q) (Int64.ofNat (enc lr))) := by
        intro y
        simp (disch := omega) only [F_Mo_meet_88, stl_e, lit32, n_nl0, n_cl, false_or, if_neg, cm_21, cm_22, ite_true, ite_false, if_true, if_false, Bool.false_eq_true, and_self, and_true, true_and, and_false, false_and]
      have hFM : ∀ y, FM m σ (setL (setA (setI (setI σ 0 27 (bz true)) 0 27 (bz y)) 17 (100 * m + q) (Int32.ofNat lr.length)) 18 (100 * m + q) (Int64.ofNat (enc lr))) := by
        intro y
        refine ⟨fun a f hn => ?_, fun a f _ => rfl, rfl, fun a f hn => ?_, fun a f hn => ?_⟩
        · rw [rL1, rA1, rI, if_neg (by omega), rI, if_neg (by omega)]
        · rw [rL4, rA, if_neg (by omega)]; rfl
        · rw [rL, if_neg (by omega)]; rfl
      have hRS : ∀ y, RS im m (setL (setA (setI (setI σ 0 27 (bz true)) 0 27 (bz y)) 17 (100 * m + q) (Int32.ofNat lr.length)) 18 (100 * m + q) (Int64.ofNat (enc lr))) (fun p => if p = q then some lr else R p) := by
        intro y
        refine ⟨fun p hp => ?_, fun p => ?_, fun p => ?_⟩
        · by_cases c : p = q
          · subst c
            refine ⟨?_, fun l' hl' => ?_⟩
            · rw [rL4, rA, if_pos ⟨rfl, rfl⟩]
              simp [hiO]
            · rw [rL, if_pos ⟨rfl, rfl⟩]
              simp only [if_true] at hl'
              rw [Option.some.inj hl']
          · simp only [c, if_false]
            refine ⟨?_, fun l' hl' => ?_⟩
            · rw [rL4, rA, if_neg (by omega)]
              exact (hR.1 p hp).1
            · rw [rL, if_neg (by omega)]
              exact (hR.1 p hp).2 l' hl'
        · by_cases c : p = q
          · simp only [c, if_true]
            intro x e
            cases e
            exact hG
          · simp only [c, if_false]
            exact hR.2.1 p
        · by_cases c : p = q
          · intro _
            rw [c]; exact hql
          · simp only [c, if_false]
            exact hR.2.2 p
      have hSt : SM (setL (setA (setI (setI σ 0 27 (bz true)) 0 27 (bz true)) 17 (100 * m + q) (Int32.ofNat lr.length)) 18 (100 * m + q) (Int64.ofNat (enc lr))) (some l) := by
        refine SM_FM (m := m) (SM_t hS) ?_ rfl
        rfl
      have hSf : SM (setL (setA (setI (setI σ 0 27 (bz true)) 0 27 (bz false)) 17 (100 * m + q) (Int32.ofNat lr.length)) 18 (100 * m + q) (Int64.ofNat (enc lr))) none := by
        show zb ((setI (setI σ 0 27 (bz true)) 0 27 (bz false)).1 0 27) = false
        rw [rI, if_pos ⟨rfl, rfl⟩, zbz]
      cases hRq : R q with
      | none =>
        rw [hRq] at hh
        have hh' : σ.2.2.2.1 17 (100 * m + q) = -Int32.ofNat 1 := hh
        refine ⟨_, ?_, hFM true, Or.inl ⟨hSt, _, hRS true, ?_, ⟨by omega, q, hq, hbeg, by simp, by simp⟩, ?_⟩⟩
        · have hneg : -Int32.ofNat 1 < Int32.ofNat 0 := by decide
          simp (disch := omega) only [F_Mo_meet, F_Mo_meet_27, F_Mo_meet_83, hf, hbF, if_neg, if_pos, stl_e, lit32, n_lt, hz27, hm24, n_mul, n_add, n_nl0, n_cl, false_or, rI2, cm_21, hh', hneg, h88, ite_true, ite_false, if_true, if_false, Bool.false_eq_true, and_self, and_true, true_and, and_false, false_and]
        · intro p l' hp
          by_cases c : p = q
          · rw [c, hRq] at hp
            cases hp
          · simp only [c, if_false]
            exact hp
        · intro Q hQ hr p l' hp
          by_cases c : p = q
          · simp only [c, if_true] at hp
            obtain ⟨q', e', -, -, hr'⟩ := hr.2
            have e'' : q' = q := by omega
            rw [e''] at hr'
            rw [c, hr']
            exact hp
          · simp only [c, if_false] at hp
            exact hQ p l' hp
      | some l1 =>
        have hg1 : Gr l1 := hR.2.1 q l1 hRq
        have hg18 := hg1.1
        rw [hRq] at hh
        have hh' : σ.2.2.2.1 17 (100 * m + q) = Int32.ofNat l1.length := hh
        have hty' := hty l1 hRq
        by_cases c : l1 = lr
        · subst c
          refine ⟨_, ?_, hFM true, Or.inl ⟨hSt, _, hRS true, ?_, ⟨by omega, q, hq, hbeg, by simp, by simp⟩, ?_⟩⟩
          · have hlc : lg_cmp (Int64.ofNat (enc l1)) (Int64.ofNat (enc l1)) = Int32.ofNat 0 := (lg_cmp_eq _ _).mpr rfl
            simp (disch := omega) only [F_Mo_meet, F_Mo_meet_27, F_Mo_meet_83, hf, hbF, if_neg, if_pos, stl_e, lit32, n_lt, hz27, hm24, n_mul, n_add, n_nl0, n_cl, false_or, rI2, cm_21, cm_22, hh', hty', hlc, h88, ite_true, ite_false, if_true, if_false, Bool.false_eq_true, and_self, and_true, true_and, and_false, false_and]
          · intro p l' hp
            by_cases c : p = q
            · rw [c, hRq] at hp
              simp only [c, if_true]
              exact hp
            · simp only [c, if_false]
              exact hp
          · intro Q hQ hr p l' hp
            by_cases c : p = q
            · simp only [c, if_true] at hp
              rw [c, hQ q l1 hRq]
              exact hp
            · simp only [c, if_false] at hp
              exact hQ p l' hp
        · refine ⟨_, ?_, hFM false, Or.inr ⟨hSf, fun Q hQ hr => ?_⟩⟩
          · by_cases cl : l1.length = lr.length
            · have hne : ¬ (lg_cmp (Int64.ofNat (enc l1)) (Int64.ofNat (enc lr)) = Int32.ofNat 0) := by
                intro e
                have e1 := (lg_cmp_eq _ _).mp e
                refine c (enc_inj hg1 hG ?_)
                have e2 := congrArg (fun y : Int64 => y.toBitVec.toNat) e1
                have e3 : enc l1 % 18446744073709551616 = enc lr % 18446744073709551616 := e2
                have b1 := Gr_32 hg1
                have b2 := Gr_32 hG
                omega
              rw [cl] at hh'
              simp (disch := omega) only [F_Mo_meet, F_Mo_meet_27, F_Mo_meet_83, F_Mo_meet_87, hf, hbF, if_neg, if_pos, stl_e, lit32, n_lt, hz27, hm24, n_mul, n_add, n_nl0, n_cl, false_or, rI2, cm_21, cm_22, hh', hty', hne, h88, ite_true, ite_false, if_true, if_false, Bool.false_eq_true, and_self, and_true, true_and, and_false, false_and]
            · simp (disch := omega) only [F_Mo_meet, F_Mo_meet_27, F_Mo_meet_83, F_Mo_meet_87, hf, hbF, if_neg, if_pos, stl_e, lit32, n_lt, hz27, hm24, n_mul, n_add, n_nl0, n_cl, false_or, rI2, cm_21, cm_22, hh', n_eq, h88, ite_true, ite_false, if_true, if_false, Bool.false_eq_true, and_self, and_true, true_and, and_false, false_and]
          · obtain ⟨q', e', -, -, hr'⟩ := hr.2
            have e'' : q' = q := by omega
            rw [e'', hQ q l1 hRq] at hr'
            exact c (Option.some.inj hr')
theorem m_meet {im : Im} {m : Nat} {σ : SG} {R0 : RQ} {C : RQ → Prop} {x : Int32} {z : Int} {l lr : List Nat} (hw : WfI im) (hm : m < im 0 1) (h : MS im m σ R0 C l) (hC : ∀ R Q, LeQ R Q → C R → C Q) (hx : x.toInt = z) (hl9 : lr.length ≤ 9) (hlt : ∀ t, t ∈ lr → 1 ≤ t ∧ t < 15) :
    ∃ σ1, F_Mo_meet 0 x (Int32.ofNat lr.length) (Int64.ofNat (enc lr)) σ = some σ1 ∧ FM m σ σ1 ∧ MS im m σ1 R0 (fun Q => C Q ∧ (lr.length ≤ 8 ∧ Rch im m Q z (some lr))) l :=
  MS_step (F := fun s => F_Mo_meet 0 x (Int32.ofNat lr.length) (Int64.ofNat (enc lr)) s) h hC (fun R1 h1 h2 => m_meet_ok hw hm h.1 h1 h2 hx hl9 hlt) (fun h1 => m_meet_no h1)
/-- regions -/
theorem m_inPart {im : Im} {m r : Nat} {σ : SG} {x : Int32} {z : Int} (hw : WfI im) (hm : m < im 0 1) (h : RepM σ im) (hr : r < im 9 m) (hx : x.toInt = z) : ∃ b, F_Mo_inPart 0 (Int32.ofNat (3 * m + r)) x σ = some (b, σ) ∧ (b = true ↔ iP im m r z) := by
  obtain ⟨w1, w2, w3, w4, w5, w6, w7, w8, w9, w10, w11⟩ := wf_m hw hm
  obtain ⟨b1, b2, b3, b4⟩ := w8 r hr
  have e1 := RepM_A h 10 (3 * m + r) (by omega) (by omega)
  have e2 := RepM_A h 11 (3 * m + r) (by omega) (by omega)
  unfold iP
  by_cases c : z < (im 10 (3 * m + r) : Int)
  · refine ⟨false, ?_, by simp; omega⟩
    simp (disch := omega) only [F_Mo_inPart, F_Mo_inPart_24, F_Mo_inPart_25, lit32, n_nl0, n_cl, false_or, if_neg, cm_14, cm_15, e1, e2, i_lt x, n_int, hx, if_pos, ite_true, ite_false, if_true, if_false, Bool.false_eq_true, and_self, and_true, true_and, and_false, false_and]
  · by_cases c2 : (im 11 (3 * m + r) : Int) ≤ z
    · refine ⟨false, ?_, by simp; omega⟩
      simp (disch := omega) only [F_Mo_inPart, F_Mo_inPart_24, F_Mo_inPart_25, lit32, n_nl0, n_cl, false_or, if_neg, cm_14, cm_15, e1, e2, i_lt x, i_le, n_int, hx, if_pos, ite_true, ite_false, if_true, if_false, Bool.false_eq_true, and_self, and_true, true_and, and_false, false_and]
    · refine ⟨true, ?_, by simp; omega⟩
      simp (disch := omega) only [F_Mo_inPart, F_Mo_inPart_24, F_Mo_inPart_25, lit32, n_nl0, n_cl, false_or, if_neg, cm_14, cm_15, e1, e2, i_lt x, i_le, n_int, hx, ite_true, ite_false, if_true, if_false, Bool.false_eq_true, and_self, and_true, true_and, and_false, false_and]
theorem m_inHand {im : Im} {m r : Nat} {σ : SG} {x : Int32} {z : Int} (hw : WfI im) (hm : m < im 0 1) (h : RepM σ im) (hr : r < im 9 m) (hx : x.toInt = z) : ∃ b, F_Mo_inHandler 0 (Int32.ofNat (3 * m + r)) x σ = some (b, σ) ∧ (b = true ↔ iH im m r z) := by
  obtain ⟨w1, w2, w3, w4, w5, w6, w7, w8, w9, w10, w11⟩ := wf_m hw hm
  obtain ⟨b1, b2, b3, b4⟩ := w8 r hr
  have e1 := RepM_A h 11 (3 * m + r) (by omega) (by omega)
  have e2 := RepM_A h 12 (3 * m + r) (by omega) (by omega)
  unfold iH
  by_cases c : z < (im 11 (3 * m + r) : Int)
  · refine ⟨false, ?_, by simp; omega⟩
    simp (disch := omega) only [F_Mo_inHandler, F_Mo_inHandler_24, F_Mo_inHandler_25, lit32, n_nl0, n_cl, false_or, if_neg, cm_15, cm_16, e1, e2, i_lt x, n_int, hx, if_pos, ite_true, ite_false, if_true, if_false, Bool.false_eq_true, and_self, and_true, true_and, and_false, false_and]
  · by_cases c2 : (im 12 (3 * m + r) : Int) ≤ z
    · refine ⟨false, ?_, by simp; omega⟩
      simp (disch := omega) only [F_Mo_inHandler, F_Mo_inHandler_24, F_Mo_inHandler_25, lit32, n_nl0, n_cl, false_or, if_neg, cm_15, cm_16, e1, e2, i_lt x, i_le, n_int, hx, if_pos, ite_true, ite_false, if_true, if_false, Bool.false_eq_true, and_self, and_true, true_and, and_false, false_and]
    · refine ⟨true, ?_, by simp; omega⟩
      simp (disch := omega) only [F_Mo_inHandler, F_Mo_inHandler_24, F_Mo_inHandler_25, lit32, n_nl0, n_cl, false_or, if_neg, cm_15, cm_16, e1, e2, i_lt x, i_le, n_int, hx, ite_true, ite_false, if_true, if_false, Bool.false_eq_true, and_self, and_true, true_and, and_false, false_and]
