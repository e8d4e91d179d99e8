/-! One instruction: how both come to it, and how they end it. -/
theorem beg_w {im : Im} {m p : Nat} (hsp : SpOK im m) (hbeg : Beg im m p) : cdA im m p = im 15 (100 * m + p) ∧ cdA im m p ≤ 37 ∧ p + wdt (cdA im m p) ≤ im 14 m := by
  have e1 : cdA im m p = im 15 (100 * m + p) := by unfold cdA; rw [if_pos hbeg.1]
  rw [e1]
  refine ⟨rfl, ?_⟩
  have hpl := hbeg.1
  obtain ⟨K, hK, hKo⟩ := hsp
  obtain ⟨-, k, hk⟩ := hbeg
  have hkK : k < K := by
    refine Nat.lt_of_not_le (fun z => ?_)
    rcases Nat.lt_or_ge K k with y | y
    · have := pos_mono im m y; omega
    · have : k = K := by omega
      rw [this] at hk
      omega
  have h1 := hKo k hkK
  rw [hk] at h1
  refine ⟨h1, ?_⟩
  have h2 : pos im m (k + 1) = pos im m k + wdt (im 15 (100 * m + pos im m k)) := rfl
  rw [hk] at h2
  have h3 : pos im m (k + 1) ≤ pos im m K := by
    rcases Nat.lt_or_ge (k + 1) K with y | y
    · exact Nat.le_of_lt (pos_mono im m y)
    · have : k + 1 = K := by omega
      rw [this]
      exact Nat.le_refl _
  omega
theorem setA_self {σ : SG} {k f : Nat} {v : Int32} (h : σ.2.2.2.1 k f = v) : setA σ k f v = σ := by
  have e1 : (fun a g => (setA σ k f v).2.2.2.1 a g) = fun a g => σ.2.2.2.1 a g := by
    funext a g
    rw [rA]
    by_cases c : a = k ∧ g = f
    · rw [if_pos c, c.1, c.2, h]
    · rw [if_neg c]
  have e2 : (setA σ k f v).2.2.2.1 = σ.2.2.2.1 := e1
  show (σ.1, σ.2.1, σ.2.2.1, (setA σ k f v).2.2.2.1, σ.2.2.2.2) = σ
  rw [e2]
def pfS (σ : SG) (f m q : Nat) : SG := setI (setA (setI σ 0 24 (Int32.ofNat m)) 21 f (Int32.ofNat q)) 0 44 (Int32.ofNat 0)
theorem pf_U {σ : SG} {f m q : Nat} : Umg f σ (pfS σ f m q) := by
  refine ⟨rfl, fun g p => ?_, fun x g p1 p2 p3 p4 => ?_⟩
  · unfold pfS
    rw [rI, if_neg (by omega)]
    show (setI σ 0 24 (Int32.ofNat m)).1 0 g = _
    rw [rI, if_neg (by omega)]
  · show (setA (setI σ 0 24 (Int32.ofNat m)) 21 f (Int32.ofNat q)).2.2.2.1 x g = _
    rw [rA, if_neg (by omega)]
    rfl
theorem pf_A {σ : SG} {f m q x g : Nat} (hx : x ≠ 21) : (pfS σ f m q).2.2.2.1 x g = σ.2.2.2.1 x g := by
  show (setA (setI σ 0 24 (Int32.ofNat m)) 21 f (Int32.ofNat q)).2.2.2.1 x g = _
  rw [rA, if_neg (by omega)]
  rfl
theorem pf_Cs {im : Im} {A m q : Nat} {ms ps : Nat → Nat} {ls : Nat → List Nat} {σ : SG} (h : Cs im A ms ps ls σ) : Cs im A ms ps ls (pfS σ (A - 1) m q) := by
  intro f hf
  obtain ⟨R, l0, g1, g2, g3, g4, g5, g6, g7⟩ := h f hf
  exact ⟨R, l0, g1, g2, g3, g4, by rw [pf_U.2.2 _ _ (by omega) (by omega) (by omega) (by omega)]; exact g5, g6, g7⟩
theorem pf_21 {σ : SG} {f m q : Nat} : (pfS σ f m q).2.2.2.1 21 f = Int32.ofNat q := by
  show (setA (setI σ 0 24 (Int32.ofNat m)) 21 f (Int32.ofNat q)).2.2.2.1 21 f = _
  rw [rA, if_pos ⟨rfl, rfl⟩]
theorem pf_44 {σ : SG} {f m q : Nat} : (pfS σ f m q).1 0 44 = Int32.ofNat 0 := by
  unfold pfS
  rw [rI, if_pos ⟨rfl, rfl⟩]
theorem pf_24 {σ : SG} {f m q : Nat} : (pfS σ f m q).1 0 24 = Int32.ofNat m := by
  unfold pfS
  rw [rI, if_neg (by omega)]
  show (setI σ 0 24 (Int32.ofNat m)).1 0 24 = _
  rw [rI, if_pos ⟨rfl, rfl⟩]
theorem pf_28 {σ : SG} {f m q : Nat} : (pfS σ f m q).1 0 28 = σ.1 0 28 := by
  unfold pfS
  rw [rI, if_neg (by omega)]
  show (setI σ 0 24 (Int32.ofNat m)).1 0 28 = _
  rw [rI, if_neg (by omega)]
theorem st_mi {im : Im} {IA A : Nat} {ms ps : Nat → Nat} {ls : Nat → List Nat} {T : Nat → Nat} {md : Nat} {σc σm : SG} {q : Nat} (h : Md im IA A ms ps ls T md σc σm) (hph : Ph1 σc σm) : Mi im IA A ms ps ls T md σc (pfS σm (A - 1) (ms (A - 1)) q) (ls (A - 1)) σc (pfS σm (A - 1) (ms (A - 1)) q) := by
  obtain ⟨f1, f2, f3, f4, f5, f6, f7, f8, f9, f10, f11, f12, f13⟩ := h.2.2.2.2.1 (A - 1) (by have := h.1.1; omega)
  have hU : Umf (A - 1) σm (pfS σm (A - 1) (ms (A - 1)) q) := by
    refine ⟨rfl, rfl, rfl, fun x g hx => ?_, fun x g h1 h2 h3 => ?_⟩
    · unfold pfS
      rw [rI, if_neg (by omega)]
      show (setI σm 0 24 (Int32.ofNat (ms (A - 1)))).1 x g = _
      rw [rI, if_neg (by omega)]
    · show (setA (setI σm 0 24 (Int32.ofNat (ms (A - 1)))) 21 (A - 1) (Int32.ofNat q)).2.2.2.1 x g = _
      rw [rA, if_neg h3]
      rfl
  have hpu : ∀ x g, x ≠ 21 → (pfS σm (A - 1) (ms (A - 1)) q).2.2.2.1 x g = σm.2.2.2.1 x g := fun x g hx => by
    show (setA (setI σm 0 24 (Int32.ofNat (ms (A - 1)))) 21 (A - 1) (Int32.ofNat q)).2.2.2.1 x g = _
    rw [rA, if_neg (by omega)]
    rfl
  refine ⟨Md_upd h ⟨rfl, rfl, rfl, fun _ _ _ _ => rfl, fun _ _ _ => rfl⟩ hU f7 f8 ?_ (StR_congr _ f11 (fun j hj => ⟨rfl, hpu _ _ (by omega), hpu _ _ (by omega)⟩)), ⟨Wc_refl _, Wm_refl _, fun _ _ _ => rfl⟩, ⟨hph.2.1, hph.2.2.1, ?_, pf_24⟩, hph.1, pf_44⟩
  · rw [hpu _ _ (by omega)]; exact f10
  · rw [pf_28]; exact hph.2.2.2
/-- the class comes to the instruction -/
theorem di_0 {im : Im} {IA A : Nat} {ms ps : Nat → Nat} {ls : Nat → List Nat} {T : Nat → Nat} {md : Nat} {σc σm : SG} {op k : Nat} (h : Md im IA A ms ps ls T md σc σm) (hop : cdA im (ms (A - 1)) (ps (A - 1)) = op) (hk : cdA im (ms (A - 1)) (ps (A - 1) + 1) = k) (ho : op < 256) :
    (op ≤ 15 → ∀ b s, F_Ru_doSimple 123 (125 + 6 * (A - 1)) (Int32.ofNat op) (Int32.ofNat k) σc = some (b, s) → F_Ru_doInstruction 123 σc = F_Ru_doInstruction_93 123 (some (125 + 6 * (A - 1))) (Int32.ofNat op) b s) ∧
    (15 < op → op ≤ 25 → ∀ b s, F_Ru_doThing 123 (125 + 6 * (A - 1)) (Int32.ofNat op) (Int32.ofNat k) σc = some (b, s) → F_Ru_doInstruction 123 σc = F_Ru_doInstruction_93 123 (some (125 + 6 * (A - 1))) (Int32.ofNat op) b s) ∧
    (25 < op → op ≤ 32 → ∀ b s, F_Ru_doValue 123 (125 + 6 * (A - 1)) (Int32.ofNat op) σc = some (b, s) → F_Ru_doInstruction 123 σc = F_Ru_doInstruction_93 123 (some (125 + 6 * (A - 1))) (Int32.ofNat op) b s) ∧
    (32 < op → ∀ b s, F_Ru_doFlow 123 (125 + 6 * (A - 1)) (Int32.ofNat op) (Int32.ofNat k) σc = some (b, s) → F_Ru_doInstruction 123 σc = F_Ru_doInstruction_93 123 (some (125 + 6 * (A - 1))) (Int32.ofNat op) b s) := by
  obtain ⟨⟨a1, a2, a3⟩, b0, ⟨c1, -⟩, -, e', -, -⟩ := id h
  obtain ⟨f1, f2, f3, f4, f5, f6, -⟩ := e' (A - 1) (by omega)
  have hl := ru_latest c1 a1 a2
  have hFr := (cF (f := A - 1) (by omega)).1
  have hMc := d_Mc b0.1 f1
  have e1 := a_code (p := ps (A - 1)) b0.1 f1 (by omega)
  have e2 := a_code (p := ps (A - 1) + 1) b0.1 f1 (by omega)
  rw [hop] at e1
  rw [hk] at e2
  refine ⟨fun h1 b s hs => ?_, fun h1 h2 b s hs => ?_, fun h1 h2 b s hs => ?_, fun h1 b s hs => ?_⟩
  · simp (disch := omega) only [F_Ru_doInstruction, hl, hFr, if_pos, f3, hMc, f6, e1, lit32, n_add, e2, n_lt, if_neg, hs, ite_true, ite_false, if_true, if_false, Bool.false_eq_true, and_self, and_true, true_and, and_false, false_and]
  · simp (disch := omega) only [F_Ru_doInstruction, hl, hFr, if_pos, f3, hMc, f6, e1, lit32, n_add, e2, n_lt, if_neg, hs, ite_true, ite_false, if_true, if_false, Bool.false_eq_true, and_self, and_true, true_and, and_false, false_and]
  · simp (disch := omega) only [F_Ru_doInstruction, hl, hFr, if_pos, f3, hMc, f6, e1, lit32, n_add, e2, n_lt, if_neg, hs, ite_true, ite_false, if_true, if_false, Bool.false_eq_true, and_self, and_true, true_and, and_false, false_and]
  · simp (disch := omega) only [F_Ru_doInstruction, hl, hFr, if_pos, f3, hMc, f6, e1, lit32, n_add, e2, n_lt, if_neg, hs, ite_true, ite_false, if_true, if_false, Bool.false_eq_true, and_self, and_true, true_and, and_false, false_and]
/-- the reference comes to it -/
theorem pf_0 {im : Im} {IA A : Nat} {ms ps : Nat → Nat} {ls : Nat → List Nat} {T : Nat → Nat} {md : Nat} {σc σm : SG} {op : Nat} (h : Md im IA A ms ps ls T md σc σm) (h21 : σm.2.2.2.1 21 (A - 1) = Int32.ofNat (ps (A - 1))) (hop : cdA im (ms (A - 1)) (ps (A - 1)) = op) (hp : ps (A - 1) < im 14 (ms (A - 1))) (ho : op < 256) :
    (op < 17 → ∀ s, F_Mo_plain 0 (Int32.ofNat (A - 1)) (Int32.ofNat (ps (A - 1))) (Int32.ofNat op) (pfS σm (A - 1) (ms (A - 1)) (ps (A - 1) + wdt op)) = some s → F_Mo_perform 0 σm = F_Mo_perform_100 0 (Int32.ofNat (ps (A - 1))) s) ∧
    (17 ≤ op → op < 33 → ∀ s, F_Mo_work 0 (Int32.ofNat (ps (A - 1))) (Int32.ofNat op) (pfS σm (A - 1) (ms (A - 1)) (ps (A - 1) + wdt op)) = some s → F_Mo_perform 0 σm = F_Mo_perform_100 0 (Int32.ofNat (ps (A - 1))) s) ∧
    (33 ≤ op → ∀ s, F_Mo_control 0 (Int32.ofNat (A - 1)) (Int32.ofNat (ps (A - 1))) (Int32.ofNat op) (pfS σm (A - 1) (ms (A - 1)) (ps (A - 1) + wdt op)) = some s → F_Mo_perform 0 σm = F_Mo_perform_100 0 (Int32.ofNat (ps (A - 1))) s) := by
  obtain ⟨⟨a1, a2, a3⟩, b0, ⟨c1, c2, -⟩, -, e', -, -⟩ := id h
  obtain ⟨f1, f2, f3, f4, f5, f6, f7, f8, f9, -⟩ := e' (A - 1) (by omega)
  have hm6 := (wf_m b0.2.2.1 f1).1
  have m15 := b0.2.1.2.2.2 15 (100 * ms (A - 1) + ps (A - 1)) (by omega) (by omega)
  have e0 : im 15 (100 * ms (A - 1) + ps (A - 1)) = op := by rw [← hop]; unfold cdA; rw [if_pos hp]
  rw [e0] at m15
  have hby := fun σ => m_bytes ho σ
  refine ⟨fun h1 s hs => ?_, fun h1 h2 s hs => ?_, fun h1 s hs => ?_⟩
  · unfold pfS at hs
    simp (disch := omega) only [F_Mo_perform, c2, lit32, n_sub, n_nl0, n_cl, false_or, if_neg, cm_32, cm_33, f9, h21, n_mul, n_add, cm_19, m15, stl_e, hby, n_le, hs, ite_true, ite_false, if_true, if_false, Bool.false_eq_true, and_self, and_true, true_and, and_false, false_and]
  · unfold pfS at hs
    simp (disch := omega) only [F_Mo_perform, c2, lit32, n_sub, n_nl0, n_cl, false_or, if_neg, if_pos, cm_32, cm_33, f9, h21, n_mul, n_add, cm_19, m15, stl_e, hby, n_le, hs, ite_true, ite_false, if_true, if_false, Bool.false_eq_true, and_self, and_true, true_and, and_false, false_and]
  · unfold pfS at hs
    simp (disch := omega) only [F_Mo_perform, c2, lit32, n_sub, n_nl0, n_cl, false_or, if_neg, if_pos, cm_32, cm_33, f9, h21, n_mul, n_add, cm_19, m15, stl_e, hby, n_le, hs, ite_true, ite_false, if_true, if_false, Bool.false_eq_true, and_self, and_true, true_and, and_false, false_and]
/-- the instruction throws -/
theorem ins_thr {im : Im} {IA A : Nat} {ms ps : Nat → Nat} {ls : Nat → List Nat} {T : Nat → Nat} {md : Nat} {σc σm : SG} {σca σma : SG} {e : Int32} {fr r0 : Nat} {R : RQ} {l : List Nat} {k : Option Nat} {op : Int32} {b : Bool} (h : Md im IA A ms ps ls T md σc σm) (hc : Ucg (A - 1) σc σca) (hm : Umg (A - 1) σm σma) (he : ∀ k, k < 18 → σca.2.2.2.1 175 k = σma.2.2.2.1 31 k) (hz : EnZ im σca) (hC : Clo im (ms (A - 1)) R) (hmin : ∀ Q, Clo im (ms (A - 1)) Q → LeQ R Q) (hR : R (ps (A - 1)) = some l) (h5 : σca.1 123 5 = Int32.ofNat 1) (h6 : σca.1 123 6 = e) (h7 : σca.1 123 7 = Int32.ofNat fr) (h8 : σca.1 123 8 = Int32.ofNat r0) (h9 : σca.1 123 9 = Int32.ofNat 1) (h10 : σca.1 123 10 = Int32.ofNat 0) (h28 : σma.1 0 28 = Int32.ofNat 1) (hfr : fr < 100) (hr0 : r0 ≤ im 9 (ms (A - 1)))
    (hg : ∀ r, r0 ≤ r → r < im 9 (ms (A - 1)) → iP im (ms (A - 1)) r fr → iP im (ms (A - 1)) r (ps (A - 1))) (hPn : ∀ q, r0 ≤ q → q < im 9 (ms (A - 1)) → isF im (ms (A - 1)) q → iH im (ms (A - 1)) q (ps (A - 1)) → PnB im σca σma (A - 1) (ms (A - 1)) q) (hCs : Cs im A ms ps ls σma) (hS : Sv im A ms) :
    ∃ σc1 σm1, F_Ru_doInstruction_93 123 k op b σca = some σc1 ∧ F_Mo_raiseBehind 0 e (Int32.ofNat (ps (A - 1))) (Int32.ofNat fr) (Int32.ofNat r0) σma = some σm1 ∧ Wc σca σc1 ∧ Wm σma σm1 ∧ σm1.1 0 44 = Int32.ofNat 0 ∧ (Go im IA σc1 σm1 ∨ Over im σc1 σm1) := by
  obtain ⟨⟨a1, a2, a3⟩, b0, ⟨c1, c2, -⟩, -, e', -, -⟩ := id h
  have hU1 : Ucg (A - 1) σca (setI σca 123 5 (Int32.ofNat 0)) := ⟨rfl, fun x g p q => by rw [rI, if_neg (by omega)], fun _ _ _ _ => rfl, fun _ _ _ => rfl⟩
  have hU2 : Umg (A - 1) σma (setI σma 0 44 (Int32.ofNat 0)) := ⟨rfl, fun g p => by rw [rI, if_neg (by omega)], fun _ _ _ _ _ _ => rfl⟩
  obtain ⟨b', s, σc1, σm1, u1, u2, u3, u4, u5, u6, u7⟩ := thr_l (e := e) 8 A ps ls σc σm (setI σca 123 5 (Int32.ofNat 0)) (setI σma 0 44 (Int32.ofNat 0)) fr r0 R l 5000 5000 a2 h (Ucg_trans hc hU1) (Umg_trans hm hU2) he hz hC hmin hR (by rw [rI, if_neg (by omega)]; exact h6) ⟨by rw [rI, if_pos ⟨rfl, rfl⟩], by rw [rI, if_neg (by omega)]; exact h9, by rw [rI, if_neg (by omega)]; exact h10, by rw [rI, if_neg (by omega)]; exact h28⟩ hfr hr0 hg hPn hCs hS (by omega) (by omega)
  refine ⟨σc1, σm1, ?_, ?_, Wc_trans (Ucg_W hU1) u4, Wm_trans (Umg_W hU2) u5, by rw [u6, rI, if_pos ⟨rfl, rfl⟩], u7⟩
  · have hl := ru_latest (σ := setI σca 123 5 (Int32.ofNat 0)) (A := A) (by rw [rI, if_neg (by omega), hc.2.1 _ _ (by omega) (by omega)]; exact c1) a1 a2
    have hFr := (cF (f := A - 1) (by omega)).1
    have e7 : (setI σca 123 5 (Int32.ofNat 0)).1 123 7 = Int32.ofNat fr := by rw [rI, if_neg (by omega)]; exact h7
    have e8 : (setI σca 123 5 (Int32.ofNat 0)).1 123 8 = Int32.ofNat r0 := by rw [rI, if_neg (by omega)]; exact h8
    have ebz : bz false = Int32.ofNat 0 := rfl
    simp (disch := omega) only [F_Ru_doInstruction_93, F_Ru_doInstruction_130, h5, zb1, if_pos, ebz, stl_e, F_Ru_throwOn, hl, hFr, e7, e8, u1, u2, ite_true, ite_false, if_true, if_false, Bool.false_eq_true, and_self, and_true, true_and, and_false, false_and]
  · simp (disch := omega) only [F_Mo_raiseBehind, lit32, stl_e, u3, ite_true, ite_false, if_true, if_false, Bool.false_eq_true, and_self, and_true, true_and, and_false, false_and]
/-- the instruction is done, and the method goes on there -/
theorem go_end {im : Im} {IA A : Nat} {ms ps : Nat → Nat} {ls : Nat → List Nat} {T : Nat → Nat} {md : Nat} {σc0 σm0 σc σm : SG} {q : Nat} {L' : List Nat} {R : RQ} (hMi : Mi im IA A ms ps ls T md σc0 σm0 L' σc σm) (hCs : Cs im A ms ps ls σm0) (hS : Sv im A ms) (hz : EnZ im σc0) (he0 : ∀ k, k < 18 → σc0.2.2.2.1 175 k = σm0.2.2.2.1 31 k) (hC : Clo im (ms (A - 1)) R) (hmin : ∀ Q, Clo im (ms (A - 1)) Q → LeQ R Q) (hRq : R q = some L') (hq : q < 100) (hH : ∀ r, r < im 9 (ms (A - 1)) → iH im (ms (A - 1)) r q → iH im (ms (A - 1)) r (ps (A - 1))) :
    Go im IA (setI σc (125 + 6 * (A - 1)) 3 (Int32.ofNat q)) (setA σm 21 (A - 1) (Int32.ofNat q)) ∧ Wc σc0 (setI σc (125 + 6 * (A - 1)) 3 (Int32.ofNat q)) ∧ Wm σm0 (setA σm 21 (A - 1) (Int32.ofNat q)) := by
  obtain ⟨h1, ⟨w1, w2, w3⟩, ⟨p1, p2, p3, p4⟩, q1, q2⟩ := hMi
  obtain ⟨⟨a1, a2, a3⟩, b0, -, -, e', -, k'⟩ := id h1
  obtain ⟨f1, f2, f3, f4, f5, f6, f7, f8, f9, f10, f11, f12, f13⟩ := e' (A - 1) (by omega)
  rw [upl_s] at f7 f8 f10 f11
  have hU1 : Ucg (A - 1) σc (setI σc (125 + 6 * (A - 1)) 3 (Int32.ofNat q)) := ⟨rfl, fun x g p q => by rw [rI, if_neg (by omega)], fun _ _ _ _ => rfl, fun _ _ _ => rfl⟩
  have hU2 : Umg (A - 1) σm (setA σm 21 (A - 1) (Int32.ofNat q)) := ⟨rfl, fun _ _ => rfl, fun x g p1 p2 p3 p4 => by rw [rA, if_neg (by omega)]⟩
  have hpn : PnR im (setI σc (125 + 6 * (A - 1)) 3 (Int32.ofNat q)) (setA σm 21 (A - 1) (Int32.ofNat q)) (A - 1) (ms (A - 1)) q := by
    have h9 := (wf_m b0.2.2.1 f1).2.2.2.2.2.2.1
    exact PnR_place (PnR_congr f13 h9 (fun _ _ _ _ => rfl) (fun x g hx _ _ => by rw [rA, if_neg (by omega)])) hH
  have hMd := Md_top (l := L') h1 hU1 hU2 hq (by rw [rI, if_pos ⟨rfl, rfl⟩]) f7 (by rw [rI, if_neg (by omega)]; exact f8) (by rw [rA, if_neg (by omega)]; exact f10) (StR_congr _ f11 (fun j hj => ⟨rfl, by rw [rA, if_neg (by omega)], by rw [rA, if_neg (by omega)]⟩)) hpn (fun k hk => by rw [rA, if_neg (by omega)]; exact k' k hk)
  rw [upl_u] at hMd
  refine ⟨⟨A, ms, _, _, T, md, hMd, fun f hf => ?_, ⟨R, hC, hmin, by rw [upp_s, upl_s]; exact hRq, by rw [upp_s, rA, if_pos ⟨rfl, rfl⟩]⟩, hS, fun m r r1 r2 r3 => ?_, ⟨?_, ?_, ?_, p3⟩⟩, Wc_trans w1 (Ucg_W hU1), Wm_trans w2 (Umg_W hU2)⟩
  · obtain ⟨R', l0, g1, g2, g3, g4, g5, g6, g7⟩ := hCs f hf
    rw [upp_n _ _ (by omega), upl_n _ _ (by omega)]
    exact ⟨R', l0, g1, g2, g3, g4, by rw [rA, if_neg (by omega), w3 _ _ (by omega)]; exact g5, g6, g7⟩
  · have hm6 := (wf_m b0.2.2.1 r1).1
    show σc.2.2.2.1 175 _ = _
    rw [k' _ (by omega), w3 _ _ (by omega), ← he0 _ (by omega)]
    exact hz m r r1 r2 r3
  · rw [rI, if_neg (by omega)]; exact q1
  · rw [rI, if_neg (by omega)]; exact p1
  · rw [rI, if_neg (by omega)]; exact p2
/-- how an instruction that goes on behind itself ends -/
theorem op_step {im : Im} {IA A : Nat} {ms ps : Nat → Nat} {ls : Nat → List Nat} {T : Nat → Nat} {md : Nat} {σc σm : SG} {op : Nat} {L' : List Nat} {R : RQ} {x : Option (Bool × SG)} {y : Option SG} (h : Md im IA A ms ps ls T md σc σm) (hCs : Cs im A ms ps ls σm) (hC : Clo im (ms (A - 1)) R) (hmin : ∀ Q, Clo im (ms (A - 1)) Q → LeQ R Q) (hR : R (ps (A - 1)) = some (ls (A - 1))) (hS : Sv im A ms) (hz : EnZ im σc) (ho : op < 256) (hq : ps (A - 1) + wdt op < 100) (hRq : R (ps (A - 1) + wdt op) = some L') (hH : ∀ r, r < im 9 (ms (A - 1)) → iH im (ms (A - 1)) r (ps (A - 1) + wdt op : Nat) → iH im (ms (A - 1)) r (ps (A - 1)))
    (hO : OpR im IA A ms ps ls σc (pfS σm (A - 1) (ms (A - 1)) (ps (A - 1) + wdt op)) L' x y) :
    ∃ b s1 s2 σc1 σm1, x = some (b, s1) ∧ y = some s2 ∧ F_Ru_doInstruction_93 123 (some (125 + 6 * (A - 1))) (Int32.ofNat op) b s1 = some σc1 ∧ F_Mo_perform_100 0 (Int32.ofNat (ps (A - 1))) s2 = some σm1 ∧ Wc σc σc1 ∧ Wm σm σm1 ∧ (Go im IA σc1 σm1 ∨ Over im σc1 σm1) := by
  have hk := h.2.2.2.2.2.2
  have a2 := h.1.2.1
  have a1 := h.1.1
  obtain ⟨b, s1, s2, e1, e2, hcase⟩ := hO
  have hpe : ∀ k, k < 18 → σc.2.2.2.1 175 k = (pfS σm (A - 1) (ms (A - 1)) (ps (A - 1) + wdt op)).2.2.2.1 31 k := fun k hk' => by
    rw [pf_A (by omega)]
    exact hk k hk'
  have hCs' : Cs im A ms ps ls (pfS σm (A - 1) (ms (A - 1)) (ps (A - 1) + wdt op)) := pf_Cs hCs
  have hFr := (cF (f := A - 1) (by omega)).1
  rcases hcase with ⟨hb, T', md', hMi⟩ | ⟨hb, T', md', e, L2, hRz⟩
  · subst hb
    have h21 : s2.2.2.2.1 21 (A - 1) = Int32.ofNat (ps (A - 1) + wdt op) := by rw [hMi.2.1.2.2 21 _ (Or.inl rfl)]; exact pf_21
    obtain ⟨g1, g2, g3⟩ := go_end hMi hCs' hS hz hpe hC hmin hRq hq hH
    rw [setA_self h21] at g1 g3
    obtain ⟨-, -, -, -, -, -, -, -, -, o10, -⟩ := Mi_op hMi
    have h5 := hMi.2.2.2.1
    have h44 := hMi.2.2.2.2
    have hw := a_width ho s1
    refine ⟨true, s1, s2, _, _, e1, e2, ?_, ?_, g2, Wm_trans (Umg_W pf_U) g3, Or.inl g1⟩
    · simp (disch := omega) only [F_Ru_doInstruction_93, F_Ru_doInstruction_130, h5, zb0, hFr, if_pos, hw, o10, n_add, stl_e, ite_true, ite_false, if_true, if_false, Bool.false_eq_true, and_self, and_true, true_and, and_false, false_and]
    · simp (disch := omega) only [F_Mo_perform_100, F_Mo_perform_116, h44, lit32, n_le, if_pos, ite_true, ite_false, if_true, if_false, Bool.false_eq_true, and_self, and_true, true_and, and_false, false_and]
  · subst hb
    obtain ⟨h1, ⟨w1, w2, w3⟩, ⟨p1, p2, p3, p4⟩, he, q5, q6, q7, q8, q44⟩ := hRz
    obtain ⟨f1, f2, f3, f4, f5, f6, f7, f8, f9, f10, f11, f12, f13⟩ := h1.2.2.2.2.1 (A - 1) (by omega)
    have hk1 := h1.2.2.2.2.2.2
    have hze : EnZ im s1 := fun m r r1 r2 r3 => by
      have hm6 := (wf_m h1.2.1.2.2.1 r1).1
      rw [hk1 _ (by omega), w3 _ _ (by omega), ← hpe _ (by omega)]
      exact hz m r r1 r2 r3
    obtain ⟨σc1, σm1, u1, u2, u3, u4, u5, u6⟩ := ins_thr (k := some (125 + 6 * (A - 1))) (op := Int32.ofNat op) (b := false) h1 (Ucg_refl _ _) (Umg_refl _ _) hk1 hze hC hmin hR q5 q6 q7 q8 p1 p2 p3 f5 (Nat.zero_le _) (fun r _ _ z => z) (fun q _ r2 r3 r4 => f13 q r2 r3 r4) (fun f hf => by
      obtain ⟨R', l0, g1, g2, g3, g4, g5, g6, g7⟩ := hCs' f hf
      rw [upl_n _ _ (by omega)]
      exact ⟨R', l0, g1, g2, g3, g4, by rw [w3 _ _ (by omega)]; exact g5, g6, g7⟩) hS
    refine ⟨false, s1, s2, σc1, σm1, e1, e2, u1, ?_, Wc_trans w1 u3, Wm_trans (Umg_W pf_U) (Wm_trans w2 u4), u6⟩
    simp (disch := omega) only [F_Mo_perform_100, F_Mo_perform_116, F_Mo_raise, q44, lit32, n_le, if_neg, u2, ite_true, ite_false, if_true, if_false, Bool.false_eq_true, and_self, and_true, true_and, and_false, false_and]
