/-! draft, clear and the questions about an image. -/
def byE (v : Int64) (i : Int32) : Int32 := ((((v).toUInt64 >>> (((Int32.ofNat 8 * i)).toInt64.toUInt64 &&& Int64.toUInt64 (Int64.ofNat 63))).toInt64) &&& Int64.ofNat 255).toInt32
theorem j_self (y : Int64) : Int64.ofNat y.toBitVec.toNat = y := by
  apply Int64.toBitVec.inj
  show BitVec.ofNat 64 y.toBitVec.toNat = y.toBitVec
  apply BitVec.eq_of_toNat_eq
  rw [BitVec.toNat_ofNat]
  exact Nat.mod_eq_of_lt y.toBitVec.isLt
theorem b_255 (x : Nat) : x &&& 255 = x % 256 := Nat.and_two_pow_sub_one_eq_mod x 8
theorem byE_b (v : Int64) (i : Int32) : ∃ w, w < 256 ∧ byE v i = Int32.ofNat w := by
  unfold byE
  generalize ((v).toUInt64 >>> (((Int32.ofNat 8 * i)).toInt64.toUInt64 &&& Int64.toUInt64 (Int64.ofNat 63))).toInt64 = y
  refine ⟨y.toBitVec.toNat % 256, Nat.mod_lt _ (by omega), ?_⟩
  rw [← j_self y, j_and, b_255, j_i, j_self]
def FDc (σ σ1 : SG) : Prop := σ1.2.1 = σ.2.1 ∧ σ1.2.2.1 = σ.2.2.1 ∧ σ1.2.2.2.2 = σ.2.2.2.2 ∧ (∀ x f, ¬ (x = 0 ∧ f = 1) → σ1.1 x f = σ.1 x f) ∧ (∀ x f, x ≠ 1 → σ1.2.2.2.1 x f = σ.2.2.2.1 x f)
def FDm (σ σ1 : SG) : Prop := σ1.2.1 = σ.2.1 ∧ σ1.2.2.1 = σ.2.2.1 ∧ σ1.2.2.2.2 = σ.2.2.2.2 ∧ (∀ x f, ¬ (x = 0 ∧ f = 0) → σ1.1 x f = σ.1 x f) ∧ (∀ x f, x ≠ 1 → σ1.2.2.2.1 x f = σ.2.2.2.1 x f)
theorem FDc_refl (σ : SG) : FDc σ σ := ⟨rfl, rfl, rfl, fun _ _ _ => rfl, fun _ _ _ => rfl⟩
theorem FDm_refl (σ : SG) : FDm σ σ := ⟨rfl, rfl, rfl, fun _ _ _ => rfl, fun _ _ _ => rfl⟩
theorem dc_28 {d : Nat → Nat} {n k : Nat} {v : Int64} (hk : k ≤ 8) (hn : n + k ≤ 400) (hd : ∀ t, t < k → byE v (Int32.ofNat t) = Int32.ofNat (d (n + t)) ∧ d (n + t) < 256) : ∀ c i fuel σ, i + c = k → c < fuel → DrC d (n + i) σ →
    ∃ σ1, F_TE_draft_28 fuel 0 v (Int32.ofNat k) (Int32.ofNat i) σ = some (true, σ1) ∧ DrC d (n + k) σ1 ∧ FDc σ σ1 := by
  have hc0 : cref SHc 0 0 = 1 := by decide
  intro c
  induction c with
  | zero =>
    intro i fuel σ hi hf h
    obtain ⟨fuel, rfl⟩ : ∃ x, fuel = x + 1 := ⟨fuel - 1, by omega⟩
    refine ⟨σ, ?_, ?_, FDc_refl _⟩
    · simp (disch := omega) only [F_TE_draft_28, n_le, if_pos, ite_true, ite_false, if_true, if_false, Bool.false_eq_true, and_self, and_true, true_and, and_false, false_and]
    · rw [show n + k = n + i by omega]; exact h
  | succ c ih =>
    intro i fuel σ hi hf h
    obtain ⟨fuel, rfl⟩ : ∃ x, fuel = x + 1 := ⟨fuel - 1, by omega⟩
    obtain ⟨h1, h2, h3⟩ := h
    obtain ⟨e, hb⟩ := hd i (by omega)
    unfold byE at e
    obtain ⟨σ1, g1, g2, g3⟩ := ih (i + 1) fuel (setI (setA σ 1 (n + i) (Int32.ofNat (d (n + i)))) 0 1 (Int32.ofNat (n + i + 1))) (by omega) (by omega) ⟨by rw [rI, if_pos ⟨rfl, rfl⟩]; rfl, by omega, fun j hj => by
      rw [rI2, rA]
      by_cases ej : j = n + i
      · rw [if_pos ⟨rfl, ej⟩, ej]
        exact ⟨rfl, hb⟩
      · rw [if_neg (fun z => ej z.2)]
        exact h3 j (by omega)⟩
    refine ⟨σ1, ?_, g2, ?_⟩
    · simp (disch := omega) only [F_TE_draft_28, n_le, if_neg, h1, lit32, lit64n, n_nl0, n_cl, false_or, hc0, e, stl_e, rA1, n_add, g1, ite_true, ite_false, if_true, if_false, Bool.false_eq_true, and_self, and_true, true_and, and_false, false_and]
    · refine ⟨g3.1, g3.2.1, g3.2.2.1, fun x f hx => ?_, fun x f hx => ?_⟩
      · rw [g3.2.2.2.1 x f hx, rI, if_neg hx]; rfl
      · rw [g3.2.2.2.2 x f hx, rI2, rA, if_neg (fun z => hx z.1)]
theorem dm_28 {d : Nat → Nat} {n k : Nat} {v : Int64} (hk : k ≤ 8) (hn : n + k ≤ 400) (hd : ∀ t, t < k → byE v (Int32.ofNat t) = Int32.ofNat (d (n + t)) ∧ d (n + t) < 256) : ∀ c i fuel σ, i + c = k → c < fuel → (σ.1 0 0 = Int32.ofNat n ∧ ∀ j, j < n + i → σ.2.2.2.1 1 j = Int32.ofNat (d j) ∧ d j < 256) →
    ∃ σ1, F_Mo_draft_28 fuel 0 v (Int32.ofNat k) (Int32.ofNat i) σ = some (true, σ1) ∧ Drf d (n + k) σ1 ∧ FDm σ σ1 := by
  intro c
  induction c with
  | zero =>
    intro i fuel σ hi hf h
    obtain ⟨fuel, rfl⟩ : ∃ x, fuel = x + 1 := ⟨fuel - 1, by omega⟩
    refine ⟨setI σ 0 0 (Int32.ofNat (n + k)), ?_, ⟨by rw [rI, if_pos ⟨rfl, rfl⟩], hn, fun j hj => h.2 j (by omega)⟩, ⟨rfl, rfl, rfl, fun x f hx => by rw [rI, if_neg hx], fun _ _ _ => rfl⟩⟩
    simp (disch := omega) only [F_Mo_draft_28, n_le, if_pos, h.1, n_add, stl_e, ite_true, ite_false, if_true, if_false, Bool.false_eq_true, and_self, and_true, true_and, and_false, false_and]
  | succ c ih =>
    intro i fuel σ hi hf h
    obtain ⟨fuel, rfl⟩ : ∃ x, fuel = x + 1 := ⟨fuel - 1, by omega⟩
    obtain ⟨h1, h3⟩ := h
    obtain ⟨e, hb⟩ := hd i (by omega)
    unfold byE at e
    obtain ⟨σ1, g1, g2, g3⟩ := ih (i + 1) fuel (setA σ 1 (n + i) (Int32.ofNat (d (n + i)))) (by omega) (by omega) ⟨h1, fun j hj => by
      rw [rA]
      by_cases ej : j = n + i
      · rw [if_pos ⟨rfl, ej⟩, ej]
        exact ⟨rfl, hb⟩
      · rw [if_neg (fun z => ej z.2)]
        exact h3 j (by omega)⟩
    refine ⟨σ1, ?_, g2, ?_⟩
    · simp (disch := omega) only [F_Mo_draft_28, n_le, if_neg, h1, lit32, lit64n, n_nl0, n_cl, false_or, cm_1, e, stl_e, n_add, g1, ite_true, ite_false, if_true, if_false, Bool.false_eq_true, and_self, and_true, true_and, and_false, false_and]
    · refine ⟨g3.1, g3.2.1, g3.2.2.1, fun x f hx => ?_, fun x f hx => ?_⟩
      · rw [g3.2.2.2.1 x f hx]; rfl
      · rw [g3.2.2.2.2 x f hx, rA, if_neg (fun z => hx z.1)]
theorem draft_sim {d : Nat → Nat} {n : Nat} {σc σm : SG} (v : Int64) (x : Int32) (hc : DrC d n σc) (hd : Drf d n σm) :
    ∃ b σc1 σm1 d1 n1, F_TE_draft 0 v x σc = some (b, σc1) ∧ F_Mo_draft 0 v x σm = some (b, σm1) ∧ DrC d1 n1 σc1 ∧ Drf d1 n1 σm1 ∧ FDc σc σc1 ∧ FDm σm σm1 := by
  have hc1 := hc.1
  have hd1 := hd.1
  have hn := hc.2.1
  have no : F_TE_draft 0 v x σc = some (false, σc) → F_Mo_draft 0 v x σm = some (false, σm) → ∃ b σc1 σm1 d1 n1, F_TE_draft 0 v x σc = some (b, σc1) ∧ F_Mo_draft 0 v x σm = some (b, σm1) ∧ DrC d1 n1 σc1 ∧ Drf d1 n1 σm1 ∧ FDc σc σc1 ∧ FDm σm σm1 := fun a b => ⟨false, σc, σm, d, n, a, b, hc, hd, FDc_refl _, FDm_refl _⟩
  rcases n_case x with hx | ⟨k, hk, rfl⟩
  · have h1 : x < (1 : Int32) := n_ltr hx (m := 1) (by omega)
    refine no ?_ ?_
    · unfold F_TE_draft; rw [if_pos h1]; rfl
    · unfold F_Mo_draft; rw [if_pos h1]; rfl
  · by_cases c0 : k < 1
    · refine no ?_ ?_
      · simp (disch := omega) only [F_TE_draft, F_TE_draft_23, lit32, n_lt, if_pos, ite_true, ite_false, if_true, if_false, Bool.false_eq_true, and_self, and_true, true_and, and_false, false_and]
      · simp (disch := omega) only [F_Mo_draft, F_Mo_draft_23, lit32, n_lt, if_pos, ite_true, ite_false, if_true, if_false, Bool.false_eq_true, and_self, and_true, true_and, and_false, false_and]
    · by_cases c8 : 8 < k
      · refine no ?_ ?_
        · simp (disch := omega) only [F_TE_draft, F_TE_draft_23, lit32, n_lt, if_pos, if_neg, ite_true, ite_false, if_true, if_false, Bool.false_eq_true, and_self, and_true, true_and, and_false, false_and]
        · simp (disch := omega) only [F_Mo_draft, F_Mo_draft_23, lit32, n_lt, if_pos, if_neg, ite_true, ite_false, if_true, if_false, Bool.false_eq_true, and_self, and_true, true_and, and_false, false_and]
      · by_cases c4 : n + k ≤ 400
        · have hex : ∃ w : Nat → Nat, ∀ t, w t < 256 ∧ byE v (Int32.ofNat t) = Int32.ofNat (w t) := ⟨fun t => Classical.choose (byE_b v (Int32.ofNat t)), fun t => Classical.choose_spec (byE_b v (Int32.ofNat t))⟩
          obtain ⟨w, hw⟩ := hex
          have hd' : ∀ t, t < k → byE v (Int32.ofNat t) = Int32.ofNat ((fun j => if j < n then d j else w (j - n)) (n + t)) ∧ (fun j => if j < n then d j else w (j - n)) (n + t) < 256 := by
            intro t _
            have e : (fun j => if j < n then d j else w (j - n)) (n + t) = w t := by
              show (if n + t < n then d (n + t) else w (n + t - n)) = w t
              rw [if_neg (by omega), Nat.add_sub_cancel_left]
            rw [e]
            exact ⟨(hw t).2, (hw t).1⟩
          have hlow : ∀ j, j < n → (fun j => if j < n then d j else w (j - n)) j = d j := by
            intro j hj
            show (if j < n then d j else w (j - n)) = d j
            rw [if_pos hj]
          obtain ⟨s1, f1, g1, q1⟩ := dc_28 (d := fun j => if j < n then d j else w (j - n)) (n := n) (k := k) (v := v) (by omega) c4 hd' k 0 5000 σc (by omega) (by omega) ⟨hc1, hn, fun j hj => by rw [hlow j hj]; exact hc.2.2 j hj⟩
          obtain ⟨s2, f2, g2, q2⟩ := dm_28 (d := fun j => if j < n then d j else w (j - n)) (n := n) (k := k) (v := v) (by omega) c4 hd' k 0 5000 σm (by omega) (by omega) ⟨hd1, fun j hj => by rw [if_pos (show j < n by omega)]; exact hd.2.2 j (by omega)⟩
          refine ⟨true, s1, s2, _, n + k, ?_, ?_, g1, g2, q1, q2⟩
          · simp (disch := omega) only [F_TE_draft, lit32, n_lt, n_le, if_pos, if_neg, hc1, n_add, f1, ite_true, ite_false, if_true, if_false, Bool.false_eq_true, and_self, and_true, true_and, and_false, false_and]
          · simp (disch := omega) only [F_Mo_draft, lit32, n_lt, n_le, if_pos, if_neg, hd1, n_add, f2, ite_true, ite_false, if_true, if_false, Bool.false_eq_true, and_self, and_true, true_and, and_false, false_and]
        · refine no ?_ ?_
          · simp (disch := omega) only [F_TE_draft, F_TE_draft_23, lit32, n_lt, n_le, if_neg, hc1, n_add, ite_true, ite_false, if_true, if_false, Bool.false_eq_true, and_self, and_true, true_and, and_false, false_and]
          · simp (disch := omega) only [F_Mo_draft, F_Mo_draft_23, lit32, n_lt, n_le, if_neg, hd1, n_add, ite_true, ite_false, if_true, if_false, Bool.false_eq_true, and_self, and_true, true_and, and_false, false_and]
theorem clear_sim {d : Nat → Nat} {n : Nat} {σc σm : SG} (hc : DrC d n σc) (hd : Drf d n σm) :
    ∃ σc1 σm1, F_TE_clear 0 σc = some σc1 ∧ F_Mo_clear 0 σm = some σm1 ∧ DrC d 0 σc1 ∧ Drf d 0 σm1 ∧ FDc σc σc1 ∧ FDm σm σm1 := by
  refine ⟨setI σc 0 1 (Int32.ofNat 0), setI σm 0 0 (Int32.ofNat 0), ?_, ?_, ⟨by rw [rI, if_pos ⟨rfl, rfl⟩], by omega, fun k hk => by omega⟩, ⟨by rw [rI, if_pos ⟨rfl, rfl⟩], by omega, fun k hk => by omega⟩, ⟨rfl, rfl, rfl, fun x f hx => by rw [rI, if_neg hx], fun _ _ _ => rfl⟩, ⟨rfl, rfl, rfl, fun x f hx => by rw [rI, if_neg hx], fun _ _ _ => rfl⟩⟩
  · simp (disch := omega) only [F_TE_clear, stl_e, lit32, ite_true, ite_false, if_true, if_false, Bool.false_eq_true, and_self, and_true, true_and, and_false, false_and]
  · simp (disch := omega) only [F_Mo_clear, stl_e, lit32, ite_true, ite_false, if_true, if_false, Bool.false_eq_true, and_self, and_true, true_and, and_false, false_and]
/-- a verified method, in both -/
theorem ImgI_n {σc σm : SG} {im : Im} {IA IB : Nat} (h : ImgI σc σm im IA IB) : σc.1 IA 1 = Int32.ofNat (im 0 1) ∧ σm.1 0 7 = Int32.ofNat (im 0 1) ∧ im 0 1 ≤ 6 ∧ (IA = 2 ∨ IA = 60) ∧ isC SHc IA 1 = true := by
  obtain ⟨hP2, hP3, hAB, -, hR, him⟩ := h
  have hIA : IA = 2 ∨ IA = 60 := by omega
  have hcA : isC SHc IA 1 = true := by rcases hIA with e | e <;> rw [e] <;> decide
  refine ⟨?_, hR.2.2.1, ?_, hIA, hcA⟩
  · rcases him with ⟨h1, h2, -⟩ | ⟨h1, -⟩
    · rw [h1]; exact h2
    · exact (IC_nm h1).1
  · rcases him with ⟨h1, h2, -⟩ | ⟨h1, -⟩
    · omega
    · exact (IC_nm h1).2.2
def VmR (im : Im) (IA : Nat) (σc σm : SG) (x : Int32) (o : Option Nat) : Prop := (o = none) ∨ ∃ k R, k < im 0 1 ∧ x = Int32.ofNat k ∧ o = some (IA + 4 + 9 * k) ∧ ImC σc IA im ∧ WfI im ∧ VOK im k ∧ RwOK im k IA σc R ∧ RS im k σm R ∧ ∀ p, p < im 14 k → (zb (σm.2.2.2.1 16 (100 * k + p)) = true ↔ Beg im k p)
theorem vm_sim {σc σm : SG} {im : Im} {IA IB : Nat} (x : Int32) (h : ImgI σc σm im IA IB) : ∃ o, F_Im_verifiedMethod IA x σc = some (o, σc) ∧ F_Mo_isGood 0 x σm = some (o.isSome, σm) ∧ VmR im IA σc σm x o := by
  obtain ⟨hn1, hn2, hn6, hIA, hI⟩ := ImgI_n h
  rcases n_case x with hx | ⟨k, hk, rfl⟩
  · refine ⟨none, ?_, ?_, Or.inl rfl⟩
    · have hm : F_Im_method IA x σc = some (none, σc) := by
        unfold F_Im_method
        rw [if_pos hx]
        rfl
      simp (disch := omega) only [F_Im_verifiedMethod, F_Im_verifiedMethod_17, F_Im_verifiedMethod_22, hm, ite_true, ite_false, if_true, if_false, Bool.false_eq_true, and_self, and_true, true_and, and_false, false_and]
    · unfold F_Mo_isGood
      rw [if_pos hx]
      rfl
  · by_cases c : k < im 0 1
    · have hr : ImC σc IA im ∧ WfI im ∧ ∀ m, m < im 0 1 → VerI im m IA σc σm := by
        rcases h.2.2.2.2.2 with ⟨h1, -⟩ | h1
        · omega
        · exact h1
      obtain ⟨hIm, hw, hV⟩ := hr
      obtain ⟨b, R, v1, v2, v3, v4⟩ := hV k c
      have hm := a_meth (k := k) hIm hk
      rw [if_pos c] at hm
      have hM := d_Mc hIm c
      cases b with
      | true =>
        obtain ⟨r1, r2, r3⟩ := v4 rfl
        refine ⟨some (IA + 4 + 9 * k), ?_, ?_, Or.inr ⟨k, R, c, rfl, rfl, hIm, hw, v3.mp rfl, r1, r2, r3⟩⟩
        · simp (disch := omega) only [F_Im_verifiedMethod, F_Im_verifiedMethod_17, F_Im_verifiedMethod_22, hm, hM, if_pos, v1, ite_true, ite_false, if_true, if_false, Bool.false_eq_true, and_self, and_true, true_and, and_false, false_and]
        · simp (disch := omega) only [F_Mo_isGood, F_Mo_isGood_25, F_Mo_isGood_26, lit32, n_nl0, if_neg, hn2, n_le, n_cl, false_or, cm_23, v2, if_pos, Option.isSome_some, ite_true, ite_false, if_true, if_false, Bool.false_eq_true, and_self, and_true, true_and, and_false, false_and]
      | false =>
        refine ⟨none, ?_, ?_, Or.inl rfl⟩
        · simp (disch := omega) only [F_Im_verifiedMethod, F_Im_verifiedMethod_17, F_Im_verifiedMethod_22, hm, hM, if_pos, if_neg, v1, ite_true, ite_false, if_true, if_false, Bool.false_eq_true, and_self, and_true, true_and, and_false, false_and]
        · simp (disch := omega) only [F_Mo_isGood, F_Mo_isGood_25, F_Mo_isGood_26, lit32, n_nl0, if_neg, hn2, n_le, n_cl, false_or, cm_23, v2, Option.isSome_none, ite_true, ite_false, if_true, if_false, Bool.false_eq_true, and_self, and_true, true_and, and_false, false_and]
    · refine ⟨none, ?_, ?_, Or.inl rfl⟩
      · have hm : F_Im_method IA (Int32.ofNat k) σc = some (none, σc) := by
          simp (disch := omega) only [F_Im_method, F_Im_method_12, F_Im_method_22, hn1, lit32, n_nl0, n_lt, if_neg, ite_true, ite_false, if_true, if_false, Bool.false_eq_true, and_self, and_true, true_and, and_false, false_and]
        simp (disch := omega) only [F_Im_verifiedMethod, F_Im_verifiedMethod_17, F_Im_verifiedMethod_22, hm, ite_true, ite_false, if_true, if_false, Bool.false_eq_true, and_self, and_true, true_and, and_false, false_and]
      · simp (disch := omega) only [F_Mo_isGood, F_Mo_isGood_25, F_Mo_isGood_26, lit32, n_nl0, if_neg, if_pos, hn2, n_le, Option.isSome_none, ite_true, ite_false, if_true, if_false, Bool.false_eq_true, and_self, and_true, true_and, and_false, false_and]
theorem verified_sim {σc σm : SG} {im : Im} {IA IB : Nat} (x : Int32) (h : ImgI σc σm im IA IB) : ∃ b, F_TE_verified 0 x σc = some (b, σc) ∧ F_Mo_verified 0 x σm = some (b, σm) := by
  obtain ⟨o, h1, h2, h3⟩ := vm_sim x h
  have hP := h.1
  have hI := (ImgI_n h).2.2.2.2
  refine ⟨o.isSome, ?_, ?_⟩
  · rcases h3 with e | ⟨k, R, c, -, e, hIm, -⟩
    · subst e
      simp (disch := omega) only [F_TE_verified, F_TE_verified_16, hP, hI, if_pos, h1, Option.isSome_none, ite_true, ite_false, if_true, if_false, Bool.false_eq_true, and_self, and_true, true_and, and_false, false_and]
    · subst e
      have hM := d_Mc hIm c
      simp (disch := omega) only [F_TE_verified, F_TE_verified_16, hP, hI, if_pos, h1, hM, Option.isSome_some, ite_true, ite_false, if_true, if_false, Bool.false_eq_true, and_self, and_true, true_and, and_false, false_and]
  · simp (disch := omega) only [F_Mo_verified, h2, ite_true, ite_false, if_true, if_false, Bool.false_eq_true, and_self, and_true, true_and, and_false, false_and]
/-- the row at a place, for any int -/
theorem row_any {im : Im} {m IA : Nat} {σ : SG} {R : RQ} (h : ImC σ IA im) (hm : m < im 0 1) (hR : RwOK im m IA σ R) (y : Int32) : (∃ p, p < im 14 m ∧ y = Int32.ofNat p ∧ F_Me_rowAt (IA + 4 + 9 * m) y σ = some (encO (R p), σ)) ∨ ((y < 0 ∨ ∃ p, im 14 m ≤ p ∧ p < 2147483648 ∧ y = Int32.ofNat p) ∧ F_Me_rowAt (IA + 4 + 9 * m) y σ = some (-Int32.ofNat 1, σ)) := by
  have hM := d_Mc h hm
  obtain ⟨h1, h2, h5⟩ := IC_ln h hm
  rcases n_case y with hy | ⟨p, hp, rfl⟩
  · refine Or.inr ⟨Or.inl hy, ?_⟩
    unfold F_Me_rowAt
    rw [if_pos hy]
    simp (disch := omega) only [F_Me_rowAt_12, F_Me_rowAt_22, lit32, ite_true, ite_false, if_true, if_false, Bool.false_eq_true, and_self, and_true, true_and, and_false, false_and]
  · by_cases c : p < im 14 m
    · refine Or.inl ⟨p, c, rfl, ?_⟩
      have h3 := hR.2.2.1 p c
      simp (disch := omega) only [F_Me_rowAt, F_Me_rowAt_22, F_Me_rowAt_12, h1, lit32, n_le, n_lt, n_eq, n_add, n_mul, n_sub, n_cl, n_nl0, n_ne1, n_1ne, n_1lt, n_1le, n_le1, n_lt1, false_or, if_pos, if_neg, cM10 hM, h3, ite_true, ite_false, if_true, if_false, Bool.false_eq_true, and_self, and_true, true_and, and_false, false_and]
    · refine Or.inr ⟨Or.inr ⟨p, by omega, hp, rfl⟩, ?_⟩
      simp (disch := omega) only [F_Me_rowAt, F_Me_rowAt_22, F_Me_rowAt_12, h1, lit32, n_nl0, n_lt, if_neg, ite_true, ite_false, if_true, if_false, Bool.false_eq_true, and_self, and_true, true_and, and_false, false_and]
theorem m_depth {σc σm : SG} {im : Im} {IA IB : Nat} (x y : Int32) (h : ImgI σc σm im IA IB) : ∃ v, F_TE_depth 0 x y σc = some (v, σc) ∧ F_Mo_depth 0 x y σm = some (v, σm) := by
  obtain ⟨o, h1, h2, h3⟩ := vm_sim x h
  have hP := h.1
  have hI := (ImgI_n h).2.2.2.2
  rcases h3 with e | ⟨k, R, c, ex, e, hIm, hw, hvok, hRw, hRS, hbg⟩
  · subst e
    refine ⟨-Int32.ofNat 2, ?_, ?_⟩
    · simp (disch := omega) only [F_TE_depth, hP, hI, if_pos, h1, lit32, ite_true, ite_false, if_true, if_false, Bool.false_eq_true, and_self, and_true, true_and, and_false, false_and]
    · simp (disch := omega) only [F_Mo_depth, h2, Option.isSome_none, if_neg, lit32, ite_true, ite_false, if_true, if_false, Bool.false_eq_true, and_self, and_true, true_and, and_false, false_and]
  · subst e
    subst ex
    have hM := d_Mc hIm c
    have h6 := (wf_m hw c).1
    have hR4 := RepM_A h.2.2.2.2.1 14 k (by omega) (by omega)
    obtain ⟨-, l1, l2⟩ := IC_ln hIm c
    rcases row_any hIm c hRw y with ⟨p, hp, ey, hr⟩ | ⟨hy, hr⟩
    · subst ey
      have hhi := (hRS.1 p hp).1
      have hgo := hRw.2.2.2.1 p
      refine ⟨hiO (R p), ?_, ?_⟩
      · cases hRp : R p with
        | none =>
          rw [hRp] at hr
          have hr' : F_Me_rowAt (IA + 4 + 9 * k) (Int32.ofNat p) σc = some (-Int32.ofNat 1, σc) := hr
          simp (disch := omega) only [F_TE_depth, F_TE_depth_38, hP, hI, if_pos, h1, hM, hr', lit32, hiO, ite_true, ite_false, if_true, if_false, Bool.false_eq_true, and_self, and_true, true_and, and_false, false_and]
        | some l =>
          rw [hRp] at hr
          have hl := hgo l hRp
          have hne : ¬ (encO (some l) = -Int32.ofNat 1) := fun e => by
            have := (encO_none (fun z e => by cases e; exact hl)).mp e
            cases this
          have hs : F_Rw_size (encO (some l)) σc = some (Int32.ofNat l.length, σc) := f_size hl σc
          simp (disch := omega) only [F_TE_depth, F_TE_depth_38, hP, hI, if_pos, if_neg, h1, hM, hr, lit32, hne, hs, hiO, ite_true, ite_false, if_true, if_false, Bool.false_eq_true, and_self, and_true, true_and, and_false, false_and]
      · simp (disch := omega) only [F_Mo_depth, F_Mo_depth_25, F_Mo_depth_40, h2, Option.isSome_some, if_pos, if_neg, lit32, n_nl0, n_cl, false_or, cm_18, cm_21, hR4, n_lt, n_mul, n_add, hhi, ite_true, ite_false, if_true, if_false, Bool.false_eq_true, and_self, and_true, true_and, and_false, false_and]
    · refine ⟨-Int32.ofNat 1, ?_, ?_⟩
      · simp (disch := omega) only [F_TE_depth, F_TE_depth_38, hP, hI, if_pos, h1, hM, hr, lit32, ite_true, ite_false, if_true, if_false, Bool.false_eq_true, and_self, and_true, true_and, and_false, false_and]
      · rcases hy with hy | ⟨p, hp1, hp2, ey⟩
        · have hF : F_Mo_depth 0 (Int32.ofNat k) y σm = F_Mo_depth_25 σm := by
            unfold F_Mo_depth
            rw [h2]
            show (if (some (IA + 4 + 9 * k)).isSome = true then _ else _) = _
            rw [if_pos (show (some (IA + 4 + 9 * k)).isSome = true from rfl), if_pos hy]
          rw [hF]
          simp (disch := omega) only [F_Mo_depth_25, F_Mo_depth_40, lit32, ite_true, ite_false, if_true, if_false, Bool.false_eq_true, and_self, and_true, true_and, and_false, false_and]
        · subst ey
          simp (disch := omega) only [F_Mo_depth, F_Mo_depth_25, F_Mo_depth_40, h2, Option.isSome_some, if_pos, if_neg, lit32, n_nl0, n_cl, false_or, cm_18, hR4, n_lt, ite_true, ite_false, if_true, if_false, Bool.false_eq_true, and_self, and_true, true_and, and_false, false_and]
theorem type_sim {σc σm : SG} {im : Im} {IA IB : Nat} (x y z : Int32) (h : ImgI σc σm im IA IB) : ∃ v, F_TE_type 0 x y z σc = some (v, σc) ∧ F_Mo_type 0 x y z σm = some (v, σm) := by
  obtain ⟨o, h1, h2, h3⟩ := vm_sim x h
  obtain ⟨dv, hd1, hd2⟩ := m_depth x y h
  have hP := h.1
  have hI := (ImgI_n h).2.2.2.2
  -- where the number is none of the eight
  have hout : (z < 0 ∨ ∃ i, 8 ≤ i ∧ i < 2147483648 ∧ z = Int32.ofNat i) → F_Mo_type 0 x y z σm = some (Int32.ofNat 0, σm) := by
    rintro (hz | ⟨i, hi1, hi2, e⟩)
    · unfold F_Mo_type
      rw [if_pos hz]
      simp (disch := omega) only [F_Mo_type_20, F_Mo_type_44, lit32, ite_true, ite_false, if_true, if_false, Bool.false_eq_true, and_self, and_true, true_and, and_false, false_and]
    · subst e
      simp (disch := omega) only [F_Mo_type, F_Mo_type_20, F_Mo_type_44, lit32, n_nl0, n_le, if_neg, if_pos, ite_true, ite_false, if_true, if_false, Bool.false_eq_true, and_self, and_true, true_and, and_false, false_and]
  have hzc : (z < 0 ∨ ∃ i, 8 ≤ i ∧ i < 2147483648 ∧ z = Int32.ofNat i) ∨ ∃ i, i < 8 ∧ z = Int32.ofNat i := by
    rcases n_case z with hz | ⟨i, hi, e⟩
    · exact Or.inl (Or.inl hz)
    · by_cases c : i < 8
      · exact Or.inr ⟨i, c, e⟩
      · exact Or.inl (Or.inr ⟨i, by omega, hi, e⟩)
  rcases h3 with e | ⟨k, R, c, ex, e, hIm, hw, hvok, hRw, hRS, hbg⟩
  · subst e
    refine ⟨Int32.ofNat 0, ?_, ?_⟩
    · simp (disch := omega) only [F_TE_type, hP, hI, if_pos, h1, lit32, ite_true, ite_false, if_true, if_false, Bool.false_eq_true, and_self, and_true, true_and, and_false, false_and]
    · rcases hzc with hz | ⟨i, hi, ez⟩
      · exact hout hz
      · subst ez
        have hdep : F_Mo_depth 0 x y σm = some (-Int32.ofNat 2, σm) := by
          simp (disch := omega) only [F_Mo_depth, h2, Option.isSome_none, if_neg, lit32, ite_true, ite_false, if_true, if_false, Bool.false_eq_true, and_self, and_true, true_and, and_false, false_and]
        have hn : ¬ (Int32.ofNat i < -Int32.ofNat 2) := by
          rw [i_lt, n_int (by omega)]
          have : (-Int32.ofNat 2).toInt = -2 := by decide
          omega
        simp (disch := omega) only [F_Mo_type, F_Mo_type_20, F_Mo_type_44, lit32, n_nl0, n_le, if_neg, hdep, hn, ite_true, ite_false, if_true, if_false, Bool.false_eq_true, and_self, and_true, true_and, and_false, false_and]
  · subst e
    subst ex
    have hM := d_Mc hIm c
    have h6 := (wf_m hw c).1
    have hR4 := RepM_A h.2.2.2.2.1 14 k (by omega) (by omega)
    obtain ⟨-, l1, l2⟩ := IC_ln hIm c
    -- no row
    have hnone : F_Me_rowAt (IA + 4 + 9 * k) y σc = some (-Int32.ofNat 1, σc) → F_Mo_depth 0 (Int32.ofNat k) y σm = some (-Int32.ofNat 1, σm) → ∃ v, F_TE_type 0 (Int32.ofNat k) y z σc = some (v, σc) ∧ F_Mo_type 0 (Int32.ofNat k) y z σm = some (v, σm) := by
      intro hr hdep
      refine ⟨Int32.ofNat 0, ?_, ?_⟩
      · simp (disch := omega) only [F_TE_type, F_TE_type_41, hP, hI, if_pos, h1, hM, hr, lit32, ite_true, ite_false, if_true, if_false, Bool.false_eq_true, and_self, and_true, true_and, and_false, false_and]
      · rcases hzc with hz | ⟨i, hi, ez⟩
        · exact hout hz
        · subst ez
          simp (disch := omega) only [F_Mo_type, F_Mo_type_20, F_Mo_type_44, lit32, n_nl0, n_le, n_lt1, if_neg, hdep, ite_true, ite_false, if_true, if_false, Bool.false_eq_true, and_self, and_true, true_and, and_false, false_and]
    rcases row_any hIm c hRw y with ⟨p, hp, ey, hr⟩ | ⟨hy, hr⟩
    · subst ey
      have hhi := (hRS.1 p hp).1
      have hgo := hRw.2.2.2.1 p
      have hdep : F_Mo_depth 0 (Int32.ofNat k) (Int32.ofNat p) σm = some (hiO (R p), σm) := by
        simp (disch := omega) only [F_Mo_depth, F_Mo_depth_25, F_Mo_depth_40, h2, Option.isSome_some, if_pos, if_neg, lit32, n_nl0, n_cl, false_or, cm_18, cm_21, hR4, n_lt, n_mul, n_add, hhi, ite_true, ite_false, if_true, if_false, Bool.false_eq_true, and_self, and_true, true_and, and_false, false_and]
      cases hRp : R p with
      | none =>
        rw [hRp] at hr hdep
        exact hnone hr hdep
      | some l =>
        rw [hRp] at hr hdep
        have hdep' : F_Mo_depth 0 (Int32.ofNat k) (Int32.ofNat p) σm = some (Int32.ofNat l.length, σm) := hdep
        have hl := hgo l hRp
        have hl8 := hl.1
        have he := Gr_32 hl
        have hty := (hRS.1 p hp).2 l hRp
        have hne : ¬ (encO (some l) = -Int32.ofNat 1) := fun e => by
          have := (encO_none (fun z e => by cases e; exact hl)).mp e
          cases this
        rcases hzc with hz | ⟨i, hi, ez⟩
        · refine ⟨Int32.ofNat 0, ?_, hout hz⟩
          have ht : F_Rw_typeAt (encO (some l)) z σc = some (Int32.ofNat 0, σc) := by
            rcases hz with hz | ⟨i, hi1, hi2, ez⟩
            · exact f_typeAt0 hz σc
            · subst ez
              exact f_typeAt8 hi1 hi2 σc
          simp (disch := omega) only [F_TE_type, F_TE_type_41, hP, hI, if_pos, if_neg, h1, hM, hr, lit32, hne, ht, ite_true, ite_false, if_true, if_false, Bool.false_eq_true, and_self, and_true, true_and, and_false, false_and]
        · subst ez
          have ht : F_Rw_typeAt (encO (some l)) (Int32.ofNat i) σc = some (Int32.ofNat (enc l / 2 ^ (4 * i) % 16), σc) := f_typeAt (by omega) hi σc
          refine ⟨Int32.ofNat (enc l / 2 ^ (4 * i) % 16), ?_, ?_⟩
          · simp (disch := omega) only [F_TE_type, F_TE_type_41, hP, hI, if_pos, if_neg, h1, hM, hr, lit32, hne, ht, ite_true, ite_false, if_true, if_false, Bool.false_eq_true, and_self, and_true, true_and, and_false, false_and]
          · by_cases cl : i < l.length
            · have ev : ((Int64.ofNat (enc l) >>> ((Int32.ofNat (4 * i)).toInt64 &&& Int64.ofNat 63)) &&& Int64.ofNat 15).toInt32 = Int32.ofNat (enc l / 2 ^ (4 * i) % 16) := by
                rw [j_n _ (by omega), j_shr _ _ (by omega) (by omega), j_and, b_15, j_i]
              simp (disch := omega) only [F_Mo_type, F_Mo_type_44, lit32, lit64n, n_nl0, n_le, n_lt, if_neg, if_pos, hdep', n_mul, n_add, n_cl, false_or, cm_22, hty, ev, ite_true, ite_false, if_true, if_false, Bool.false_eq_true, and_self, and_true, true_and, and_false, false_and]
            · have ev : enc l / 2 ^ (4 * i) % 16 = 0 := by rw [(enc_z hl i).mpr (by omega)]
              rw [ev]
              simp (disch := omega) only [F_Mo_type, F_Mo_type_20, F_Mo_type_44, lit32, n_nl0, n_le, n_lt, if_neg, hdep', ite_true, ite_false, if_true, if_false, Bool.false_eq_true, and_self, and_true, true_and, and_false, false_and]
    · refine hnone hr ?_
      rcases hy with hy | ⟨p, hp1, hp2, ey⟩
      · have hF : F_Mo_depth 0 (Int32.ofNat k) y σm = F_Mo_depth_25 σm := by
          unfold F_Mo_depth
          rw [h2]
          show (if (some (IA + 4 + 9 * k)).isSome = true then _ else _) = _
          rw [if_pos (show (some (IA + 4 + 9 * k)).isSome = true from rfl), if_pos hy]
        rw [hF]
        simp (disch := omega) only [F_Mo_depth_25, F_Mo_depth_40, lit32, ite_true, ite_false, if_true, if_false, Bool.false_eq_true, and_self, and_true, true_and, and_false, false_and]
      · subst ey
        simp (disch := omega) only [F_Mo_depth, F_Mo_depth_25, F_Mo_depth_40, h2, Option.isSome_some, if_pos, if_neg, lit32, n_nl0, n_cl, false_or, cm_18, hR4, n_lt, ite_true, ite_false, if_true, if_false, Bool.false_eq_true, and_self, and_true, true_and, and_false, false_and]
