/-! The class's small questions, answered. -/
theorem d_Mc {σ : SG} {IA : Nat} {im : Im} {m : Nat} (h : ImC σ IA im) (hm : m < im 0 1) : isC SHc (IA + 4 + 9 * m) 2 = true := (IC_M h hm).2.1
theorem a_lty {σ : SG} {IA : Nat} {im : Im} {m k : Nat} (h : ImC σ IA im) (hm : m < im 0 1) (hk : k < 256) : F_Me_localType (IA + 4 + 9 * m) (Int32.ofNat k) σ = some (Int32.ofNat (lty im m k), σ) := by
  have hM := d_Mc h hm
  obtain ⟨h1, h2⟩ := IC_lc h hm
  by_cases c : k < im 7 m
  · obtain ⟨h3, h4⟩ := IC_lt h hm c
    simp (disch := omega) only [F_Me_localType, F_Me_localType_22, F_Me_localType_12, h1, lit32, n_le, n_lt, n_eq, n_add, n_mul, n_sub, n_cl, n_nl0, n_ne1, n_1ne, n_1lt, n_1le, n_le1, n_lt1, false_or, if_pos, if_neg, cM6 hM, h3, lty, ite_true, ite_false, if_true, if_false, Bool.false_eq_true, and_self, and_true, true_and, and_false, false_and]
  · simp (disch := omega) only [F_Me_localType, F_Me_localType_22, F_Me_localType_12, h1, lit32, n_le, n_lt, n_eq, n_add, n_mul, n_sub, n_cl, n_nl0, n_ne1, n_1ne, n_1lt, n_1le, n_le1, n_lt1, if_neg, lty, ite_true, ite_false, if_true, if_false, Bool.false_eq_true, and_self, and_true, true_and, and_false, false_and]
theorem a_aty {σ : SG} {IA : Nat} {im : Im} {m k : Nat} (h : ImC σ IA im) (hm : m < im 0 1) (hk : k < 256) : F_Me_argumentType (IA + 4 + 9 * m) (Int32.ofNat k) σ = some (Int32.ofNat (aty im m k), σ) := by
  have hM := d_Mc h hm
  obtain ⟨h1, h2⟩ := IC_ac h hm
  by_cases c : k < im 5 m
  · obtain ⟨h3, h4⟩ := IC_at h hm c
    simp (disch := omega) only [F_Me_argumentType, F_Me_argumentType_22, F_Me_argumentType_12, h1, lit32, n_le, n_lt, n_eq, n_add, n_mul, n_sub, n_cl, n_nl0, n_ne1, n_1ne, n_1lt, n_1le, n_le1, n_lt1, false_or, if_pos, if_neg, cM5 hM, h3, aty, ite_true, ite_false, if_true, if_false, Bool.false_eq_true, and_self, and_true, true_and, and_false, false_and]
  · simp (disch := omega) only [F_Me_argumentType, F_Me_argumentType_22, F_Me_argumentType_12, h1, lit32, n_le, n_lt, n_eq, n_add, n_mul, n_sub, n_cl, n_nl0, n_ne1, n_1ne, n_1lt, n_1le, n_le1, n_lt1, if_neg, aty, ite_true, ite_false, if_true, if_false, Bool.false_eq_true, and_self, and_true, true_and, and_false, false_and]
theorem a_code {σ : SG} {IA : Nat} {im : Im} {m p : Nat} (h : ImC σ IA im) (hm : m < im 0 1) (hp : p < 2147483648) : F_Me_codeAt (IA + 4 + 9 * m) (Int32.ofNat p) σ = some (Int32.ofNat (cdA im m p), σ) := by
  have hM := d_Mc h hm
  obtain ⟨h1, h2, h5⟩ := IC_ln h hm
  by_cases c : p < im 14 m
  · obtain ⟨h3, h4⟩ := IC_cd h hm c
    simp (disch := omega) only [F_Me_codeAt, F_Me_codeAt_22, F_Me_codeAt_12, h1, lit32, n_le, n_lt, n_eq, n_add, n_mul, n_sub, n_cl, n_nl0, n_ne1, n_1ne, n_1lt, n_1le, n_le1, n_lt1, false_or, if_pos, if_neg, cM8 hM, h3, cdA, ite_true, ite_false, if_true, if_false, Bool.false_eq_true, and_self, and_true, true_and, and_false, false_and]
  · simp (disch := omega) only [F_Me_codeAt, F_Me_codeAt_22, F_Me_codeAt_12, h1, lit32, n_le, n_lt, n_eq, n_add, n_mul, n_sub, n_cl, n_nl0, n_ne1, n_1ne, n_1lt, n_1le, n_le1, n_lt1, if_neg, cdA, ite_true, ite_false, if_true, if_false, Bool.false_eq_true, and_self, and_true, true_and, and_false, false_and]
theorem cdA_le {σ : SG} {IA : Nat} {im : Im} {m p : Nat} (h : ImC σ IA im) (hm : m < im 0 1) : cdA im m p ≤ 255 := by
  unfold cdA
  split
  · exact (IC_cd h hm (by assumption)).2
  · omega
theorem a_fty {σ : SG} {IA : Nat} {im : Im} {k : Nat} (h : ImC σ IA im) (hk : k < 256) : F_Im_fieldType IA (Int32.ofNat k) σ = some (Int32.ofNat (fty im k), σ) := by
  have hI := h.2.1
  obtain ⟨h1, h2⟩ := IC_nc h
  have hh := has_raw (v := k / 4) h1 h2 (by omega)
  have e : k = 4 * (k / 4) + k % 4 := by omega
  by_cases c : k / 4 < im 0 0
  · obtain ⟨h3, h4⟩ := IC_fc h c
    rw [decide_eq_true c] at hh
    have e3 : k - k / 4 * 4 = k % 4 := by omega
    by_cases c2 : k % 4 < im 2 (k / 4)
    · obtain ⟨h5, h6⟩ := IC_ft h c c2
      rw [← e] at h5
      simp (disch := omega) only [F_Im_fieldType, F_Im_fieldType_48, F_Im_fieldType_33, F_Im_fieldType_32, lit32, n_le, n_lt, n_eq, n_add, n_mul, n_sub, n_cl, n_nl0, n_ne1, n_1ne, n_1lt, n_1le, n_le1, n_lt1, n_div, hh, false_or, if_pos, if_neg, cI2 hI, cI3 hI, h3, e3, h5, fty, ite_true, ite_false, if_true, if_false, Bool.false_eq_true, and_self, and_true, true_and, and_false, false_and]
    · simp (disch := omega) only [F_Im_fieldType, F_Im_fieldType_48, F_Im_fieldType_33, F_Im_fieldType_32, lit32, n_le, n_lt, n_eq, n_add, n_mul, n_sub, n_cl, n_nl0, n_ne1, n_1ne, n_1lt, n_1le, n_le1, n_lt1, n_div, hh, false_or, if_pos, if_neg, cI2 hI, cI3 hI, h3, e3, fty, ite_true, ite_false, if_true, if_false, Bool.false_eq_true, and_self, and_true, true_and, and_false, false_and]
  · rw [decide_eq_false c] at hh
    simp (disch := omega) only [F_Im_fieldType, F_Im_fieldType_48, F_Im_fieldType_33, F_Im_fieldType_32, lit32, n_le, n_lt, n_eq, n_add, n_mul, n_sub, n_cl, n_nl0, n_ne1, n_1ne, n_1lt, n_1le, n_le1, n_lt1, n_div, hh, if_neg, fty, ite_true, ite_false, if_true, if_false, Bool.false_eq_true, and_self, and_true, true_and, and_false, false_and]
theorem a_meth {σ : SG} {IA : Nat} {im : Im} {k : Nat} (h : ImC σ IA im) (hk : k < 2147483648) : F_Im_method IA (Int32.ofNat k) σ = some (if k < im 0 1 then some (IA + 4 + 9 * k) else none, σ) := by
  have hI := h.2.1
  obtain ⟨h1, h2, h3⟩ := IC_nm h
  by_cases c : k < im 0 1
  · simp (disch := omega) only [F_Im_method, F_Im_method_22, F_Im_method_12, h1, lit32, n_le, n_lt, n_eq, n_add, n_mul, n_sub, n_cl, n_nl0, n_ne1, n_1ne, n_1lt, n_1le, n_le1, n_lt1, false_or, if_pos, if_neg, cI4 hI, cIm hI, ite_true, ite_false, if_true, if_false, Bool.false_eq_true, and_self, and_true, true_and, and_false, false_and]
  · simp (disch := omega) only [F_Im_method, F_Im_method_22, F_Im_method_12, h1, lit32, n_le, n_lt, n_eq, n_add, n_mul, n_sub, n_cl, n_nl0, n_ne1, n_1ne, n_1lt, n_1le, n_le1, n_lt1, if_neg, ite_true, ite_false, if_true, if_false, Bool.false_eq_true, and_self, and_true, true_and, and_false, false_and]
theorem a_width {op : Nat} (h : op < 256) (σ : SG) : F_Op_width (Int32.ofNat op) σ = some (Int32.ofNat (wdt op), σ) := by
  by_cases c1 : op < 1
  · simp (disch := omega) only [F_Op_width, F_Op_width_60, F_Op_width_55, F_Op_width_34, F_Op_width_33, F_Op_width_16, F_Op_width_15, lit32, n_le, n_lt, n_eq, n_add, n_mul, n_sub, n_cl, n_nl0, n_ne1, n_1ne, n_1lt, n_1le, n_le1, n_lt1, if_pos, if_neg, wdt, ite_true, ite_false, if_true, if_false, Bool.false_eq_true, and_self, and_true, true_and, and_false, false_and]
  by_cases c2 : op ≤ 6
  · simp (disch := omega) only [F_Op_width, F_Op_width_60, F_Op_width_55, F_Op_width_34, F_Op_width_33, F_Op_width_16, F_Op_width_15, lit32, n_le, n_lt, n_eq, n_add, n_mul, n_sub, n_cl, n_nl0, n_ne1, n_1ne, n_1lt, n_1le, n_le1, n_lt1, if_pos, if_neg, wdt, ite_self, ite_true, ite_false, if_true, if_false, Bool.false_eq_true, and_self, and_true, true_and, and_false, false_and]
  by_cases c3 : op < 13
  · simp (disch := omega) only [F_Op_width, F_Op_width_60, F_Op_width_55, F_Op_width_34, F_Op_width_33, F_Op_width_16, F_Op_width_15, lit32, n_le, n_lt, n_eq, n_add, n_mul, n_sub, n_cl, n_nl0, n_ne1, n_1ne, n_1lt, n_1le, n_le1, n_lt1, if_pos, if_neg, wdt, ite_true, ite_false, if_true, if_false, Bool.false_eq_true, and_self, and_true, true_and, and_false, false_and]
  by_cases c4 : op ≤ 20
  · simp (disch := omega) only [F_Op_width, F_Op_width_60, F_Op_width_55, F_Op_width_34, F_Op_width_33, F_Op_width_16, F_Op_width_15, lit32, n_le, n_lt, n_eq, n_add, n_mul, n_sub, n_cl, n_nl0, n_ne1, n_1ne, n_1lt, n_1le, n_le1, n_lt1, if_pos, if_neg, wdt, ite_true, ite_false, if_true, if_false, Bool.false_eq_true, and_self, and_true, true_and, and_false, false_and]
  by_cases c5 : op = 33
  · simp (disch := omega) only [F_Op_width, F_Op_width_60, F_Op_width_55, F_Op_width_34, F_Op_width_33, F_Op_width_16, F_Op_width_15, lit32, n_le, n_lt, n_eq, n_add, n_mul, n_sub, n_cl, n_nl0, n_ne1, n_1ne, n_1lt, n_1le, n_le1, n_lt1, if_pos, if_neg, wdt, ite_true, ite_false, if_true, if_false, Bool.false_eq_true, and_self, and_true, true_and, and_false, false_and]
  by_cases c6 : op = 36
  · simp (disch := omega) only [F_Op_width, F_Op_width_60, F_Op_width_55, F_Op_width_34, F_Op_width_33, F_Op_width_16, F_Op_width_15, lit32, n_le, n_lt, n_eq, n_add, n_mul, n_sub, n_cl, n_nl0, n_ne1, n_1ne, n_1lt, n_1le, n_le1, n_lt1, if_pos, if_neg, wdt, ite_true, ite_false, if_true, if_false, Bool.false_eq_true, and_self, and_true, true_and, and_false, false_and]
  · simp (disch := omega) only [F_Op_width, F_Op_width_60, F_Op_width_55, F_Op_width_34, F_Op_width_33, F_Op_width_16, F_Op_width_15, lit32, n_le, n_lt, n_eq, n_add, n_mul, n_sub, n_cl, n_nl0, n_ne1, n_1ne, n_1lt, n_1le, n_le1, n_lt1, if_pos, if_neg, wdt, ite_true, ite_false, if_true, if_false, Bool.false_eq_true, and_self, and_true, true_and, and_false, false_and]
theorem a_known {op : Nat} (h : op < 256) (σ : SG) : F_Op_isKnown (Int32.ofNat op) σ = some (decide (op ≤ 37), σ) := by
  by_cases c : op ≤ 37
  · rw [decide_eq_true c]
    simp (disch := omega) only [F_Op_isKnown, F_Op_isKnown_14, F_Op_isKnown_15, lit32, n_le, n_lt, n_eq, n_add, n_mul, n_sub, n_cl, n_nl0, n_ne1, n_1ne, n_1lt, n_1le, n_le1, n_lt1, if_neg, ite_true, ite_false, if_true, if_false, Bool.false_eq_true, and_self, and_true, true_and, and_false, false_and]
  · rw [decide_eq_false c]
    simp (disch := omega) only [F_Op_isKnown, F_Op_isKnown_14, F_Op_isKnown_15, lit32, n_le, n_lt, n_eq, n_add, n_mul, n_sub, n_cl, n_nl0, n_ne1, n_1ne, n_1lt, n_1le, n_le1, n_lt1, if_neg, if_pos, ite_true, ite_false, if_true, if_false, Bool.false_eq_true, and_self, and_true, true_and, and_false, false_and]
theorem a_jumps {op : Nat} (h : op < 256) (σ : SG) : F_Op_jumps (Int32.ofNat op) σ = some (decide (op = 13 ∨ op = 14 ∨ op = 15), σ) := by
  by_cases c : op = 13 ∨ op = 14 ∨ op = 15
  · rw [decide_eq_true c]
    rcases c with c | c | c <;> subst c <;> simp (disch := omega) only [F_Op_jumps, F_Op_jumps_18, F_Op_jumps_23, lit32, n_le, n_lt, n_eq, n_add, n_mul, n_sub, n_cl, n_nl0, n_ne1, n_1ne, n_1lt, n_1le, n_le1, n_lt1, if_neg, if_pos, ite_true, ite_false, if_true, if_false, Bool.false_eq_true, and_self, and_true, true_and, and_false, false_and]
  · rw [decide_eq_false c]
    simp (disch := omega) only [F_Op_jumps, F_Op_jumps_18, F_Op_jumps_23, lit32, n_le, n_lt, n_eq, n_add, n_mul, n_sub, n_cl, n_nl0, n_ne1, n_1ne, n_1lt, n_1le, n_le1, n_lt1, if_neg, ite_true, ite_false, if_true, if_false, Bool.false_eq_true, and_self, and_true, true_and, and_false, false_and]
theorem a_behind {op : Nat} (h : op < 256) (σ : SG) : F_Op_goesBehind (Int32.ofNat op) σ = some (decide (op ≠ 13 ∧ op < 34), σ) := by
  by_cases c : op = 13
  · rw [decide_eq_false (fun z => z.1 c)]
    simp (disch := omega) only [F_Op_goesBehind, F_Op_goesBehind_16, F_Op_goesBehind_17, lit32, n_le, n_lt, n_eq, n_add, n_mul, n_sub, n_cl, n_nl0, n_ne1, n_1ne, n_1lt, n_1le, n_le1, n_lt1, if_pos, ite_true, ite_false, if_true, if_false, Bool.false_eq_true, and_self, and_true, true_and, and_false, false_and]
  · by_cases c2 : op < 34
    · rw [decide_eq_true ⟨c, c2⟩]
      simp (disch := omega) only [F_Op_goesBehind, F_Op_goesBehind_16, F_Op_goesBehind_17, lit32, n_le, n_lt, n_eq, n_add, n_mul, n_sub, n_cl, n_nl0, n_ne1, n_1ne, n_1lt, n_1le, n_le1, n_lt1, if_neg, ite_true, ite_false, if_true, if_false, Bool.false_eq_true, and_self, and_true, true_and, and_false, false_and]
    · rw [decide_eq_false (fun z => c2 z.2)]
      simp (disch := omega) only [F_Op_goesBehind, F_Op_goesBehind_16, F_Op_goesBehind_17, lit32, n_le, n_lt, n_eq, n_add, n_mul, n_sub, n_cl, n_nl0, n_ne1, n_1ne, n_1lt, n_1le, n_le1, n_lt1, if_neg, if_pos, ite_true, ite_false, if_true, if_false, Bool.false_eq_true, and_self, and_true, true_and, and_false, false_and]
theorem i_lt (x y : Int32) : x < y ↔ x.toInt < y.toInt := Int32.lt_iff_toInt_lt
theorem i_le (x y : Int32) : x ≤ y ↔ x.toInt ≤ y.toInt := Int32.le_iff_toInt_le
theorem a_signed {k : Nat} (h : k < 256) (σ : SG) : ∃ x : Int32, F_Op_signed (Int32.ofNat k) σ = some (x, σ) ∧ x.toInt = sg k := by
  by_cases c : k ≤ 127
  · refine ⟨Int32.ofNat k, ?_, ?_⟩
    · simp (disch := omega) only [F_Op_signed, F_Op_signed_15, lit32, n_le, n_lt, n_eq, n_add, n_mul, n_sub, n_cl, n_nl0, n_ne1, n_1ne, n_1lt, n_1le, n_le1, n_lt1, if_pos, ite_true, ite_false, if_true, if_false, Bool.false_eq_true, and_self, and_true, true_and, and_false, false_and]
    · rw [n_int (by omega)]
      unfold sg
      rw [if_pos c]
  · refine ⟨Int32.ofNat k - Int32.ofNat 256, ?_, ?_⟩
    · by_cases c2 : k < 256
      · simp (disch := omega) only [F_Op_signed, F_Op_signed_15, lit32, n_le, if_neg, ite_true, ite_false, if_true, if_false, Bool.false_eq_true, and_self, and_true, true_and, and_false, false_and]
      · omega
    · rw [Int32.toInt_sub, n_int (by omega), n_int (by omega)]
      unfold sg
      rw [if_neg c, Int.bmod_eq_of_le (by omega) (by omega)]
      rfl
theorem sg_b {k : Nat} (h : k < 256) : -128 ≤ sg k ∧ sg k ≤ 127 := by
  unfold sg
  split <;> omega
/-- a target -/
theorem a_tgt {p k : Nat} {x : Int32} (hp : p < 1000) (hk : k < 256) (hx : x.toInt = sg k) : (Int32.ofNat p + Int32.ofNat 2 + x).toInt = (p : Int) + 2 + sg k := by
  have := sg_b hk
  rw [n_add, Int32.toInt_add, n_int (by omega), hx, Int.bmod_eq_of_le (by omega) (by omega)]
  omega
theorem a_keeps {σ : SG} {IA : Nat} {im : Im} {m r : Nat} {x : Int32} {z : Int} (h : ImC σ IA im) (hm : m < im 0 1) (hr : r < im 9 m) (hx : x.toInt = z) : ∃ b, F_Rg_keeps (IA + 4 + 9 * m + 4 + r) x σ = some (b, σ) ∧ (b = true ↔ iP im m r z) := by
  obtain ⟨h1, h2, h3, h4, b1, b2, b3, b4⟩ := IC_rg h hm hr
  unfold F_Rg_keeps
  simp (disch := omega) only [h1, h2, i_lt, i_le, n_int, hx, ite_true, ite_false, if_true, if_false, Bool.false_eq_true, and_self, and_true, true_and, and_false, false_and]
  unfold iP
  by_cases c : z < (im 10 (3 * m + r) : Int)
  · exact ⟨false, by rw [if_pos c]; rfl, by simp; omega⟩
  · by_cases c2 : (im 11 (3 * m + r) : Int) ≤ z
    · exact ⟨false, by rw [if_neg c, if_pos c2]; rfl, by simp; omega⟩
    · exact ⟨true, by rw [if_neg c, if_neg c2]; rfl, by simp; omega⟩
theorem a_handles {σ : SG} {IA : Nat} {im : Im} {m r : Nat} {x : Int32} {z : Int} (h : ImC σ IA im) (hm : m < im 0 1) (hr : r < im 9 m) (hx : x.toInt = z) : ∃ b, F_Rg_handles (IA + 4 + 9 * m + 4 + r) x σ = some (b, σ) ∧ (b = true ↔ iH im m r z) := by
  obtain ⟨h1, h2, h3, h4, b1, b2, b3, b4⟩ := IC_rg h hm hr
  unfold F_Rg_handles
  simp (disch := omega) only [h2, h3, i_lt, i_le, n_int, hx, ite_true, ite_false, if_true, if_false, Bool.false_eq_true, and_self, and_true, true_and, and_false, false_and]
  unfold iH
  by_cases c : z < (im 11 (3 * m + r) : Int)
  · exact ⟨false, by rw [if_pos c]; rfl, by simp; omega⟩
  · by_cases c2 : (im 12 (3 * m + r) : Int) ≤ z
    · exact ⟨false, by rw [if_neg c, if_pos c2]; rfl, by simp; omega⟩
    · exact ⟨true, by rw [if_neg c, if_neg c2]; rfl, by simp; omega⟩
/-- masks of three bits -/
def bt (a r : Nat) : Prop := a / 2 ^ r % 2 = 1
theorem shl1 (r : Nat) (h : r < 3) : (Int32.ofNat 1 <<< (Int32.ofNat r &&& Int32.ofNat 31)) = Int32.ofNat (2 ^ r) := by
  obtain rfl | rfl | rfl : r = 0 ∨ r = 1 ∨ r = 2 := by omega
  all_goals decide
def Msk (a rc : Nat) (P : Nat → Prop) : Prop := a < 2 ^ rc ∧ ∀ r, r < 3 → (bt a r ↔ r < rc ∧ P r)
theorem Msk_0 (P : Nat → Prop) : Msk 0 0 P := by
  refine ⟨by decide, fun r _ => ?_⟩
  unfold bt
  rw [Nat.zero_div]
  omega
theorem bt_add {a i r : Nat} (ha : a < 2 ^ i) (hi : i < 3) (hr : r < 3) : bt (a + 2 ^ i) r ↔ bt a r ∨ r = i := by
  have h : ∀ i, i < 3 → ∀ a, a < 2 ^ i → ∀ r, r < 3 → ((a + 2 ^ i) / 2 ^ r % 2 = 1 ↔ a / 2 ^ r % 2 = 1 ∨ r = i) := by decide
  exact h i hi a ha r hr
theorem bt_lt {a i r : Nat} (ha : a < 2 ^ i) (hi : i ≤ 3) (hr : r < 3) (hb : bt a r) : r < i := by
  have h : ∀ i, i < 4 → ∀ a, a < 2 ^ i → ∀ r, r < 3 → a / 2 ^ r % 2 = 1 → r < i := by decide
  exact h i (by omega) a ha r hr hb
theorem Msk_y {a i : Nat} {P : Nat → Prop} (h : Msk a i P) (hi : i < 3) (hp : P i) : Msk (a + 2 ^ i) (i + 1) P := by
  refine ⟨?_, fun r hr => ?_⟩
  · have := h.1
    rw [Nat.pow_succ]
    omega
  · rw [bt_add h.1 hi hr, h.2 r hr]
    constructor
    · rintro (z | z)
      · exact ⟨by omega, z.2⟩
      · exact ⟨by omega, by rw [z]; exact hp⟩
    · rintro ⟨z, w⟩
      by_cases c : r = i
      · exact Or.inr c
      · exact Or.inl ⟨by omega, w⟩
theorem Msk_n {a i : Nat} {P : Nat → Prop} (h : Msk a i P) (hp : ¬ P i) : Msk a (i + 1) P := by
  refine ⟨?_, fun r hr => ?_⟩
  · have := h.1
    rw [Nat.pow_succ]
    omega
  · rw [h.2 r hr]
    constructor
    · rintro ⟨z, w⟩
      exact ⟨by omega, w⟩
    · rintro ⟨z, w⟩
      refine ⟨?_, w⟩
      by_cases c : r = i
      · rw [c] at w
        exact absurd w hp
      · omega
theorem m_or {a i : Nat} (h : a < 2 ^ i) (hi : i < 3) : Int32.ofNat a ||| Int32.ofNat (2 ^ i) = Int32.ofNat (a + 2 ^ i) := by
  have e := b_or a 1 i h
  rw [Nat.one_mul] at e
  rw [i_or, e]
theorem a_parts_l {σ : SG} {IA : Nat} {im : Im} {m : Nat} {x : Int32} {z : Int} (h : ImC σ IA im) (hm : m < im 0 1) (hx : x.toInt = z) : ∀ c i fuel a, i + c = im 9 m → c < fuel → Msk a i (fun r => iP im m r z) → ∃ b, F_Me_partsAt_4 fuel (IA + 4 + 9 * m) x (Int32.ofNat a) (Int32.ofNat i) σ = some (Int32.ofNat b, σ) ∧ Msk b (im 9 m) (fun r => iP im m r z) := by
  have hM := d_Mc h hm
  obtain ⟨h1, h2⟩ := IC_rc h hm
  intro c
  induction c with
  | zero =>
    intro i fuel a hi hf ha
    obtain ⟨fuel, rfl⟩ : ∃ x, fuel = x + 1 := ⟨fuel - 1, by omega⟩
    have e : i = im 9 m := by omega
    refine ⟨a, ?_, by rw [← e]; exact ha⟩
    simp (disch := omega) only [F_Me_partsAt_4, h1, n_le, if_pos, ite_true, ite_false, if_true, if_false, Bool.false_eq_true, and_self, and_true, true_and, and_false, false_and]
  | succ c ih =>
    intro i fuel a hi hf ha
    obtain ⟨fuel, rfl⟩ : ∃ x, fuel = x + 1 := ⟨fuel - 1, by omega⟩
    obtain ⟨b, hb, hb2⟩ := a_keeps (r := i) h hm (by omega) hx
    cases b with
    | true =>
      obtain ⟨b, hF, hB⟩ := ih (i + 1) fuel (a + 2 ^ i) (by omega) (by omega) (Msk_y ha (by omega) (hb2.mp rfl))
      refine ⟨b, ?_, hB⟩
      have e := m_or ha.1 (by omega)
      simp (disch := omega) only [F_Me_partsAt_4, F_Me_partsAt_31, h1, n_le, if_neg, lit32, n_nl0, n_cl, false_or, cM7 hM, cMr hM, hb, if_pos, shl1, e, n_add, hF, ite_true, ite_false, if_true, if_false, Bool.false_eq_true, and_self, and_true, true_and, and_false, false_and]
    | false =>
      obtain ⟨b, hF, hB⟩ := ih (i + 1) fuel a (by omega) (by omega) (Msk_n ha (fun z => by have := hb2.mpr z; cases this))
      refine ⟨b, ?_, hB⟩
      simp (disch := omega) only [F_Me_partsAt_4, F_Me_partsAt_31, h1, n_le, if_neg, lit32, n_nl0, n_cl, false_or, cM7 hM, cMr hM, hb, n_add, hF, ite_true, ite_false, if_true, if_false, Bool.false_eq_true, and_self, and_true, true_and, and_false, false_and]
theorem a_parts {σ : SG} {IA : Nat} {im : Im} {m : Nat} {x : Int32} {z : Int} (h : ImC σ IA im) (hm : m < im 0 1) (hx : x.toInt = z) : ∃ b, F_Me_partsAt (IA + 4 + 9 * m) x σ = some (Int32.ofNat b, σ) ∧ Msk b (im 9 m) (fun r => iP im m r z) := by
  have h2 := (IC_rc h hm).2
  obtain ⟨b, hF, hB⟩ := a_parts_l h hm hx (im 9 m) 0 5000 0 (by omega) (by omega) (Msk_0 _)
  refine ⟨b, ?_, hB⟩
  simp (disch := omega) only [F_Me_partsAt, lit32, hF, ite_true, ite_false, if_true, if_false, Bool.false_eq_true, and_self, and_true, true_and, and_false, false_and]
theorem a_hand_l {σ : SG} {IA : Nat} {im : Im} {m : Nat} {x : Int32} {z : Int} (h : ImC σ IA im) (hm : m < im 0 1) (hx : x.toInt = z) : ∀ c i fuel a, i + c = im 9 m → c < fuel → Msk a i (fun r => iH im m r z) → ∃ b, F_Me_handlersAt_4 fuel (IA + 4 + 9 * m) x (Int32.ofNat a) (Int32.ofNat i) σ = some (Int32.ofNat b, σ) ∧ Msk b (im 9 m) (fun r => iH im m r z) := by
  have hM := d_Mc h hm
  obtain ⟨h1, h2⟩ := IC_rc h hm
  intro c
  induction c with
  | zero =>
    intro i fuel a hi hf ha
    obtain ⟨fuel, rfl⟩ : ∃ x, fuel = x + 1 := ⟨fuel - 1, by omega⟩
    have e : i = im 9 m := by omega
    refine ⟨a, ?_, by rw [← e]; exact ha⟩
    simp (disch := omega) only [F_Me_handlersAt_4, h1, n_le, if_pos, ite_true, ite_false, if_true, if_false, Bool.false_eq_true, and_self, and_true, true_and, and_false, false_and]
  | succ c ih =>
    intro i fuel a hi hf ha
    obtain ⟨fuel, rfl⟩ : ∃ x, fuel = x + 1 := ⟨fuel - 1, by omega⟩
    obtain ⟨b, hb, hb2⟩ := a_handles (r := i) h hm (by omega) hx
    cases b with
    | true =>
      obtain ⟨b, hF, hB⟩ := ih (i + 1) fuel (a + 2 ^ i) (by omega) (by omega) (Msk_y ha (by omega) (hb2.mp rfl))
      refine ⟨b, ?_, hB⟩
      have e := m_or ha.1 (by omega)
      simp (disch := omega) only [F_Me_handlersAt_4, F_Me_handlersAt_31, h1, n_le, if_neg, lit32, n_nl0, n_cl, false_or, cM7 hM, cMr hM, hb, if_pos, shl1, e, n_add, hF, ite_true, ite_false, if_true, if_false, Bool.false_eq_true, and_self, and_true, true_and, and_false, false_and]
    | false =>
      obtain ⟨b, hF, hB⟩ := ih (i + 1) fuel a (by omega) (by omega) (Msk_n ha (fun z => by have := hb2.mpr z; cases this))
      refine ⟨b, ?_, hB⟩
      simp (disch := omega) only [F_Me_handlersAt_4, F_Me_handlersAt_31, h1, n_le, if_neg, lit32, n_nl0, n_cl, false_or, cM7 hM, cMr hM, hb, n_add, hF, ite_true, ite_false, if_true, if_false, Bool.false_eq_true, and_self, and_true, true_and, and_false, false_and]
theorem a_hand {σ : SG} {IA : Nat} {im : Im} {m : Nat} {x : Int32} {z : Int} (h : ImC σ IA im) (hm : m < im 0 1) (hx : x.toInt = z) : ∃ b, F_Me_handlersAt (IA + 4 + 9 * m) x σ = some (Int32.ofNat b, σ) ∧ Msk b (im 9 m) (fun r => iH im m r z) := by
  have h2 := (IC_rc h hm).2
  obtain ⟨b, hF, hB⟩ := a_hand_l h hm hx (im 9 m) 0 5000 0 (by omega) (by omega) (Msk_0 _)
  refine ⟨b, ?_, hB⟩
  simp (disch := omega) only [F_Me_handlersAt, lit32, hF, ite_true, ite_false, if_true, if_false, Bool.false_eq_true, and_self, and_true, true_and, and_false, false_and]
/-- the innermost finally -/
theorem a_fin_l {σ : SG} {IA : Nat} {im : Im} {m : Nat} {x : Int32} {z : Int} (h : ImC σ IA im) (hm : m < im 0 1) (hx : x.toInt = z) : ∀ c i fuel, i + c = im 9 m → c < fuel → (∀ q, q < i → ¬ iP im m q z ∧ ¬ iH im m q z) → ∃ y, F_Me_finallyAround_2 fuel (IA + 4 + 9 * m) x (Int32.ofNat i) σ = some (y, σ) ∧ ((y = -Int32.ofNat 1 ∧ ∀ r, ¬ fAr im m z r) ∨ ∃ r, y = Int32.ofNat r ∧ fAr im m z r) := by
  have hM := d_Mc h hm
  obtain ⟨h1, h2⟩ := IC_rc h hm
  intro c
  induction c with
  | zero =>
    intro i fuel hi hf ha
    obtain ⟨fuel, rfl⟩ : ∃ x, fuel = x + 1 := ⟨fuel - 1, by omega⟩
    refine ⟨-Int32.ofNat 1, ?_, Or.inl ⟨rfl, fun r hr => ?_⟩⟩
    · simp (disch := omega) only [F_Me_finallyAround_2, h1, n_le, if_pos, lit32, ite_true, ite_false, if_true, if_false, Bool.false_eq_true, and_self, and_true, true_and, and_false, false_and]
    · have := ha r (by have := hr.1; omega)
      exact this.2 hr.2.1
  | succ c ih =>
    intro i fuel hi hf ha
    obtain ⟨fuel, rfl⟩ : ∃ x, fuel = x + 1 := ⟨fuel - 1, by omega⟩
    obtain ⟨b, hb, hb2⟩ := a_keeps (r := i) h hm (by omega) hx
    have hrg := IC_rg (r := i) h hm (by omega)
    cases b with
    | true =>
      have hk := hb2.mp rfl
      refine ⟨-Int32.ofNat 1, ?_, Or.inl ⟨rfl, fun r hr => ?_⟩⟩
      · simp (disch := omega) only [F_Me_finallyAround_2, h1, n_le, if_neg, lit32, n_nl0, n_cl, false_or, cM7 hM, cMr hM, hb, if_pos, ite_true, ite_false, if_true, if_false, Bool.false_eq_true, and_self, and_true, true_and, and_false, false_and]
      · obtain ⟨r1, r2, r3, r4⟩ := hr
        by_cases e : r < i
        · exact (ha r e).2 r2
        · by_cases e2 : r = i
          · rw [e2] at r2
            unfold iP at hk
            unfold iH at r2
            omega
          · exact (r4 i (by omega)).1 hk
    | false =>
      have hnk : ¬ iP im m i z := fun z => by have := hb2.mpr z; cases this
      obtain ⟨b', hb', hb2'⟩ := a_handles (r := i) h hm (by omega) hx
      cases b' with
      | true =>
        have hk := hb2'.mp rfl
        by_cases cf : im 13 (3 * m + i) = 1
        · refine ⟨Int32.ofNat i, ?_, Or.inr ⟨i, rfl, by omega, hk, cf, ha⟩⟩
          have zz : zb (Int32.ofNat (im 13 (3 * m + i))) = true := by rw [cf]; exact zb1
          simp (disch := omega) only [F_Me_finallyAround_2, F_Me_finallyAround_55, h1, n_le, if_neg, lit32, n_nl0, n_cl, false_or, cM7 hM, cMr hM, hb, hb', if_pos, hrg.2.2.2.1, zz, ite_true, ite_false, if_true, if_false, Bool.false_eq_true, and_self, and_true, true_and, and_false, false_and]
        · have cf' : im 13 (3 * m + i) = 0 := by omega
          have zz : zb (Int32.ofNat (im 13 (3 * m + i))) = false := by rw [cf']; exact zb0
          refine ⟨-Int32.ofNat 1, ?_, Or.inl ⟨rfl, fun r hr => ?_⟩⟩
          · simp (disch := omega) only [F_Me_finallyAround_2, F_Me_finallyAround_55, h1, n_le, if_neg, lit32, n_nl0, n_cl, false_or, cM7 hM, cMr hM, hb, hb', if_pos, hrg.2.2.2.1, zz, ite_true, ite_false, if_true, if_false, Bool.false_eq_true, and_self, and_true, true_and, and_false, false_and]
          · obtain ⟨r1, r2, r3, r4⟩ := hr
            by_cases e : r < i
            · exact (ha r e).2 r2
            · by_cases e2 : r = i
              · rw [e2] at r3
                exact cf r3
              · exact (r4 i (by omega)).2 hk
      | false =>
        have hnh : ¬ iH im m i z := fun z => by have := hb2'.mpr z; cases this
        obtain ⟨y, hF, hY⟩ := ih (i + 1) fuel (by omega) (by omega) (fun q hq => by
          by_cases e : q = i
          · rw [e]; exact ⟨hnk, hnh⟩
          · exact ha q (by omega))
        refine ⟨y, ?_, hY⟩
        simp (disch := omega) only [F_Me_finallyAround_2, h1, n_le, if_neg, lit32, n_nl0, n_cl, false_or, cM7 hM, cMr hM, hb, hb', n_add, hF, ite_true, ite_false, if_true, if_false, Bool.false_eq_true, and_self, and_true, true_and, and_false, false_and]
theorem a_fin {σ : SG} {IA : Nat} {im : Im} {m : Nat} {x : Int32} {z : Int} (h : ImC σ IA im) (hm : m < im 0 1) (hx : x.toInt = z) : ∃ y, F_Me_finallyAround (IA + 4 + 9 * m) x σ = some (y, σ) ∧ ((y = -Int32.ofNat 1 ∧ ∀ r, ¬ fAr im m z r) ∨ ∃ r, y = Int32.ofNat r ∧ fAr im m z r) := by
  have h2 := (IC_rc h hm).2
  obtain ⟨y, hF, hY⟩ := a_fin_l h hm hx (im 9 m) 0 5000 (by omega) (by omega) (fun q hq => by omega)
  refine ⟨y, ?_, hY⟩
  simp (disch := omega) only [F_Me_finallyAround, lit32, hF, ite_true, ite_false, if_true, if_false, Bool.false_eq_true, and_self, and_true, true_and, and_false, false_and]
/-- bits of masks, in ints -/
theorem k_sub {a b : Nat} (ha : a < 8) (hb : b < 8) : (Int32.ofNat a &&& (Int32.ofNat b ^^^ (-Int32.ofNat 1))) = Int32.ofNat 0 ↔ ∀ r, r < 3 → bt a r → bt b r := by
  have h : ∀ a, a < 8 → ∀ b, b < 8 → ((Int32.ofNat a &&& (Int32.ofNat b ^^^ (-Int32.ofNat 1))) = Int32.ofNat 0 ↔ ∀ r, r < 3 → a / 2 ^ r % 2 = 1 → b / 2 ^ r % 2 = 1) := by decide
  exact h a ha b hb
theorem k_dif {a b : Nat} (ha : a < 8) (hb : b < 8) : ∃ d, d < 8 ∧ (Int32.ofNat a &&& (Int32.ofNat b ^^^ (-Int32.ofNat 1))) = Int32.ofNat d ∧ ∀ r, r < 3 → (bt d r ↔ bt a r ∧ ¬ bt b r) := by
  have h : ∀ a, a < 8 → ∀ b, b < 8 → ∃ d, d < 8 ∧ (Int32.ofNat a &&& (Int32.ofNat b ^^^ (-Int32.ofNat 1))) = Int32.ofNat d ∧ ∀ r, r < 3 → (d / 2 ^ r % 2 = 1 ↔ a / 2 ^ r % 2 = 1 ∧ ¬ b / 2 ^ r % 2 = 1) := by
    intro a ha b hb
    refine ⟨a &&& (7 - b), ?_, ?_⟩
    · exact (by decide : ∀ a, a < 8 → ∀ b, b < 8 → a &&& (7 - b) < 8) a ha b hb
    · exact (by decide : ∀ a, a < 8 → ∀ b, b < 8 → (Int32.ofNat a &&& (Int32.ofNat b ^^^ (-Int32.ofNat 1))) = Int32.ofNat (a &&& (7 - b)) ∧ ∀ r, r < 3 → ((a &&& (7 - b)) / 2 ^ r % 2 = 1 ↔ a / 2 ^ r % 2 = 1 ∧ ¬ b / 2 ^ r % 2 = 1)) a ha b hb
  exact h a ha b hb
theorem k_bit {a r : Nat} (ha : a < 8) (hr : r < 3) : ((Int32.ofNat a >>> (Int32.ofNat r &&& Int32.ofNat 31)) &&& Int32.ofNat 1) = Int32.ofNat 1 ↔ bt a r := by
  have h : ∀ a, a < 8 → ∀ r, r < 3 → (((Int32.ofNat a >>> (Int32.ofNat r &&& Int32.ofNat 31)) &&& Int32.ofNat 1) = Int32.ofNat 1 ↔ a / 2 ^ r % 2 = 1) := by decide
  exact h a ha r hr
theorem k_eq {a b : Nat} (ha : a < 8) (hb : b < 8) : a = b ↔ ∀ r, r < 3 → (bt a r ↔ bt b r) := by
  have h : ∀ a, a < 8 → ∀ b, b < 8 → (a = b ↔ ∀ r, r < 3 → (a / 2 ^ r % 2 = 1 ↔ b / 2 ^ r % 2 = 1)) := by decide
  exact h a ha b hb
theorem Msk_8 {a rc : Nat} {P : Nat → Prop} (h : Msk a rc P) (hr : rc ≤ 3) : a < 8 := Nat.lt_of_lt_of_le h.1 (Nat.pow_le_pow_right (by omega) hr)
