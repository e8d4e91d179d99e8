/-! The law, over what holds between calls. -/
theorem la_body {n i : Nat} {xs : Nat → Int32} {rec18 : Int32 → SG → SG → Option (Bool × SG × SG)} {σc σm : SG} (hn : n ≤ 2048) (hi : i + 4 ≤ n) (hrec : ∀ σc σm, Inv σc σm → ∃ res, rec18 (Int32.ofNat (i + 4)) σc σm = some res ∧ res.1 = true) (h : Inv σc σm) : ∃ res, F_La_body n xs rec18 (Int32.ofNat i) σc σm = some res ∧ res.1 = true := by
  have h0 : ¬ (Int32.ofNat i < 0 ∨ n ≤ (Int32.ofNat i).toNatClampNeg) := by
    simp (disch := omega) only [lit32, n_nl0, n_cl, false_or, ite_true, ite_false, if_true, if_false, Bool.false_eq_true, and_self, and_true, true_and, and_false, false_and]
    omega
  have h1 : ¬ (Int32.ofNat i + 1 < 0 ∨ n ≤ (Int32.ofNat i + 1).toNatClampNeg) := by
    simp (disch := omega) only [lit32, n_add, n_nl0, n_cl, false_or, ite_true, ite_false, if_true, if_false, Bool.false_eq_true, and_self, and_true, true_and, and_false, false_and]
    omega
  have h2 : ¬ (Int32.ofNat i + 2 < 0 ∨ n ≤ (Int32.ofNat i + 2).toNatClampNeg) := by
    simp (disch := omega) only [lit32, n_add, n_nl0, n_cl, false_or, ite_true, ite_false, if_true, if_false, Bool.false_eq_true, and_self, and_true, true_and, and_false, false_and]
    omega
  have h3 : ¬ (Int32.ofNat i + 3 < 0 ∨ n ≤ (Int32.ofNat i + 3).toNatClampNeg) := by
    simp (disch := omega) only [lit32, n_add, n_nl0, n_cl, false_or, ite_true, ite_false, if_true, if_false, Bool.false_eq_true, and_self, and_true, true_and, and_false, false_and]
    omega
  have e4 : Int32.ofNat i + 4 = Int32.ofNat (i + 4) := by rw [lit32, n_add]
  have hz : ¬ (Int32.ofNat n - 4 < Int32.ofNat i) := by
    simp (disch := omega) only [lit32, n_sub, n_lt, ite_true, ite_false, if_true, if_false, Bool.false_eq_true, and_self, and_true, true_and, and_false, false_and]
    omega
  have hgo : ∀ σc σm, Inv σc σm → ∃ res, F_La_457 rec18 (Int32.ofNat i) σc σm = some res ∧ res.1 = true := fun σc σm h => by
    unfold F_La_457
    rw [e4]
    exact hrec σc σm h
  unfold F_La_body
  rw [if_neg hz, if_neg h0]
  by_cases c0 : xs (Int32.ofNat i).toNatClampNeg &&& 15 = 0
  · rw [if_pos c0]
    obtain ⟨v, σc1, σm1, g1, g2, g3⟩ := q_draft ((((xs (Int32.ofNat i + 1).toNatClampNeg : Int32).toInt64) <<< ((32 : Int32).toInt64 &&& 63)) ||| (((xs (Int32.ofNat i + 2).toNatClampNeg : Int32).toInt64) &&& 4294967295)) (xs (Int32.ofNat i + 3).toNatClampNeg) h
    rw [if_neg h1, if_neg h2, if_neg h3, g1]
    dsimp only
    rw [if_neg h1, if_neg h2, if_neg h3, g2]
    dsimp only
    rw [if_pos rfl]
    exact hgo _ _ g3
  rw [if_neg c0]
  by_cases c1 : xs (Int32.ofNat i).toNatClampNeg &&& 15 = 1
  · rw [if_pos c1]
    obtain ⟨σc1, σm1, g1, g2, g3⟩ := q_clear h
    rw [g1]
    dsimp only
    rw [g2]
    exact hgo _ _ g3
  rw [if_neg c1]
  by_cases c2 : xs (Int32.ofNat i).toNatClampNeg &&& 15 = 2
  · rw [if_pos c2]
    obtain ⟨v, σc1, σm1, g1, g2, g3⟩ := q_load  h
    rw [g1]
    dsimp only
    rw [g2]
    dsimp only
    rw [if_pos rfl]
    exact hgo _ _ g3
  rw [if_neg c2]
  by_cases c3 : xs (Int32.ofNat i).toNatClampNeg &&& 15 = 3
  · rw [if_pos c3]
    obtain ⟨v, g1, g2⟩ := q_verified (xs (Int32.ofNat i + 1).toNatClampNeg) h
    rw [if_neg h1, g1]
    dsimp only
    rw [if_neg h1, g2]
    dsimp only
    rw [if_pos rfl]
    exact hgo _ _ h
  rw [if_neg c3]
  by_cases c4 : xs (Int32.ofNat i).toNatClampNeg &&& 15 = 4
  · rw [if_pos c4]
    obtain ⟨v, g1, g2⟩ := q_depth (xs (Int32.ofNat i + 1).toNatClampNeg) (xs (Int32.ofNat i + 2).toNatClampNeg) h
    rw [if_neg h1, if_neg h2, g1]
    dsimp only
    rw [if_neg h1, if_neg h2, g2]
    dsimp only
    rw [if_pos rfl]
    exact hgo _ _ h
  rw [if_neg c4]
  by_cases c5 : xs (Int32.ofNat i).toNatClampNeg &&& 15 = 5
  · rw [if_pos c5]
    obtain ⟨v, g1, g2⟩ := q_type (xs (Int32.ofNat i + 1).toNatClampNeg) (xs (Int32.ofNat i + 2).toNatClampNeg) (xs (Int32.ofNat i + 3).toNatClampNeg) h
    rw [if_neg h1, if_neg h2, if_neg h3, g1]
    dsimp only
    rw [if_neg h1, if_neg h2, if_neg h3, g2]
    dsimp only
    rw [if_pos rfl]
    exact hgo _ _ h
  rw [if_neg c5]
  by_cases c6 : xs (Int32.ofNat i).toNatClampNeg &&& 15 = 6
  · rw [if_pos c6]
    obtain ⟨v, σc1, σm1, g1, g2, g3⟩ := q_start (xs (Int32.ofNat i + 1).toNatClampNeg) (xs (Int32.ofNat i + 2).toNatClampNeg) (xs (Int32.ofNat i + 3).toNatClampNeg) h
    rw [if_neg h1, if_neg h2, if_neg h3, g1]
    dsimp only
    rw [if_neg h1, if_neg h2, if_neg h3, g2]
    dsimp only
    rw [if_pos rfl]
    exact hgo _ _ g3
  rw [if_neg c6]
  by_cases c7 : xs (Int32.ofNat i).toNatClampNeg &&& 15 = 7
  · rw [if_pos c7]
    obtain ⟨v, σc1, σm1, g1, g2, g3⟩ := q_step (xs (Int32.ofNat i + 1).toNatClampNeg) h
    rw [if_neg h1, g1]
    dsimp only
    rw [if_neg h1, g2]
    dsimp only
    rw [if_pos rfl]
    exact hgo _ _ g3
  rw [if_neg c7]
  by_cases c8 : xs (Int32.ofNat i).toNatClampNeg &&& 15 = 8
  · rw [if_pos c8]
    obtain ⟨v, g1, g2⟩ := q_state  h
    rw [g1]
    dsimp only
    rw [g2]
    dsimp only
    rw [if_pos rfl]
    exact hgo _ _ h
  rw [if_neg c8]
  by_cases c9 : xs (Int32.ofNat i).toNatClampNeg &&& 15 = 9
  · rw [if_pos c9]
    obtain ⟨v, g1, g2⟩ := q_result  h
    rw [g1]
    dsimp only
    rw [g2]
    dsimp only
    rw [if_pos rfl]
    exact hgo _ _ h
  rw [if_neg c9]
  by_cases c10 : xs (Int32.ofNat i).toNatClampNeg &&& 15 = 10
  · rw [if_pos c10]
    obtain ⟨v, g1, g2⟩ := q_look (xs (Int32.ofNat i + 1).toNatClampNeg) h
    rw [if_neg h1, g1]
    dsimp only
    rw [if_neg h1, g2]
    dsimp only
    rw [if_pos rfl]
    exact hgo _ _ h
  rw [if_neg c10]
  by_cases c11 : xs (Int32.ofNat i).toNatClampNeg &&& 15 = 11
  · rw [if_pos c11]
    obtain ⟨v, g1, g2⟩ := q_peek (xs (Int32.ofNat i + 1).toNatClampNeg) h
    rw [if_neg h1, g1]
    dsimp only
    rw [if_neg h1, g2]
    dsimp only
    rw [if_pos rfl]
    exact hgo _ _ h
  rw [if_neg c11]
  by_cases c12 : xs (Int32.ofNat i).toNatClampNeg &&& 15 = 12
  · rw [if_pos c12]
    obtain ⟨v, g1, g2⟩ := q_entered (xs (Int32.ofNat i + 1).toNatClampNeg) (xs (Int32.ofNat i + 2).toNatClampNeg) h
    rw [if_neg h1, if_neg h2, g1]
    dsimp only
    rw [if_neg h1, if_neg h2, g2]
    dsimp only
    rw [if_pos rfl]
    exact hgo _ _ h
  rw [if_neg c12]
  exact hgo _ _ h
theorem la_all {n : Nat} {xs : Nat → Int32} (hn : n ≤ 2048) : ∀ c i σc σm, Inv σc σm → n < i + 4 * c + 4 → i ≤ 4096 → ∃ res, F_La n xs (c + 1) (Int32.ofNat i) σc σm = some res ∧ res.1 = true := by
  have hdone : ∀ k i σc σm, n < i + 4 → i ≤ 4096 → ∃ res, F_La n xs (k + 1) (Int32.ofNat i) σc σm = some res ∧ res.1 = true := fun k i σc σm h1 h2 => by
    refine ⟨(true, σc, σm), ?_, rfl⟩
    unfold F_La F_La_body
    rw [if_pos]
    by_cases c : 4 ≤ n
    · simp (disch := omega) only [lit32, n_sub, n_lt, ite_true, ite_false, if_true, if_false, Bool.false_eq_true, and_self, and_true, true_and, and_false, false_and]
      omega
    · have hc : n = 0 ∨ n = 1 ∨ n = 2 ∨ n = 3 := by omega
      have hneg : Int32.ofNat n - 4 < Int32.ofNat 0 := by rcases hc with e | e | e | e <;> subst e <;> decide
      have h0i : Int32.ofNat 0 ≤ Int32.ofNat i := by
        simp (disch := omega) only [n_le, ite_true, ite_false, if_true, if_false, Bool.false_eq_true, and_self, and_true, true_and, and_false, false_and]
        omega
      exact Int32.lt_of_lt_of_le hneg h0i
  intro c
  induction c with
  | zero =>
    intro i σc σm h h1 h2
    exact hdone 0 i σc σm (by omega) h2
  | succ c ih =>
    intro i σc σm h h1 h2
    by_cases c4 : n < i + 4
    · exact hdone (c + 1) i σc σm c4 h2
    · have := la_body (xs := xs) (rec18 := F_La n xs (c + 1)) hn (by omega) (fun σc σm h => ih (i + 4) σc σm h (by omega) (by omega)) h
      unfold F_La
      exact this
theorem la_sim {n : Nat} {xs : Nat → Int32} {σc σm : SG} (hn : n ≤ 2048) (h : Inv σc σm) : ∃ k res, F_La n xs k 0 σc σm = some res ∧ res.1 = true := by
  obtain ⟨res, g1, g2⟩ := la_all (xs := xs) hn 600 0 σc σm h (by omega) (by omega)
  exact ⟨601, res, g1, g2⟩
