/-! Every instruction that goes on behind itself. -/
theorem ins_plain {im : Im} {IA A : Nat} {ms ps : Nat → Nat} {ls : Nat → List Nat} {T : Nat → Nat} {md : Nat} {σc σm : SG} {R : RQ} (h : Bs im IA A ms ps ls T md σc σm R) (h33 : cdA im (ms (A - 1)) (ps (A - 1)) < 33) (h13 : cdA im (ms (A - 1)) (ps (A - 1)) ≠ 13) (h14 : cdA im (ms (A - 1)) (ps (A - 1)) ≠ 14) (h15 : cdA im (ms (A - 1)) (ps (A - 1)) ≠ 15) : StpR im IA σc σm := by
  obtain ⟨o1, o2, o3, o4, o5, o6, o7⟩ := Bs_f h
  obtain ⟨k, hk⟩ : ∃ k, cdA im (ms (A - 1)) (ps (A - 1) + 1) = k := ⟨_, rfl⟩
  obtain ⟨op, hop⟩ : ∃ op, cdA im (ms (A - 1)) (ps (A - 1)) = op := ⟨_, rfl⟩
  have hMi := st_mi (q := ps (A - 1) + wdt op) h.1 h.2.2.2.2.2
  obtain ⟨L', hT⟩ : ∃ L', Tr im (ms (A - 1)) op k (some (ls (A - 1))) = some L' := by
    have := o7.1
    rw [hop, hk] at this
    exact Option.ne_none_iff_exists'.mp this
  rw [hop] at h33 h13 h14 h15 o6
  obtain ⟨d1, d2, d3, -⟩ := di_0 h.1 hop hk (by omega)
  obtain ⟨p1, p2, -⟩ := pf_0 h.1 h.2.2.1.2.2.2 hop o4 (by omega)
  have hk2 : wdt op = 2 → ps (A - 1) + 1 < 100 ∧ im 15 (100 * ms (A - 1) + ps (A - 1) + 1) = k := fun hw => by
    refine ⟨by omega, ?_⟩
    rw [← hk]
    unfold cdA
    rw [if_pos (by omega), Nat.add_assoc]
  have hops : op = 0 ∨ op = 1 ∨ op = 2 ∨ op = 3 ∨ op = 4 ∨ op = 5 ∨ op = 6 ∨ (op = 7 ∨ op = 8 ∨ op = 9 ∨ op = 10) ∨ op = 11 ∨ op = 12 ∨ op = 16 ∨ op = 17 ∨ op = 18 ∨ op = 19 ∨ op = 20 ∨ op = 21 ∨ op = 22 ∨ op = 23 ∨ op = 24 ∨ op = 25 ∨ op = 26 ∨ op = 27 ∨ op = 28 ∨ op = 29 ∨ op = 30 ∨ op = 31 ∨ op = 32 := by omega
  have hst := fun x y hO hx hy => st_op (L' := L') (x := x) (y := y) h hop hk h13 (by omega) hT hO hx hy
  rcases hops with e | e | e | e | e | e | e | e | e | e | e | e | e | e | e | e | e | e | e | e | e | e | e | e | e | e | e
  · subst e
    have hT0 : ls (A - 1) = L' := Option.some.inj hT
    rw [hT0] at hMi
    exact hst _ _ (o_0 (k := k) (p := ps (A - 1)) hMi) (fun b s => d1 (by omega) b s) (fun s => p1 (by omega) s)
  · subst e
    obtain ⟨e1, e2⟩ := hk2 (by decide)
    exact hst _ _ (o_1 hMi e1 e2 hT) (fun b s => d1 (by omega) b s) (fun s => p1 (by omega) s)
  · subst e
    obtain ⟨e1, e2⟩ := hk2 (by decide)
    exact hst _ _ (o_2 hMi e1 e2 hT) (fun b s => d1 (by omega) b s) (fun s => p1 (by omega) s)
  · subst e
    obtain ⟨e1, e2⟩ := hk2 (by decide)
    exact hst _ _ (o_3 hMi e1 e2 hT) (fun b s => d1 (by omega) b s) (fun s => p1 (by omega) s)
  · subst e
    obtain ⟨e1, e2⟩ := hk2 (by decide)
    exact hst _ _ (o_4 hMi e1 e2 hT) (fun b s => d1 (by omega) b s) (fun s => p1 (by omega) s)
  · subst e
    obtain ⟨e1, e2⟩ := hk2 (by decide)
    exact hst _ _ (o_5 hMi e1 e2 hT) (fun b s => d1 (by omega) b s) (fun s => p1 (by omega) s)
  · subst e
    obtain ⟨e1, e2⟩ := hk2 (by decide)
    exact hst _ _ (o_6 hMi e1 e2 hT) (fun b s => d1 (by omega) b s) (fun s => p1 (by omega) s)
  · have hT2 : (((some (ls (A - 1))).bind (wot 1)).bind (wot 1)).bind (wth 1) = some L' := by rcases e with e | e | e | e <;> subst e <;> exact hT
    exact hst _ _ (o_7 (k := k) (p := ps (A - 1)) hMi e hT2) (fun b s => d1 (by omega) b s) (fun s => p1 (by omega) s)
  · subst e
    exact hst _ _ (o_11 (k := k) (p := ps (A - 1)) hMi hT) (fun b s => d1 (by omega) b s) (fun s => p1 (by omega) s)
  · subst e
    exact hst _ _ (o_12 (k := k) (p := ps (A - 1)) hMi hT) (fun b s => d1 (by omega) b s) (fun s => p1 (by omega) s)
  · subst e
    exact hst _ _ (o_16 (k := k) (p := ps (A - 1)) hMi hT) (fun b s => d2 (by omega) (by omega) b s) (fun s => p1 (by omega) s)
  · subst e
    obtain ⟨e1, e2⟩ := hk2 (by decide)
    exact hst _ _ (o_17 hMi e1 e2 hT) (fun b s => d2 (by omega) (by omega) b s) (fun s => p2 (by omega) (by omega) s)
  · subst e
    obtain ⟨e1, e2⟩ := hk2 (by decide)
    exact hst _ _ (o_18 hMi e1 e2 hT) (fun b s => d2 (by omega) (by omega) b s) (fun s => p2 (by omega) (by omega) s)
  · subst e
    obtain ⟨e1, e2⟩ := hk2 (by decide)
    exact hst _ _ (o_19 hMi e1 e2 hT) (fun b s => d2 (by omega) (by omega) b s) (fun s => p2 (by omega) (by omega) s)
  · subst e
    obtain ⟨e1, e2⟩ := hk2 (by decide)
    exact hst _ _ (o_20 hMi e1 e2 hT) (fun b s => d2 (by omega) (by omega) b s) (fun s => p2 (by omega) (by omega) s)
  · subst e
    exact hst _ _ (o_21 (k := k) (p := ps (A - 1)) hMi hT) (fun b s => d2 (by omega) (by omega) b s) (fun s => p2 (by omega) (by omega) s)
  · subst e
    exact hst _ _ (o_22 (k := k) (p := ps (A - 1)) hMi hT) (fun b s => d2 (by omega) (by omega) b s) (fun s => p2 (by omega) (by omega) s)
  · subst e
    exact hst _ _ (o_23 (k := k) (p := ps (A - 1)) hMi hT) (fun b s => d2 (by omega) (by omega) b s) (fun s => p2 (by omega) (by omega) s)
  · subst e
    exact hst _ _ (o_24 (k := k) (p := ps (A - 1)) hMi hT) (fun b s => d2 (by omega) (by omega) b s) (fun s => p2 (by omega) (by omega) s)
  · subst e
    exact hst _ _ (o_25 (k := k) (p := ps (A - 1)) hMi hT) (fun b s => d2 (by omega) (by omega) b s) (fun s => p2 (by omega) (by omega) s)
  · subst e
    exact hst _ _ (o_26 (k := k) (p := ps (A - 1)) hMi hT) (fun b s => d3 (by omega) (by omega) b s) (fun s => p2 (by omega) (by omega) s)
  · subst e
    exact hst _ _ (o_27 (k := k) (p := ps (A - 1)) hMi hT) (fun b s => d3 (by omega) (by omega) b s) (fun s => p2 (by omega) (by omega) s)
  · subst e
    exact hst _ _ (o_28 (k := k) (p := ps (A - 1)) hMi hT) (fun b s => d3 (by omega) (by omega) b s) (fun s => p2 (by omega) (by omega) s)
  · subst e
    exact hst _ _ (o_29 (k := k) (p := ps (A - 1)) hMi hT) (fun b s => d3 (by omega) (by omega) b s) (fun s => p2 (by omega) (by omega) s)
  · subst e
    exact hst _ _ (o_30 (k := k) (p := ps (A - 1)) hMi hT) (fun b s => d3 (by omega) (by omega) b s) (fun s => p2 (by omega) (by omega) s)
  · subst e
    exact hst _ _ (o_31 (k := k) (p := ps (A - 1)) hMi hT) (fun b s => d3 (by omega) (by omega) b s) (fun s => p2 (by omega) (by omega) s)
  · subst e
    exact hst _ _ (o_32 (k := k) (p := ps (A - 1)) hMi hT) (fun b s => d3 (by omega) (by omega) b s) (fun s => p2 (by omega) (by omega) s)
