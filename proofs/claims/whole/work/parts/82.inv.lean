/-! What holds between calls. -/
theorem c06 : cref SHc 0 6 = 123 := by decide
def FXc (IA : Nat) (σ σ1 : SG) : Prop := (∀ x g, (IA ≤ x ∧ x < IA + 58) ∨ 123 ≤ x → σ1.1 x g = σ.1 x g) ∧ (∀ x g, 123 ≤ x → σ1.2.2.1 x g = σ.2.2.1 x g) ∧ (∀ x g, (IA ≤ x ∧ x < IA + 58) ∨ 123 ≤ x → σ1.2.2.2.1 x g = σ.2.2.2.1 x g) ∧ σ1.2.2.2.2 = σ.2.2.2.2
def FXm (σ σ1 : SG) : Prop := (∀ g, 28 ≤ g → g ≤ 31 → σ1.1 0 g = σ.1 0 g) ∧ (∀ x g, 15 < x → σ1.2.2.2.1 x g = σ.2.2.2.1 x g) ∧ σ1.2.2.2.2 = σ.2.2.2.2
theorem VerI_FX {im : Im} {m IA : Nat} {σc σm σc1 σm1 : SG} (h : VerI im m IA σc σm) (hm : m < 6) (hI : ∀ x g, IA ≤ x → x < IA + 58 → σc1.1 x g = σc.1 x g) (hA : ∀ x g, IA ≤ x → x < IA + 58 → σc1.2.2.2.1 x g = σc.2.2.2.1 x g) (ha : ∀ x g, 15 < x → x < 20 → σm1.2.2.2.1 x g = σm.2.2.2.1 x g) (hl : σm1.2.2.2.2 = σm.2.2.2.2) : VerI im m IA σc1 σm1 := by
  obtain ⟨b, R, v1, v2, v3, v4⟩ := h
  refine ⟨b, R, ?_, ?_, v3, fun eb => ?_⟩
  · rw [hI _ _ (by omega) (by omega)]; exact v1
  · rw [ha _ _ (by omega) (by omega)]; exact v2
  · obtain ⟨⟨k1, k2, k3, k4, k5, cc, k6, k7⟩, r2, r3⟩ := v4 eb
    refine ⟨⟨k1, k2, fun p hp => ?_, k4, k5, cc, ?_, k7⟩, ⟨fun p hp => ?_, r2.2⟩, fun p hp => ?_⟩
    · rw [hA _ _ (by omega) (by omega)]; exact k3 p hp
    · rw [hI _ _ (by omega) (by omega)]; exact k6
    · rw [ha _ _ (by omega) (by omega), hl]; exact r2.1 p hp
    · rw [ha _ _ (by omega) (by omega)]; exact r3 p hp
theorem ImgI_congr {im : Im} {IA IB : Nat} {σc σm σc1 σm1 : SG} (h : ImgI σc σm im IA IB) (hp2 : σc1.2.2.1 0 2 = σc.2.2.1 0 2) (hp3 : σc1.2.2.1 0 3 = σc.2.2.1 0 3) (hI : ∀ x g, IA ≤ x → x < IA + 58 → σc1.1 x g = σc.1 x g) (hA : ∀ x g, IA ≤ x → x < IA + 58 → σc1.2.2.2.1 x g = σc.2.2.2.1 x g) (hB : ∃ y, RelC σc1 IB y) (hM : RepM σm1 im) (ha : ∀ x g, 15 < x → x < 20 → σm1.2.2.2.1 x g = σm.2.2.2.1 x g) (hl : σm1.2.2.2.2 = σm.2.2.2.2) : ImgI σc1 σm1 im IA IB := by
  obtain ⟨h1, h2, h3, h4, h5, h6⟩ := h
  refine ⟨by rw [hp2]; exact h1, by rw [hp3]; exact h2, h3, hB, hM, ?_⟩
  rcases h6 with ⟨c1, c2, y, c3⟩ | ⟨c1, c2, c3⟩
  · exact Or.inl ⟨c1, by rw [hI _ _ (by omega) (by omega)]; exact c2, y, RelC_congr c3 (fun a f p q => hI a f p q) (fun a f p q => hA a f p q)⟩
  · have h6 := (IC_nm c1).2.2
    exact Or.inr ⟨ImC_congr c1 (fun x f _ p q => hI x f p q) (fun x f _ p q => hA x f p q), c2, fun m hm => VerI_FX (c3 m hm) (by omega) hI hA ha hl⟩
theorem ImgI_W {im : Im} {IA IB : Nat} {σc σm σc1 σm1 : SG} (h : ImgI σc σm im IA IB) (hc : Wc σc σc1) (hm : Wm σm σm1) : ImgI σc1 σm1 im IA IB := by
  obtain ⟨y, hy⟩ := h.2.2.2.1
  have hAB := h.2.2.1
  refine ImgI_congr h (hc.2.1 _ _ (by omega)) (hc.2.1 _ _ (by omega)) (fun x g p q => hc.1 x g (by omega)) (fun x g p q => hc.2.2.1 x g (by omega)) ⟨y, RelC_congr hy (fun a f p q => hc.1 a f (by omega)) (fun a f p q => hc.2.2.1 a f (by omega))⟩ ?_ (fun x g p q => hm.2.1 x g q) hm.2.2
  obtain ⟨r0, r1, r2, r3⟩ := h.2.2.2.2.1
  refine ⟨r0, ?_, ?_, fun a k p q => ?_⟩
  · rw [hm.1 _ (by omega) (by omega) (by omega) (by omega) (by omega) (by omega) (by omega)]; exact r1
  · rw [hm.1 _ (by omega) (by omega) (by omega) (by omega) (by omega) (by omega) (by omega)]; exact r2
  · rw [hm.2.1 _ _ (by omega)]; exact r3 a k p q
theorem Md_FX {im : Im} {IA A : Nat} {ms ps : Nat → Nat} {ls : Nat → List Nat} {T : Nat → Nat} {md : Nat} {σc σm : SG} {σc1 σm1 : SG} (h : Md im IA A ms ps ls T md σc σm) (hc : FXc IA σc σc1) (hm : FXm σm σm1) (hM : RepM σm1 im) : Md im IA A ms ps ls T md σc1 σm1 := by
  obtain ⟨⟨a1, a2, a3⟩, b0, ⟨c1, c2, c3, c4, c5⟩, d, e, g, k⟩ := h
  have h6 := (IC_nm b0.1).2.2
  refine ⟨⟨a1, a2, a3⟩, ⟨ImC_congr b0.1 (fun x f _ p q => hc.1 x f (Or.inl ⟨p, q⟩)) (fun x f _ p q => hc.2.2.1 x f (Or.inl ⟨p, q⟩)), hM, b0.2.2.1, fun m hm' => VerI_FX (b0.2.2.2 m hm') (by omega) (fun x g p q => hc.1 x g (Or.inl ⟨p, q⟩)) (fun x g p q => hc.2.2.1 x g (Or.inl ⟨p, q⟩)) (fun x g p _ => hm.2.1 x g p) hm.2.2⟩, ⟨?_, ?_, ?_, ?_, ?_⟩, fun f hf => ?_, fun f hf => ?_, ⟨fun x hx ht => ?_, fun j hj => ⟨(g.2 j hj).1, fun e4 => ?_⟩⟩, fun j hj => ?_⟩
  · rw [hc.1 _ _ (by omega)]; exact c1
  · rw [hm.1 _ (by omega) (by omega)]; exact c2
  · rw [hc.1 _ _ (by omega)]; exact c3
  · rw [hm.1 _ (by omega) (by omega)]; exact c4
  · rw [hc.2.1 _ _ (by omega)]; exact c5
  · rw [hc.1 _ _ (by omega)]; exact d f hf
  · exact FrI_congr b0.2.2.1 (e f hf) ⟨fun g => hc.1 _ _ (by omega), hc.2.1 _ _ (by omega), fun y g hy => by rw [hc.2.2.2], fun y g h1 h2 => hc.2.2.1 _ _ (by omega)⟩ ⟨fun y hy => hm.2.1 _ _ (by omega), fun y g hy _ _ => hm.2.1 _ _ (by omega), fun y g hy h1 h2 => hm.2.1 _ _ (by omega), fun y g hy _ _ => hm.2.1 _ _ (by omega)⟩ (Mono_refl _ _ _ _ _ _) rfl rfl rfl
  · rw [hc.2.2.2, hm.2.1 _ _ (by omega), hm.2.1 _ _ (by omega)]; exact g.1 x hx ht
  · obtain ⟨n, n1, n2, n3⟩ := (g.2 j hj).2 e4
    exact ⟨n, n1, by rw [hc.2.2.1 _ _ (by omega)]; exact n2, by rw [hm.2.1 _ _ (by omega)]; exact n3⟩
  · rw [hc.2.2.1 _ _ (by omega), hm.2.1 _ _ (by omega)]; exact k j hj
def RnI (im : Im) (IA : Nat) (σc σm : SG) : Prop := (σc.1 123 9 = Int32.ofNat 0 ∧ σm.1 0 28 = Int32.ofNat 0 ∧ σc.1 123 10 = Int32.ofNat 0 ∧ σc.1 123 5 = Int32.ofNat 0) ∨ Go im IA σc σm ∨ Over im σc σm
theorem RnI_FX {im : Im} {IA : Nat} {σc σm σc1 σm1 : SG} (h : RnI im IA σc σm) (hc : FXc IA σc σc1) (hm : FXm σm σm1) (hM : RepM σm1 im) : RnI im IA σc1 σm1 := by
  rcases h with ⟨h1, h2, h3, h4⟩ | ⟨A, ms, ps, ls, T, md, h1, h2, ⟨R, r1, r2, r3, r4⟩, h4, h5, h6⟩ | ⟨k, h1, h2, h3, h4, h5, h6, h7, h8⟩
  · refine Or.inl ⟨?_, ?_, ?_, ?_⟩
    · rw [hc.1 _ _ (by omega)]; exact h1
    · rw [hm.1 _ (by omega) (by omega)]; exact h2
    · rw [hc.1 _ _ (by omega)]; exact h3
    · rw [hc.1 _ _ (by omega)]; exact h4
  · refine Or.inr (Or.inl ⟨A, ms, ps, ls, T, md, Md_FX h1 hc hm hM, fun f hf => ?_, ⟨R, r1, r2, r3, by rw [hm.2.1 _ _ (by omega)]; exact r4⟩, h4, EnZ_same h5 (fun k => hc.2.2.1 _ _ (by omega)), ?_, ?_, ?_, ?_⟩)
    · obtain ⟨R', l0, g1, g2, g3, g4, g5, g6, g7⟩ := h2 f hf
      exact ⟨R', l0, g1, g2, g3, g4, by rw [hm.2.1 _ _ (by omega)]; exact g5, g6, g7⟩
    · rw [hc.1 _ _ (by omega)]; exact h6.1
    · rw [hc.1 _ _ (by omega)]; exact h6.2.1
    · rw [hc.1 _ _ (by omega)]; exact h6.2.2.1
    · rw [hm.1 _ (by omega) (by omega)]; exact h6.2.2.2
  · refine Or.inr (Or.inr ⟨k, h1, ?_, ?_, ?_, ?_, fun j hj => ?_, EnZ_same h7 (fun k => hc.2.2.1 _ _ (by omega)), ?_⟩)
    · rw [hc.1 _ _ (by omega)]; exact h2
    · rw [hm.1 _ (by omega) (by omega)]; exact h3
    · rw [hc.1 _ _ (by omega), hm.1 _ (by omega) (by omega)]; exact h4
    · rw [hc.1 _ _ (by omega), hm.1 _ (by omega) (by omega)]; exact h5
    · rw [hc.2.2.1 _ _ (by omega), hm.2.1 _ _ (by omega)]; exact h6 j hj
    · rw [hc.1 _ _ (by omega)]; exact h8
def Inv (σc σm : SG) : Prop := ∃ d n im IA IB, DrC d n σc ∧ Drf d n σm ∧ ImgI σc σm im IA IB ∧ (∀ f, f < 8 → σc.1 (125 + 6 * f) 0 = Int32.ofNat (4 * f)) ∧ RnI im IA σc σm
theorem Inv_W {d : Nat → Nat} {n : Nat} {im : Im} {IA IB : Nat} {σc σm σc1 σm1 : SG} (h1 : DrC d n σc) (h2 : Drf d n σm) (h3 : ImgI σc σm im IA IB) (h4 : ∀ f, f < 8 → σc.1 (125 + 6 * f) 0 = Int32.ofNat (4 * f)) (hc : Wc σc σc1) (hm : Wm σm σm1) (hr : RnI im IA σc1 σm1) : Inv σc1 σm1 := by
  refine ⟨d, n, im, IA, IB, ⟨?_, h1.2.1, fun k hk => ?_⟩, ⟨?_, h2.2.1, fun k hk => ?_⟩, ImgI_W h3 hc hm, fun f hf => ?_, hr⟩
  · rw [hc.1 _ _ (by omega)]; exact h1.1
  · rw [hc.2.2.1 _ _ (by omega)]; exact h1.2.2 k hk
  · rw [hm.1 _ (by omega) (by omega) (by omega) (by omega) (by omega) (by omega) (by omega)]; exact h2.1
  · rw [hm.2.1 _ _ (by omega)]; exact h2.2.2 k hk
  · rw [hc.2.2.2 f hf]; exact h4 f hf
/-! The calls that ask or draft. -/
theorem Inv_FD {d d1 : Nat → Nat} {n n1 : Nat} {im : Im} {IA IB : Nat} {σc σm σc1 σm1 : SG} (h3 : ImgI σc σm im IA IB) (h4 : ∀ f, f < 8 → σc.1 (125 + 6 * f) 0 = Int32.ofNat (4 * f)) (hr : RnI im IA σc σm) (k1 : DrC d1 n1 σc1) (k2 : Drf d1 n1 σm1) (hc : FDc σc σc1) (hm : FDm σm σm1) : Inv σc1 σm1 := by
  obtain ⟨y, hy⟩ := h3.2.2.2.1
  have hAB := h3.2.2.1
  have hM : RepM σm1 im := by
    obtain ⟨r0, r1, r2, r3⟩ := h3.2.2.2.2.1
    refine ⟨r0, ?_, ?_, fun a k p q => ?_⟩
    · rw [hm.2.2.2.1 _ _ (by omega)]; exact r1
    · rw [hm.2.2.2.1 _ _ (by omega)]; exact r2
    · rw [hm.2.2.2.2 _ _ (by omega)]; exact r3 a k p q
  refine ⟨d1, n1, im, IA, IB, k1, k2, ImgI_congr h3 (by rw [hc.2.1]) (by rw [hc.2.1]) (fun x g p q => hc.2.2.2.1 x g (by omega)) (fun x g p q => hc.2.2.2.2 x g (by omega)) ⟨y, RelC_congr hy (fun a f p q => hc.2.2.2.1 a f (by omega)) (fun a f p q => hc.2.2.2.2 a f (by omega))⟩ hM (fun x g p q => hm.2.2.2.2 x g (by omega)) hm.2.2.1, fun f hf => ?_, RnI_FX hr ⟨fun x g p => hc.2.2.2.1 x g (by omega), fun x g _ => by rw [hc.2.1], fun x g p => hc.2.2.2.2 x g (by omega), hc.2.2.1⟩ ⟨fun g p q => hm.2.2.2.1 0 g (by omega), fun x g p => hm.2.2.2.2 x g (by omega), hm.2.2.1⟩ hM⟩
  rw [hc.2.2.2.1 _ _ (by omega)]; exact h4 f hf
theorem q_draft {σc σm : SG} (v : Int64) (x : Int32) (h : Inv σc σm) : ∃ b σc1 σm1, F_TE_draft 0 v x σc = some (b, σc1) ∧ F_Mo_draft 0 v x σm = some (b, σm1) ∧ Inv σc1 σm1 := by
  obtain ⟨d, n, im, IA, IB, h1, h2, h3, h4, h5⟩ := h
  obtain ⟨b, σc1, σm1, d1, n1, g1, g2, g3, g4, g5, g6⟩ := draft_sim v x h1 h2
  exact ⟨b, σc1, σm1, g1, g2, Inv_FD (d := d) (n := n) h3 h4 h5 g3 g4 g5 g6⟩
theorem q_clear {σc σm : SG} (h : Inv σc σm) : ∃ σc1 σm1, F_TE_clear 0 σc = some σc1 ∧ F_Mo_clear 0 σm = some σm1 ∧ Inv σc1 σm1 := by
  obtain ⟨d, n, im, IA, IB, h1, h2, h3, h4, h5⟩ := h
  obtain ⟨σc1, σm1, g1, g2, g3, g4, g5, g6⟩ := clear_sim h1 h2
  exact ⟨σc1, σm1, g1, g2, Inv_FD (d := d) (n := n) h3 h4 h5 g3 g4 g5 g6⟩
theorem q_load {σc σm : SG} (h : Inv σc σm) : ∃ v σc1 σm1, F_TE_load 0 σc = some (v, σc1) ∧ F_Mo_load 0 σm = some (v, σm1) ∧ Inv σc1 σm1 := by
  obtain ⟨d, n, im, IA, IB, h1, h2, h3, h4, h5⟩ := h
  have hAB := h3.2.2.1
  rcases load_sim h1 h2 h3 with ⟨σc1, σm1, g1, g2, g3, g4, g5, g6⟩ | ⟨σc1, σm1, im1, g1, g2, g3, g4, g5, g6, g7, g8, g9, g10⟩
  · have hP : ∀ x g, x ≠ 118 → σc1.2.2.1 x g = σc.2.2.1 x g := fun x g hx => by
      rw [g3.2.1, rP, if_neg (by omega)]
    have hI : ∀ x g, x ≠ 118 → (x < IB ∨ IB + 58 ≤ x) → σc1.1 x g = σc.1 x g := fun x g p q => g3.2.2.2.1 x g p q
    have hA : ∀ x g, (x < IB ∨ IB + 58 ≤ x) → σc1.2.2.2.1 x g = σc.2.2.2.1 x g := fun x g q => g3.2.2.2.2 x g q
    refine ⟨_, σc1, σm1, g1, g2, d, n, im, IA, IB, ⟨?_, h1.2.1, fun k hk => ?_⟩, ⟨?_, h2.2.1, fun k hk => ?_⟩, ImgI_congr h3 (hP _ _ (by omega)) (hP _ _ (by omega)) (fun x g p q => hI x g (by omega) (by omega)) (fun x g p q => hA x g (by omega)) g4 g6 (fun x g p q => g5.2.2.2.2 x g (by omega)) g5.2.2.1, fun f hf => ?_, RnI_FX h5 ⟨fun x g p => hI x g (by omega) (by omega), fun x g p => hP x g (by omega), fun x g p => hA x g (by omega), g3.2.2.1⟩ ⟨fun g p q => g5.2.2.2.1 0 g (by omega), fun x g p => g5.2.2.2.2 x g (by omega), g5.2.2.1⟩ g6⟩
    · rw [hI _ _ (by omega) (by omega)]; exact h1.1
    · rw [hA _ _ (by omega)]; exact h1.2.2 k hk
    · rw [g5.2.2.2.1 _ _ (by omega)]; exact h2.1
    · rw [g5.2.2.2.2 _ _ (by omega)]; exact h2.2.2 k hk
    · rw [hI _ _ (by omega) (by omega)]; exact h4 f hf
  · have h5' : σc.1 123 5 = Int32.ofNat 0 := by
      rcases h5 with ⟨-, -, -, z⟩ | ⟨A, ms, ps, ls, T, md, -, -, -, -, -, z⟩ | ⟨k, -, -, -, -, -, -, -, z⟩
      · exact z
      · exact z.1
      · exact z
    refine ⟨_, σc1, σm1, g1, g2, d, n, im1, IB, IA, g3, g4, g5, fun f hf => ?_, Or.inl ⟨g8, g10, g9, ?_⟩⟩
    · rw [g6.2.2.2.1 _ _ (by omega) (by omega) (by omega) (by omega)]; exact h4 f hf
    · rw [g6.2.2.2.1 _ _ (by omega) (by omega) (by omega) (by omega)]; exact h5'
theorem q_verified {σc σm : SG} (x : Int32) (h : Inv σc σm) : ∃ b, F_TE_verified 0 x σc = some (b, σc) ∧ F_Mo_verified 0 x σm = some (b, σm) := by
  obtain ⟨d, n, im, IA, IB, h1, h2, h3, h4, h5⟩ := h
  exact verified_sim x h3
theorem q_depth {σc σm : SG} (x y : Int32) (h : Inv σc σm) : ∃ b, F_TE_depth 0 x y σc = some (b, σc) ∧ F_Mo_depth 0 x y σm = some (b, σm) := by
  obtain ⟨d, n, im, IA, IB, h1, h2, h3, h4, h5⟩ := h
  exact m_depth x y h3
theorem q_type {σc σm : SG} (x y z : Int32) (h : Inv σc σm) : ∃ b, F_TE_type 0 x y z σc = some (b, σc) ∧ F_Mo_type 0 x y z σm = some (b, σm) := by
  obtain ⟨d, n, im, IA, IB, h1, h2, h3, h4, h5⟩ := h
  exact type_sim x y z h3
/-! Steps. -/
theorem RnI_ph {im : Im} {IA : Nat} {σc σm : SG} (h : RnI im IA σc σm) : ∃ k, k < 4 ∧ σc.1 123 9 = Int32.ofNat k ∧ σm.1 0 28 = Int32.ofNat k ∧ (k = 1 → Go im IA σc σm) ∧ (k = 0 ∨ k = 1 → σc.1 123 10 = Int32.ofNat 0) ∧ (2 ≤ k → σc.1 123 10 = σm.1 0 29) ∧ (k ≠ 0 → σc.1 123 12 = σm.1 0 30 ∧ (∀ k, k < 18 → σc.2.2.2.1 175 k = σm.2.2.2.1 31 k) ∧ EnZ im σc) := by
  rcases h with ⟨h1, h2, h3, h4⟩ | h | ⟨k, h1, h2, h3, h4, h5, h6, h7, h8⟩
  · exact ⟨0, by omega, h1, h2, fun z => by omega, fun _ => h3, fun z => by omega, fun z => absurd rfl z⟩
  · obtain ⟨A, ms, ps, ls, T, md, g1, g2, g3, g4, g5, g6⟩ := id h
    exact ⟨1, by omega, g6.2.1, g6.2.2.2, fun _ => h, fun _ => g6.2.2.1, fun z => by omega, fun _ => ⟨by rw [g1.2.2.1.2.2.1, g1.2.2.1.2.2.2.1], g1.2.2.2.2.2.2, g5⟩⟩
  · exact ⟨k, by omega, h2, h3, fun z => by omega, fun z => by omega, fun _ => h4, fun _ => ⟨h5, h6, h7⟩⟩
theorem st_l {im : Im} {IA n : Nat} (hn : n ≤ 500) : ∀ c i fC fM σc σm, i + c = n → c < fC → c < fM → RnI im IA σc σm → ∃ j σc1 σm1, F_TE_step_25 fC 0 (Int32.ofNat n) (Int32.ofNat i) σc = some (j, σc1) ∧ F_Mo_step_22 fM 0 (Int32.ofNat n) (Int32.ofNat i) σm = some (j, σm1) ∧ Wc σc σc1 ∧ Wm σm σm1 ∧ RnI im IA σc1 σm1 := by
  intro c
  induction c with
  | zero =>
    intro i fC fM σc σm hi h1 h2 h
    obtain ⟨fC, rfl⟩ : ∃ x, fC = x + 1 := ⟨fC - 1, by omega⟩
    obtain ⟨fM, rfl⟩ : ∃ x, fM = x + 1 := ⟨fM - 1, by omega⟩
    refine ⟨Int32.ofNat i, σc, σm, ?_, ?_, Wc_refl _, Wm_refl _, h⟩
    · simp (disch := omega) only [↓reduceIte, Nat.reduceEqDiff, F_TE_step_25, F_TE_step_54, n_le, if_pos, ite_true, ite_false, if_true, if_false, Bool.false_eq_true, and_self, and_true, true_and, and_false, false_and]
    · simp (disch := omega) only [↓reduceIte, Nat.reduceEqDiff, F_Mo_step_22, F_Mo_step_45, n_le, if_pos, ite_true, ite_false, if_true, if_false, Bool.false_eq_true, and_self, and_true, true_and, and_false, false_and]
  | succ c ih =>
    intro i fC fM σc σm hi h1 h2 h
    obtain ⟨fC, rfl⟩ : ∃ x, fC = x + 1 := ⟨fC - 1, by omega⟩
    obtain ⟨fM, rfl⟩ : ∃ x, fM = x + 1 := ⟨fM - 1, by omega⟩
    obtain ⟨k, k1, k2, k3, k4, -⟩ := RnI_ph h
    by_cases ck : k = 1
    · rw [ck] at k2 k3
      obtain ⟨σc1, σm1, g1, g2, g3, g4, g5⟩ := ins_sim (k4 ck)
      obtain ⟨j, σc2, σm2, u1, u2, u3, u4, u5⟩ := ih (i + 1) fC fM σc1 σm1 (by omega) (by omega) (by omega) (Or.inr g5)
      refine ⟨j, σc2, σm2, ?_, ?_, Wc_trans g3 u3, Wm_trans g4 u4, u5⟩
      · simp (disch := omega) only [↓reduceIte, Nat.reduceEqDiff, F_TE_step_25, n_le, if_neg, c06, k2, lit32, n_eq, if_pos, g1, n_add, u1, ite_true, ite_false, if_true, if_false, Bool.false_eq_true, and_self, and_true, true_and, and_false, false_and]
      · simp (disch := omega) only [↓reduceIte, Nat.reduceEqDiff, F_Mo_step_22, n_le, if_neg, k3, lit32, n_eq, if_pos, g2, n_add, u2, ite_true, ite_false, if_true, if_false, Bool.false_eq_true, and_self, and_true, true_and, and_false, false_and]
    · refine ⟨Int32.ofNat i, σc, σm, ?_, ?_, Wc_refl _, Wm_refl _, h⟩
      · simp (disch := omega) only [↓reduceIte, Nat.reduceEqDiff, F_TE_step_25, F_TE_step_54, n_le, if_neg, c06, k2, lit32, n_eq, ite_true, ite_false, if_true, if_false, Bool.false_eq_true, and_self, and_true, true_and, and_false, false_and]
      · simp (disch := omega) only [↓reduceIte, Nat.reduceEqDiff, F_Mo_step_22, F_Mo_step_45, n_le, if_neg, k3, lit32, n_eq, ite_true, ite_false, if_true, if_false, Bool.false_eq_true, and_self, and_true, true_and, and_false, false_and]
theorem q_step {σc σm : SG} (x : Int32) (h : Inv σc σm) : ∃ v σc1 σm1, F_TE_step 0 x σc = some (v, σc1) ∧ F_Mo_step 0 x σm = some (v, σm1) ∧ Inv σc1 σm1 := by
  have h0 := h
  obtain ⟨d, n, im, IA, IB, h1, h2, h3, h4, h5⟩ := h
  obtain ⟨k, k1, k2, k3, k4, -⟩ := RnI_ph h5
  by_cases c0 : k = 0
  · rw [c0] at k2 k3
    refine ⟨-Int32.ofNat 1, σc, σm, ?_, ?_, h0⟩
    · simp (disch := omega) only [↓reduceIte, Nat.reduceEqDiff, F_TE_step, F_TE_step_21, c06, k2, lit32, n_eq, if_pos, ite_true, ite_false, if_true, if_false, Bool.false_eq_true, and_self, and_true, true_and, and_false, false_and]
    · simp (disch := omega) only [↓reduceIte, Nat.reduceEqDiff, F_Mo_step, F_Mo_step_18, k3, lit32, n_eq, if_pos, ite_true, ite_false, if_true, if_false, Bool.false_eq_true, and_self, and_true, true_and, and_false, false_and]
  · rcases n_case x with hx | ⟨i, hi, ex⟩
    · refine ⟨-Int32.ofNat 1, σc, σm, ?_, ?_, h0⟩
      · unfold F_TE_step
        rw [c06, k2, if_neg (by rw [lit32, n_eq (by omega) (by omega)]; omega), if_pos hx]
        simp (disch := omega) only [F_TE_step_21, lit32, ite_true, ite_false, if_true, if_false, Bool.false_eq_true, and_self, and_true, true_and, and_false, false_and]
      · unfold F_Mo_step
        rw [k3, if_neg (by rw [lit32, n_eq (by omega) (by omega)]; omega), if_pos hx]
        simp (disch := omega) only [F_Mo_step_18, lit32, ite_true, ite_false, if_true, if_false, Bool.false_eq_true, and_self, and_true, true_and, and_false, false_and]
    · subst ex
      by_cases c5 : i ≤ 500
      · obtain ⟨j, σc2, σm2, u1, u2, u3, u4, u5⟩ := st_l c5 i 0 5000 5000 σc σm (by omega) (by omega) (by omega) h5
        refine ⟨j, σc2, σm2, ?_, ?_, Inv_W h1 h2 h3 h4 u3 u4 u5⟩
        · simp (disch := omega) only [↓reduceIte, Nat.reduceEqDiff, F_TE_step, c06, k2, lit32, n_eq, if_neg, n_nl0, n_le, if_pos, u1, ite_true, ite_false, if_true, if_false, Bool.false_eq_true, and_self, and_true, true_and, and_false, false_and]
        · simp (disch := omega) only [↓reduceIte, Nat.reduceEqDiff, F_Mo_step, k3, lit32, n_eq, if_neg, n_nl0, n_le, if_pos, u2, ite_true, ite_false, if_true, if_false, Bool.false_eq_true, and_self, and_true, true_and, and_false, false_and]
      · refine ⟨-Int32.ofNat 1, σc, σm, ?_, ?_, h0⟩
        · simp (disch := omega) only [↓reduceIte, Nat.reduceEqDiff, F_TE_step, F_TE_step_21, c06, k2, lit32, n_eq, if_neg, n_nl0, n_le, ite_true, ite_false, if_true, if_false, Bool.false_eq_true, and_self, and_true, true_and, and_false, false_and]
        · simp (disch := omega) only [↓reduceIte, Nat.reduceEqDiff, F_Mo_step, F_Mo_step_18, k3, lit32, n_eq, if_neg, n_nl0, n_le, ite_true, ite_false, if_true, if_false, Bool.false_eq_true, and_self, and_true, true_and, and_false, false_and]
theorem q_state {σc σm : SG} (h : Inv σc σm) : ∃ v, F_TE_state 0 σc = some (v, σc) ∧ F_Mo_state 0 σm = some (v, σm) := by
  obtain ⟨d, n, im, IA, IB, h1, h2, h3, h4, h5⟩ := h
  obtain ⟨k, k1, k2, k3, -⟩ := RnI_ph h5
  refine ⟨Int32.ofNat k, ?_, ?_⟩
  · simp (disch := omega) only [F_TE_state, c06, k2, ite_true, ite_false, if_true, if_false, Bool.false_eq_true, and_self, and_true, true_and, and_false, false_and]
  · simp (disch := omega) only [F_Mo_state, k3, ite_true, ite_false, if_true, if_false, Bool.false_eq_true, and_self, and_true, true_and, and_false, false_and]
theorem q_result {σc σm : SG} (h : Inv σc σm) : ∃ v, F_TE_result 0 σc = some (v, σc) ∧ F_Mo_result 0 σm = some (v, σm) := by
  obtain ⟨d, n, im, IA, IB, h1, h2, h3, h4, h5⟩ := h
  obtain ⟨k, k1, k2, k3, -, k5, k6, -⟩ := RnI_ph h5
  by_cases c : k ≤ 1
  · refine ⟨Int32.ofNat 0, ?_, ?_⟩
    · have := k5 (by omega)
      simp (disch := omega) only [F_TE_result, c06, this, ite_true, ite_false, if_true, if_false, Bool.false_eq_true, and_self, and_true, true_and, and_false, false_and]
    · simp (disch := omega) only [↓reduceIte, Nat.reduceEqDiff, F_Mo_result, F_Mo_result_16, k3, lit32, n_le, if_pos, ite_true, ite_false, if_true, if_false, Bool.false_eq_true, and_self, and_true, true_and, and_false, false_and]
  · refine ⟨σm.1 0 29, ?_, ?_⟩
    · have := k6 (by omega)
      simp (disch := omega) only [F_TE_result, c06, this, ite_true, ite_false, if_true, if_false, Bool.false_eq_true, and_self, and_true, true_and, and_false, false_and]
    · simp (disch := omega) only [↓reduceIte, Nat.reduceEqDiff, F_Mo_result, F_Mo_result_16, k3, lit32, n_le, if_neg, ite_true, ite_false, if_true, if_false, Bool.false_eq_true, and_self, and_true, true_and, and_false, false_and]
theorem q_look {σc σm : SG} (x : Int32) (h : Inv σc σm) : ∃ v, F_TE_look 0 x σc = some (v, σc) ∧ F_Mo_look 0 x σm = some (v, σm) := by
  obtain ⟨d, n, im, IA, IB, h1, h2, h3, h4, h5⟩ := h
  obtain ⟨k, k1, k2, k3, k4, -, -, k7⟩ := RnI_ph h5
  have hne : ¬ (x = Int32.ofNat 4) → k ≠ 1 → F_TE_look 0 x σc = some (-Int32.ofNat 1, σc) := fun e1 e2 => by
    simp (disch := omega) only [↓reduceIte, Nat.reduceEqDiff, F_TE_look, lit32, e1, if_neg, c06, k2, n_eq, ite_true, ite_false, if_true, if_false, Bool.false_eq_true, and_self, and_true, true_and, and_false, false_and]
  rcases n_case x with hx | ⟨i, hi, ex⟩
  · have hx4 : ∀ i, i < 2147483648 → ¬ (x = Int32.ofNat i) := fun i hi z => by rw [z] at hx; exact absurd hx (by rw [lit32, n_lt (by omega) (by omega)]; omega)
    refine ⟨-Int32.ofNat 1, ?_, ?_⟩
    · by_cases ck : k = 1
      · obtain ⟨A, ms, ps, ls, T, md, g1, -⟩ := k4 ck
        have hl := ru_latest g1.2.2.1.1 g1.1.1 g1.1.2.1
        rw [ck] at k2
        have e0 := hx4 0 (by omega)
        have e1 := hx4 1 (by omega)
        have e2 := hx4 2 (by omega)
        have e3 := hx4 3 (by omega)
        have e4 := hx4 4 (by omega)
        simp (disch := omega) only [↓reduceIte, Nat.reduceEqDiff, F_TE_look, lit32, e0, e1, e2, e3, e4, if_neg, c06, k2, n_eq, if_pos, hl, ite_true, ite_false, if_true, if_false, Bool.false_eq_true, and_self, and_true, true_and, and_false, false_and]
      · exact hne (hx4 4 (by omega)) ck
    · unfold F_Mo_look
      rw [k3]
      by_cases c0 : k = 0
      · rw [if_pos (by rw [c0]; rfl)]
        simp (disch := omega) only [F_Mo_look_29, lit32, ite_true, ite_false, if_true, if_false, Bool.false_eq_true, and_self, and_true, true_and, and_false, false_and]
      · rw [if_neg (by rw [lit32, n_eq (by omega) (by omega)]; omega), if_pos hx]
        simp (disch := omega) only [F_Mo_look_29, lit32, ite_true, ite_false, if_true, if_false, Bool.false_eq_true, and_self, and_true, true_and, and_false, false_and]
  · subst ex
    by_cases c0 : k = 0
    · rw [c0] at k2 k3
      refine ⟨-Int32.ofNat 1, ?_, ?_⟩
      · by_cases c4 : i = 4
        · subst c4
          simp (disch := omega) only [↓reduceIte, Nat.reduceEqDiff, F_TE_look, F_TE_look_26, lit32, c06, k2, n_eq, if_pos, ite_true, ite_false, if_true, if_false, Bool.false_eq_true, and_self, and_true, true_and, and_false, false_and]
        · exact hne (by rw [n_eq (by omega) (by omega)]; omega) (by omega)
      · simp (disch := omega) only [↓reduceIte, Nat.reduceEqDiff, F_Mo_look, F_Mo_look_29, k3, lit32, n_eq, if_pos, ite_true, ite_false, if_true, if_false, Bool.false_eq_true, and_self, and_true, true_and, and_false, false_and]
    · by_cases c4 : i = 4
      · subst c4
        refine ⟨σm.1 0 30, ?_, ?_⟩
        · have := (k7 c0).1
          simp (disch := omega) only [↓reduceIte, Nat.reduceEqDiff, F_TE_look, F_TE_look_26, lit32, c06, k2, n_eq, if_pos, if_neg, this, ite_true, ite_false, if_true, if_false, Bool.false_eq_true, and_self, and_true, true_and, and_false, false_and]
        · simp (disch := omega) only [↓reduceIte, Nat.reduceEqDiff, F_Mo_look, F_Mo_look_31, F_Mo_look_95, k3, lit32, n_eq, n_nl0, n_lt, n_le, if_pos, if_neg, ite_true, ite_false, if_true, if_false, Bool.false_eq_true, and_self, and_true, true_and, and_false, false_and]
      · by_cases ck : k = 1
        · obtain ⟨A, ms, ps, ls, T, md, g1, g2, ⟨R, r1, r2, r3, r4⟩, -⟩ := k4 ck
          have hA1 := g1.1.1
          have hA8 := g1.1.2.1
          have hl := ru_latest g1.2.2.1.1 g1.1.1 g1.1.2.1
          have h31 := g1.2.2.1.2.1
          have h11 := g1.2.2.1.1
          have hFr := (cF (f := A - 1) (by omega)).1
          obtain ⟨f1, f2, f3, f4, f5, f6, f7, f8, f9, f10, -⟩ := g1.2.2.2.2.1 (A - 1) (by omega)
          rw [ck] at k2 k3
          have hi5 : i = 0 ∨ i = 1 ∨ i = 2 ∨ i = 3 ∨ 4 < i := by omega
          rcases hi5 with e | e | e | e | e
          · subst e
            refine ⟨Int32.ofNat (ms (A - 1)), ?_, ?_⟩
            · simp (disch := omega) only [↓reduceIte, Nat.reduceEqDiff, F_TE_look, lit32, c06, k2, n_eq, if_pos, if_neg, hl, hFr, f4, ite_true, ite_false, if_true, if_false, Bool.false_eq_true, and_self, and_true, true_and, and_false, false_and]
            · simp (disch := omega) only [↓reduceIte, Nat.reduceEqDiff, F_Mo_look, F_Mo_look_31, F_Mo_look_95, k3, lit32, n_eq, n_nl0, n_lt, n_le, if_pos, if_neg, h31, n_sub, n_cl, false_or, cm_32, f9, ite_true, ite_false, if_true, if_false, Bool.false_eq_true, and_self, and_true, true_and, and_false, false_and]
          · subst e
            refine ⟨Int32.ofNat (ps (A - 1)), ?_, ?_⟩
            · simp (disch := omega) only [↓reduceIte, Nat.reduceEqDiff, F_TE_look, lit32, c06, k2, n_eq, if_pos, if_neg, hl, hFr, f6, ite_true, ite_false, if_true, if_false, Bool.false_eq_true, and_self, and_true, true_and, and_false, false_and]
            · simp (disch := omega) only [↓reduceIte, Nat.reduceEqDiff, F_Mo_look, F_Mo_look_31, F_Mo_look_95, k3, lit32, n_eq, n_nl0, n_lt, n_le, if_pos, if_neg, h31, n_sub, n_cl, false_or, cm_33, r4, ite_true, ite_false, if_true, if_false, Bool.false_eq_true, and_self, and_true, true_and, and_false, false_and]
          · subst e
            refine ⟨Int32.ofNat A, ?_, ?_⟩
            · simp (disch := omega) only [↓reduceIte, Nat.reduceEqDiff, F_TE_look, lit32, c06, k2, n_eq, if_pos, if_neg, hl, h11, ite_true, ite_false, if_true, if_false, Bool.false_eq_true, and_self, and_true, true_and, and_false, false_and]
            · simp (disch := omega) only [↓reduceIte, Nat.reduceEqDiff, F_Mo_look, F_Mo_look_31, F_Mo_look_95, k3, lit32, n_eq, n_nl0, n_lt, n_le, if_pos, if_neg, h31, ite_true, ite_false, if_true, if_false, Bool.false_eq_true, and_self, and_true, true_and, and_false, false_and]
          · subst e
            refine ⟨Int32.ofNat (ls (A - 1)).length, ?_, ?_⟩
            · simp (disch := omega) only [↓reduceIte, Nat.reduceEqDiff, F_TE_look, lit32, c06, k2, n_eq, if_pos, if_neg, hl, hFr, f8, ite_true, ite_false, if_true, if_false, Bool.false_eq_true, and_self, and_true, true_and, and_false, false_and]
            · simp (disch := omega) only [↓reduceIte, Nat.reduceEqDiff, F_Mo_look, F_Mo_look_31, F_Mo_look_95, k3, lit32, n_eq, n_nl0, n_lt, n_le, if_pos, if_neg, h31, n_sub, n_cl, false_or, cm_34, f10, ite_true, ite_false, if_true, if_false, Bool.false_eq_true, and_self, and_true, true_and, and_false, false_and]
          · refine ⟨-Int32.ofNat 1, ?_, ?_⟩
            · simp (disch := omega) only [↓reduceIte, Nat.reduceEqDiff, F_TE_look, lit32, c06, k2, n_eq, if_pos, if_neg, hl, ite_true, ite_false, if_true, if_false, Bool.false_eq_true, and_self, and_true, true_and, and_false, false_and]
            · simp (disch := omega) only [↓reduceIte, Nat.reduceEqDiff, F_Mo_look, F_Mo_look_29, k3, lit32, n_eq, n_nl0, n_lt, if_pos, if_neg, ite_true, ite_false, if_true, if_false, Bool.false_eq_true, and_self, and_true, true_and, and_false, false_and]
        · refine ⟨-Int32.ofNat 1, hne (by rw [n_eq (by omega) (by omega)]; omega) ck, ?_⟩
          by_cases c5 : 4 < i
          · simp (disch := omega) only [↓reduceIte, Nat.reduceEqDiff, F_Mo_look, F_Mo_look_29, k3, lit32, n_eq, n_nl0, n_lt, if_pos, if_neg, ite_true, ite_false, if_true, if_false, Bool.false_eq_true, and_self, and_true, true_and, and_false, false_and]
          · simp (disch := omega) only [↓reduceIte, Nat.reduceEqDiff, F_Mo_look, F_Mo_look_29, k3, lit32, n_eq, n_nl0, n_lt, n_le, if_pos, if_neg, ite_true, ite_false, if_true, if_false, Bool.false_eq_true, and_self, and_true, true_and, and_false, false_and]
