/-! What stays, while an instruction is done. -/
def Wc (σ σ1 : SG) : Prop := (∀ x g, x < 123 → σ1.1 x g = σ.1 x g) ∧ (∀ x g, x ≤ 123 → σ1.2.2.1 x g = σ.2.2.1 x g) ∧ (∀ x g, x < 123 → σ1.2.2.2.1 x g = σ.2.2.2.1 x g) ∧ ∀ f, f < 8 → σ1.1 (125 + 6 * f) 0 = σ.1 (125 + 6 * f) 0
def Wm (σ σ1 : SG) : Prop := (∀ g, g ≠ 24 → g ≠ 28 → g ≠ 29 → g ≠ 30 → g ≠ 31 → g ≠ 44 → g ≠ 46 → σ1.1 0 g = σ.1 0 g) ∧ (∀ x g, x < 20 → σ1.2.2.2.1 x g = σ.2.2.2.1 x g) ∧ σ1.2.2.2.2 = σ.2.2.2.2
theorem Wc_refl (σ : SG) : Wc σ σ := ⟨fun _ _ _ => rfl, fun _ _ _ => rfl, fun _ _ _ => rfl, fun _ _ => rfl⟩
theorem Wm_refl (σ : SG) : Wm σ σ := ⟨fun _ _ _ _ _ _ _ _ => rfl, fun _ _ _ => rfl, rfl⟩
theorem Wc_trans {a b c : SG} (h : Wc a b) (g : Wc b c) : Wc a c := ⟨fun x y p => (g.1 x y p).trans (h.1 x y p), fun x y p => (g.2.1 x y p).trans (h.2.1 x y p), fun x y p => (g.2.2.1 x y p).trans (h.2.2.1 x y p), fun f p => (g.2.2.2 f p).trans (h.2.2.2 f p)⟩
theorem Wm_trans {a b c : SG} (h : Wm a b) (g : Wm b c) : Wm a c := ⟨fun y p1 p2 p3 p4 p5 p6 p7 => (g.1 y p1 p2 p3 p4 p5 p6 p7).trans (h.1 y p1 p2 p3 p4 p5 p6 p7), fun x y p => (g.2.1 x y p).trans (h.2.1 x y p), g.2.2.trans h.2.2⟩
theorem Sc_W {f : Nat} {a b : SG} (h : Sc f a b) : Wc a b := ⟨fun x g p => h.2.2.2.1 x g (by omega), fun x g _ => by rw [h.2.1], fun x g _ => by rw [h.2.2.1], fun q _ => h.2.2.2.1 _ _ (by omega)⟩
theorem Sm_W {f : Nat} {a b : SG} (h : Sm f a b) : Wm a b := ⟨fun g _ _ _ _ _ _ q => h.2.2.2.1 0 g (by omega), fun x g p => h.2.2.2.2 x g (by omega) (by omega), h.2.2.1⟩
/-- the image stays -/
def Img (im : Im) (IA : Nat) (σc σm : SG) : Prop := ImC σc IA im ∧ RepM σm im ∧ WfI im ∧ ∀ m, m < im 0 1 → VerI im m IA σc σm
theorem Img_congr {im : Im} {IA : Nat} {σc σm σc1 σm1 : SG} (h : Img im IA σc σm) (hc : Wc σc σc1) (hm : Wm σm σm1) : Img im IA σc1 σm1 := by
  obtain ⟨b1, b2, b3, b4⟩ := h
  have hIA := b1.1
  have n6 := (IC_nm b1).2.2
  refine ⟨?_, ?_, b3, fun m hm' => ?_⟩
  · exact ImC_congr b1 (fun x f _ _ _ => hc.1 x f (by omega)) (fun x f _ _ _ => hc.2.2.1 x f (by omega))
  · obtain ⟨r0, r1, r2, r3⟩ := b2
    refine ⟨r0, ?_, ?_, fun a k p q => ?_⟩
    · rw [hm.1 _ (by omega) (by omega) (by omega) (by omega) (by omega) (by omega) (by omega)]; exact r1
    · rw [hm.1 _ (by omega) (by omega) (by omega) (by omega) (by omega) (by omega) (by omega)]; exact r2
    · rw [hm.2.1 _ _ (by omega)]; exact r3 a k p q
  · obtain ⟨b, R, v1, v2, v3, v4⟩ := b4 m hm'
    refine ⟨b, R, ?_, ?_, v3, fun eb => ?_⟩
    · rw [hc.1 _ _ (by omega)]; exact v1
    · rw [hm.2.1 _ _ (by omega)]; exact v2
    · obtain ⟨⟨k1, k2, k3, k4, k5, cc, k6, k7⟩, r2, r3⟩ := v4 eb
      refine ⟨⟨k1, k2, fun p hp => ?_, k4, k5, cc, ?_, k7⟩, ⟨fun p hp => ?_, r2.2⟩, fun p hp => ?_⟩
      · rw [hc.2.2.1 _ _ (by omega)]; exact k3 p hp
      · rw [hc.1 _ _ (by omega)]; exact k6
      · rw [hm.2.1 _ _ (by omega), hm.2.2]; exact r2.1 p hp
      · rw [hm.2.1 _ _ (by omega)]; exact r3 p hp
/-- values keep their types -/
def Mono (im : Im) (A : Nat) (ms T : Nat → Nat) (md A' : Nat) (ms' T' : Nat → Nat) (md' f : Nat) : Prop := (∀ x, x < 832 → TyC im A ms T md x = 1 → (x < 32 → x / 4 ≤ f) → TyC im A' ms' T' md' x = 1) ∧ md ≤ md' ∧ ∀ k, k < md → T' k = T k
theorem VR_mono {im : Im} {A : Nat} {ms T : Nat → Nat} {md A' : Nat} {ms' T' : Nat → Nat} {md' f f' t : Nat} {v : Int64} {a b : Int32} (h : VR im A ms T md f t v a b) (hm : Mono im A ms T md A' ms' T' md' f) (hf : f ≤ f') : VR im A' ms' T' md' f' t v a b := by
  rcases h with h | h | ⟨h1, x, h2, h3, h4, h5, h6⟩ | ⟨h1, h | ⟨k, h2, h3, h4, h5⟩⟩
  · exact Or.inl h
  · exact Or.inr (Or.inl h)
  · exact Or.inr (Or.inr (Or.inl ⟨h1, x, h2, hm.1 x h2 h3 h4, fun q => Nat.le_trans (h4 q) hf, h5, h6⟩))
  · exact Or.inr (Or.inr (Or.inr ⟨h1, Or.inl h⟩))
  · exact Or.inr (Or.inr (Or.inr ⟨h1, Or.inr ⟨k, Nat.lt_of_lt_of_le h2 hm.2.1, (hm.2.2 k h2).trans h3, h4, h5⟩⟩))
theorem VR_n3 {im : Im} {A : Nat} {ms T : Nat → Nat} {md A' : Nat} {ms' T' : Nat → Nat} {md' f f' t : Nat} {v : Int64} {a b : Int32} (h : VR im A ms T md f t v a b) (h3 : t ≠ 3) (hm : md ≤ md') (hT : ∀ k, k < md → T' k = T k) : VR im A' ms' T' md' f' t v a b := by
  rcases h with h | h | ⟨h1, -⟩ | ⟨h1, h | ⟨k, h2, h3, h4, h5⟩⟩
  · exact Or.inl h
  · exact Or.inr (Or.inl h)
  · exact absurd h1 h3
  · exact Or.inr (Or.inr (Or.inr ⟨h1, Or.inl h⟩))
  · exact Or.inr (Or.inr (Or.inr ⟨h1, Or.inr ⟨k, Nat.lt_of_lt_of_le h2 hm, (hT k h2).trans h3, h4, h5⟩⟩))
theorem Mono_refl (im : Im) (A : Nat) (ms T : Nat → Nat) (md f : Nat) : Mono im A ms T md A ms T md f := ⟨fun _ _ h _ => h, Nat.le_refl _, fun _ _ => rfl⟩
theorem StR_mono {im : Im} {A : Nat} {ms T : Nat → Nat} {md A' : Nat} {ms' T' : Nat → Nat} {md' f : Nat} {σc σm : SG} (hm : Mono im A ms T md A' ms' T' md' f) : ∀ l : List Nat, StR im A ms T md σc σm f l → StR im A' ms' T' md' σc σm f l
  | [], _ => trivial
  | _ :: l, h => ⟨VR_mono h.1 hm (Nat.le_refl _), StR_mono hm l h.2⟩
/-- a frame stays -/
def FrC (f : Nat) (σ σ1 : SG) : Prop := (∀ g, σ1.1 (125 + 6 * f) g = σ.1 (125 + 6 * f) g) ∧ (σ1.2.2.1 (125 + 6 * f) 1 = σ.2.2.1 (125 + 6 * f) 1) ∧ (∀ x g, x = 126 + 6 * f ∨ x = 127 + 6 * f → σ1.2.2.2.2 x g = σ.2.2.2.2 x g) ∧ (∀ x g, 128 + 6 * f ≤ x → x ≤ 130 + 6 * f → σ1.2.2.2.1 x g = σ.2.2.2.1 x g)
def FrM (f : Nat) (σ σ1 : SG) : Prop := (∀ x, x = 20 ∨ x = 22 → σ1.2.2.2.1 x f = σ.2.2.2.1 x f) ∧ (∀ x g, x = 23 ∨ x = 24 → 8 * f ≤ g → g < 8 * f + 8 → σ1.2.2.2.1 x g = σ.2.2.2.1 x g) ∧ (∀ x g, x = 25 ∨ x = 26 → 32 + 3 * f ≤ g → g < 35 + 3 * f → σ1.2.2.2.1 x g = σ.2.2.2.1 x g) ∧ (∀ x g, x = 28 ∨ x = 29 ∨ x = 30 → 3 * f ≤ g → g < 3 * f + 3 → σ1.2.2.2.1 x g = σ.2.2.2.1 x g)
theorem PnR_congr {im : Im} {σc σm σc1 σm1 : SG} {f m p : Nat} (h : PnR im σc σm f m p) (hr : im 9 m ≤ 3) (hc : ∀ x g, 128 + 6 * f ≤ x → x ≤ 130 + 6 * f → σc1.2.2.2.1 x g = σc.2.2.2.1 x g) (hm : ∀ x g, x = 28 ∨ x = 29 ∨ x = 30 → 3 * f ≤ g → g < 3 * f + 3 → σm1.2.2.2.1 x g = σm.2.2.2.1 x g) : PnR im σc1 σm1 f m p := by
  intro r hr' hi hh
  obtain ⟨kd, fr, p1, p2, p3, p4, p5, p6, p7, p8, p9⟩ := h r hr' hi hh
  refine ⟨kd, fr, p1, p2, ?_, ?_, ?_, ?_, p7, ?_, fun ek => ?_⟩
  · rw [hc _ _ (by omega) (by omega)]; exact p3
  · rw [hm _ _ (by omega) (by omega) (by omega)]; exact p4
  · rw [hc _ _ (by omega) (by omega)]; exact p5
  · rw [hm _ _ (by omega) (by omega) (by omega)]; exact p6
  · rw [hc _ _ (by omega) (by omega), hm _ _ (by omega) (by omega) (by omega)]; exact p8
  · obtain ⟨tg, R, q1, q2⟩ := p9 ek
    exact ⟨tg, R, by rw [hc _ _ (by omega) (by omega)]; exact q1, q2⟩
theorem PnR_place {im : Im} {σc σm : SG} {f m p q : Nat} (h : PnR im σc σm f m p) (hq : ∀ r, r < im 9 m → iH im m r q → iH im m r p) : PnR im σc σm f m q := fun r hr hi hh => h r hr hi (hq r hr hh)
theorem FrI_congr {im : Im} {IA A : Nat} {ms ps : Nat → Nat} {ls : Nat → List Nat} {T : Nat → Nat} {md A' : Nat} {ms' ps' : Nat → Nat} {ls' : Nat → List Nat} {T' : Nat → Nat} {md' : Nat} {σc σm σc1 σm1 : SG} {f : Nat} (hw : WfI im) (h : FrI im IA A ms ps ls T md σc σm f) (hc : FrC f σc σc1) (hm : FrM f σm σm1) (hMo : Mono im A ms T md A' ms' T' md' f) (e1 : ms' f = ms f) (e2 : ps' f = ps f) (e3 : ls' f = ls f) : FrI im IA A' ms' ps' ls' T' md' σc1 σm1 f := by
  obtain ⟨f1, f2, f3, f4, f5, f6, f7, f8, f9, f10, f11, f12, f13⟩ := h
  have w := wf_m hw f1
  have h5 := w.2.2.1
  have h9 := w.2.2.2.2.2.2.1
  unfold FrI
  rw [e1, e2, e3]
  refine ⟨f1, f2, ?_, ?_, f5, ?_, f7, ?_, ?_, ?_, ?_, fun i hi => ?_, ?_⟩
  · rw [hc.2.1]; exact f3
  · rw [hc.1]; exact f4
  · rw [hc.1]; exact f6
  · rw [hc.1]; exact f8
  · rw [hm.1 _ (by omega)]; exact f9
  · rw [hm.1 _ (by omega)]; exact f10
  · refine StR_mono hMo _ (StR_congr _ f11 (fun j hj => ⟨hc.2.2.1 _ _ (by omega), ?_, ?_⟩))
    · exact hm.2.1 _ _ (by omega) (by omega) (by omega)
    · exact hm.2.1 _ _ (by omega) (by omega) (by omega)
  · rw [hc.2.2.1 _ _ (by omega), hm.2.2.1 _ _ (by omega) (by omega) (by omega), hm.2.2.1 _ _ (by omega) (by omega) (by omega)]
    exact VR_mono (f12 i hi) hMo (Nat.le_refl _)
  · exact PnR_congr f13 h9 hc.2.2.2 hm.2.2.2
theorem FrC_refl (f : Nat) (σ : SG) : FrC f σ σ := ⟨fun _ => rfl, rfl, fun _ _ _ => rfl, fun _ _ _ _ => rfl⟩
theorem FrM_refl (f : Nat) (σ : SG) : FrM f σ σ := ⟨fun _ _ => rfl, fun _ _ _ _ _ => rfl, fun _ _ _ _ _ => rfl, fun _ _ _ _ _ => rfl⟩
/-- types of cells -/
theorem lty_n3 {im : Im} {m k : Nat} (hw : WfI im) (hm : m < im 0 1) : lty im m k ≠ 3 := by
  unfold lty
  by_cases c : k < im 7 m
  · rw [if_pos c]
    exact tyP_n3 ((wf_m hw hm).2.2.2.2.2.1 k c)
  · rw [if_neg c]; omega
theorem cty_n3 {im : Im} {t i : Nat} (hw : WfI im) (ht : t = 4 ∨ t = 5 ∨ (8 ≤ t ∧ t < 8 + im 0 0)) : cty im t i ≠ 3 := by
  unfold cty
  by_cases c4 : t = 4
  · rw [if_pos c4]; omega
  · rw [if_neg c4]
    by_cases c5 : t = 5
    · rw [if_pos c5]; split <;> omega
    · rw [if_neg c5]
      by_cases c : i < im 2 (t - 8)
      · rw [if_pos c]
        exact tyP_n3 ((wf_f hw (show t - 8 < im 0 0 by omega)).2 i c)
      · rw [if_neg c]; omega
theorem TyC_n3 {im : Im} {IA A : Nat} {ms ps : Nat → Nat} {ls : Nat → List Nat} {T : Nat → Nat} {md : Nat} {σc0 σm0 σc σm : SG} (h : Md im IA A ms ps ls T md σc σm) (x : Nat) : TyC im A ms T md x ≠ 3 := by
  obtain ⟨⟨a1, a2, a3⟩, ⟨b1, b2, b3, b4⟩, -, -, e, g, -⟩ := h
  unfold TyC
  by_cases c : x < 32
  · rw [if_pos c]
    by_cases d : x / 4 < A
    · rw [if_pos d]
      exact lty_n3 b3 (e _ d).1
    · rw [if_neg d]; omega
  · rw [if_neg c]
    by_cases d : (x - 32) / 20 < md
    · rw [if_pos d]
      exact cty_n3 b3 (g.2 _ d).1
    · rw [if_neg d]; omega
theorem ra_inj {x y : Nat} (h : ra x = ra y) : x = y := by
  unfold ra at h
  by_cases c : x < 32 <;> by_cases d : y < 32 <;> simp only [c, d, if_true, if_false] at h <;> omega
theorem ra_lt {x : Nat} (h : x < 832) : ra x < 856 ∧ ¬ (32 ≤ ra x ∧ ra x < 56) := by
  unfold ra
  by_cases c : x < 32 <;> simp only [c, if_true, if_false] <;> omega
/-- a cell is set -/
theorem Md_cell {im : Im} {IA A : Nat} {ms ps : Nat → Nat} {ls : Nat → List Nat} {T : Nat → Nat} {md : Nat} {σc0 σm0 σc σm : SG} {x : Nat} {v : Int64} {a b : Int32} {σm1 : SG} (h : Md im IA A ms ps ls T md σc σm) (hx : x < 832) (hv : VR im A ms T md 0 (TyC im A ms T md x) v a b) (hm1 : σm1.1 = σm.1) (hm2 : σm1.2.2.2.2 = σm.2.2.2.2) (hm3 : ∀ y g, ¬ ((y = 25 ∨ y = 26) ∧ g = ra x) → σm1.2.2.2.1 y g = σm.2.2.2.1 y g) (ha : σm1.2.2.2.1 25 (ra x) = a) (hb : σm1.2.2.2.1 26 (ra x) = b) : Md im IA A ms ps ls T md (setL σc 173 x v) σm1 := by
  have hn3 := TyC_n3 (σc0 := σc) (σm0 := σm) h
  obtain ⟨⟨a1, a2, a3⟩, b0, ⟨c1, c2, c3, c4, c5⟩, d, e, g, k⟩ := h
  have hr := ra_lt hx
  have hwc : Wc σc (setL σc 173 x v) := ⟨fun _ _ _ => rfl, fun _ _ _ => rfl, fun _ _ _ => rfl, fun _ _ => rfl⟩
  have hwm : Wm σm σm1 := ⟨fun g _ _ _ _ _ _ _ => by rw [hm1], fun x g _ => hm3 x g (by omega), hm2⟩
  have hb0 := Img_congr b0 hwc hwm
  refine ⟨⟨a1, a2, a3⟩, hb0, ⟨c1, by rw [hm1]; exact c2, c3, by rw [hm1]; exact c4, c5⟩, d, fun f hf => ?_, ⟨fun y hy ht => ?_, fun q hq => ⟨(g.2 q hq).1, fun e4 => ?_⟩⟩, fun q hq => ?_⟩
  · refine FrI_congr b0.2.2.1 (e f hf) ⟨fun _ => rfl, rfl, fun y g hy => by rw [rL, if_neg (by omega)], fun _ _ _ _ => rfl⟩ ⟨fun y hy => hm3 _ _ (by omega), fun y g hy _ _ => hm3 _ _ (by omega), fun y g hy h1 h2 => hm3 _ _ (by omega), fun y g hy _ _ => hm3 _ _ (by omega)⟩ (Mono_refl _ _ _ _ _ _) rfl rfl rfl
  · by_cases c : y = x
    · rw [c, rL, if_pos ⟨rfl, rfl⟩, ha, hb]
      exact hv
    · have hra : ra y ≠ ra x := fun z => c (ra_inj z)
      rw [rL, if_neg (fun z => c z.2), hm3 _ _ (fun z => hra z.2), hm3 _ _ (fun z => hra z.2)]
      exact g.1 y hy ht
  · obtain ⟨n, n1, n2, n3⟩ := (g.2 q hq).2 e4
    exact ⟨n, n1, n2, by rw [hm3 _ _ (by omega)]; exact n3⟩
  · rw [hm3 _ _ (by omega)]
    exact k q hq
