/-! In the midst of an instruction: what the two hold. -/
def Mi (im : Im) (IA A : Nat) (ms ps : Nat → Nat) (ls : Nat → List Nat) (T : Nat → Nat) (md : Nat) (σc0 σm0 : SG) (L : List Nat) (σc σm : SG) : Prop :=
  Md im IA A ms ps (upl ls (A - 1) L) T md σc σm ∧ (Wc σc0 σc ∧ Wm σm0 σm ∧ ∀ x g, x = 21 ∨ x = 31 → σm.2.2.2.1 x g = σm0.2.2.2.1 x g) ∧ (σc.1 123 9 = Int32.ofNat 1 ∧ σc.1 123 10 = Int32.ofNat 0 ∧ σm.1 0 28 = Int32.ofNat 1 ∧ σm.1 0 24 = Int32.ofNat (ms (A - 1))) ∧ σc.1 123 5 = Int32.ofNat 0 ∧ σm.1 0 44 = Int32.ofNat 0
def Rz (im : Im) (IA A : Nat) (ms ps : Nat → Nat) (ls : Nat → List Nat) (T : Nat → Nat) (md : Nat) (σc0 σm0 : SG) (e : Nat) (L : List Nat) (σc σm : SG) : Prop :=
  Md im IA A ms ps (upl ls (A - 1) L) T md σc σm ∧ (Wc σc0 σc ∧ Wm σm0 σm ∧ ∀ x g, x = 21 ∨ x = 31 → σm.2.2.2.1 x g = σm0.2.2.2.1 x g) ∧ (σc.1 123 9 = Int32.ofNat 1 ∧ σc.1 123 10 = Int32.ofNat 0 ∧ σm.1 0 28 = Int32.ofNat 1 ∧ σm.1 0 24 = Int32.ofNat (ms (A - 1))) ∧ (1 ≤ e ∧ e ≤ 5) ∧ σc.1 123 5 = Int32.ofNat 1 ∧ σc.1 123 6 = Int32.ofNat e ∧ σc.1 123 7 = Int32.ofNat (ps (A - 1)) ∧ σc.1 123 8 = Int32.ofNat 0 ∧ σm.1 0 44 = Int32.ofNat e
def OpR (im : Im) (IA A : Nat) (ms ps : Nat → Nat) (ls : Nat → List Nat) (σc0 σm0 : SG) (L' : List Nat) (x : Option (Bool × SG)) (y : Option SG) : Prop :=
  ∃ b σc1 σm1, x = some (b, σc1) ∧ y = some σm1 ∧ ((b = true ∧ ∃ T md, Mi im IA A ms ps ls T md σc0 σm0 L' σc1 σm1) ∨ (b = false ∧ ∃ T md e L, Rz im IA A ms ps ls T md σc0 σm0 e L σc1 σm1))
theorem Mi_op {im : Im} {IA A : Nat} {ms ps : Nat → Nat} {ls : Nat → List Nat} {T : Nat → Nat} {md : Nat} {σc0 σm0 σc σm : SG} {L : List Nat} (h : Mi im IA A ms ps ls T md σc0 σm0 L σc σm) : 1 ≤ A ∧ A ≤ 8 ∧ md ≤ 40 ∧ ms (A - 1) < im 0 1 ∧ ms (A - 1) < 6 ∧ BM im (ms (A - 1)) σm ∧ L.length ≤ 8 ∧ Img im IA σc σm ∧ σc.1 (125 + 6 * (A - 1)) 0 = Int32.ofNat (4 * (A - 1)) ∧ σc.1 (125 + 6 * (A - 1)) 3 = Int32.ofNat (ps (A - 1)) ∧ σc.1 (125 + 6 * (A - 1)) 4 = Int32.ofNat L.length ∧ ps (A - 1) < 100 ∧ σc.1 123 11 = Int32.ofNat A ∧ σc.1 123 12 = Int32.ofNat md ∧ σm.1 0 30 = Int32.ofNat md ∧ isC SHc (125 + 6 * (A - 1)) 0 = true ∧ σm.1 0 31 = Int32.ofNat A ∧ σm.2.2.2.1 22 (A - 1) = Int32.ofNat L.length := by
  obtain ⟨⟨⟨a1, a2, a3⟩, b, ⟨c1, c2, c3, c4, c5⟩, d, e, f, g⟩, h2, h3, h4⟩ := h
  obtain ⟨f1, f2, f3, f4, f5, f6, f7, f8, f9, f10, f11, f12, f13⟩ := e (A - 1) (by omega)
  rw [upl_s] at f7 f8 f10
  have hn := IC_nm b.1
  obtain ⟨bb, R, v1, v2, v3, v4⟩ := b.2.2.2 _ f1
  have hb := (v4 (v3.mpr f2)).2.2
  exact ⟨a1, a2, a3, f1, by omega, ⟨b.2.1, h3.2.2.2, hb⟩, f7, b, d _ (by omega), f6, f8, f5, c1, c3, c4, (cF (by omega)).1, c2, f10⟩
theorem mi_pop {im : Im} {IA A : Nat} {ms ps : Nat → Nat} {ls : Nat → List Nat} {T : Nat → Nat} {md : Nat} {σc0 σm0 σc σm : SG} {t : Nat} {L : List Nat} (h : Mi im IA A ms ps ls T md σc0 σm0 (t :: L) σc σm) :
    ∃ v a σc1 σm1, F_Fr_pop (125 + 6 * (A - 1)) σc = some (v, σc1) ∧ F_Fr_popInt (125 + 6 * (A - 1)) σc = some (v.toInt32, σc1) ∧ F_Mo_get 0 σm = some (a, σm1) ∧ VR im A ms T md (A - 1) t v a (σm1.1 0 46) ∧ Mi im IA A ms ps ls T md σc0 σm0 L σc1 σm1 := by
  obtain ⟨h1, ⟨w1, w2, w3⟩, ⟨p1, p2, p3, p4⟩, q1, q2⟩ := h
  obtain ⟨v, a, σc1, σm1, r1, r2, r3, r4, r5, r6, r7⟩ := sim_pop (l := L) (t := t) h1 (upl_s _ _ _)
  rw [upl_u] at r5
  refine ⟨v, a, σc1, σm1, r1, r2, r3, r4, r5, ⟨Wc_trans w1 (Sc_W r6), Wm_trans w2 (Sm_W r7), fun x g hx => ?_⟩, ⟨?_, ?_, ?_, ?_⟩, ?_, ?_⟩
  · rw [r7.2.2.2.2 _ _ (by omega) (by omega)]; exact w3 x g hx
  · rw [r6.2.2.2.1 _ _ (by omega)]; exact p1
  · rw [r6.2.2.2.1 _ _ (by omega)]; exact p2
  · rw [r7.2.2.2.1 _ _ (by omega)]; exact p3
  · rw [r7.2.2.2.1 _ _ (by omega)]; exact p4
  · rw [r6.2.2.2.1 _ _ (by omega)]; exact q1
  · rw [r7.2.2.2.1 _ _ (by omega)]; exact q2
theorem mi_push {im : Im} {IA A : Nat} {ms ps : Nat → Nat} {ls : Nat → List Nat} {T : Nat → Nat} {md : Nat} {σc0 σm0 σc σm : SG} {t : Nat} {L : List Nat} {v : Int64} {a b : Int32} (h : Mi im IA A ms ps ls T md σc0 σm0 L σc σm) (hl : L.length < 8) (hv : VR im A ms T md (A - 1) t v a b) :
    ∃ σc1 σm1, F_Fr_push (125 + 6 * (A - 1)) v σc = some σc1 ∧ F_Mo_put 0 a b σm = some σm1 ∧ Mi im IA A ms ps ls T md σc0 σm0 (t :: L) σc1 σm1 ∧ σm1.1 = σm.1 ∧ σc1.1 123 12 = σc.1 123 12 := by
  obtain ⟨h1, ⟨w1, w2, w3⟩, ⟨p1, p2, p3, p4⟩, q1, q2⟩ := h
  obtain ⟨σc1, σm1, r1, r2, r5, r6, r7, r8⟩ := sim_push (t := t) h1 (by rw [upl_s]; exact hl) hv
  rw [upl_u, upl_s] at r5
  refine ⟨σc1, σm1, r1, r2, ⟨r5, ⟨Wc_trans w1 (Sc_W r6), Wm_trans w2 (Sm_W r7), fun x g hx => ?_⟩, ⟨?_, ?_, ?_, ?_⟩, ?_, ?_⟩, r8, r6.2.2.2.1 _ _ (by omega)⟩
  · rw [r7.2.2.2.2 _ _ (by omega) (by omega)]; exact w3 x g hx
  · rw [r6.2.2.2.1 _ _ (by omega)]; exact p1
  · rw [r6.2.2.2.1 _ _ (by omega)]; exact p2
  · rw [r8]; exact p3
  · rw [r8]; exact p4
  · rw [r6.2.2.2.1 _ _ (by omega)]; exact q1
  · rw [r8]; exact q2
theorem Md_44 {im : Im} {IA A : Nat} {ms ps : Nat → Nat} {ls : Nat → List Nat} {T : Nat → Nat} {md : Nat} {σc0 σm0 σc σm : SG} {v : Int32} (h : Md im IA A ms ps ls T md σc σm) : Md im IA A ms ps ls T md σc (setI σm 0 44 v) := by
  obtain ⟨a, b, ⟨c1, c2, c3, c4, c5⟩, d, e, f, g⟩ := h
  refine ⟨a, Img_congr b (Wc_refl _) ⟨fun g _ _ _ _ _ q _ => by rw [rI, if_neg (by omega)], fun _ _ _ => rfl, rfl⟩, ⟨c1, ?_, c3, ?_, c5⟩, d, fun f hf => FrI_congr b.2.2.1 (e f hf) (FrC_refl _ _) ⟨fun _ _ => rfl, fun _ _ _ _ _ => rfl, fun _ _ _ _ _ => rfl, fun _ _ _ _ _ => rfl⟩ (Mono_refl _ _ _ _ _ _) rfl rfl rfl, f, g⟩
  · rw [rI, if_neg (by omega)]; exact c2
  · rw [rI, if_neg (by omega)]; exact c4
theorem mi_44 {im : Im} {IA A : Nat} {ms ps : Nat → Nat} {ls : Nat → List Nat} {T : Nat → Nat} {md : Nat} {σc0 σm0 σc σm : SG} {L : List Nat} (h : Mi im IA A ms ps ls T md σc0 σm0 L σc σm) : Mi im IA A ms ps ls T md σc0 σm0 L σc (setI σm 0 44 (Int32.ofNat 0)) := by
  obtain ⟨h1, ⟨w1, w2, w3⟩, ⟨p1, p2, p3, p4⟩, q1, q2⟩ := h
  refine ⟨Md_44 (σc0 := σc) (σm0 := σm) h1, ⟨w1, Wm_trans w2 ⟨fun g _ _ _ _ _ q _ => by rw [rI, if_neg (by omega)], fun _ _ _ => rfl, rfl⟩, w3⟩, ⟨p1, p2, ?_, ?_⟩, q1, by rw [rI, if_pos ⟨rfl, rfl⟩]⟩
  · rw [rI, if_neg (by omega)]; exact p3
  · rw [rI, if_neg (by omega)]; exact p4
theorem Md_thr {im : Im} {IA A : Nat} {ms ps : Nat → Nat} {ls : Nat → List Nat} {T : Nat → Nat} {md : Nat} {σc0 σm0 σc σm : SG} {a b c d : Int32} (h : Md im IA A ms ps ls T md σc σm) : Md im IA A ms ps ls T md (setI (setI (setI (setI σc 123 5 a) 123 6 b) 123 7 c) 123 8 d) σm := by
  have hi : ∀ x g, ¬ (x = 123 ∧ 5 ≤ g ∧ g ≤ 8) → (setI (setI (setI (setI σc 123 5 a) 123 6 b) 123 7 c) 123 8 d).1 x g = σc.1 x g := fun x g hx => by
    rw [rI, if_neg (by omega), rI, if_neg (by omega), rI, if_neg (by omega), rI, if_neg (by omega)]
  obtain ⟨a, b, ⟨c1, c2, c3, c4, c5⟩, d, e, f, g⟩ := h
  refine ⟨a, Img_congr b ⟨fun x g q => hi x g (by omega), fun _ _ _ => rfl, fun _ _ _ => rfl, fun f _ => hi _ _ (by omega)⟩ (Wm_refl _), ⟨?_, c2, ?_, c4, c5⟩, fun f hf => ?_, fun f hf => FrI_congr b.2.2.1 (e f hf) ⟨fun g => hi _ _ (by omega), rfl, fun _ _ _ => rfl, fun _ _ _ _ => rfl⟩ (FrM_refl _ _) (Mono_refl _ _ _ _ _ _) rfl rfl rfl, f, g⟩
  · rw [hi _ _ (by omega)]; exact c1
  · rw [hi _ _ (by omega)]; exact c3
  · rw [hi _ _ (by omega)]; exact d f hf
theorem mi_raise {im : Im} {IA A : Nat} {ms ps : Nat → Nat} {ls : Nat → List Nat} {T : Nat → Nat} {md : Nat} {σc0 σm0 σc σm : SG} {e : Nat} {L : List Nat} (h : Mi im IA A ms ps ls T md σc0 σm0 L σc σm) (he : 1 ≤ e ∧ e ≤ 5) : ∃ σc1, F_Ru_raise 123 (Int32.ofNat e) σc = some (false, σc1) ∧ Rz im IA A ms ps ls T md σc0 σm0 e L σc1 (setI σm 0 44 (Int32.ofNat e)) := by
  obtain ⟨o1, o2, o3, o4, o5, o6, o7, o8, o9, o10, o11, o12, o13, -⟩ := Mi_op h
  obtain ⟨h1, ⟨w1, w2, w3⟩, ⟨p1, p2, p3, p4⟩, q1, q2⟩ := h
  refine ⟨_, ru_raise o13 o1 o2, Md_44 (σc0 := σc) (σm0 := σm) (Md_thr (σc0 := σc) (σm0 := σm) h1), ⟨Wc_trans w1 ⟨fun x g q => ?_, fun _ _ _ => rfl, fun _ _ _ => rfl, fun f _ => ?_⟩, Wm_trans w2 ⟨fun g _ _ _ _ _ q _ => by rw [rI, if_neg (by omega)], fun _ _ _ => rfl, rfl⟩, w3⟩, ⟨?_, ?_, ?_, ?_⟩, he, ?_, ?_, ?_, ?_, ?_⟩
  · rw [rI, if_neg (by omega), rI, if_neg (by omega), rI, if_neg (by omega), rI, if_neg (by omega)]
  · rw [rI, if_neg (by omega), rI, if_neg (by omega), rI, if_neg (by omega), rI, if_neg (by omega)]
  · rw [rI, if_neg (by omega), rI, if_neg (by omega), rI, if_neg (by omega), rI, if_neg (by omega)]; exact p1
  · rw [rI, if_neg (by omega), rI, if_neg (by omega), rI, if_neg (by omega), rI, if_neg (by omega)]; exact p2
  · rw [rI, if_neg (by omega)]; exact p3
  · rw [rI, if_neg (by omega)]; exact p4
  · rw [rI, if_neg (by omega), rI, if_neg (by omega), rI, if_neg (by omega), rI, if_pos ⟨rfl, rfl⟩, bzt]
  · rw [rI, if_neg (by omega), rI, if_neg (by omega), rI, if_pos ⟨rfl, rfl⟩]
  · rw [rI, if_neg (by omega), rI, if_pos ⟨rfl, rfl⟩]; exact o10
  · rw [rI, if_pos ⟨rfl, rfl⟩]
  · rw [rI, if_pos ⟨rfl, rfl⟩]
/-- a cell is read, is written -/
theorem mi_cell {im : Im} {IA A : Nat} {ms ps : Nat → Nat} {ls : Nat → List Nat} {T : Nat → Nat} {md : Nat} {σc0 σm0 σc σm : SG} {L : List Nat} {x : Nat} (h : Mi im IA A ms ps ls T md σc0 σm0 L σc σm) (hx : x < 832) (ht : TyC im A ms T md x ≠ 0) : VR im A ms T md (A - 1) (TyC im A ms T md x) (σc.2.2.2.2 173 x) (σm.2.2.2.1 25 (ra x)) (σm.2.2.2.1 26 (ra x)) :=
  VR_n3 (h.1.2.2.2.2.2.1.1 x hx ht) (TyC_n3 (σc0 := σc) (σm0 := σm) h.1 x) (Nat.le_refl _) (fun _ _ => rfl)
theorem mi_set {im : Im} {IA A : Nat} {ms ps : Nat → Nat} {ls : Nat → List Nat} {T : Nat → Nat} {md : Nat} {σc0 σm0 σc σm : SG} {L : List Nat} {x : Nat} {v : Int64} {a b : Int32} {σm1 : SG} (h : Mi im IA A ms ps ls T md σc0 σm0 L σc σm) (hx : x < 832) (hv : VR im A ms T md (A - 1) (TyC im A ms T md x) v a b) (hm1 : σm1.1 = σm.1) (hm2 : σm1.2.2.2.2 = σm.2.2.2.2) (hm3 : ∀ y g, ¬ ((y = 25 ∨ y = 26) ∧ g = ra x) → σm1.2.2.2.1 y g = σm.2.2.2.1 y g) (ha : σm1.2.2.2.1 25 (ra x) = a) (hb : σm1.2.2.2.1 26 (ra x) = b) : Mi im IA A ms ps ls T md σc0 σm0 L (setL σc 173 x v) σm1 := by
  obtain ⟨h1, ⟨w1, w2, w3⟩, ⟨p1, p2, p3, p4⟩, q1, q2⟩ := h
  refine ⟨Md_cell (σc0 := σc) (σm0 := σm) h1 hx (VR_n3 hv (TyC_n3 (σc0 := σc) (σm0 := σm) h1 x) (Nat.le_refl _) (fun _ _ => rfl)) hm1 hm2 hm3 ha hb, ⟨Wc_trans w1 ⟨fun _ _ _ => rfl, fun _ _ _ => rfl, fun _ _ _ => rfl, fun _ _ => rfl⟩, Wm_trans w2 ⟨fun g _ _ _ _ _ _ _ => by rw [hm1], fun x g _ => hm3 x g (by omega), hm2⟩, fun x g hx => ?_⟩, ⟨p1, p2, by rw [hm1]; exact p3, by rw [hm1]; exact p4⟩, q1, by rw [hm1]; exact q2⟩
  rw [hm3 _ _ (by omega)]; exact w3 x g hx
theorem OpR_t {im : Im} {IA A : Nat} {ms ps : Nat → Nat} {ls : Nat → List Nat} {T : Nat → Nat} {md : Nat} {σc0 σm0 σc σm : SG} {L : List Nat} {x : Option (Bool × SG)} {y : Option SG} (hx : x = some (true, σc)) (hy : y = some σm) (h : Mi im IA A ms ps ls T md σc0 σm0 L σc σm) : OpR im IA A ms ps ls σc0 σm0 L x y := ⟨true, σc, σm, hx, hy, Or.inl ⟨rfl, T, md, h⟩⟩
theorem OpR_f {im : Im} {IA A : Nat} {ms ps : Nat → Nat} {ls : Nat → List Nat} {T : Nat → Nat} {md : Nat} {σc0 σm0 σc σm : SG} {L L' : List Nat} {e : Nat} {x : Option (Bool × SG)} {y : Option SG} (hx : x = some (false, σc)) (hy : y = some σm) (h : Rz im IA A ms ps ls T md σc0 σm0 e L σc σm) : OpR im IA A ms ps ls σc0 σm0 L' x y := ⟨false, σc, σm, hx, hy, Or.inr ⟨rfl, T, md, e, L, h⟩⟩
/-- values of the types -/
theorem VR_1 {im : Im} {A : Nat} {ms T : Nat → Nat} {md f : Nat} {v : Int64} {a b : Int32} (h : VR im A ms T md f 1 v a b) : v = a.toInt64 := by
  rcases h with h | h | ⟨h1, -⟩ | ⟨h1, -⟩
  · exact h.2
  · exact absurd h.1 (by omega)
  · exact absurd h1 (by omega)
  · exact absurd h1 (by omega)
theorem VR_2 {im : Im} {A : Nat} {ms T : Nat → Nat} {md f : Nat} {v : Int64} {a b : Int32} (h : VR im A ms T md f 2 v a b) : v = pv a b := by
  rcases h with h | h | ⟨h1, -⟩ | ⟨h1, -⟩
  · exact absurd h.1 (by omega)
  · exact h.2
  · exact absurd h1 (by omega)
  · exact absurd h1 (by omega)
theorem VR_3 {im : Im} {A : Nat} {ms T : Nat → Nat} {md f : Nat} {v : Int64} {a b : Int32} (h : VR im A ms T md f 3 v a b) : ∃ x, x < 832 ∧ TyC im A ms T md x = 1 ∧ (x < 32 → x / 4 ≤ f) ∧ v = Int64.ofNat x ∧ a = Int32.ofNat (ra x) := by
  rcases h with h | h | ⟨h1, h⟩ | ⟨h1, -⟩
  · exact absurd h.1 (by omega)
  · exact absurd h.1 (by omega)
  · exact h
  · exact absurd h1 (by omega)
theorem VR_r {im : Im} {A : Nat} {ms T : Nat → Nat} {md f t : Nat} {v : Int64} {a b : Int32} (h : VR im A ms T md f t v a b) (ht : 4 ≤ t) : (v = Int64.ofNat 0 ∧ a = -Int32.ofNat 1) ∨ ∃ k, k < md ∧ T k = t ∧ v = Int64.ofNat (k + 1) ∧ a = Int32.ofNat k := by
  rcases h with h | h | ⟨h1, -⟩ | ⟨h1, h⟩
  · exact absurd h.1 (by omega)
  · exact absurd h.1 (by omega)
  · exact absurd h1 (by omega)
  · exact h
theorem VR_num {im : Im} {A : Nat} {ms T : Nat → Nat} {md f : Nat} (a b : Int32) : VR im A ms T md f 1 a.toInt64 a b := Or.inl ⟨rfl, rfl⟩
theorem VR_pr {im : Im} {A : Nat} {ms T : Nat → Nat} {md f : Nat} (a b : Int32) : VR im A ms T md f 2 (pv a b) a b := Or.inr (Or.inl ⟨rfl, rfl⟩)
theorem VR_nul {im : Im} {A : Nat} {ms T : Nat → Nat} {md f t : Nat} (b : Int32) (ht : 4 ≤ t) : VR im A ms T md f t (Int64.ofNat 0) (-Int32.ofNat 1) b := Or.inr (Or.inr (Or.inr ⟨ht, Or.inl ⟨rfl, rfl⟩⟩))
theorem VR_ref {im : Im} {A : Nat} {ms T : Nat → Nat} {md f t k : Nat} (b : Int32) (ht : 4 ≤ t) (hk : k < md) (hT : T k = t) : VR im A ms T md f t (Int64.ofNat (k + 1)) (Int32.ofNat k) b := Or.inr (Or.inr (Or.inr ⟨ht, Or.inr ⟨k, hk, hT, rfl, rfl⟩⟩))
theorem VR_pl {im : Im} {A : Nat} {ms T : Nat → Nat} {md f x : Nat} (b : Int32) (hx : x < 832) (hT : TyC im A ms T md x = 1) (hf : x < 32 → x / 4 ≤ f) : VR im A ms T md f 3 (Int64.ofNat x) (Int32.ofNat (ra x)) b := Or.inr (Or.inr (Or.inl ⟨rfl, x, hx, hT, hf, rfl, rfl⟩))
theorem i64_32 (a : Int32) : a.toInt64.toInt32 = a := Int32.toInt32_toInt64 a
theorem n64 {n : Nat} (h : n < 2147483648) : (Int32.ofNat n).toInt64 = Int64.ofNat n := by
  apply Int64.toInt.inj
  rw [Int32.toInt_toInt64, n_int h, Int64.toInt_ofNat_of_lt (by omega)]
theorem n32 {n : Nat} (h : n < 2147483648) : (Int64.ofNat n).toInt32 = Int32.ofNat n := by
  rw [← n64 h, i64_32]
