/-! The latest frame changes: its place, its row, what is pending in it. -/
def PnB (im : Im) (σc σm : SG) (f m r : Nat) : Prop := ∃ kd fr : Nat, (kd = 1 ∨ kd = 2) ∧ fr < 100 ∧ σc.2.2.2.1 (128 + 6 * f) r = Int32.ofNat kd ∧ σm.2.2.2.1 28 (3 * f + r) = Int32.ofNat kd ∧ σc.2.2.2.1 (130 + 6 * f) r = Int32.ofNat fr ∧ σm.2.2.2.1 30 (3 * f + r) = Int32.ofNat fr ∧ iP im m r fr ∧ σc.2.2.2.1 (129 + 6 * f) r = σm.2.2.2.1 29 (3 * f + r) ∧ (kd = 2 → ∃ tg R, σc.2.2.2.1 (129 + 6 * f) r = Int32.ofNat tg ∧ tg < 100 ∧ mayL im m fr tg ∧ Clo im m R ∧ (∀ Q, Clo im m Q → LeQ R Q) ∧ R tg = some [] ∧ ¬ iP im m r tg)
theorem PnB_congr {im : Im} {σc σm σc1 σm1 : SG} {f m r : Nat} (h : PnB im σc σm f m r) (hc : ∀ x, 128 + 6 * f ≤ x → x ≤ 130 + 6 * f → σc1.2.2.2.1 x r = σc.2.2.2.1 x r) (hm : ∀ x, 28 ≤ x → x ≤ 30 → σm1.2.2.2.1 x (3 * f + r) = σm.2.2.2.1 x (3 * f + r)) : PnB im σc1 σm1 f m r := by
  obtain ⟨kd, fr, p1, p2, p3, p4, p5, p6, p7, p8, p9⟩ := h
  refine ⟨kd, fr, p1, p2, ?_, ?_, ?_, ?_, p7, ?_, fun ek => ?_⟩
  · rw [hc _ (by omega) (by omega)]; exact p3
  · rw [hm _ (by omega) (by omega)]; exact p4
  · rw [hc _ (by omega) (by omega)]; exact p5
  · rw [hm _ (by omega) (by omega)]; exact p6
  · rw [hc _ (by omega) (by omega), hm _ (by omega) (by omega)]; exact p8
  · obtain ⟨tg, R, q1, q2⟩ := p9 ek
    exact ⟨tg, R, by rw [hc _ (by omega) (by omega)]; exact q1, q2⟩
def upp (ps : Nat → Nat) (f q : Nat) : Nat → Nat := fun g => if g = f then q else ps g
theorem upp_s (ps : Nat → Nat) (f q : Nat) : upp ps f q f = q := by unfold upp; rw [if_pos rfl]
theorem upp_n (ps : Nat → Nat) {f g : Nat} (q : Nat) (h : g ≠ f) : upp ps f q g = ps g := by unfold upp; rw [if_neg h]
theorem upl_n (ls : Nat → List Nat) {f g : Nat} (l : List Nat) (h : g ≠ f) : upl ls f l g = ls g := by unfold upl; rw [if_neg h]
def Ucg (f : Nat) (σ σ1 : SG) : Prop := σ1.2.2.1 = σ.2.2.1 ∧ (∀ x g, ¬ (x = 125 + 6 * f ∧ (g = 3 ∨ g = 4)) → ¬ (x = 123 ∧ 5 ≤ g ∧ g ≤ 10) → σ1.1 x g = σ.1 x g) ∧ (∀ x g, ¬ (128 + 6 * f ≤ x ∧ x ≤ 130 + 6 * f) → x ≠ 175 → σ1.2.2.2.1 x g = σ.2.2.2.1 x g) ∧ (∀ x g, x ≠ 126 + 6 * f → σ1.2.2.2.2 x g = σ.2.2.2.2 x g)
def Umg (f : Nat) (σ σ1 : SG) : Prop := σ1.2.2.2.2 = σ.2.2.2.2 ∧ (∀ g, ¬ (g = 24 ∨ g = 28 ∨ g = 29 ∨ g = 44 ∨ g = 46) → σ1.1 0 g = σ.1 0 g) ∧ (∀ x g, ¬ ((x = 21 ∨ x = 22) ∧ g = f) → ¬ ((x = 23 ∨ x = 24) ∧ 8 * f ≤ g ∧ g < 8 * f + 8) → ¬ ((28 ≤ x ∧ x ≤ 30) ∧ 3 * f ≤ g ∧ g < 3 * f + 3) → x ≠ 31 → σ1.2.2.2.1 x g = σ.2.2.2.1 x g)
theorem Ucg_refl (f : Nat) (σ : SG) : Ucg f σ σ := ⟨rfl, fun _ _ _ _ => rfl, fun _ _ _ _ => rfl, fun _ _ _ => rfl⟩
theorem Umg_refl (f : Nat) (σ : SG) : Umg f σ σ := ⟨rfl, fun _ _ => rfl, fun _ _ _ _ _ _ => rfl⟩
theorem Ucg_trans {f : Nat} {a b c : SG} (h : Ucg f a b) (g : Ucg f b c) : Ucg f a c := ⟨g.1.trans h.1, fun x y p q => (g.2.1 x y p q).trans (h.2.1 x y p q), fun x y p q => (g.2.2.1 x y p q).trans (h.2.2.1 x y p q), fun x y p => (g.2.2.2 x y p).trans (h.2.2.2 x y p)⟩
theorem Umg_trans {f : Nat} {a b c : SG} (h : Umg f a b) (g : Umg f b c) : Umg f a c := ⟨g.1.trans h.1, fun y p => (g.2.1 y p).trans (h.2.1 y p), fun x y p q r s => (g.2.2 x y p q r s).trans (h.2.2 x y p q r s)⟩
theorem Ucg_W {f : Nat} {a b : SG} (h : Ucg f a b) : Wc a b := ⟨fun x g p => h.2.1 x g (by omega) (by omega), fun x g _ => by rw [h.1], fun x g p => h.2.2.1 x g (by omega) (by omega), fun q _ => h.2.1 _ _ (by omega) (by omega)⟩
theorem Umg_W {f : Nat} {a b : SG} (h : Umg f a b) : Wm a b := ⟨fun g p1 p2 p3 _ _ p6 p7 => h.2.1 g (by omega), fun x g p => h.2.2 x g (by omega) (by omega) (by omega) (by omega), h.1⟩
theorem Sc_G {f : Nat} {a b : SG} (h : Sc f a b) : Ucg f a b := ⟨h.2.1, fun x g p _ => h.2.2.2.1 x g (by omega), fun x g _ _ => by rw [h.2.2.1], h.2.2.2.2⟩
theorem Sm_G {f : Nat} {a b : SG} (h : Sm f a b) : Umg f a b := ⟨h.2.2.1, fun g p => h.2.2.2.1 0 g (by omega), fun x g p q _ _ => h.2.2.2.2 x g (by omega) (by omega)⟩
theorem Md_top {im : Im} {IA A : Nat} {ms ps : Nat → Nat} {ls : Nat → List Nat} {T : Nat → Nat} {md : Nat} {σc σm : SG} {q : Nat} {l : List Nat} {σc1 σm1 : SG} (h : Md im IA A ms ps ls T md σc σm) (hc : Ucg (A - 1) σc σc1) (hm : Umg (A - 1) σm σm1) (hq : q < 100) (hq1 : σc1.1 (125 + 6 * (A - 1)) 3 = Int32.ofNat q) (hl8 : l.length ≤ 8) (hl1 : σc1.1 (125 + 6 * (A - 1)) 4 = Int32.ofNat l.length) (hl2 : σm1.2.2.2.1 22 (A - 1) = Int32.ofNat l.length) (hs : StR im A ms T md σc1 σm1 (A - 1) l) (hp : PnR im σc1 σm1 (A - 1) (ms (A - 1)) q) (he : ∀ k, k < 18 → σc1.2.2.2.1 175 k = σm1.2.2.2.1 31 k) : Md im IA A ms (upp ps (A - 1) q) (upl ls (A - 1) l) T md σc1 σm1 := by
  obtain ⟨⟨a1, a2, a3⟩, b0, ⟨c1, c2, c3, c4, c5⟩, d, e, g, k⟩ := h
  refine ⟨⟨a1, a2, a3⟩, Img_congr b0 (Ucg_W hc) (Umg_W hm), ⟨?_, ?_, ?_, ?_, ?_⟩, fun f hf => ?_, fun f hf => ?_, ⟨fun x hx ht => ?_, fun k hk => ⟨(g.2 k hk).1, fun e4 => ?_⟩⟩, he⟩
  · rw [hc.2.1 _ _ (by omega) (by omega)]; exact c1
  · rw [hm.2.1 _ (by omega)]; exact c2
  · rw [hc.2.1 _ _ (by omega) (by omega)]; exact c3
  · rw [hm.2.1 _ (by omega)]; exact c4
  · rw [hc.1]; exact c5
  · rw [hc.2.1 _ _ (by omega) (by omega)]; exact d f hf
  · by_cases ef : f = A - 1
    · subst ef
      obtain ⟨f1, f2, f3, f4, f5, f6, f7, f8, f9, f10, f11, f12, f13⟩ := e _ hf
      unfold FrI
      rw [upp_s, upl_s]
      refine ⟨f1, f2, ?_, ?_, hq, hq1, hl8, hl1, ?_, hl2, hs, fun i hi => ?_, hp⟩
      · rw [hc.1]; exact f3
      · rw [hc.2.1 _ _ (by omega) (by omega)]; exact f4
      · rw [hm.2.2 _ _ (by omega) (by omega) (by omega) (by omega)]; exact f9
      · have h5 := (wf_m b0.2.2.1 f1).2.2.1
        rw [hc.2.2.2 _ _ (by omega), hm.2.2 _ _ (by omega) (by omega) (by omega) (by omega), hm.2.2 _ _ (by omega) (by omega) (by omega) (by omega)]
        exact f12 i hi
    · refine FrI_congr b0.2.2.1 (e f hf) ⟨fun g => hc.2.1 _ _ (by omega) (by omega), by rw [hc.1], fun x g hx => hc.2.2.2 _ _ (by omega), fun x g h1 h2 => hc.2.2.1 _ _ (by omega) (by omega)⟩ ⟨fun x hx => hm.2.2 _ _ (by omega) (by omega) (by omega) (by omega), fun x g hx h1 h2 => hm.2.2 _ _ (by omega) (by omega) (by omega) (by omega), fun x g hx h1 h2 => hm.2.2 _ _ (by omega) (by omega) (by omega) (by omega), fun x g hx h1 h2 => hm.2.2 _ _ (by omega) (by omega) (by omega) (by omega)⟩ (Mono_refl _ _ _ _ _ _) rfl (upp_n _ _ ef) (upl_n _ _ ef)
  · rw [hc.2.2.2 _ _ (by omega), hm.2.2 _ _ (by omega) (by omega) (by omega) (by omega), hm.2.2 _ _ (by omega) (by omega) (by omega) (by omega)]
    exact g.1 x hx ht
  · obtain ⟨n, n1, n2, n3⟩ := (g.2 k hk).2 e4
    exact ⟨n, n1, by rw [hc.2.2.1 _ _ (by omega) (by omega)]; exact n2, by rw [hm.2.2 _ _ (by omega) (by omega) (by omega) (by omega)]; exact n3⟩
theorem TyC_dn {im : Im} {A : Nat} {ms T : Nat → Nat} {md x : Nat} (h : TyC im (A - 1) ms T md x ≠ 0) : TyC im A ms T md x = TyC im (A - 1) ms T md x := by
  unfold TyC at h ⊢
  by_cases c : x < 32
  · rw [if_pos c] at h ⊢
    rw [if_pos c]
    by_cases d : x / 4 < A - 1
    · rw [if_pos d, if_pos (by omega)]
    · rw [if_neg d] at h; omega
  · rw [if_neg c, if_neg c]
theorem Mono_dn {im : Im} {A : Nat} {ms T : Nat → Nat} {md f : Nat} (hf : f < A - 1) : Mono im A ms T md (A - 1) ms T md f := by
  refine ⟨fun x hx ht hf' => ?_, Nat.le_refl _, fun _ _ => rfl⟩
  unfold TyC at ht ⊢
  by_cases c : x < 32
  · have := hf' c
    rw [if_pos c] at ht ⊢
    rw [if_pos (by omega)] at ht ⊢
    exact ht
  · rw [if_neg c] at ht ⊢
    exact ht
/-- the latest frame goes -/
theorem Md_dn {im : Im} {IA A : Nat} {ms ps : Nat → Nat} {ls : Nat → List Nat} {T : Nat → Nat} {md : Nat} {σc σm : SG} {σc1 σm1 : SG} (h : Md im IA A ms ps ls T md σc σm) (hc : Ucg (A - 1) σc σc1) (hm : Umg (A - 1) σm σm1) (he : ∀ k, k < 18 → σc1.2.2.2.1 175 k = σm1.2.2.2.1 31 k) (h2 : 2 ≤ A) : Md im IA (A - 1) ms ps ls T md (setI σc1 123 11 (Int32.ofNat (A - 1))) (setI σm1 0 31 (Int32.ofNat (A - 1))) := by
  have hn3 := TyC_n3 (σc0 := σc) (σm0 := σm) h
  obtain ⟨⟨a1, a2, a3⟩, b0, ⟨c1, c2, c3, c4, c5⟩, d, e, g, k⟩ := h
  have hwc : Wc σc1 (setI σc1 123 11 (Int32.ofNat (A - 1))) := ⟨fun x g hx => by rw [rI, if_neg (by omega)], fun _ _ _ => rfl, fun _ _ _ => rfl, fun f _ => by rw [rI, if_neg (by omega)]⟩
  have hwm : Wm σm1 (setI σm1 0 31 (Int32.ofNat (A - 1))) := ⟨fun g _ _ _ _ q _ _ => by rw [rI, if_neg (by omega)], fun _ _ _ => rfl, rfl⟩
  refine ⟨⟨by omega, by omega, a3⟩, Img_congr b0 (Wc_trans (Ucg_W hc) hwc) (Wm_trans (Umg_W hm) hwm), ⟨?_, ?_, ?_, ?_, ?_⟩, fun f hf => ?_, fun f hf => ?_, ⟨fun x hx ht => ?_, fun k hk => ⟨(g.2 k hk).1, fun e4 => ?_⟩⟩, he⟩
  · rw [rI, if_pos ⟨rfl, rfl⟩]
  · rw [rI, if_pos ⟨rfl, rfl⟩]
  · rw [rI, if_neg (by omega), hc.2.1 _ _ (by omega) (by omega)]; exact c3
  · rw [rI, if_neg (by omega), hm.2.1 _ (by omega)]; exact c4
  · show σc1.2.2.1 123 0 = IA
    rw [hc.1]; exact c5
  · rw [rI, if_neg (by omega), hc.2.1 _ _ (by omega) (by omega)]; exact d f hf
  · refine FrI_congr b0.2.2.1 (e f (by omega)) ⟨fun g => ?_, ?_, fun x g hx => hc.2.2.2 _ _ (by omega), fun x g h1 h2 => hc.2.2.1 _ _ (by omega) (by omega)⟩ ⟨fun x hx => hm.2.2 _ _ (by omega) (by omega) (by omega) (by omega), fun x g hx h1 h2 => hm.2.2 _ _ (by omega) (by omega) (by omega) (by omega), fun x g hx h1 h2 => hm.2.2 _ _ (by omega) (by omega) (by omega) (by omega), fun x g hx h1 h2 => hm.2.2 _ _ (by omega) (by omega) (by omega) (by omega)⟩ (Mono_dn hf) rfl rfl rfl
    · rw [rI, if_neg (by omega)]
      exact hc.2.1 _ _ (by omega) (by omega)
    · show σc1.2.2.1 _ 1 = _
      rw [hc.1]
  · have e1 := TyC_dn ht
    have hv := g.1 x hx (by rw [e1]; exact ht)
    have hx3 := hn3 x
    rw [e1] at hv hx3
    show VR im (A - 1) ms T md 0 (TyC im (A - 1) ms T md x) (σc1.2.2.2.2 173 x) (σm1.2.2.2.1 25 (ra x)) (σm1.2.2.2.1 26 (ra x))
    rw [hc.2.2.2 _ _ (by omega), hm.2.2 _ _ (by omega) (by omega) (by omega) (by omega), hm.2.2 _ _ (by omega) (by omega) (by omega) (by omega)]
    exact VR_n3 hv hx3 (Nat.le_refl _) (fun _ _ => rfl)
  · obtain ⟨n, n1, n2, n3⟩ := (g.2 k hk).2 e4
    refine ⟨n, n1, ?_, ?_⟩
    · show σc1.2.2.2.1 174 k = _
      rw [hc.2.2.1 _ _ (by omega) (by omega)]; exact n2
    · show σm1.2.2.2.1 27 k = _
      rw [hm.2.2 _ _ (by omega) (by omega) (by omega) (by omega)]; exact n3
/-! Where regions lie. -/
theorem geo_1 {im : Im} {m r q : Nat} {z : Int} (hW : WM im m) (hr : r < im 9 m) (hq : q < im 9 m) (hne : q ≠ r) (hz : iP im m r z) (hh : iH im m q (im 11 (3 * m + r) : Nat)) : r < q ∧ iH im m q z := by
  obtain ⟨a1, a2, -, -, -, a6⟩ := hW r hr
  obtain ⟨b1, b2, -, -, -, b6⟩ := hW q hq
  unfold iP at hz
  unfold iH at hh ⊢
  rcases Nat.lt_or_ge q r with c | c
  · have d := b6 r c hr
    exfalso; omega
  · have d := a6 q (by omega) hq
    omega
theorem geo_2 {im : Im} {m r0 r : Nat} {p fr : Int} (hW : WM im m) (hr0 : r0 < im 9 m) (hr : r < im 9 m) (h : r0 < r) (hp : iH im m r0 p) (hf : iP im m r0 fr) (hf2 : iP im m r fr) : iP im m r p := by
  obtain ⟨a1, a2, -, -, -, a6⟩ := hW r0 hr0
  obtain ⟨b1, b2, -, -, -, b6⟩ := hW r hr
  have d := a6 r h hr
  unfold iP at hf hf2 ⊢
  unfold iH at hp
  omega
theorem geo_3 {im : Im} {m r0 q : Nat} {p fr tg : Int} (hW : WM im m) (hr0 : r0 < im 9 m) (hq : q < im 9 m) (hp : iH im m r0 p) (hf : iP im m r0 fr) (ht : ¬ iP im m r0 tg) (hqt : iH im m q tg) (hqf : iH im m q fr) : r0 < q ∧ iH im m q p := by
  obtain ⟨a1, a2, -, -, -, a6⟩ := hW r0 hr0
  obtain ⟨b1, b2, -, -, -, b6⟩ := hW q hq
  unfold iP at hf ht
  unfold iH at hp hqt hqf ⊢
  rcases Nat.lt_trichotomy q r0 with c | c | c
  · have d := b6 r0 c hr0
    exfalso; omega
  · subst c
    exfalso; omega
  · have d := a6 q c hq
    omega
