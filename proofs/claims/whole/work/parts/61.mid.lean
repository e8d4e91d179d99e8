/-! The run of both, in the midst of an instruction. -/
def cty (im : Im) (t i : Nat) : Nat := if t = 4 then 1 else if t = 5 then (if i = 0 then 2 else 0) else if i < im 2 (t - 8) then im 3 (4 * (t - 8) + i) else 0
def TyC (im : Im) (A : Nat) (ms T : Nat → Nat) (md x : Nat) : Nat := if x < 32 then (if x / 4 < A then lty im (ms (x / 4)) (x % 4) else 0) else (if (x - 32) / 20 < md then cty im (T ((x - 32) / 20)) ((x - 32) % 20) else 0)
def ra (x : Nat) : Nat := if x < 32 then x else x + 24
def pv (a b : Int32) : Int64 := (a.toInt64 <<< ((Int32.ofNat 32).toInt64 &&& Int64.ofNat 63)) ||| (b.toInt64 &&& Int64.ofNat 4294967295)
/-- a value of type t in the frame f: class's long, reference's two ints -/
def VR (im : Im) (A : Nat) (ms T : Nat → Nat) (md f t : Nat) (v : Int64) (a b : Int32) : Prop :=
  (t = 1 ∧ v = a.toInt64) ∨ (t = 2 ∧ v = pv a b) ∨ (t = 3 ∧ ∃ x, x < 832 ∧ TyC im A ms T md x = 1 ∧ (x < 32 → x / 4 ≤ f) ∧ v = Int64.ofNat x ∧ a = Int32.ofNat (ra x)) ∨ (4 ≤ t ∧ ((v = Int64.ofNat 0 ∧ a = -Int32.ofNat 1) ∨ ∃ k, k < md ∧ T k = t ∧ v = Int64.ofNat (k + 1) ∧ a = Int32.ofNat k))
def StR (im : Im) (A : Nat) (ms T : Nat → Nat) (md : Nat) (σc σm : SG) (f : Nat) : List Nat → Prop
  | [] => True
  | t :: l => VR im A ms T md f t (σc.2.2.2.2 (126 + 6 * f) l.length) (σm.2.2.2.1 23 (8 * f + l.length)) (σm.2.2.2.1 24 (8 * f + l.length)) ∧ StR im A ms T md σc σm f l
/-- what is pending for the handlers of finallies in which the place lies -/
def PnR (im : Im) (σc σm : SG) (f m p : Nat) : Prop := ∀ r, r < im 9 m → isF im m r → iH im m r p → ∃ kd fr : Nat, (kd = 1 ∨ kd = 2) ∧ fr < 100 ∧ σc.2.2.2.1 (128 + 6 * f) r = Int32.ofNat kd ∧ σm.2.2.2.1 28 (3 * f + r) = Int32.ofNat kd ∧ σc.2.2.2.1 (130 + 6 * f) r = Int32.ofNat fr ∧ σm.2.2.2.1 30 (3 * f + r) = Int32.ofNat fr ∧ iP im m r fr ∧ σc.2.2.2.1 (129 + 6 * f) r = σm.2.2.2.1 29 (3 * f + r) ∧ (kd = 2 → ∃ tg R, σc.2.2.2.1 (129 + 6 * f) r = Int32.ofNat tg ∧ tg < 100 ∧ mayL im m fr tg ∧ Clo im m R ∧ (∀ Q, Clo im m Q → LeQ R Q) ∧ R tg = some [] ∧ ¬ iP im m r tg)
def FrI (im : Im) (IA A : Nat) (ms ps : Nat → Nat) (ls : Nat → List Nat) (T : Nat → Nat) (md : Nat) (σc σm : SG) (f : Nat) : Prop :=
  ms f < im 0 1 ∧ VOK im (ms f) ∧ σc.2.2.1 (125 + 6 * f) 1 = IA + 4 + 9 * ms f ∧ σc.1 (125 + 6 * f) 2 = Int32.ofNat (ms f) ∧ ps f < 100 ∧ σc.1 (125 + 6 * f) 3 = Int32.ofNat (ps f) ∧ (ls f).length ≤ 8 ∧ σc.1 (125 + 6 * f) 4 = Int32.ofNat (ls f).length ∧ σm.2.2.2.1 20 f = Int32.ofNat (ms f) ∧ σm.2.2.2.1 22 f = Int32.ofNat (ls f).length ∧ StR im A ms T md σc σm f (ls f) ∧ (∀ i, i < im 5 (ms f) → VR im A ms T md f (im 6 (3 * ms f + i)) (σc.2.2.2.2 (127 + 6 * f) i) (σm.2.2.2.1 25 (32 + 3 * f + i)) (σm.2.2.2.1 26 (32 + 3 * f + i))) ∧ PnR im σc σm f (ms f) (ps f)
def HpR (im : Im) (A : Nat) (ms T : Nat → Nat) (md : Nat) (σc σm : SG) : Prop := (∀ x, x < 832 → TyC im A ms T md x ≠ 0 → VR im A ms T md 0 (TyC im A ms T md x) (σc.2.2.2.2 173 x) (σm.2.2.2.1 25 (ra x)) (σm.2.2.2.1 26 (ra x))) ∧ (∀ k, k < md → (T k = 4 ∨ T k = 5 ∨ (8 ≤ T k ∧ T k < 8 + im 0 0)) ∧ (T k = 4 → ∃ n, n ≤ 20 ∧ σc.2.2.2.1 174 k = Int32.ofNat n ∧ σm.2.2.2.1 27 k = Int32.ofNat n))
def Md (im : Im) (IA A : Nat) (ms ps : Nat → Nat) (ls : Nat → List Nat) (T : Nat → Nat) (md : Nat) (σc σm : SG) : Prop :=
  (1 ≤ A ∧ A ≤ 8 ∧ md ≤ 40) ∧ (ImC σc IA im ∧ RepM σm im ∧ WfI im ∧ ∀ m, m < im 0 1 → VerI im m IA σc σm) ∧ (σc.1 123 11 = Int32.ofNat A ∧ σm.1 0 31 = Int32.ofNat A ∧ σc.1 123 12 = Int32.ofNat md ∧ σm.1 0 30 = Int32.ofNat md ∧ σc.2.2.1 123 0 = IA) ∧ (∀ f, f < 8 → σc.1 (125 + 6 * f) 0 = Int32.ofNat (4 * f)) ∧ (∀ f, f < A → FrI im IA A ms ps ls T md σc σm f) ∧ HpR im A ms T md σc σm ∧ (∀ k, k < 18 → σc.2.2.2.1 175 k = σm.2.2.2.1 31 k)
/-- what the latest frame's stack may change -/
def Ucf (f : Nat) (σ σ1 : SG) : Prop := σ1.2.1 = σ.2.1 ∧ σ1.2.2.1 = σ.2.2.1 ∧ σ1.2.2.2.1 = σ.2.2.2.1 ∧ (∀ x g, ¬ (x = 125 + 6 * f ∧ g = 4) → ¬ (x = 123 ∧ 5 ≤ g ∧ g ≤ 8) → σ1.1 x g = σ.1 x g) ∧ (∀ x g, x ≠ 126 + 6 * f → σ1.2.2.2.2 x g = σ.2.2.2.2 x g)
def Umf (f : Nat) (σ σ1 : SG) : Prop := σ1.2.1 = σ.2.1 ∧ σ1.2.2.1 = σ.2.2.1 ∧ σ1.2.2.2.2 = σ.2.2.2.2 ∧ (∀ x g, ¬ (x = 0 ∧ (g = 24 ∨ g = 44 ∨ g = 46)) → σ1.1 x g = σ.1 x g) ∧ (∀ x g, ¬ (x = 22 ∧ g = f) → ¬ ((x = 23 ∨ x = 24) ∧ 8 * f ≤ g ∧ g < 8 * f + 8) → ¬ (x = 21 ∧ g = f) → σ1.2.2.2.1 x g = σ.2.2.2.1 x g)
theorem StR_congr {im : Im} {A : Nat} {ms T : Nat → Nat} {md : Nat} {σc σm σc1 σm1 : SG} {f : Nat} : ∀ l : List Nat, StR im A ms T md σc σm f l → (∀ j, j < l.length → σc1.2.2.2.2 (126 + 6 * f) j = σc.2.2.2.2 (126 + 6 * f) j ∧ σm1.2.2.2.1 23 (8 * f + j) = σm.2.2.2.1 23 (8 * f + j) ∧ σm1.2.2.2.1 24 (8 * f + j) = σm.2.2.2.1 24 (8 * f + j)) → StR im A ms T md σc1 σm1 f l
  | [], _, _ => trivial
  | t :: l, h, hc => by
    obtain ⟨e1, e2, e3⟩ := hc l.length (by rw [List.length_cons]; omega)
    refine ⟨?_, StR_congr l h.2 (fun j hj => hc j (by rw [List.length_cons]; omega))⟩
    rw [e1, e2, e3]
    exact h.1
def upl (ls : Nat → List Nat) (f : Nat) (l : List Nat) : Nat → List Nat := fun g => if g = f then l else ls g
theorem Md_upd {im : Im} {IA A : Nat} {ms ps : Nat → Nat} {ls : Nat → List Nat} {T : Nat → Nat} {md : Nat} {σc σm σc1 σm1 : SG} {l : List Nat} (h : Md im IA A ms ps ls T md σc σm) (hc : Ucf (A - 1) σc σc1) (hm : Umf (A - 1) σm σm1) (hl8 : l.length ≤ 8) (hl1 : σc1.1 (125 + 6 * (A - 1)) 4 = Int32.ofNat l.length) (hl2 : σm1.2.2.2.1 22 (A - 1) = Int32.ofNat l.length) (hs : StR im A ms T md σc1 σm1 (A - 1) l) : Md im IA A ms ps (upl ls (A - 1) l) T md σc1 σm1 := by
  obtain ⟨⟨a1, a2, a3⟩, ⟨b1, b2, b3, b4⟩, ⟨c1, c2, c3, c4, c5⟩, d, e, f, g⟩ := h
  obtain ⟨u1, u2, u3, u4, u5⟩ := hc
  obtain ⟨w1, w2, w3, w4, w5⟩ := hm
  have hIA := b1.1
  have n6 := (IC_nm b1).2.2
  have hA1 : ∀ x g, σc1.2.2.2.1 x g = σc.2.2.2.1 x g := fun x g => by rw [u3]
  refine ⟨⟨a1, a2, a3⟩, ⟨?_, ?_, b3, fun m hm => ?_⟩, ⟨?_, ?_, ?_, ?_, ?_⟩, fun f hf => ?_, fun f hf => ?_, ⟨fun x hx ht => ?_, fun k hk => ?_⟩, fun k hk => ?_⟩
  · exact ImC_congr b1 (fun x f _ _ _ => u4 x f (by omega) (by omega)) (fun x f _ _ _ => hA1 x f)
  · obtain ⟨r0, r1, r2, r3⟩ := b2
    refine ⟨r0, ?_, ?_, fun a k p q => ?_⟩
    · rw [w4 _ _ (by omega)]; exact r1
    · rw [w4 _ _ (by omega)]; exact r2
    · rw [w5 _ _ (by omega) (by omega) (by omega)]; exact r3 a k p q
  · obtain ⟨b, R, v1, v2, v3, v4⟩ := b4 m hm
    refine ⟨b, R, ?_, ?_, v3, fun eb => ?_⟩
    · rw [u4 _ _ (by omega) (by omega)]; exact v1
    · rw [w5 _ _ (by omega) (by omega) (by omega)]; exact v2
    · obtain ⟨⟨k1, k2, k3, k4, k5, cc, k6, k7⟩, r2, r3⟩ := v4 eb
      refine ⟨⟨k1, k2, fun p hp => ?_, k4, k5, cc, ?_, k7⟩, ⟨fun p hp => ?_, r2.2⟩, fun p hp => ?_⟩
      · rw [hA1]; exact k3 p hp
      · rw [u4 _ _ (by omega) (by omega)]; exact k6
      · rw [w5 _ _ (by omega) (by omega) (by omega), w3]; exact r2.1 p hp
      · rw [w5 _ _ (by omega) (by omega) (by omega)]; exact r3 p hp
  · rw [u4 _ _ (by omega) (by omega)]; exact c1
  · rw [w4 _ _ (by omega)]; exact c2
  · rw [u4 _ _ (by omega) (by omega)]; exact c3
  · rw [w4 _ _ (by omega)]; exact c4
  · rw [u2]; exact c5
  · rw [u4 _ _ (by omega) (by omega)]; exact d f hf
  · obtain ⟨f1, f2, f3, f4, f5, f6, f7, f8, f9, f10, f11, f12, f13⟩ := e f hf
    have hpn : PnR im σc1 σm1 f (ms f) (ps f) := by
      intro r hr hi hh
      have hr3 := (wf_m b3 f1).2.2.2.2.2.2.1
      obtain ⟨kd, fr, p1, p2, p3, p4, p5, p6, p7, p8, p9⟩ := f13 r hr hi hh
      refine ⟨kd, fr, p1, p2, ?_, ?_, ?_, ?_, p7, ?_, fun ek => ?_⟩
      · rw [hA1]; exact p3
      · rw [w5 _ _ (by omega) (by omega) (by omega)]; exact p4
      · rw [hA1]; exact p5
      · rw [w5 _ _ (by omega) (by omega) (by omega)]; exact p6
      · rw [hA1, w5 _ _ (by omega) (by omega) (by omega)]; exact p8
      · obtain ⟨tg, R, q1, q2⟩ := p9 ek
        exact ⟨tg, R, by rw [hA1]; exact q1, q2⟩
    have har : ∀ i, i < im 5 (ms f) → VR im A ms T md f (im 6 (3 * ms f + i)) (σc1.2.2.2.2 (127 + 6 * f) i) (σm1.2.2.2.1 25 (32 + 3 * f + i)) (σm1.2.2.2.1 26 (32 + 3 * f + i)) := by
      intro i hi
      rw [u5 _ _ (by omega), w5 _ _ (by omega) (by omega) (by omega), w5 _ _ (by omega) (by omega) (by omega)]
      exact f12 i hi
    by_cases ef : f = A - 1
    · have el : upl ls (A - 1) l f = l := by unfold upl; rw [if_pos ef]
      refine ⟨f1, f2, ?_, ?_, f5, ?_, by rw [el]; exact hl8, ?_, ?_, ?_, ?_, har, hpn⟩
      · rw [u2]; exact f3
      · rw [u4 _ _ (by omega) (by omega)]; exact f4
      · rw [u4 _ _ (by omega) (by omega)]; exact f6
      · rw [el, ef]; exact hl1
      · rw [w5 _ _ (by omega) (by omega) (by omega)]; exact f9
      · rw [el, ef]; exact hl2
      · rw [el, ef]; exact hs
    · have el : upl ls (A - 1) l f = ls f := by unfold upl; rw [if_neg ef]
      refine ⟨f1, f2, ?_, ?_, f5, ?_, by rw [el]; exact f7, ?_, ?_, ?_, ?_, har, hpn⟩
      · rw [u2]; exact f3
      · rw [u4 _ _ (by omega) (by omega)]; exact f4
      · rw [u4 _ _ (by omega) (by omega)]; exact f6
      · rw [el, u4 _ _ (by omega) (by omega)]; exact f8
      · rw [w5 _ _ (by omega) (by omega) (by omega)]; exact f9
      · rw [el, w5 _ _ (by omega) (by omega) (by omega)]; exact f10
      · rw [el]
        refine StR_congr _ f11 (fun j hj => ⟨u5 _ _ (by omega), ?_, ?_⟩)
        · rw [w5 _ _ (by omega) (by omega) (by omega)]
        · rw [w5 _ _ (by omega) (by omega) (by omega)]
  · rw [u5 _ _ (by omega), w5 _ _ (by omega) (by omega) (by omega), w5 _ _ (by omega) (by omega) (by omega)]
    exact f.1 x hx ht
  · refine ⟨(f.2 k hk).1, fun e4 => ?_⟩
    obtain ⟨n, n1, n2, n3⟩ := (f.2 k hk).2 e4
    exact ⟨n, n1, by rw [hA1]; exact n2, by rw [w5 _ _ (by omega) (by omega) (by omega)]; exact n3⟩
  · rw [hA1, w5 _ _ (by omega) (by omega) (by omega)]
    exact g k hk
