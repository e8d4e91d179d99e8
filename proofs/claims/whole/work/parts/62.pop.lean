/-! Taking and putting, in both. -/
theorem upl_s (ls : Nat → List Nat) (f : Nat) (l : List Nat) : upl ls f l f = l := by unfold upl; rw [if_pos rfl]
theorem upl_u (ls : Nat → List Nat) (f : Nat) (l l' : List Nat) : upl (upl ls f l) f l' = upl ls f l' := by
  funext g
  unfold upl
  by_cases c : g = f
  · rw [if_pos c, if_pos c]
  · rw [if_neg c, if_neg c, if_neg c]
theorem upl_id (ls : Nat → List Nat) (f : Nat) : upl ls f (ls f) = ls := by
  funext g
  unfold upl
  by_cases c : g = f
  · rw [if_pos c, c]
  · rw [if_neg c]
/-- only a stack and its height change -/
def Sc (f : Nat) (σ σ1 : SG) : Prop := σ1.2.1 = σ.2.1 ∧ σ1.2.2.1 = σ.2.2.1 ∧ σ1.2.2.2.1 = σ.2.2.2.1 ∧ (∀ x g, ¬ (x = 125 + 6 * f ∧ g = 4) → σ1.1 x g = σ.1 x g) ∧ (∀ x g, x ≠ 126 + 6 * f → σ1.2.2.2.2 x g = σ.2.2.2.2 x g)
def Sm (f : Nat) (σ σ1 : SG) : Prop := σ1.2.1 = σ.2.1 ∧ σ1.2.2.1 = σ.2.2.1 ∧ σ1.2.2.2.2 = σ.2.2.2.2 ∧ (∀ x g, ¬ (x = 0 ∧ g = 46) → σ1.1 x g = σ.1 x g) ∧ (∀ x g, ¬ (x = 22 ∧ g = f) → ¬ ((x = 23 ∨ x = 24) ∧ 8 * f ≤ g ∧ g < 8 * f + 8) → σ1.2.2.2.1 x g = σ.2.2.2.1 x g)
theorem Sc_refl (f : Nat) (σ : SG) : Sc f σ σ := ⟨rfl, rfl, rfl, fun _ _ _ => rfl, fun _ _ _ => rfl⟩
theorem Sm_refl (f : Nat) (σ : SG) : Sm f σ σ := ⟨rfl, rfl, rfl, fun _ _ _ => rfl, fun _ _ _ _ => rfl⟩
theorem Sc_trans {f : Nat} {a b c : SG} (h : Sc f a b) (g : Sc f b c) : Sc f a c := ⟨g.1.trans h.1, g.2.1.trans h.2.1, g.2.2.1.trans h.2.2.1, fun x y p => (g.2.2.2.1 x y p).trans (h.2.2.2.1 x y p), fun x y p => (g.2.2.2.2 x y p).trans (h.2.2.2.2 x y p)⟩
theorem Sm_trans {f : Nat} {a b c : SG} (h : Sm f a b) (g : Sm f b c) : Sm f a c := ⟨g.1.trans h.1, g.2.1.trans h.2.1, g.2.2.1.trans h.2.2.1, fun x y p => (g.2.2.2.1 x y p).trans (h.2.2.2.1 x y p), fun x y p q => (g.2.2.2.2 x y p q).trans (h.2.2.2.2 x y p q)⟩
theorem Sc_U {f : Nat} {a b : SG} (h : Sc f a b) : Ucf f a b := ⟨h.1, h.2.1, h.2.2.1, fun x g p _ => h.2.2.2.1 x g p, h.2.2.2.2⟩
theorem Sm_U {f : Nat} {a b : SG} (h : Sm f a b) : Umf f a b := ⟨h.1, h.2.1, h.2.2.1, fun x g p => h.2.2.2.1 x g (by omega), fun x g p q _ => h.2.2.2.2 x g p q⟩
theorem sim_pop {im : Im} {IA A : Nat} {ms ps : Nat → Nat} {ls : Nat → List Nat} {T : Nat → Nat} {md : Nat} {σc σm : SG} {t : Nat} {l : List Nat} (h : Md im IA A ms ps ls T md σc σm) (hl : ls (A - 1) = t :: l) :
    ∃ v a σc1 σm1, F_Fr_pop (125 + 6 * (A - 1)) σc = some (v, σc1) ∧ F_Fr_popInt (125 + 6 * (A - 1)) σc = some (v.toInt32, σc1) ∧ F_Mo_get 0 σm = some (a, σm1) ∧ VR im A ms T md (A - 1) t v a (σm1.1 0 46) ∧ Md im IA A ms ps (upl ls (A - 1) l) T md σc1 σm1 ∧ Sc (A - 1) σc σc1 ∧ Sm (A - 1) σm σm1 := by
  obtain ⟨⟨a1, a2, a3⟩, -, ⟨c1, c2, c3, c4, c5⟩, -, e, -, -⟩ := id h
  obtain ⟨f1, f2, f3, f4, f5, f6, f7, f8, f9, f10, f11, f12, f13⟩ := e (A - 1) (by omega)
  rw [hl] at f7 f8 f10 f11
  rw [List.length_cons] at f7 f8 f10
  have p1 := fr_pop (σ := σc) (f := A - 1) (h := l.length) (by omega) f8 (by omega)
  have p1' := fr_popInt (σ := σc) (f := A - 1) (h := l.length) (by omega) f8 (by omega)
  have hA : σm.1 0 31 = Int32.ofNat (A - 1 + 1) := by rw [show A - 1 + 1 = A by omega]; exact c2
  have p2 := mo_get (σ := σm) (f := A - 1) (h := l.length) hA (by omega) f10 (by omega)
  have hc : Sc (A - 1) σc (setI σc (125 + 6 * (A - 1)) 4 (Int32.ofNat l.length)) := ⟨rfl, rfl, rfl, fun x g hx => by rw [rI, if_neg hx], fun _ _ _ => rfl⟩
  have hm : Sm (A - 1) σm (setI (setA σm 22 (A - 1) (Int32.ofNat l.length)) 0 46 (σm.2.2.2.1 24 (8 * (A - 1) + l.length))) := ⟨rfl, rfl, rfl, fun x g hx => by rw [rI, if_neg hx]; rfl, fun x g h1 _ => by rw [rI2, rA, if_neg h1]⟩
  refine ⟨_, _, _, _, p1, p1', p2, ?_, ?_, hc, hm⟩
  · rw [rI, if_pos ⟨rfl, rfl⟩]
    exact f11.1
  · refine Md_upd h (Sc_U hc) (Sm_U hm) (by omega) ?_ ?_ ?_
    · rw [rI, if_pos ⟨rfl, rfl⟩]
    · rw [rI2, rA, if_pos ⟨rfl, rfl⟩]
    · refine StR_congr l f11.2 (fun j hj => ⟨rfl, ?_, ?_⟩)
      · rw [rI2, rA, if_neg (by omega)]
      · rw [rI2, rA, if_neg (by omega)]
theorem sim_push {im : Im} {IA A : Nat} {ms ps : Nat → Nat} {ls : Nat → List Nat} {T : Nat → Nat} {md : Nat} {σc σm : SG} {t : Nat} {v : Int64} {a b : Int32} (h : Md im IA A ms ps ls T md σc σm) (hl : (ls (A - 1)).length < 8) (hv : VR im A ms T md (A - 1) t v a b) :
    ∃ σc1 σm1, F_Fr_push (125 + 6 * (A - 1)) v σc = some σc1 ∧ F_Mo_put 0 a b σm = some σm1 ∧ Md im IA A ms ps (upl ls (A - 1) (t :: ls (A - 1))) T md σc1 σm1 ∧ Sc (A - 1) σc σc1 ∧ Sm (A - 1) σm σm1 ∧ σm1.1 = σm.1 := by
  obtain ⟨⟨a1, a2, a3⟩, -, ⟨c1, c2, c3, c4, c5⟩, -, e, -, -⟩ := id h
  obtain ⟨f1, f2, f3, f4, f5, f6, f7, f8, f9, f10, f11, f12, f13⟩ := e (A - 1) (by omega)
  have p1 := fr_push (σ := σc) (f := A - 1) (v := v) (by omega) f8 hl
  have hA : σm.1 0 31 = Int32.ofNat (A - 1 + 1) := by rw [show A - 1 + 1 = A by omega]; exact c2
  have p2 := mo_put (σ := σm) (f := A - 1) (a := a) (b := b) hA (by omega) f10 hl
  generalize hh : (ls (A - 1)).length = n at *
  have hc : Sc (A - 1) σc (setI (setL σc (126 + 6 * (A - 1)) n v) (125 + 6 * (A - 1)) 4 (Int32.ofNat (n + 1))) := ⟨rfl, rfl, rfl, fun x g hx => by rw [rI, if_neg hx]; rfl, fun x g hx => by rw [rI2, rL, if_neg (fun z => hx z.1)]⟩
  have hm : Sm (A - 1) σm (setA (setA (setA σm 23 (8 * (A - 1) + n) a) 24 (8 * (A - 1) + n) b) 22 (A - 1) (Int32.ofNat (n + 1))) := ⟨rfl, rfl, rfl, fun _ _ _ => rfl, fun x g h1 h2 => by rw [rA, if_neg h1, rA, if_neg (by omega), rA, if_neg (by omega)]⟩
  refine ⟨_, _, p1, p2, ?_, hc, hm, rfl⟩
  refine Md_upd h (Sc_U hc) (Sm_U hm) (by rw [List.length_cons]; omega) ?_ ?_ ⟨?_, ?_⟩
  · rw [rI, if_pos ⟨rfl, rfl⟩, List.length_cons, hh]
  · rw [rA, if_pos ⟨rfl, rfl⟩, List.length_cons, hh]
  · rw [hh, rI2, rL, if_pos ⟨rfl, rfl⟩, rA, if_neg (by omega), rA, if_neg (by omega), rA, if_pos ⟨rfl, rfl⟩, rA, if_neg (by omega), rA, if_pos ⟨rfl, rfl⟩]
    exact hv
  · refine StR_congr _ f11 (fun j hj => ?_)
    rw [hh] at hj
    refine ⟨?_, ?_, ?_⟩
    · rw [rI2, rL, if_neg (by omega)]
    · rw [rA, if_neg (by omega), rA, if_neg (by omega), rA, if_neg (by omega)]
    · rw [rA, if_neg (by omega), rA, if_neg (by omega), rA, if_neg (by omega)]
