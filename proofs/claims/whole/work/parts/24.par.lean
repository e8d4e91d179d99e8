/-! Two runs of the parser over the same bytes agree; what it finds is well formed. -/
def Ch (S : Nat → Nat → Prop) (x y : Im) : Prop := ∀ a k, ¬ S a k → y a k = x a k
def Par (f : PZ → Option PZ) (S : Nat → Nat → Prop) (G : Im → Im → Prop) : Prop := ∀ s1 s2 : PZ, s1.2 = s2.2 → (f s1 = none ∧ f s2 = none) ∨ ∃ t1 t2 : PZ, f s1 = some t1 ∧ f s2 = some t2 ∧ t1.2 = t2.2 ∧ (∀ a k, s1.1 a k = s2.1 a k → t1.1 a k = t2.1 a k) ∧ Ch S s1.1 t1.1 ∧ Ch S s2.1 t2.1 ∧ G t1.1 t2.1
/-- G speaks of the keys in S alone -/
def Dep (G : Im → Im → Prop) (S : Nat → Nat → Prop) : Prop := ∀ x y x1 y1 : Im, (∀ a k, S a k → x1 a k = x a k ∧ y1 a k = y a k) → G x y → G x1 y1
def Pd (f : PZ → Option PZ) (S : Nat → Nat → Prop) (G : Im → Im → Prop) : Prop := Par f S G ∧ Dep G S
theorem Ch_or {S T : Nat → Nat → Prop} {x y z : Im} (h : Ch S x y) (g : Ch T y z) : Ch (fun a k => S a k ∨ T a k) x z := by
  intro a k hn
  rw [g a k (fun w => hn (Or.inr w)), h a k (fun w => hn (Or.inl w))]
theorem Ch_mono {S T : Nat → Nat → Prop} {x y : Im} (h : Ch S x y) (hs : ∀ a k, S a k → T a k) : Ch T x y := fun a k hn => h a k (fun w => hn (hs a k w))
theorem Pd_mono {f : PZ → Option PZ} {S T : Nat → Nat → Prop} {G : Im → Im → Prop} (h : Pd f S G) (hs : ∀ a k, S a k → T a k) : Pd f T G := by
  refine ⟨?_, fun x y x1 y1 z => h.2 x y x1 y1 (fun a k w => z a k (hs a k w))⟩
  intro s1 s2 e
  rcases h.1 s1 s2 e with h | ⟨t1, t2, h1, h2, h3, h4, h5, h6, h7⟩
  · exact Or.inl h
  · exact Or.inr ⟨t1, t2, h1, h2, h3, h4, Ch_mono h5 hs, Ch_mono h6 hs, h7⟩
theorem par_rs (d : Nat → Nat) (n : Nat) (P : Nat → Bool) (a i : Nat) : Pd (rs d n P a i) (fun x y => x = a ∧ y = i) (fun x y => x a i = y a i ∧ P (x a i) = true) := by
  constructor
  · intro s1 s2 e
    by_cases c : s1.2 < n ∧ P (d s1.2) = true
    · right
      have c2 : s2.2 < n ∧ P (d s2.2) = true := by rw [← e]; exact c
      refine ⟨(u2 s1.1 a i (d s1.2), s1.2 + 1), (u2 s2.1 a i (d s2.2), s2.2 + 1), ?_, ?_, ?_, ?_, ?_, ?_, ?_, ?_⟩
      · unfold rs nxs; rw [if_pos c]; rfl
      · unfold rs nxs; rw [if_pos c2]; rfl
      · show s1.2 + 1 = s2.2 + 1
        rw [e]
      · intro x y h
        show u2 _ _ _ _ x y = u2 _ _ _ _ x y
        simp only [u2]
        rw [h, e]
      · intro x y h
        show u2 _ _ _ _ x y = _
        simp only [u2]
        rw [if_neg h]
      · intro x y h
        show u2 _ _ _ _ x y = _
        simp only [u2]
        rw [if_neg h]
      · show u2 _ _ _ _ a i = u2 _ _ _ _ a i
        rw [u2_same, u2_same, e]
      · show P (u2 _ _ _ _ a i) = true
        rw [u2_same]
        exact c.2
    · left
      have c2 : ¬ (s2.2 < n ∧ P (d s2.2) = true) := by rw [← e]; exact c
      constructor
      · unfold rs nxs; rw [if_neg c]; rfl
      · unfold rs nxs; rw [if_neg c2]; rfl
  · intro x y x1 y1 h g
    obtain ⟨e1, e2⟩ := h a i ⟨rfl, rfl⟩
    show x1 a i = y1 a i ∧ P (x1 a i) = true
    rw [e1, e2]
    exact g
theorem par_seq {f g : PZ → Option PZ} {S T : Nat → Nat → Prop} {G H : Im → Im → Prop} (hf : Pd f S G) (hg : Pd g T H) (hs : ∀ a k, S a k → ¬ T a k) : Pd (fun s => (f s).bind g) (fun a k => S a k ∨ T a k) (fun x y => G x y ∧ H x y) := by
  constructor
  · intro s1 s2 e
    rcases hf.1 s1 s2 e with ⟨h1, h2⟩ | ⟨t1, t2, h1, h2, h3, h4, h5, h6, h7⟩
    · left
      simp only [h1, h2, Option.bind_none, and_self]
    · simp only [h1, h2, Option.bind_some]
      rcases hg.1 t1 t2 h3 with g1 | ⟨r1, r2, g1, g2, g3, g4, g5, g6, g7⟩
      · exact Or.inl g1
      · exact Or.inr ⟨r1, r2, g1, g2, g3, fun a k z => g4 a k (h4 a k z), Ch_or h5 g5, Ch_or h6 g6, hf.2 _ _ _ _ (fun a k z => ⟨g5 a k (hs a k z), g6 a k (hs a k z)⟩) h7, g7⟩
  · intro x y x1 y1 h g
    exact ⟨hf.2 _ _ _ _ (fun a k z => h a k (Or.inl z)) g.1, hg.2 _ _ _ _ (fun a k z => h a k (Or.inr z)) g.2⟩
theorem par_cnt {d : Nat → Nat} {n : Nat} {P : Nat → Bool} {a i : Nat} {h : Nat → PZ → Option PZ} {T : Nat → Nat → Prop} {H : Nat → Im → Im → Prop} (hh : ∀ v, P v = true → Pd (h v) T (H v)) (ht : ¬ T a i) :
    Pd (fun s => (rs d n P a i s).bind fun s => h (s.1 a i) s) (fun x y => (x = a ∧ y = i) ∨ T x y) (fun x y => (x a i = y a i ∧ P (x a i) = true) ∧ H (x a i) x y) := by
  constructor
  · intro s1 s2 e
    rcases (par_rs d n P a i).1 s1 s2 e with ⟨h1, h2⟩ | ⟨t1, t2, h1, h2, h3, h4, h5, h6, h7, h8⟩
    · left
      simp only [h1, h2, Option.bind_none, and_self]
    · simp only [h1, h2, Option.bind_some]
      rw [← h7]
      rcases (hh _ h8).1 t1 t2 h3 with g1 | ⟨r1, r2, g1, g2, g3, g4, g5, g6, g7⟩
      · exact Or.inl g1
      · right
        have e1 : r1.1 a i = t1.1 a i := g5 a i ht
        have e2 : r2.1 a i = t2.1 a i := g6 a i ht
        refine ⟨r1, r2, g1, g2, g3, fun a k z => g4 a k (h4 a k z), Ch_or h5 g5, Ch_or h6 g6, ⟨?_, ?_⟩, ?_⟩
        · rw [e1, e2, h7]
        · rw [e1]; exact h8
        · rw [e1]; exact g7
  · intro x y x1 y1 hx g
    obtain ⟨e1, e2⟩ := hx a i (Or.inl ⟨rfl, rfl⟩)
    obtain ⟨⟨g1, g2⟩, g3⟩ := g
    refine ⟨⟨?_, ?_⟩, ?_⟩
    · rw [e1, e2]; exact g1
    · rw [e1]; exact g2
    · rw [e1]
      exact (hh _ g2).2 _ _ _ _ (fun a k z => hx a k (Or.inr z)) g3
theorem par_lps {f : Nat → PZ → Option PZ} {S : Nat → Nat → Nat → Prop} {G : Nat → Im → Im → Prop} (hs : ∀ j l, j < l → ∀ a k, S j a k → ¬ S l a k) : ∀ c i, (∀ j, i ≤ j → j < i + c → Pd (f j) (S j) (G j)) → Pd (lps f c i) (fun a k => ∃ j, i ≤ j ∧ j < i + c ∧ S j a k) (fun x y => ∀ j, i ≤ j → j < i + c → G j x y) := by
  intro c
  induction c with
  | zero =>
    intro i _
    constructor
    · intro s1 s2 e
      exact Or.inr ⟨s1, s2, rfl, rfl, e, fun _ _ z => z, fun _ _ _ => rfl, fun _ _ _ => rfl, fun j h1 h2 => by omega⟩
    · intro x y x1 y1 _ _ j h1 h2
      omega
  | succ c ih =>
    intro i hf
    have h0 := hf i (by omega) (by omega)
    have h1 := ih (i + 1) (fun j a b => hf j (by omega) (by omega))
    have h2 := par_seq h0 h1 (fun a k z w => by
      obtain ⟨j, w1, w2, w3⟩ := w
      exact hs i j (by omega) a k z w3)
    constructor
    · intro s1 s2 e
      rcases h2.1 s1 s2 e with h | ⟨t1, t2, g1, g2, g3, g4, g5, g6, g7⟩
      · exact Or.inl h
      · refine Or.inr ⟨t1, t2, g1, g2, g3, g4, Ch_mono g5 ?_, Ch_mono g6 ?_, fun j a b => ?_⟩
        · intro a k z
          rcases z with z | ⟨j, a, b, z⟩
          · exact ⟨i, by omega, by omega, z⟩
          · exact ⟨j, by omega, by omega, z⟩
        · intro a k z
          rcases z with z | ⟨j, a, b, z⟩
          · exact ⟨i, by omega, by omega, z⟩
          · exact ⟨j, by omega, by omega, z⟩
        · by_cases e : j = i
          · rw [e]; exact g7.1
          · exact g7.2 j (by omega) (by omega)
    · intro x y x1 y1 hx g j a b
      exact (hf j a b).2 _ _ _ _ (fun p q z => hx p q ⟨j, a, b, z⟩) (g j a b)
/-- what the parser's pieces say of two images -/
def e1 (P : Nat → Bool) (a k : Nat) (x y : Im) : Prop := x a k = y a k ∧ P (x a k) = true
def GC (m : Nat) (x y : Im) : Prop := e1 (rng 1 100) 14 m x y ∧ ∀ j, 0 ≤ j → j < 0 + x 14 m → e1 (rng 0 255) 15 (100 * m + j) x y
def GG (m r : Nat) (x y : Im) : Prop := e1 (rng 0 255) 10 (3 * m + r) x y ∧ e1 (rng 0 255) 11 (3 * m + r) x y ∧ e1 (rng 0 255) 12 (3 * m + r) x y ∧ e1 (rng 0 1) 13 (3 * m + r) x y
def GR (m : Nat) (x y : Im) : Prop := e1 (rng 0 3) 9 m x y ∧ (∀ j, 0 ≤ j → j < 0 + x 9 m → GG m j x y) ∧ GC m x y
def GL (many m : Nat) (x y : Im) : Prop := e1 (rng 0 4) 7 m x y ∧ (∀ j, 0 ≤ j → j < 0 + x 7 m → e1 (tyP many false false) 8 (4 * m + j) x y) ∧ GR m x y
def GA (many m : Nat) (x y : Im) : Prop := e1 (rng 0 3) 5 m x y ∧ (∀ j, 0 ≤ j → j < 0 + x 5 m → e1 (tyP many true false) 6 (3 * m + j) x y) ∧ GL many m x y
def GM (many m : Nat) (x y : Im) : Prop := e1 (tyP many false true) 4 m x y ∧ GA many m x y
def GF (many c : Nat) (x y : Im) : Prop := e1 (rng 0 4) 2 c x y ∧ ∀ j, 0 ≤ j → j < 0 + x 2 c → e1 (tyP many false false) 3 (4 * c + j) x y
def GMs (many : Nat) (x y : Im) : Prop := e1 (rng 1 6) 0 1 x y ∧ ∀ j, 0 ≤ j → j < 0 + x 0 1 → GM many j x y
def GAll (x y : Im) : Prop := e1 (rng 0 4) 0 0 x y ∧ (∀ j, 0 ≤ j → j < 0 + x 0 0 → GF (x 0 0) j x y) ∧ GMs (x 0 0) x y
def SCk (m a k : Nat) : Prop := (a = 14 ∧ k = m) ∨ (a = 15 ∧ 100 * m ≤ k ∧ k < 100 * m + 100)
def SRk (m a k : Nat) : Prop := (a = 9 ∧ k = m) ∨ (10 ≤ a ∧ a ≤ 13 ∧ 3 * m ≤ k ∧ k < 3 * m + 3) ∨ SCk m a k
def SLk (m a k : Nat) : Prop := (a = 7 ∧ k = m) ∨ (a = 8 ∧ 4 * m ≤ k ∧ k < 4 * m + 4) ∨ SRk m a k
def SAk (m a k : Nat) : Prop := (a = 5 ∧ k = m) ∨ (a = 6 ∧ 3 * m ≤ k ∧ k < 3 * m + 3) ∨ SLk m a k
def SMk (m a k : Nat) : Prop := (a = 4 ∧ k = m) ∨ SAk m a k
def SFk (c a k : Nat) : Prop := (a = 2 ∧ k = c) ∨ (a = 3 ∧ 4 * c ≤ k ∧ k < 4 * c + 4)
theorem rng_le {lo hi v : Nat} (h : rng lo hi v = true) : lo ≤ v ∧ v ≤ hi := of_decide_eq_true h
theorem pd_C (d : Nat → Nat) (n m : Nat) : Pd (sC d n m) (SCk m) (GC m) := by
  have h := par_cnt (d := d) (n := n) (P := rng 1 100) (a := 14) (i := m) (h := fun v => lps (fun p => rs d n (rng 0 255) 15 (100 * m + p)) v 0) (T := fun a k => a = 15 ∧ 100 * m ≤ k ∧ k < 100 * m + 100) (H := fun v x y => ∀ j, 0 ≤ j → j < 0 + v → e1 (rng 0 255) 15 (100 * m + j) x y)
    (fun v hv => Pd_mono (par_lps (S := fun j a k => a = 15 ∧ k = 100 * m + j) (fun j l _ a k z w => by omega) v 0 (fun j _ _ => par_rs d n (rng 0 255) 15 (100 * m + j))) (fun a k z => by
      obtain ⟨j, z1, z2, z3⟩ := z
      have := rng_le hv
      omega)) (by omega)
  exact h
theorem pd_G (d : Nat → Nat) (n m r : Nat) : Pd (sRg d n m r) (fun a k => 10 ≤ a ∧ a ≤ 13 ∧ k = 3 * m + r) (GG m r) := by
  have h := par_seq (par_rs d n (rng 0 255) 10 (3 * m + r)) (par_seq (par_rs d n (rng 0 255) 11 (3 * m + r)) (par_seq (par_rs d n (rng 0 255) 12 (3 * m + r)) (par_rs d n (rng 0 1) 13 (3 * m + r)) (fun a k z => by omega)) (fun a k z => by omega)) (fun a k z => by omega)
  exact Pd_mono h (fun a k z => by omega)
theorem pd_R (d : Nat → Nat) (n m : Nat) : Pd (sR d n m) (SRk m) (GR m) := by
  have h := par_cnt (d := d) (n := n) (P := rng 0 3) (a := 9) (i := m) (h := fun v s => (lps (sRg d n m) v 0 s).bind (sC d n m)) (T := fun a k => (10 ≤ a ∧ a ≤ 13 ∧ 3 * m ≤ k ∧ k < 3 * m + 3) ∨ SCk m a k) (H := fun v x y => (∀ j, 0 ≤ j → j < 0 + v → GG m j x y) ∧ GC m x y)
    (fun v hv => Pd_mono (par_seq (par_lps (S := fun j a k => 10 ≤ a ∧ a ≤ 13 ∧ k = 3 * m + j) (fun j l _ a k z w => by omega) v 0 (fun j _ _ => pd_G d n m j)) (pd_C d n m) (fun a k z w => by
      obtain ⟨j, z1, z2, z3⟩ := z
      unfold SCk at w
      omega)) (fun a k z => by
      have := rng_le hv
      rcases z with ⟨j, z1, z2, z3⟩ | z
      · exact Or.inl (by omega)
      · exact Or.inr z)) (by unfold SCk; omega)
  exact h
theorem pd_L (d : Nat → Nat) (n many m : Nat) : Pd (sL d n many m) (SLk m) (GL many m) := by
  have h := par_cnt (d := d) (n := n) (P := rng 0 4) (a := 7) (i := m) (h := fun v s => (lps (fun i => rs d n (tyP many false false) 8 (4 * m + i)) v 0 s).bind (sR d n m)) (T := fun a k => (a = 8 ∧ 4 * m ≤ k ∧ k < 4 * m + 4) ∨ SRk m a k) (H := fun v x y => (∀ j, 0 ≤ j → j < 0 + v → e1 (tyP many false false) 8 (4 * m + j) x y) ∧ GR m x y)
    (fun v hv => Pd_mono (par_seq (par_lps (S := fun j a k => a = 8 ∧ k = 4 * m + j) (fun j l _ a k z w => by omega) v 0 (fun j _ _ => par_rs d n (tyP many false false) 8 (4 * m + j))) (pd_R d n m) (fun a k z w => by
      obtain ⟨j, z1, z2, z3⟩ := z
      unfold SRk SCk at w
      omega)) (fun a k z => by
      have := rng_le hv
      rcases z with ⟨j, z1, z2, z3⟩ | z
      · exact Or.inl (by omega)
      · exact Or.inr z)) (by unfold SRk SCk; omega)
  exact h
theorem pd_A (d : Nat → Nat) (n many m : Nat) : Pd (sA d n many m) (SAk m) (GA many m) := by
  have h := par_cnt (d := d) (n := n) (P := rng 0 3) (a := 5) (i := m) (h := fun v s => (lps (fun i => rs d n (tyP many true false) 6 (3 * m + i)) v 0 s).bind (sL d n many m)) (T := fun a k => (a = 6 ∧ 3 * m ≤ k ∧ k < 3 * m + 3) ∨ SLk m a k) (H := fun v x y => (∀ j, 0 ≤ j → j < 0 + v → e1 (tyP many true false) 6 (3 * m + j) x y) ∧ GL many m x y)
    (fun v hv => Pd_mono (par_seq (par_lps (S := fun j a k => a = 6 ∧ k = 3 * m + j) (fun j l _ a k z w => by omega) v 0 (fun j _ _ => par_rs d n (tyP many true false) 6 (3 * m + j))) (pd_L d n many m) (fun a k z w => by
      obtain ⟨j, z1, z2, z3⟩ := z
      unfold SLk SRk SCk at w
      omega)) (fun a k z => by
      have := rng_le hv
      rcases z with ⟨j, z1, z2, z3⟩ | z
      · exact Or.inl (by omega)
      · exact Or.inr z)) (by unfold SLk SRk SCk; omega)
  exact h
theorem pd_M (d : Nat → Nat) (n many m : Nat) : Pd (sM d n many m) (SMk m) (GM many m) := by
  have h := par_seq (par_rs d n (tyP many false true) 4 m) (pd_A d n many m) (fun a k z w => by
    unfold SAk SLk SRk SCk at w
    omega)
  exact h
theorem pd_F (d : Nat → Nat) (n many c : Nat) : Pd (sF d n many c) (SFk c) (GF many c) := by
  have h := par_cnt (d := d) (n := n) (P := rng 0 4) (a := 2) (i := c) (h := fun v => lps (fun f => rs d n (tyP many false false) 3 (4 * c + f)) v 0) (T := fun a k => a = 3 ∧ 4 * c ≤ k ∧ k < 4 * c + 4) (H := fun v x y => ∀ j, 0 ≤ j → j < 0 + v → e1 (tyP many false false) 3 (4 * c + j) x y)
    (fun v hv => Pd_mono (par_lps (S := fun j a k => a = 3 ∧ k = 4 * c + j) (fun j l _ a k z w => by omega) v 0 (fun j _ _ => par_rs d n (tyP many false false) 3 (4 * c + j))) (fun a k z => by
      obtain ⟨j, z1, z2, z3⟩ := z
      have := rng_le hv
      omega)) (by omega)
  exact h
theorem pd_Ms (d : Nat → Nat) (n many : Nat) : Pd (sMs d n many) (fun a k => (a = 0 ∧ k = 1) ∨ (4 ≤ a ∧ a ≤ 15)) (GMs many) := by
  have h := par_cnt (d := d) (n := n) (P := rng 1 6) (a := 0) (i := 1) (h := fun v => lps (sM d n many) v 0) (T := fun a k => 4 ≤ a ∧ a ≤ 15) (H := fun v x y => ∀ j, 0 ≤ j → j < 0 + v → GM many j x y)
    (fun v hv => Pd_mono (par_lps (S := SMk) (fun j l _ a k z w => by
      unfold SMk SAk SLk SRk SCk at z w
      omega) v 0 (fun j _ _ => pd_M d n many j)) (fun a k z => by
      obtain ⟨j, z1, z2, z3⟩ := z
      unfold SMk SAk SLk SRk SCk at z3
      omega)) (by omega)
  exact h
theorem pd_Cl (d : Nat → Nat) (n : Nat) : Pd (sCl d n) (fun a k => (a = 0 ∧ k = 0) ∨ (a = 2 ∨ a = 3) ∨ (a = 0 ∧ k = 1) ∨ (4 ≤ a ∧ a ≤ 15)) GAll := by
  have h := par_cnt (d := d) (n := n) (P := rng 0 4) (a := 0) (i := 0) (h := fun v s => (lps (sF d n v) v 0 s).bind (sMs d n v)) (T := fun a k => (a = 2 ∨ a = 3) ∨ (a = 0 ∧ k = 1) ∨ (4 ≤ a ∧ a ≤ 15)) (H := fun v x y => (∀ j, 0 ≤ j → j < 0 + v → GF v j x y) ∧ GMs v x y)
    (fun v hv => Pd_mono (par_seq (par_lps (S := SFk) (fun j l _ a k z w => by
      unfold SFk at z w
      omega) v 0 (fun j _ _ => pd_F d n v j)) (pd_Ms d n v) (fun a k z w => by
      obtain ⟨j, z1, z2, z3⟩ := z
      unfold SFk at z3
      omega)) (fun a k z => by
      rcases z with ⟨j, z1, z2, z3⟩ | z
      · unfold SFk at z3
        exact Or.inl (by omega)
      · exact Or.inr z)) (by omega)
  exact h
/-- two runs over the same bytes -/
theorem par_all (d : Nat → Nat) (n : Nat) (x y : Im) : (sAll d n (x, 0) = none ∧ sAll d n (y, 0) = none) ∨ ∃ s t, sAll d n (x, 0) = some s ∧ sAll d n (y, 0) = some t ∧ GAll s.1 t.1 := by
  have h := par_seq (par_rs d n (rng 77 77) 1 0) (pd_Cl d n) (fun a k z => by omega)
  rcases h.1 (x, 0) (y, 0) rfl with ⟨h1, h2⟩ | ⟨s, t, h1, h2, h3, h4, h5, h6, h7⟩
  · left
    constructor
    · show Option.bind _ _ = none
      rw [show (rs d n (rng 77 77) 1 0 (x, 0)).bind (sCl d n) = none from h1]
      rfl
    · show Option.bind _ _ = none
      rw [show (rs d n (rng 77 77) 1 0 (y, 0)).bind (sCl d n) = none from h2]
      rfl
  · have e1 : sAll d n (x, 0) = if s.2 = n then some s else none := by
      show Option.bind _ _ = _
      rw [show (rs d n (rng 77 77) 1 0 (x, 0)).bind (sCl d n) = some s from h1]
      rfl
    have e2 : sAll d n (y, 0) = if t.2 = n then some t else none := by
      show Option.bind _ _ = _
      rw [show (rs d n (rng 77 77) 1 0 (y, 0)).bind (sCl d n) = some t from h2]
      rfl
    by_cases c : s.2 = n
    · right
      refine ⟨s, t, ?_, ?_, h7.2⟩
      · rw [e1, if_pos c]
      · rw [e2, if_pos (by omega)]
    · left
      rw [e1, e2, if_neg c, if_neg (by omega)]
      exact ⟨rfl, rfl⟩
