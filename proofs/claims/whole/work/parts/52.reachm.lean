/-! Methods that a method can come to call. -/
theorem cnt_mono {D E : Nat → Bool} : ∀ n, (∀ k, k < n → E k = true → D k = true) → cnt D n ≤ cnt E n
  | 0, _ => Nat.le_refl _
  | n + 1, h => by
    have h1 := cnt_mono (D := D) (E := E) n (fun k hk => h k (by omega))
    have h2 := h n (by omega)
    show cnt D n + (if D n = true then 0 else 1) ≤ cnt E n + (if E n = true then 0 else 1)
    by_cases c : E n = true
    · rw [if_pos c, if_pos (h2 c)]; omega
    · rw [if_neg c]
      split <;> omega
theorem cnt_strict {D E : Nat → Bool} : ∀ n, (∀ k, k < n → E k = true → D k = true) → (∃ k, k < n ∧ D k = true ∧ E k = false) → cnt D n + 1 ≤ cnt E n
  | 0, _, h => by
    obtain ⟨k, hk, -⟩ := h
    omega
  | n + 1, h, hx => by
    have h2 := h n (by omega)
    show cnt D n + (if D n = true then 0 else 1) + 1 ≤ cnt E n + (if E n = true then 0 else 1)
    obtain ⟨k, hk, hd, he⟩ := hx
    by_cases ek : k = n
    · have h1 := cnt_mono (D := D) (E := E) n (fun k hk => h k (by omega))
      rw [ek] at hd he
      rw [if_pos hd, if_neg (by rw [he]; simp)]
      omega
    · have h1 := cnt_strict (D := D) (E := E) n (fun k hk => h k (by omega)) ⟨k, by omega, hd, he⟩
      by_cases c : E n = true
      · rw [if_pos c, if_pos (h2 c)]; omega
      · rw [if_neg c]
        split <;> omega
theorem k_bit6 {a r : Nat} (ha : a < 64) (hr : r < 6) : ((Int32.ofNat a >>> (Int32.ofNat r &&& Int32.ofNat 31)) &&& Int32.ofNat 1) = Int32.ofNat (if Nat.testBit a r = true then 1 else 0) := by
  have h : ∀ a, a < 64 → ∀ r, r < 6 → ((Int32.ofNat a >>> (Int32.ofNat r &&& Int32.ofNat 31)) &&& Int32.ofNat 1) = Int32.ofNat (if Nat.testBit a r = true then 1 else 0) := by decide +kernel
  exact h a ha r hr
theorem bit_hi {a r : Nat} (ha : a < 64) (hr : 6 ≤ r) : Nat.testBit a r = false := Nat.testBit_lt_two_pow (Nat.lt_of_lt_of_le ha (show 64 ≤ 2 ^ r from Nat.pow_le_pow_right (n := 2) (by omega) hr))
/-- a set of methods, given by verified ones V and calls G -/
def ClS (nm : Nat) (V : Nat → Prop) (G : Nat → Nat → Prop) (S : Nat → Prop) : Prop := ∀ k, S k → k < nm ∧ V k ∧ ∀ j, j < nm → G k j → S j
def Cal (nm : Nat) (V : Nat → Prop) (G : Nat → Nat → Prop) (m : Nat) : Prop := ∃ S, S m ∧ ClS nm V G S
/-- a pass over the methods, as both do it: K known before the pass, c now -/
def Ps (nm : Nat) (V : Nat → Prop) (G : Nat → Nat → Prop) (i K c : Nat) : Prop := c < 64 ∧ (∀ k, Nat.testBit c k = true → k < nm) ∧ (∀ k, Nat.testBit K k = true → Nat.testBit c k = true) ∧ (∀ k, k < i → Nat.testBit K k = true → V k ∧ ∀ j, j < nm → G k j → Nat.testBit c j = true)
def Rd (nm : Nat) (V : Nat → Prop) (G : Nat → Nat → Prop) (m r c : Nat) : Prop := c < 64 ∧ (∀ k, Nat.testBit c k = true → k < nm) ∧ Nat.testBit c m = true ∧ (∀ S, S m → ClS nm V G S → ∀ k, Nat.testBit c k = true → S k) ∧ ((∀ k, Nat.testBit c k = true → V k ∧ ∀ j, j < nm → G k j → Nat.testBit c j = true) ∨ cnt (fun k => !Nat.testBit c k) 6 ≥ r + 1)
theorem Rd_0 {nm m : Nat} {V : Nat → Prop} {G : Nat → Nat → Prop} (hm : m < nm) (h6 : nm ≤ 6) : Rd nm V G m 0 (2 ^ m) := by
  have hb : ∀ k, Nat.testBit (2 ^ m) k = true ↔ m = k := fun k => by rw [Nat.testBit_two_pow, decide_eq_true_eq]
  refine ⟨?_, fun k hk => ?_, (hb m).mpr rfl, fun S hS _ k hk => ?_, Or.inr ?_⟩
  · exact Nat.pow_lt_pow_right (n := 6) (by omega) (by omega)
  · have := (hb k).mp hk; omega
  · have := (hb k).mp hk
    rw [← this]; exact hS
  · have h1 := cnt_strict (D := fun _ => true) (E := fun k => !Nat.testBit (2 ^ m) k) 6 (fun _ _ _ => rfl) ⟨m, by omega, rfl, by rw [(hb m).mpr rfl]; rfl⟩
    omega
theorem Rd_next {nm m r K c : Nat} {V : Nat → Prop} {G : Nat → Nat → Prop} (h : Rd nm V G m r K) (hp : Ps nm V G nm K c) (hS : ∀ S, S m → ClS nm V G S → ∀ k, Nat.testBit c k = true → S k) : Rd nm V G m (r + 1) c := by
  obtain ⟨h1, h2, h3, h4, h5⟩ := h
  obtain ⟨p1, p2, p3, p4⟩ := hp
  refine ⟨p1, p2, p3 m h3, hS, ?_⟩
  by_cases e : ∃ k, Nat.testBit c k = true ∧ Nat.testBit K k = false
  · right
    obtain ⟨k, hk1, hk2⟩ := e
    have hk6 : k < 6 := by
      refine Nat.lt_of_not_le (fun z => ?_)
      rw [bit_hi p1 z] at hk1
      cases hk1
    rcases h5 with h5 | h5
    · -- closed already: nothing is added by calls of known ones
      exfalso
      have hcl : ClS nm V G (fun k => Nat.testBit K k = true) := fun k hk => ⟨h2 k hk, (h5 k hk).1, fun j hj hg => (h5 k hk).2 j hj hg⟩
      have := hS (fun k => Nat.testBit K k = true) h3 hcl k hk1
      rw [hk2] at this
      cases this
    · have := cnt_strict (D := fun k => !Nat.testBit K k) (E := fun k => !Nat.testBit c k) 6 (fun j _ hj => by
        cases hx : Nat.testBit K j with
        | false => rfl
        | true =>
          rw [p3 j hx] at hj
          cases hj) ⟨k, hk6, by rw [hk2]; rfl, by rw [hk1]; rfl⟩
      omega
  · left
    intro k hk
    have hkK : Nat.testBit K k = true := by
      cases hx : Nat.testBit K k with
      | true => rfl
      | false => exact absurd ⟨k, hk, hx⟩ e
    exact p4 k (p2 k hk) hkK
theorem Rd_end {nm m c : Nat} {V : Nat → Prop} {G : Nat → Nat → Prop} {r : Nat} (h : Rd nm V G m r c) (hr : 6 ≤ r ∨ nm ≤ r) (h6 : nm ≤ 6) : Cal nm V G m := by
  obtain ⟨h1, h2, h3, h4, h5⟩ := h
  rcases h5 with h5 | h5
  · exact ⟨fun k => Nat.testBit c k = true, h3, fun k hk => ⟨h2 k hk, h5 k hk⟩⟩
  · exfalso
    have hle : ∀ n, n ≤ 6 → (∀ k, k < n → nm ≤ k → Nat.testBit c k = false) → cnt (fun k => !Nat.testBit c k) n ≤ nm := by
      intro n
      induction n with
      | zero => intro _ _; exact Nat.zero_le _
      | succ n ih =>
        intro hn hk
        by_cases cn : nm ≤ n
        · have h7 := ih (by omega) (fun k a b => hk k (by omega) b)
          show cnt _ n + (if (!Nat.testBit c n) = true then 0 else 1) ≤ nm
          rw [hk n (by omega) cn]
          simpa using h7
        · have := cnt_le (fun k => !Nat.testBit c k) (n + 1)
          omega
    have h8 := hle 6 (by omega) (fun k _ hk => by
      cases hx : Nat.testBit c k with
      | false => rfl
      | true =>
        have := h2 k hx
        omega)
    have h9 := cnt_le (fun k => !Nat.testBit c k) 6
    omega
theorem Ps_0 {nm K : Nat} {V : Nat → Prop} {G : Nat → Nat → Prop} (h1 : K < 64) (h2 : ∀ k, Nat.testBit K k = true → k < nm) : Ps nm V G 0 K K := ⟨h1, h2, fun _ z => z, fun k hk => by omega⟩
theorem Ps_skip {nm i K c : Nat} {V : Nat → Prop} {G : Nat → Nat → Prop} (h : Ps nm V G i K c) (hb : Nat.testBit c i = false) : Ps nm V G (i + 1) K c := by
  refine ⟨h.1, h.2.1, h.2.2.1, fun k hk hkk => ?_⟩
  by_cases e : k = i
  · rw [e] at hkk
    have := h.2.2.1 i hkk
    rw [hb] at this
    cases this
  · exact h.2.2.2 k (by omega) hkk
theorem Ps_add {nm i K c d : Nat} {V : Nat → Prop} {G : Nat → Nat → Prop} (h : Ps nm V G i K c) (hV : V i) (hd : d < 64) (hb : ∀ j, Nat.testBit d j = true ↔ j < nm ∧ G i j) : Ps nm V G (i + 1) K (c ||| d) := by
  refine ⟨Nat.or_lt_two_pow (n := 6) h.1 hd, fun k hk => ?_, fun k hk => ?_, fun k hk hkk => ?_⟩
  · rw [Nat.testBit_or, Bool.or_eq_true] at hk
    rcases hk with hk | hk
    · exact h.2.1 k hk
    · exact ((hb k).mp hk).1
  · rw [Nat.testBit_or, h.2.2.1 k hk]; rfl
  · by_cases e : k = i
    · rw [e]
      refine ⟨hV, fun j hj hg => ?_⟩
      rw [Nat.testBit_or, (hb j).mpr ⟨hj, hg⟩, Bool.or_true]
    · obtain ⟨v, g⟩ := h.2.2.2 k (by omega) hkk
      refine ⟨v, fun j hj hg => ?_⟩
      rw [Nat.testBit_or, g j hj hg]; rfl
