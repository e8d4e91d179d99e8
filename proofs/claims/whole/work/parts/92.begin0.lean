/-! What the constructors leave. -/
def sc0 : SG := (fun x g => if g = 0 ∧ 125 ≤ x ∧ x < 173 ∧ (x - 125) % 6 = 0 then Int32.ofNat (4 * ((x - 125) / 6)) else Int32.ofNat 0, fun _ _ => 0, fun x g => if x = 0 then (if g = 2 then 2 else 60) else if x = 118 then 119 else if x = 120 then (if g = 0 then 2 else 6) else if x = 123 then 2 else 6, fun _ _ => 0, fun _ _ => 0)
def sm0 : SG := (fun _ _ => Int32.ofNat 0, fun _ _ => 0, fun _ _ => 0, fun _ _ => 0, fun _ _ => 0)
def chkV (σ : SG) (off k f kd : Nat) (rs : List Nat) (v : CV) : Bool := match v with
  | .inl n => (kd == 0 && decide (Int32.ofNat n = σ.1 k f)) || (kd == 2 && decide (Int32.ofNat n = bz (zb (σ.1 k f))))
  | .inr (.inl a) => (kd == 3 && a == off + σ.2.2.1 k f) || (kd == 4 && a == off + rs.getD f 0)
  | .inr (.inr t) => kd == 1 && t == 1 && decide (σ.2.1 k f = 0)
def chkF (σ : SG) (off k : Nat) (rs : List Nat) : Nat → List Nat → List CV → Bool
  | _, [], [] => true
  | f, kd :: ks, v :: vs => chkV σ off k f kd rs v && chkF σ off k rs (f + 1) ks vs
  | _, _, _ => false
def chkC (σ : SG) (off k : Nat) (s : SH) (e : CE) : Bool := match s, e with
  | .inl q, .inl (c, fs) => c == q.1 && chkF σ off k q.2 0 (k_fk q.1) fs
  | .inr q, .inr (.inl (t, n)) => t == q.1 && n == q.2.1 && decide (t < 3)
  | .inr q, .inr (.inr (t, n, es)) => t == q.1 && n == q.2.1 && decide (3 ≤ t) && es.all (fun p => decide (p.1 < q.2.2.length)) && (List.range q.2.2.length).all (fun j => es.lookup j == (q.2.2[j]?).map (fun a => off + a))
  | _, _ => false
def chkA (σ : SG) (off : Nat) : Nat → List SH → List CE → Bool
  | _, [], [] => true
  | k, s :: ss, e :: es => chkC σ off k s e && chkA σ off (k + 1) ss es
  | _, _, _ => false
theorem chkV_ok {σ : SG} {b sb off k f kd : Nat} {rs : List Nat} {v : CV} (h : chkV σ off k f kd rs v = true) : ev b sb v = fv (b + off) σ k f kd rs := by
  unfold chkV at h
  rcases v with n | a | t
  · simp only [Bool.or_eq_true, Bool.and_eq_true, beq_iff_eq, decide_eq_true_eq] at h
    rcases h with ⟨h1, h2⟩ | ⟨h1, h2⟩
    · rw [h1]
      show Value.int (Int32.ofNat n) = Value.int (σ.1 k f)
      rw [h2]
    · rw [h1]
      show Value.int (Int32.ofNat n) = Value.int (bz (zb (σ.1 k f)))
      rw [h2]
  · simp only [Bool.or_eq_true, Bool.and_eq_true, beq_iff_eq] at h
    rcases h with ⟨h1, h2⟩ | ⟨h1, h2⟩
    · rw [h1, h2]
      show Value.ref (b + (off + σ.2.2.1 k f)) = Value.ref (b + off + σ.2.2.1 k f)
      rw [Nat.add_assoc]
    · rw [h1, h2]
      show Value.ref (b + (off + rs.getD f 0)) = Value.ref (b + off + rs.getD f 0)
      rw [Nat.add_assoc]
  · simp only [Bool.and_eq_true, beq_iff_eq, decide_eq_true_eq] at h
    obtain ⟨⟨h1, h2⟩, h3⟩ := h
    rw [h1, h2]
    show Value.long 0 = Value.long (σ.2.1 k f)
    rw [h3]
theorem chkF_ok {σ : SG} {b sb off k : Nat} {rs : List Nat} : ∀ (ks : List Nat) (vs : List CV) (f : Nat), chkF σ off k rs f ks vs = true → vs.map (ev b sb) = ks.mapIdx (fun i kd => fv (b + off) σ k (f + i) kd rs)
  | [], [], f, _ => rfl
  | [], v :: vs, f, h => by cases h
  | kd :: ks, [], f, h => by cases h
  | kd :: ks, v :: vs, f, h => by
    have h' : (chkV σ off k f kd rs v && chkF σ off k rs (f + 1) ks vs) = true := h
    rw [Bool.and_eq_true] at h'
    rw [List.map_cons, List.mapIdx_cons, chkV_ok (b := b) (sb := sb) h'.1, chkF_ok ks vs (f + 1) h'.2]
    congr 1
    congr 1
    funext i kd
    rw [show f + 1 + i = f + (i + 1) by omega]
theorem look_none {es : List (Nat × Nat)} {n j : Nat} (h : es.all (fun p => decide (p.1 < n)) = true) (hj : n ≤ j) : es.lookup j = none := by
  induction es with
  | nil => rfl
  | cons p es ih =>
    rw [List.all_cons, Bool.and_eq_true, decide_eq_true_eq] at h
    rw [List.lookup_cons, beq_eq_false_iff_ne.mpr (show j ≠ p.1 by omega)]
    exact ih h.2
theorem chkC_ok {σ : SG} {b sb off k : Nat} {s : SH} {e : CE} (hA : ∀ k, σ.2.2.2.1 k = fun _ => 0) (hL : ∀ k, σ.2.2.2.2 k = fun _ => 0) (h : chkC σ off k s e = true) : ee b sb e = fil (b + off) σ k s := by
  unfold chkC at h
  split at h
  · rename_i q c fs
    rw [Bool.and_eq_true, beq_iff_eq] at h
    show Sum.inr (c, fs.map (ev b sb)) = Sum.inr (q.1, (k_fk q.1).mapIdx (fun f kd => fv (b + off) σ k f kd q.2))
    rw [h.1, chkF_ok (b := b) (sb := sb) _ _ 0 h.2]
    congr 2
    congr 1
    funext i kd
    rw [Nat.zero_add]
  · rename_i q t n
    simp only [Bool.and_eq_true, beq_iff_eq, decide_eq_true_eq] at h
    obtain ⟨⟨h1, h2⟩, h3⟩ := h
    obtain ⟨t', n', es⟩ := q
    dsimp only at h1 h2
    subst h1
    subst h2
    unfold ee fil
    dsimp only
    match t, h3 with
    | 0, _ => rw [hA]; rfl
    | 1, _ => rw [hL]; rfl
    | 2, _ => rw [hA]; rfl
  · rename_i q t n es
    simp only [Bool.and_eq_true, beq_iff_eq, decide_eq_true_eq] at h
    obtain ⟨⟨⟨⟨h1, h2⟩, h3⟩, h4⟩, h5⟩ := h
    obtain ⟨t', n', rs⟩ := q
    dsimp only at h1 h2 h4 h5
    subst h1
    subst h2
    have hf : (fun j => (es.lookup j).map (fun k => b + k)) = fun j => (rs[j]?).map (fun a => b + off + a) := by
      funext j
      by_cases c : j < rs.length
      · have h6 := List.all_eq_true.mp h5 j (List.mem_range.mpr c)
        rw [beq_iff_eq] at h6
        rw [h6, Option.map_map]
        congr 1
        funext a
        show b + (off + a) = b + off + a
        omega
      · rw [look_none h4 (by omega), List.getElem?_eq_none (by omega)]
        rfl
    unfold ee fil
    dsimp only
    rw [hf]
    match t, h3 with
    | t + 3, _ => rfl
  · cases h
theorem chkA_ok {σ : SG} {b sb off : Nat} (hA : ∀ k, σ.2.2.2.1 k = fun _ => 0) (hL : ∀ k, σ.2.2.2.2 k = fun _ => 0) : ∀ (ss : List SH) (es : List CE) (k : Nat), chkA σ off k ss es = true → es.map (ee b sb) = ss.mapIdx (fun i s => fil (b + off) σ (k + i) s)
  | [], [], k, _ => rfl
  | [], e :: es, k, h => by cases h
  | s :: ss, [], k, h => by cases h
  | s :: ss, e :: es, k, h => by
    have h' : (chkC σ off k s e && chkA σ off (k + 1) ss es) = true := h
    rw [Bool.and_eq_true] at h'
    rw [List.map_cons, List.mapIdx_cons, chkC_ok (b := b) (sb := sb) hA hL h'.1, chkA_ok hA hL ss es (k + 1) h'.2]
    congr 1
    congr 1
    funext i s
    rw [show k + 1 + i = k + (i + 1) by omega]
def isV (v : Option CV) (t n : Nat) : Bool := match v with
  | some (.inl m) => t == 0 && m == n
  | some (.inr (.inl m)) => t == 1 && m == n
  | some (.inr (.inr m)) => t == 2 && m == n
  | none => false
def okE : Bool := match cto 100 9 0 [(0, .inr (.inr 2))] [] [] with
  | some (lv, st, h) => isV (lv.lookup 0) 2 2 && isV (lv.lookup 1) 1 0 && isV (lv.lookup 2) 1 176 && isV (lv.lookup 3) 0 0 && st.isEmpty && chkA sc0 0 0 SHc (h.take 176) && chkA sm0 176 0 SHm (h.drop 176)
  | none => false
set_option maxRecDepth 20000 in
theorem okE_t : okE = true := by decide +kernel
