/-! Typed states: cells of static shapes, filled by total maps. -/
/-- kinds of fields: 0 int, 1 long, 2 boolean, 3 a reference that changes, 4 one that does not -/
def k_fk (c : Nat) : List Nat := match c with
  | 0 => [0, 3, 0, 0, 0, 4, 4, 4, 4, 4]
  | 1 => [0, 0, 4, 4, 4]
  | 2 => [0, 0, 0, 0, 0, 4, 4, 4, 4, 2, 4, 0]
  | 3 => [3, 0, 0, 2]
  | 4 => [0, 0, 0, 2]
  | 5 => [3, 4, 4, 4, 4, 2, 0, 0, 0, 0, 0, 0, 0]
  | 6 => [3, 3, 4, 4, 0]
  | 7 => [4, 0, 3, 3, 4, 4, 4]
  | _ => [0, 4, 0, 2, 0, 4, 4, 0, 4, 4, 4, 4, 4, 4, 4, 4, 4, 4, 4, 4, 4, 4, 4, 4, 0, 0, 1, 2, 0, 0, 0, 0, 4, 4, 4, 4, 4, 4, 4, 4, 4, 4, 4, 4, 0, 4, 0]
abbrev SH : Type := (Nat × List Nat) ⊕ (Nat × Nat × List Nat)
abbrev SG : Type := (Nat → Nat → Int32) × (Nat → Nat → Int64) × (Nat → Nat → Nat) × (Nat → Nat → Int32) × (Nat → Nat → Int64)
/-- a boolean as an int -/
def bz (x : Bool) : Int32 := bif x then 1 else 0
def zb (x : Int32) : Bool := !(x == 0)
def ov (B : Nat) (o : Option Nat) : Value := match o with
  | none => .null
  | some k => .ref (B + k)
def fv (B : Nat) (σ : SG) (k f kd : Nat) (rs : List Nat) : Value := match kd with
  | 0 => .int (σ.1 k f)
  | 1 => .long (σ.2.1 k f)
  | 2 => .int (bz (zb (σ.1 k f)))
  | 3 => .ref (B + σ.2.2.1 k f)
  | _ => .ref (B + rs.getD f 0)
def fil (B : Nat) (σ : SG) (k : Nat) : SH → PE
  | .inl q => .inr (q.1, (k_fk q.1).mapIdx (fun f kd => fv B σ k f kd q.2))
  | .inr q => .inl (q.1, q.2.1, match q.1 with
    | 0 => .inl (σ.2.2.2.1 k)
    | 1 => .inr (.inl (σ.2.2.2.2 k))
    | 2 => .inl (fun j => bz (zb (σ.2.2.2.1 k j)))
    | _ => .inr (.inr (.inr (.inr (fun j => (q.2.2[j]?).map (fun a => B + a))))))
def lay (shp : List SH) (B : Nat) (σ : SG) : List PE := shp.mapIdx (fun k s => fil B σ k s)
def HH (pre tl : List PE) (shp : List SH) (B : Nat) (σ : SG) : List PE := pre ++ lay shp B σ ++ tl
def u2 {α : Type} (f : Nat → Nat → α) (a k : Nat) (v : α) : Nat → Nat → α := fun x y => if x = a ∧ y = k then v else f x y
def setI (σ : SG) (k f : Nat) (v : Int32) : SG := (u2 σ.1 k f v, σ.2)
def setJ (σ : SG) (k f : Nat) (v : Int64) : SG := (σ.1, u2 σ.2.1 k f v, σ.2.2)
def setP (σ : SG) (k f : Nat) (v : Nat) : SG := (σ.1, σ.2.1, u2 σ.2.2.1 k f v, σ.2.2.2)
def setA (σ : SG) (k f : Nat) (v : Int32) : SG := (σ.1, σ.2.1, σ.2.2.1, u2 σ.2.2.2.1 k f v, σ.2.2.2.2)
def setL (σ : SG) (k f : Nat) (v : Int64) : SG := (σ.1, σ.2.1, σ.2.2.1, σ.2.2.2.1, u2 σ.2.2.2.2 k f v)
def isC (shp : List SH) (k c : Nat) : Bool := match shp[k]? with
  | some (.inl q) => q.1 == c
  | _ => false
def cref (shp : List SH) (k f : Nat) : Nat := match shp[k]? with
  | some (.inl q) => q.2.getD f 0
  | _ => 0
def isA (shp : List SH) (k t n : Nat) : Bool := match shp[k]? with
  | some (.inr q) => q.1 == t && q.2.1 == n && (q.1 < 3 || q.2.2.length == n)
  | _ => false
def alen (shp : List SH) (k : Nat) : Nat := match shp[k]? with
  | some (.inr q) => q.2.1
  | _ => 0
def relem (shp : List SH) (k j : Nat) : Nat := match shp[k]? with
  | some (.inr q) => q.2.2.getD j 0
  | _ => 0
theorem u2_same {α : Type} (f : Nat → Nat → α) (a k : Nat) (v : α) : u2 f a k v a k = v := by simp [u2]
theorem u2_row {α : Type} (f : Nat → Nat → α) {a x : Nat} (k : Nat) (v : α) (h : x ≠ a) : u2 f a k v x = f x := by
  funext y
  simp [u2, h]
theorem u2_ne {α : Type} (f : Nat → Nat → α) {a k x y : Nat} (v : α) (h : x ≠ a ∨ y ≠ k) : u2 f a k v x y = f x y := by
  unfold u2
  rw [if_neg]
  rintro ⟨rfl, rfl⟩
  rcases h with h | h <;> exact h rfl
theorem isC_at {shp : List SH} {k c : Nat} (h : isC shp k c = true) : ∃ rs, shp[k]? = some (.inl (c, rs)) ∧ ∀ f, cref shp k f = rs.getD f 0 := by
  unfold isC at h
  split at h
  · rename_i q hq
    obtain ⟨c', rs⟩ := q
    rw [beq_iff_eq] at h
    have h : c' = c := h
    subst h
    exact ⟨rs, hq, fun f => by unfold cref; rw [hq]⟩
  · cases h
theorem isA_at {shp : List SH} {k t n : Nat} (h : isA shp k t n = true) : ∃ es, shp[k]? = some (.inr (t, n, es)) ∧ (t < 3 ∨ es.length = n) ∧ ∀ j, relem shp k j = es.getD j 0 := by
  unfold isA at h
  split at h
  · rename_i q hq
    obtain ⟨t', n', es⟩ := q
    simp only [Bool.and_eq_true, beq_iff_eq, Bool.or_eq_true, decide_eq_true_eq] at h
    obtain ⟨⟨h1, h2⟩, h3⟩ := h
    subst h1
    subst h2
    exact ⟨es, hq, h3, fun j => by unfold relem; rw [hq]⟩
  · cases h
theorem bz_zb (x : Bool) : zb (bz x) = x := by cases x <;> rfl
theorem bz_or (x : Bool) : bz x = 0 ∨ bz x = 1 := by cases x <;> simp [bz]
theorem bz_nar (x : Bool) : vp_nar .boolean (bz x) = bz x := by cases x <;> rfl
theorem bz_0 {x : Bool} : bz x = 0 ↔ x = false := by cases x <;> simp [bz]
theorem bz_inj {x y : Bool} : bz x = bz y ↔ x = y := by cases x <;> cases y <;> simp [bz]
theorem rd_HH {b B : Nat} {pre tl : List PE} {shp : List SH} {σ : SG} (hB : B = b + pre.length) {k : Nat} {s : SH} (hk : shp[k]? = some s) : rd b (HH pre tl shp B σ) (B + k) = some (fil B σ k s) := by
  have hl : k < (lay shp B σ).length := by
    unfold lay
    rw [List.length_mapIdx]
    exact (List.getElem?_eq_some_iff.mp hk).1
  unfold rd HH
  rw [if_pos (by omega), show B + k - b = pre.length + k by omega, List.append_assoc, List.getElem?_append_right (by omega), show pre.length + k - pre.length = k by omega, List.getElem?_append_left hl]
  unfold lay
  rw [List.getElem?_mapIdx, hk]
  rfl
theorem wr_HH {b B : Nat} {pre tl : List PE} {shp : List SH} {σ σ' : SG} (hB : B = b + pre.length) {k : Nat} {s : SH} {e : PE} (hk : shp[k]? = some s) (he : fil B σ' k s = e) (ho : ∀ j s', j ≠ k → fil B σ' j s' = fil B σ j s') : wr b (HH pre tl shp B σ) (B + k) e = HH pre tl shp B σ' := by
  have hl : k < (lay shp B σ).length := by
    unfold lay
    rw [List.length_mapIdx]
    exact (List.getElem?_eq_some_iff.mp hk).1
  have hs : (lay shp B σ).set k e = lay shp B σ' := by
    refine List.ext_getElem? fun j => ?_
    by_cases hj : k = j
    · subst hj
      rw [List.getElem?_set_self hl]
      unfold lay
      rw [List.getElem?_mapIdx, hk, ← he]
      rfl
    · rw [List.getElem?_set_ne hj]
      unfold lay
      rw [List.getElem?_mapIdx, List.getElem?_mapIdx]
      cases shp[j]? with
      | none => rfl
      | some s' => simp only [Option.map_some]; rw [ho j s' (fun z => hj z.symm)]
  unfold wr HH
  rw [show B + k - b = pre.length + k by omega, List.append_assoc, List.set_append_right _ _ (by omega), show pre.length + k - pre.length = k by omega, List.set_append_left _ _ hl, hs, List.append_assoc]
theorem fil_off {B : Nat} {σ σ' : SG} {j : Nat} (h1 : σ'.1 j = σ.1 j) (h2 : σ'.2.1 j = σ.2.1 j) (h3 : σ'.2.2.1 j = σ.2.2.1 j) (h4 : σ'.2.2.2.1 j = σ.2.2.2.1 j) (h5 : σ'.2.2.2.2 j = σ.2.2.2.2 j) (s : SH) : fil B σ' j s = fil B σ j s := by
  unfold fil fv
  rw [h1, h2, h3, h4, h5]
theorem fil_set {B : Nat} {σ σ' : SG} {k c f kd : Nat} {rs : List Nat} {v : Value} (hkd : (k_fk c)[f]? = some kd) (hv : fv B σ' k f kd rs = v) (ho : ∀ j kd', j ≠ f → fv B σ' k j kd' rs = fv B σ k j kd' rs) : fil B σ' k (.inl (c, rs)) = .inr (c, ((k_fk c).mapIdx (fun f kd => fv B σ k f kd rs)).set f v) := by
  unfold fil
  refine congrArg (fun z => Sum.inr (c, z)) (List.ext_getElem? fun j => ?_)
  have hf : f < ((k_fk c).mapIdx (fun f kd => fv B σ k f kd rs)).length := by
    rw [List.length_mapIdx]
    exact (List.getElem?_eq_some_iff.mp hkd).1
  by_cases hj : f = j
  · subst hj
    rw [List.getElem?_set_self hf, List.getElem?_mapIdx, hkd, ← hv]
    rfl
  · rw [List.getElem?_set_ne hj, List.getElem?_mapIdx, List.getElem?_mapIdx]
    cases (k_fk c)[j]? with
    | none => rfl
    | some kd' => simp only [Option.map_some]; rw [ho j kd' (fun z => hj z.symm)]
theorem fk_len : ∀ c, c < 9 → (k_fk c).length = (k_tg c).length := by decide +kernel
theorem fk_tg : ∀ c, c < 9 → ∀ f, f < 47 → (match (k_fk c)[f]? with | some kd => decide ((k_tg c).getD f 9 = min kd 3) | none => true) = true := by decide +kernel
section TY
variable {b : Nat} {sc : SC} {d M pc : Nat} {lv : LV} {st : List Value} {Q : Option Value → List PE → Prop} {pre tl : List PE} {shp : List SH} {B : Nat} {σ : SG} {i a0 r3 : Nat}
theorem q_get_HH (hB : B = b + pre.length) {k c f kd : Nat} (hk : isC shp k c = true) (hfk : (k_fk c)[f]? = some kd) : ∃ rs, (∀ f, cref shp k f = rs.getD f 0) ∧ q_get b c f pc lv (.ref (B + k) :: st) (HH pre tl shp B σ) = some (pc + 3, lv, fv B σ k f kd rs :: st, HH pre tl shp B σ) := by
  obtain ⟨rs, hs, hc⟩ := isC_at hk
  refine ⟨rs, hc, ?_⟩
  simp only [q_get, rd_HH hB hs, fil, if_true, List.getElem?_mapIdx, hfk, Option.map_some]
theorem q_put_HH (hB : B = b + pre.length) {k c f kd : Nat} {v : Value} {σ' : SG} (hk : isC shp k c = true) (hfk : (k_fk c)[f]? = some kd) (hok : okv ((k_tg c).getD f 9) v = true) (hv : ∀ rs, fv B σ' k f kd rs = v) (ho : ∀ j kd' rs, j ≠ f → fv B σ' k j kd' rs = fv B σ k j kd' rs) (hoff : ∀ j s', j ≠ k → fil B σ' j s' = fil B σ j s') : q_put b c f pc lv (v :: .ref (B + k) :: st) (HH pre tl shp B σ) = some (pc + 3, lv, st, HH pre tl shp B σ') := by
  obtain ⟨rs, hs, hc⟩ := isC_at hk
  have hw := wr_HH (tl := tl) hB hs (fil_set hfk (hv rs) (fun j kd' hj => ho j kd' rs hj)) hoff
  have hl : f < (k_fk c).length := (List.getElem?_eq_some_iff.mp hfk).1
  simp only [q_put, rd_HH hB hs, fil, List.length_mapIdx]
  rw [if_pos ⟨trivial, hl, hok⟩, hw]
theorem t_geti (hB : B = b + pre.length) {k c f : Nat} (hk : isC shp k c = true) (hf : fetch M pc = some (.getfield i, a0, c, f, r3)) (hfk : (k_fk c)[f]? = some 0) (kk : Rn b sc d M (pc + 3) lv (.int (σ.1 k f) :: st) (HH pre tl shp B σ) Q) : Rn b sc d M pc lv (.ref (B + k) :: st) (HH pre tl shp B σ) Q := by
  obtain ⟨rs, hc, hq⟩ := q_get_HH (pc := pc) (lv := lv) (st := st) (tl := tl) (σ := σ) hB hk hfk
  exact Rn.stp hf rfl rfl hq (kk)
theorem t_getj (hB : B = b + pre.length) {k c f : Nat} (hk : isC shp k c = true) (hf : fetch M pc = some (.getfield i, a0, c, f, r3)) (hfk : (k_fk c)[f]? = some 1) (kk : Rn b sc d M (pc + 3) lv (.long (σ.2.1 k f) :: st) (HH pre tl shp B σ) Q) : Rn b sc d M pc lv (.ref (B + k) :: st) (HH pre tl shp B σ) Q := by
  obtain ⟨rs, hc, hq⟩ := q_get_HH (pc := pc) (lv := lv) (st := st) (tl := tl) (σ := σ) hB hk hfk
  exact Rn.stp hf rfl rfl hq (kk)
theorem t_getz (hB : B = b + pre.length) {k c f : Nat} (hk : isC shp k c = true) (hf : fetch M pc = some (.getfield i, a0, c, f, r3)) (hfk : (k_fk c)[f]? = some 2) (kk : Rn b sc d M (pc + 3) lv (.int (bz (zb (σ.1 k f))) :: st) (HH pre tl shp B σ) Q) : Rn b sc d M pc lv (.ref (B + k) :: st) (HH pre tl shp B σ) Q := by
  obtain ⟨rs, hc, hq⟩ := q_get_HH (pc := pc) (lv := lv) (st := st) (tl := tl) (σ := σ) hB hk hfk
  exact Rn.stp hf rfl rfl hq (kk)
theorem t_getm (hB : B = b + pre.length) {k c f : Nat} (hk : isC shp k c = true) (hf : fetch M pc = some (.getfield i, a0, c, f, r3)) (hfk : (k_fk c)[f]? = some 3) (kk : Rn b sc d M (pc + 3) lv (.ref (B + σ.2.2.1 k f) :: st) (HH pre tl shp B σ) Q) : Rn b sc d M pc lv (.ref (B + k) :: st) (HH pre tl shp B σ) Q := by
  obtain ⟨rs, hc, hq⟩ := q_get_HH (pc := pc) (lv := lv) (st := st) (tl := tl) (σ := σ) hB hk hfk
  exact Rn.stp hf rfl rfl hq (kk)
theorem t_getc (hB : B = b + pre.length) {k c f : Nat} (hk : isC shp k c = true) (hf : fetch M pc = some (.getfield i, a0, c, f, r3)) (hfk : (k_fk c)[f]? = some 4) (kk : Rn b sc d M (pc + 3) lv (.ref (B + cref shp k f) :: st) (HH pre tl shp B σ) Q) : Rn b sc d M pc lv (.ref (B + k) :: st) (HH pre tl shp B σ) Q := by
  obtain ⟨rs, hc, hq⟩ := q_get_HH (pc := pc) (lv := lv) (st := st) (tl := tl) (σ := σ) hB hk hfk
  exact Rn.stp hf rfl rfl hq (by show Rn _ _ _ _ _ _ (.ref (B + rs.getD f 0) :: st) _ _; rw [← hc f]; exact kk)
theorem off_I {k f : Nat} {v : Int32} : ∀ j s', j ≠ k → fil B (setI σ k f v) j s' = fil B σ j s' := fun j s' hj => fil_off (σ := σ) (σ' := setI σ k f v) (u2_row _ _ _ hj) rfl rfl rfl rfl s'
theorem off_J {k f : Nat} {v : Int64} : ∀ j s', j ≠ k → fil B (setJ σ k f v) j s' = fil B σ j s' := fun j s' hj => fil_off (σ := σ) (σ' := setJ σ k f v) rfl (u2_row _ _ _ hj) rfl rfl rfl s'
theorem off_P {k f : Nat} {v : Nat} : ∀ j s', j ≠ k → fil B (setP σ k f v) j s' = fil B σ j s' := fun j s' hj => fil_off (σ := σ) (σ' := setP σ k f v) rfl rfl (u2_row _ _ _ hj) rfl rfl s'
theorem off_A {k f : Nat} {v : Int32} : ∀ j s', j ≠ k → fil B (setA σ k f v) j s' = fil B σ j s' := fun j s' hj => fil_off (σ := σ) (σ' := setA σ k f v) rfl rfl rfl (u2_row _ _ _ hj) rfl s'
theorem off_L {k f : Nat} {v : Int64} : ∀ j s', j ≠ k → fil B (setL σ k f v) j s' = fil B σ j s' := fun j s' hj => fil_off (σ := σ) (σ' := setL σ k f v) rfl rfl rfl rfl (u2_row _ _ _ hj) s'
theorem t_puti (hB : B = b + pre.length) {k c f : Nat} {v : Int32} (hk : isC shp k c = true) (hf : fetch M pc = some (.putfield i, a0, c, f, r3)) (hfk : (k_fk c)[f]? = some 0) (htg : (k_tg c).getD f 9 = 0) (kk : Rn b sc d M (pc + 3) lv st (HH pre tl shp B (setI σ k f v)) Q) : Rn b sc d M pc lv (.int v :: .ref (B + k) :: st) (HH pre tl shp B σ) Q := by
  refine Rn.stp hf rfl rfl (q_put_HH (σ' := setI σ k f v) hB hk hfk (by rw [htg]; rfl) (fun rs => by simp only [fv, setI, u2_same]) (fun j kd' rs hj => ?_) (off_I)) kk
  unfold fv
  split <;> first | rfl | (simp only [setI, setJ, setP]; rw [u2_ne _ _ (Or.inr hj)])
theorem t_putj (hB : B = b + pre.length) {k c f : Nat} {v : Int64} (hk : isC shp k c = true) (hf : fetch M pc = some (.putfield i, a0, c, f, r3)) (hfk : (k_fk c)[f]? = some 1) (htg : (k_tg c).getD f 9 = 1) (kk : Rn b sc d M (pc + 3) lv st (HH pre tl shp B (setJ σ k f v)) Q) : Rn b sc d M pc lv (.long v :: .ref (B + k) :: st) (HH pre tl shp B σ) Q := by
  refine Rn.stp hf rfl rfl (q_put_HH (σ' := setJ σ k f v) hB hk hfk (by rw [htg]; rfl) (fun rs => by simp only [fv, setJ, u2_same]) (fun j kd' rs hj => ?_) (off_J)) kk
  unfold fv
  split <;> first | rfl | (simp only [setI, setJ, setP]; rw [u2_ne _ _ (Or.inr hj)])
theorem t_putz (hB : B = b + pre.length) {k c f : Nat} {v : Bool} (hk : isC shp k c = true) (hf : fetch M pc = some (.putfield i, a0, c, f, r3)) (hfk : (k_fk c)[f]? = some 2) (htg : (k_tg c).getD f 9 = 2) (kk : Rn b sc d M (pc + 3) lv st (HH pre tl shp B (setI σ k f (bz v))) Q) : Rn b sc d M pc lv (.int (bz v) :: .ref (B + k) :: st) (HH pre tl shp B σ) Q := by
  refine Rn.stp hf rfl rfl (q_put_HH (σ' := setI σ k f (bz v)) hB hk hfk (by rw [htg]; cases v <;> rfl) (fun rs => by simp only [fv, setI, u2_same, bz_zb]) (fun j kd' rs hj => ?_) (off_I)) kk
  unfold fv
  split <;> first | rfl | (simp only [setI, setJ, setP]; rw [u2_ne _ _ (Or.inr hj)])
theorem t_putm (hB : B = b + pre.length) {k c f : Nat} {v : Nat} (hk : isC shp k c = true) (hf : fetch M pc = some (.putfield i, a0, c, f, r3)) (hfk : (k_fk c)[f]? = some 3) (htg : (k_tg c).getD f 9 = 3) (kk : Rn b sc d M (pc + 3) lv st (HH pre tl shp B (setP σ k f v)) Q) : Rn b sc d M pc lv (.ref (B + v) :: .ref (B + k) :: st) (HH pre tl shp B σ) Q := by
  refine Rn.stp hf rfl rfl (q_put_HH (σ' := setP σ k f v) hB hk hfk (by rw [htg]; rfl) (fun rs => by simp only [fv, setP, u2_same]) (fun j kd' rs hj => ?_) (off_P)) kk
  unfold fv
  split <;> first | rfl | (simp only [setI, setJ, setP]; rw [u2_ne _ _ (Or.inr hj)])
theorem t_iald (hB : B = b + pre.length) {k n : Nat} {x : Int32} {z : Nat × Nat × Nat × Nat} (hk : isA shp k 0 n = true) (hf : fetch M pc = some (.iaload, z)) (hx : ¬ (x < 0 ∨ n ≤ x.toNatClampNeg)) (kk : Rn b sc d M (pc + 1) lv (.int (σ.2.2.2.1 k x.toNatClampNeg) :: st) (HH pre tl shp B σ) Q) : Rn b sc d M pc lv (.int x :: .ref (B + k) :: st) (HH pre tl shp B σ) Q := by
  obtain ⟨es, hs, hn, he⟩ := isA_at hk
  refine Rn.stp hf rfl rfl (t := (pc + 1, lv, .int (σ.2.2.2.1 k x.toNatClampNeg) :: st, HH pre tl shp B σ)) ?_ kk
  simp only [stp, q_iald, rd_HH hB hs, fil]
  rw [if_pos ⟨trivial, hx⟩]
theorem t_bald (hB : B = b + pre.length) {k n : Nat} {x : Int32} {z : Nat × Nat × Nat × Nat} (hk : isA shp k 2 n = true) (hf : fetch M pc = some (.baload, z)) (hx : ¬ (x < 0 ∨ n ≤ x.toNatClampNeg)) (kk : Rn b sc d M (pc + 1) lv (.int (bz (zb (σ.2.2.2.1 k x.toNatClampNeg))) :: st) (HH pre tl shp B σ) Q) : Rn b sc d M pc lv (.int x :: .ref (B + k) :: st) (HH pre tl shp B σ) Q := by
  obtain ⟨es, hs, hn, he⟩ := isA_at hk
  refine Rn.stp hf rfl rfl (t := (pc + 1, lv, .int (bz (zb (σ.2.2.2.1 k x.toNatClampNeg))) :: st, HH pre tl shp B σ)) ?_ kk
  simp only [stp, q_bald, rd_HH hB hs, fil]
  rw [if_pos ⟨trivial, hx⟩]
theorem t_lald (hB : B = b + pre.length) {k n : Nat} {x : Int32} {z : Nat × Nat × Nat × Nat} (hk : isA shp k 1 n = true) (hf : fetch M pc = some (.laload, z)) (hx : ¬ (x < 0 ∨ n ≤ x.toNatClampNeg)) (kk : Rn b sc d M (pc + 1) lv (.long (σ.2.2.2.2 k x.toNatClampNeg) :: st) (HH pre tl shp B σ) Q) : Rn b sc d M pc lv (.int x :: .ref (B + k) :: st) (HH pre tl shp B σ) Q := by
  obtain ⟨es, hs, hn, he⟩ := isA_at hk
  refine Rn.stp hf rfl rfl (t := (pc + 1, lv, .long (σ.2.2.2.2 k x.toNatClampNeg) :: st, HH pre tl shp B σ)) ?_ kk
  simp only [stp, q_lald, rd_HH hB hs, fil]
  rw [if_pos ⟨trivial, hx⟩]
theorem t_aald (hB : B = b + pre.length) {k t n : Nat} {x : Int32} {z : Nat × Nat × Nat × Nat} (hk : isA shp k t n = true) (ht : 3 ≤ t ∧ t < 6) (hf : fetch M pc = some (.aaload, z)) (hx : ¬ (x < 0 ∨ n ≤ x.toNatClampNeg)) (kk : Rn b sc d M (pc + 1) lv (.ref (B + relem shp k x.toNatClampNeg) :: st) (HH pre tl shp B σ) Q) : Rn b sc d M pc lv (.int x :: .ref (B + k) :: st) (HH pre tl shp B σ) Q := by
  obtain ⟨es, hs, hn, he⟩ := isA_at hk
  refine Rn.stp hf rfl rfl (t := (pc + 1, lv, .ref (B + relem shp k x.toNatClampNeg) :: st, HH pre tl shp B σ)) ?_ kk
  have hlt : x.toNatClampNeg < es.length := by
    have h1 : ¬ n ≤ x.toNatClampNeg := fun q => hx (Or.inr q)
    have h2 : es.length = n := by omega
    omega
  have hfil : fil B σ k (.inr (t, n, es)) = .inl (t, n, .inr (.inr (.inr (.inr (fun j => (es[j]?).map (fun a => B + a)))))) := by
    rcases (show t = 3 ∨ t = 4 ∨ t = 5 by omega) with rfl | rfl | rfl <;> rfl
  simp only [stp, q_aald, rd_HH hB hs, hfil]
  rw [if_pos ⟨ht, hx⟩, he, List.getD_eq_getElem?_getD, List.getElem?_eq_getElem hlt]
  rfl
theorem t_len (hB : B = b + pre.length) {k t n : Nat} {v : Int32} {z : Nat × Nat × Nat × Nat} (hk : isA shp k t n = true) (ht : t < 6) (hf : fetch M pc = some (.arraylength, z)) (hv : Int32.ofNat n = v) (kk : Rn b sc d M (pc + 1) lv (.int v :: st) (HH pre tl shp B σ) Q) : Rn b sc d M pc lv (.ref (B + k) :: st) (HH pre tl shp B σ) Q := by
  obtain ⟨es, hs, hn, he⟩ := isA_at hk
  subst hv
  refine Rn.stp hf rfl rfl (t := (pc + 1, lv, .int (Int32.ofNat n) :: st, HH pre tl shp B σ)) ?_ kk
  simp only [stp, q_len, rd_HH hB hs, fil]
  rw [if_pos ht]
theorem u2_upd (f : Nat → Nat → Int32) (k i : Nat) (v : Int32) : upd (f k) i v = u2 f k i v k := by
  funext j
  unfold upd u2
  by_cases h : j = i <;> simp [h]
theorem u2_updL (f : Nat → Nat → Int64) (k i : Nat) (v : Int64) : vp_updL (f k) i v = u2 f k i v k := by
  funext j
  unfold vp_updL u2
  by_cases h : j = i <;> simp [h]
theorem t_iast (hB : B = b + pre.length) {k n : Nat} {x : Int32} {v : Int32} {z : Nat × Nat × Nat × Nat} (hk : isA shp k 0 n = true) (hf : fetch M pc = some (.iastore, z)) (hx : ¬ (x < 0 ∨ n ≤ x.toNatClampNeg)) (kk : Rn b sc d M (pc + 1) lv st (HH pre tl shp B (setA σ k x.toNatClampNeg v)) Q) : Rn b sc d M pc lv (.int v :: .int x :: .ref (B + k) :: st) (HH pre tl shp B σ) Q := by
  obtain ⟨es, hs, hn, he⟩ := isA_at hk
  refine Rn.stp hf rfl rfl (t := (pc + 1, lv, st, HH pre tl shp B (setA σ k x.toNatClampNeg v))) ?_ kk
  simp only [stp, q_iast, rd_HH hB hs, fil]
  rw [if_pos ⟨trivial, hx⟩, wr_HH (σ := σ) (σ' := setA σ k x.toNatClampNeg v) (tl := tl) hB hs ?_ off_A]
  simp only [fil, setA, u2_upd]
theorem t_last (hB : B = b + pre.length) {k n : Nat} {x : Int32} {v : Int64} {z : Nat × Nat × Nat × Nat} (hk : isA shp k 1 n = true) (hf : fetch M pc = some (.lastore, z)) (hx : ¬ (x < 0 ∨ n ≤ x.toNatClampNeg)) (kk : Rn b sc d M (pc + 1) lv st (HH pre tl shp B (setL σ k x.toNatClampNeg v)) Q) : Rn b sc d M pc lv (.long v :: .int x :: .ref (B + k) :: st) (HH pre tl shp B σ) Q := by
  obtain ⟨es, hs, hn, he⟩ := isA_at hk
  refine Rn.stp hf rfl rfl (t := (pc + 1, lv, st, HH pre tl shp B (setL σ k x.toNatClampNeg v))) ?_ kk
  simp only [stp, q_last, rd_HH hB hs, fil]
  rw [if_pos ⟨trivial, hx⟩, wr_HH (σ := σ) (σ' := setL σ k x.toNatClampNeg v) (tl := tl) hB hs ?_ off_L]
  simp only [fil, setL, u2_updL]
theorem t_bast (hB : B = b + pre.length) {k n : Nat} {x : Int32} {v : Bool} {z : Nat × Nat × Nat × Nat} (hk : isA shp k 2 n = true) (hf : fetch M pc = some (.bastore, z)) (hx : ¬ (x < 0 ∨ n ≤ x.toNatClampNeg)) (kk : Rn b sc d M (pc + 1) lv st (HH pre tl shp B (setA σ k x.toNatClampNeg (bz v))) Q) : Rn b sc d M pc lv (.int (bz v) :: .int x :: .ref (B + k) :: st) (HH pre tl shp B σ) Q := by
  obtain ⟨es, hs, hn, he⟩ := isA_at hk
  refine Rn.stp hf rfl rfl (t := (pc + 1, lv, st, HH pre tl shp B (setA σ k x.toNatClampNeg (bz v)))) ?_ kk
  simp only [stp, q_bast, rd_HH hB hs, fil]
  rw [if_pos ⟨trivial, hx⟩, wr_HH (σ := σ) (σ' := setA σ k x.toNatClampNeg (bz v)) (tl := tl) hB hs ?_ off_A]
  simp only [fil, setA, bz_nar]
  refine congrArg (fun g => Sum.inl (2, n, Sum.inl g)) (funext fun j => ?_)
  unfold upd u2
  by_cases h : j = x.toNatClampNeg <;> simp [h, bz_zb]
theorem lay_len {shp : List SH} {B : Nat} {σ : SG} : (lay shp B σ).length = shp.length := by unfold lay; rw [List.length_mapIdx]
theorem t_S0v {M2 : Nat} {rest : List Value} {h : List PE} (hf : fetch M pc = some (.invokestatic i, a0, M2, 0, r3)) (h9 : M2 < 9998) (hl : (lg_sl ([] : List Value)).length ≤ mxl M2) (hr : (rest.map Value.category).sum ≤ 8) (kk : Cl b d M2 [] h (fun r h' => r = none ∧ Rn b sc (d + 1) M (pc + 3) lv rest h' Q)) : Rn b sc (d + 1) M pc lv (rest) h Q := by
  refine Rn.call (rest := rest) hf rfl rfl ?_ h9 hl (Rn.mono kk (fun r h' hq => ?_))
  · simp only [cll]
    rw [if_pos ⟨by simp, by simpa using hr⟩]
    rfl
  · obtain ⟨rfl, hq⟩ := hq
    exact hq
theorem t_S0i {M2 : Nat} {rest : List Value} {h : List PE} (hf : fetch M pc = some (.invokestatic i, a0, M2, 0, r3)) (h9 : M2 < 9998) (hl : (lg_sl ([] : List Value)).length ≤ mxl M2) (hr : (rest.map Value.category).sum ≤ 8) (kk : Cl b d M2 [] h (fun r h' => ∃ x : Int32, r = some (.int x) ∧ Rn b sc (d + 1) M (pc + 3) lv (.int x :: rest) h' Q)) : Rn b sc (d + 1) M pc lv (rest) h Q := by
  refine Rn.call (rest := rest) hf rfl rfl ?_ h9 hl (Rn.mono kk (fun r h' hq => ?_))
  · simp only [cll]
    rw [if_pos ⟨by simp, by simpa using hr⟩]
    rfl
  · obtain ⟨x, rfl, hq⟩ := hq
    exact hq
theorem t_S0l {M2 : Nat} {rest : List Value} {h : List PE} (hf : fetch M pc = some (.invokestatic i, a0, M2, 0, r3)) (h9 : M2 < 9998) (hl : (lg_sl ([] : List Value)).length ≤ mxl M2) (hr : (rest.map Value.category).sum ≤ 8) (kk : Cl b d M2 [] h (fun r h' => ∃ x : Int64, r = some (.long x) ∧ Rn b sc (d + 1) M (pc + 3) lv (.long x :: rest) h' Q)) : Rn b sc (d + 1) M pc lv (rest) h Q := by
  refine Rn.call (rest := rest) hf rfl rfl ?_ h9 hl (Rn.mono kk (fun r h' hq => ?_))
  · simp only [cll]
    rw [if_pos ⟨by simp, by simpa using hr⟩]
    rfl
  · obtain ⟨x, rfl, hq⟩ := hq
    exact hq
theorem t_S0o {M2 : Nat} {rest : List Value} {h : List PE} (hf : fetch M pc = some (.invokestatic i, a0, M2, 0, r3)) (h9 : M2 < 9998) (hl : (lg_sl ([] : List Value)).length ≤ mxl M2) (hr : (rest.map Value.category).sum ≤ 8) (kk : Cl b d M2 [] h (fun r h' => ∃ x : Option Nat, r = some (ov B x) ∧ Rn b sc (d + 1) M (pc + 3) lv (ov B x :: rest) h' Q)) : Rn b sc (d + 1) M pc lv (rest) h Q := by
  refine Rn.call (rest := rest) hf rfl rfl ?_ h9 hl (Rn.mono kk (fun r h' hq => ?_))
  · simp only [cll]
    rw [if_pos ⟨by simp, by simpa using hr⟩]
    rfl
  · obtain ⟨x, rfl, hq⟩ := hq
    exact hq
theorem t_S1v {a1 : Value} {M2 : Nat} {rest : List Value} {h : List PE} (hf : fetch M pc = some (.invokestatic i, a0, M2, 1, r3)) (h9 : M2 < 9998) (hl : (lg_sl ([a1] : List Value)).length ≤ mxl M2) (hr : (rest.map Value.category).sum ≤ 8) (kk : Cl b d M2 [a1] h (fun r h' => r = none ∧ Rn b sc (d + 1) M (pc + 3) lv rest h' Q)) : Rn b sc (d + 1) M pc lv (a1 :: rest) h Q := by
  refine Rn.call (rest := rest) hf rfl rfl ?_ h9 hl (Rn.mono kk (fun r h' hq => ?_))
  · simp only [cll]
    rw [if_pos ⟨by simp, by simpa using hr⟩]
    rfl
  · obtain ⟨rfl, hq⟩ := hq
    exact hq
theorem t_S1i {a1 : Value} {M2 : Nat} {rest : List Value} {h : List PE} (hf : fetch M pc = some (.invokestatic i, a0, M2, 1, r3)) (h9 : M2 < 9998) (hl : (lg_sl ([a1] : List Value)).length ≤ mxl M2) (hr : (rest.map Value.category).sum ≤ 8) (kk : Cl b d M2 [a1] h (fun r h' => ∃ x : Int32, r = some (.int x) ∧ Rn b sc (d + 1) M (pc + 3) lv (.int x :: rest) h' Q)) : Rn b sc (d + 1) M pc lv (a1 :: rest) h Q := by
  refine Rn.call (rest := rest) hf rfl rfl ?_ h9 hl (Rn.mono kk (fun r h' hq => ?_))
  · simp only [cll]
    rw [if_pos ⟨by simp, by simpa using hr⟩]
    rfl
  · obtain ⟨x, rfl, hq⟩ := hq
    exact hq
theorem t_S1l {a1 : Value} {M2 : Nat} {rest : List Value} {h : List PE} (hf : fetch M pc = some (.invokestatic i, a0, M2, 1, r3)) (h9 : M2 < 9998) (hl : (lg_sl ([a1] : List Value)).length ≤ mxl M2) (hr : (rest.map Value.category).sum ≤ 8) (kk : Cl b d M2 [a1] h (fun r h' => ∃ x : Int64, r = some (.long x) ∧ Rn b sc (d + 1) M (pc + 3) lv (.long x :: rest) h' Q)) : Rn b sc (d + 1) M pc lv (a1 :: rest) h Q := by
  refine Rn.call (rest := rest) hf rfl rfl ?_ h9 hl (Rn.mono kk (fun r h' hq => ?_))
  · simp only [cll]
    rw [if_pos ⟨by simp, by simpa using hr⟩]
    rfl
  · obtain ⟨x, rfl, hq⟩ := hq
    exact hq
theorem t_S1o {a1 : Value} {M2 : Nat} {rest : List Value} {h : List PE} (hf : fetch M pc = some (.invokestatic i, a0, M2, 1, r3)) (h9 : M2 < 9998) (hl : (lg_sl ([a1] : List Value)).length ≤ mxl M2) (hr : (rest.map Value.category).sum ≤ 8) (kk : Cl b d M2 [a1] h (fun r h' => ∃ x : Option Nat, r = some (ov B x) ∧ Rn b sc (d + 1) M (pc + 3) lv (ov B x :: rest) h' Q)) : Rn b sc (d + 1) M pc lv (a1 :: rest) h Q := by
  refine Rn.call (rest := rest) hf rfl rfl ?_ h9 hl (Rn.mono kk (fun r h' hq => ?_))
  · simp only [cll]
    rw [if_pos ⟨by simp, by simpa using hr⟩]
    rfl
  · obtain ⟨x, rfl, hq⟩ := hq
    exact hq
theorem t_S2v {a1 a2 : Value} {M2 : Nat} {rest : List Value} {h : List PE} (hf : fetch M pc = some (.invokestatic i, a0, M2, 2, r3)) (h9 : M2 < 9998) (hl : (lg_sl ([a1, a2] : List Value)).length ≤ mxl M2) (hr : (rest.map Value.category).sum ≤ 8) (kk : Cl b d M2 [a1, a2] h (fun r h' => r = none ∧ Rn b sc (d + 1) M (pc + 3) lv rest h' Q)) : Rn b sc (d + 1) M pc lv (a2 :: a1 :: rest) h Q := by
  refine Rn.call (rest := rest) hf rfl rfl ?_ h9 hl (Rn.mono kk (fun r h' hq => ?_))
  · simp only [cll]
    rw [if_pos ⟨by simp, by simpa using hr⟩]
    rfl
  · obtain ⟨rfl, hq⟩ := hq
    exact hq
theorem t_S2i {a1 a2 : Value} {M2 : Nat} {rest : List Value} {h : List PE} (hf : fetch M pc = some (.invokestatic i, a0, M2, 2, r3)) (h9 : M2 < 9998) (hl : (lg_sl ([a1, a2] : List Value)).length ≤ mxl M2) (hr : (rest.map Value.category).sum ≤ 8) (kk : Cl b d M2 [a1, a2] h (fun r h' => ∃ x : Int32, r = some (.int x) ∧ Rn b sc (d + 1) M (pc + 3) lv (.int x :: rest) h' Q)) : Rn b sc (d + 1) M pc lv (a2 :: a1 :: rest) h Q := by
  refine Rn.call (rest := rest) hf rfl rfl ?_ h9 hl (Rn.mono kk (fun r h' hq => ?_))
  · simp only [cll]
    rw [if_pos ⟨by simp, by simpa using hr⟩]
    rfl
  · obtain ⟨x, rfl, hq⟩ := hq
    exact hq
theorem t_S2l {a1 a2 : Value} {M2 : Nat} {rest : List Value} {h : List PE} (hf : fetch M pc = some (.invokestatic i, a0, M2, 2, r3)) (h9 : M2 < 9998) (hl : (lg_sl ([a1, a2] : List Value)).length ≤ mxl M2) (hr : (rest.map Value.category).sum ≤ 8) (kk : Cl b d M2 [a1, a2] h (fun r h' => ∃ x : Int64, r = some (.long x) ∧ Rn b sc (d + 1) M (pc + 3) lv (.long x :: rest) h' Q)) : Rn b sc (d + 1) M pc lv (a2 :: a1 :: rest) h Q := by
  refine Rn.call (rest := rest) hf rfl rfl ?_ h9 hl (Rn.mono kk (fun r h' hq => ?_))
  · simp only [cll]
    rw [if_pos ⟨by simp, by simpa using hr⟩]
    rfl
  · obtain ⟨x, rfl, hq⟩ := hq
    exact hq
theorem t_S2o {a1 a2 : Value} {M2 : Nat} {rest : List Value} {h : List PE} (hf : fetch M pc = some (.invokestatic i, a0, M2, 2, r3)) (h9 : M2 < 9998) (hl : (lg_sl ([a1, a2] : List Value)).length ≤ mxl M2) (hr : (rest.map Value.category).sum ≤ 8) (kk : Cl b d M2 [a1, a2] h (fun r h' => ∃ x : Option Nat, r = some (ov B x) ∧ Rn b sc (d + 1) M (pc + 3) lv (ov B x :: rest) h' Q)) : Rn b sc (d + 1) M pc lv (a2 :: a1 :: rest) h Q := by
  refine Rn.call (rest := rest) hf rfl rfl ?_ h9 hl (Rn.mono kk (fun r h' hq => ?_))
  · simp only [cll]
    rw [if_pos ⟨by simp, by simpa using hr⟩]
    rfl
  · obtain ⟨x, rfl, hq⟩ := hq
    exact hq
theorem t_S3v {a1 a2 a3 : Value} {M2 : Nat} {rest : List Value} {h : List PE} (hf : fetch M pc = some (.invokestatic i, a0, M2, 3, r3)) (h9 : M2 < 9998) (hl : (lg_sl ([a1, a2, a3] : List Value)).length ≤ mxl M2) (hr : (rest.map Value.category).sum ≤ 8) (kk : Cl b d M2 [a1, a2, a3] h (fun r h' => r = none ∧ Rn b sc (d + 1) M (pc + 3) lv rest h' Q)) : Rn b sc (d + 1) M pc lv (a3 :: a2 :: a1 :: rest) h Q := by
  refine Rn.call (rest := rest) hf rfl rfl ?_ h9 hl (Rn.mono kk (fun r h' hq => ?_))
  · simp only [cll]
    rw [if_pos ⟨by simp, by simpa using hr⟩]
    rfl
  · obtain ⟨rfl, hq⟩ := hq
    exact hq
theorem t_S3i {a1 a2 a3 : Value} {M2 : Nat} {rest : List Value} {h : List PE} (hf : fetch M pc = some (.invokestatic i, a0, M2, 3, r3)) (h9 : M2 < 9998) (hl : (lg_sl ([a1, a2, a3] : List Value)).length ≤ mxl M2) (hr : (rest.map Value.category).sum ≤ 8) (kk : Cl b d M2 [a1, a2, a3] h (fun r h' => ∃ x : Int32, r = some (.int x) ∧ Rn b sc (d + 1) M (pc + 3) lv (.int x :: rest) h' Q)) : Rn b sc (d + 1) M pc lv (a3 :: a2 :: a1 :: rest) h Q := by
  refine Rn.call (rest := rest) hf rfl rfl ?_ h9 hl (Rn.mono kk (fun r h' hq => ?_))
  · simp only [cll]
    rw [if_pos ⟨by simp, by simpa using hr⟩]
    rfl
  · obtain ⟨x, rfl, hq⟩ := hq
    exact hq
theorem t_S3l {a1 a2 a3 : Value} {M2 : Nat} {rest : List Value} {h : List PE} (hf : fetch M pc = some (.invokestatic i, a0, M2, 3, r3)) (h9 : M2 < 9998) (hl : (lg_sl ([a1, a2, a3] : List Value)).length ≤ mxl M2) (hr : (rest.map Value.category).sum ≤ 8) (kk : Cl b d M2 [a1, a2, a3] h (fun r h' => ∃ x : Int64, r = some (.long x) ∧ Rn b sc (d + 1) M (pc + 3) lv (.long x :: rest) h' Q)) : Rn b sc (d + 1) M pc lv (a3 :: a2 :: a1 :: rest) h Q := by
  refine Rn.call (rest := rest) hf rfl rfl ?_ h9 hl (Rn.mono kk (fun r h' hq => ?_))
  · simp only [cll]
    rw [if_pos ⟨by simp, by simpa using hr⟩]
    rfl
  · obtain ⟨x, rfl, hq⟩ := hq
    exact hq
theorem t_S3o {a1 a2 a3 : Value} {M2 : Nat} {rest : List Value} {h : List PE} (hf : fetch M pc = some (.invokestatic i, a0, M2, 3, r3)) (h9 : M2 < 9998) (hl : (lg_sl ([a1, a2, a3] : List Value)).length ≤ mxl M2) (hr : (rest.map Value.category).sum ≤ 8) (kk : Cl b d M2 [a1, a2, a3] h (fun r h' => ∃ x : Option Nat, r = some (ov B x) ∧ Rn b sc (d + 1) M (pc + 3) lv (ov B x :: rest) h' Q)) : Rn b sc (d + 1) M pc lv (a3 :: a2 :: a1 :: rest) h Q := by
  refine Rn.call (rest := rest) hf rfl rfl ?_ h9 hl (Rn.mono kk (fun r h' hq => ?_))
  · simp only [cll]
    rw [if_pos ⟨by simp, by simpa using hr⟩]
    rfl
  · obtain ⟨x, rfl, hq⟩ := hq
    exact hq
theorem t_S4v {a1 a2 a3 a4 : Value} {M2 : Nat} {rest : List Value} {h : List PE} (hf : fetch M pc = some (.invokestatic i, a0, M2, 4, r3)) (h9 : M2 < 9998) (hl : (lg_sl ([a1, a2, a3, a4] : List Value)).length ≤ mxl M2) (hr : (rest.map Value.category).sum ≤ 8) (kk : Cl b d M2 [a1, a2, a3, a4] h (fun r h' => r = none ∧ Rn b sc (d + 1) M (pc + 3) lv rest h' Q)) : Rn b sc (d + 1) M pc lv (a4 :: a3 :: a2 :: a1 :: rest) h Q := by
  refine Rn.call (rest := rest) hf rfl rfl ?_ h9 hl (Rn.mono kk (fun r h' hq => ?_))
  · simp only [cll]
    rw [if_pos ⟨by simp, by simpa using hr⟩]
    rfl
  · obtain ⟨rfl, hq⟩ := hq
    exact hq
theorem t_S4i {a1 a2 a3 a4 : Value} {M2 : Nat} {rest : List Value} {h : List PE} (hf : fetch M pc = some (.invokestatic i, a0, M2, 4, r3)) (h9 : M2 < 9998) (hl : (lg_sl ([a1, a2, a3, a4] : List Value)).length ≤ mxl M2) (hr : (rest.map Value.category).sum ≤ 8) (kk : Cl b d M2 [a1, a2, a3, a4] h (fun r h' => ∃ x : Int32, r = some (.int x) ∧ Rn b sc (d + 1) M (pc + 3) lv (.int x :: rest) h' Q)) : Rn b sc (d + 1) M pc lv (a4 :: a3 :: a2 :: a1 :: rest) h Q := by
  refine Rn.call (rest := rest) hf rfl rfl ?_ h9 hl (Rn.mono kk (fun r h' hq => ?_))
  · simp only [cll]
    rw [if_pos ⟨by simp, by simpa using hr⟩]
    rfl
  · obtain ⟨x, rfl, hq⟩ := hq
    exact hq
theorem t_S4l {a1 a2 a3 a4 : Value} {M2 : Nat} {rest : List Value} {h : List PE} (hf : fetch M pc = some (.invokestatic i, a0, M2, 4, r3)) (h9 : M2 < 9998) (hl : (lg_sl ([a1, a2, a3, a4] : List Value)).length ≤ mxl M2) (hr : (rest.map Value.category).sum ≤ 8) (kk : Cl b d M2 [a1, a2, a3, a4] h (fun r h' => ∃ x : Int64, r = some (.long x) ∧ Rn b sc (d + 1) M (pc + 3) lv (.long x :: rest) h' Q)) : Rn b sc (d + 1) M pc lv (a4 :: a3 :: a2 :: a1 :: rest) h Q := by
  refine Rn.call (rest := rest) hf rfl rfl ?_ h9 hl (Rn.mono kk (fun r h' hq => ?_))
  · simp only [cll]
    rw [if_pos ⟨by simp, by simpa using hr⟩]
    rfl
  · obtain ⟨x, rfl, hq⟩ := hq
    exact hq
theorem t_S4o {a1 a2 a3 a4 : Value} {M2 : Nat} {rest : List Value} {h : List PE} (hf : fetch M pc = some (.invokestatic i, a0, M2, 4, r3)) (h9 : M2 < 9998) (hl : (lg_sl ([a1, a2, a3, a4] : List Value)).length ≤ mxl M2) (hr : (rest.map Value.category).sum ≤ 8) (kk : Cl b d M2 [a1, a2, a3, a4] h (fun r h' => ∃ x : Option Nat, r = some (ov B x) ∧ Rn b sc (d + 1) M (pc + 3) lv (ov B x :: rest) h' Q)) : Rn b sc (d + 1) M pc lv (a4 :: a3 :: a2 :: a1 :: rest) h Q := by
  refine Rn.call (rest := rest) hf rfl rfl ?_ h9 hl (Rn.mono kk (fun r h' hq => ?_))
  · simp only [cll]
    rw [if_pos ⟨by simp, by simpa using hr⟩]
    rfl
  · obtain ⟨x, rfl, hq⟩ := hq
    exact hq
theorem t_S5v {a1 a2 a3 a4 a5 : Value} {M2 : Nat} {rest : List Value} {h : List PE} (hf : fetch M pc = some (.invokestatic i, a0, M2, 5, r3)) (h9 : M2 < 9998) (hl : (lg_sl ([a1, a2, a3, a4, a5] : List Value)).length ≤ mxl M2) (hr : (rest.map Value.category).sum ≤ 8) (kk : Cl b d M2 [a1, a2, a3, a4, a5] h (fun r h' => r = none ∧ Rn b sc (d + 1) M (pc + 3) lv rest h' Q)) : Rn b sc (d + 1) M pc lv (a5 :: a4 :: a3 :: a2 :: a1 :: rest) h Q := by
  refine Rn.call (rest := rest) hf rfl rfl ?_ h9 hl (Rn.mono kk (fun r h' hq => ?_))
  · simp only [cll]
    rw [if_pos ⟨by simp, by simpa using hr⟩]
    rfl
  · obtain ⟨rfl, hq⟩ := hq
    exact hq
theorem t_S5i {a1 a2 a3 a4 a5 : Value} {M2 : Nat} {rest : List Value} {h : List PE} (hf : fetch M pc = some (.invokestatic i, a0, M2, 5, r3)) (h9 : M2 < 9998) (hl : (lg_sl ([a1, a2, a3, a4, a5] : List Value)).length ≤ mxl M2) (hr : (rest.map Value.category).sum ≤ 8) (kk : Cl b d M2 [a1, a2, a3, a4, a5] h (fun r h' => ∃ x : Int32, r = some (.int x) ∧ Rn b sc (d + 1) M (pc + 3) lv (.int x :: rest) h' Q)) : Rn b sc (d + 1) M pc lv (a5 :: a4 :: a3 :: a2 :: a1 :: rest) h Q := by
  refine Rn.call (rest := rest) hf rfl rfl ?_ h9 hl (Rn.mono kk (fun r h' hq => ?_))
  · simp only [cll]
    rw [if_pos ⟨by simp, by simpa using hr⟩]
    rfl
  · obtain ⟨x, rfl, hq⟩ := hq
    exact hq
theorem t_S5l {a1 a2 a3 a4 a5 : Value} {M2 : Nat} {rest : List Value} {h : List PE} (hf : fetch M pc = some (.invokestatic i, a0, M2, 5, r3)) (h9 : M2 < 9998) (hl : (lg_sl ([a1, a2, a3, a4, a5] : List Value)).length ≤ mxl M2) (hr : (rest.map Value.category).sum ≤ 8) (kk : Cl b d M2 [a1, a2, a3, a4, a5] h (fun r h' => ∃ x : Int64, r = some (.long x) ∧ Rn b sc (d + 1) M (pc + 3) lv (.long x :: rest) h' Q)) : Rn b sc (d + 1) M pc lv (a5 :: a4 :: a3 :: a2 :: a1 :: rest) h Q := by
  refine Rn.call (rest := rest) hf rfl rfl ?_ h9 hl (Rn.mono kk (fun r h' hq => ?_))
  · simp only [cll]
    rw [if_pos ⟨by simp, by simpa using hr⟩]
    rfl
  · obtain ⟨x, rfl, hq⟩ := hq
    exact hq
theorem t_S5o {a1 a2 a3 a4 a5 : Value} {M2 : Nat} {rest : List Value} {h : List PE} (hf : fetch M pc = some (.invokestatic i, a0, M2, 5, r3)) (h9 : M2 < 9998) (hl : (lg_sl ([a1, a2, a3, a4, a5] : List Value)).length ≤ mxl M2) (hr : (rest.map Value.category).sum ≤ 8) (kk : Cl b d M2 [a1, a2, a3, a4, a5] h (fun r h' => ∃ x : Option Nat, r = some (ov B x) ∧ Rn b sc (d + 1) M (pc + 3) lv (ov B x :: rest) h' Q)) : Rn b sc (d + 1) M pc lv (a5 :: a4 :: a3 :: a2 :: a1 :: rest) h Q := by
  refine Rn.call (rest := rest) hf rfl rfl ?_ h9 hl (Rn.mono kk (fun r h' hq => ?_))
  · simp only [cll]
    rw [if_pos ⟨by simp, by simpa using hr⟩]
    rfl
  · obtain ⟨x, rfl, hq⟩ := hq
    exact hq
theorem t_S6v {a1 a2 a3 a4 a5 a6 : Value} {M2 : Nat} {rest : List Value} {h : List PE} (hf : fetch M pc = some (.invokestatic i, a0, M2, 6, r3)) (h9 : M2 < 9998) (hl : (lg_sl ([a1, a2, a3, a4, a5, a6] : List Value)).length ≤ mxl M2) (hr : (rest.map Value.category).sum ≤ 8) (kk : Cl b d M2 [a1, a2, a3, a4, a5, a6] h (fun r h' => r = none ∧ Rn b sc (d + 1) M (pc + 3) lv rest h' Q)) : Rn b sc (d + 1) M pc lv (a6 :: a5 :: a4 :: a3 :: a2 :: a1 :: rest) h Q := by
  refine Rn.call (rest := rest) hf rfl rfl ?_ h9 hl (Rn.mono kk (fun r h' hq => ?_))
  · simp only [cll]
    rw [if_pos ⟨by simp, by simpa using hr⟩]
    rfl
  · obtain ⟨rfl, hq⟩ := hq
    exact hq
theorem t_S6i {a1 a2 a3 a4 a5 a6 : Value} {M2 : Nat} {rest : List Value} {h : List PE} (hf : fetch M pc = some (.invokestatic i, a0, M2, 6, r3)) (h9 : M2 < 9998) (hl : (lg_sl ([a1, a2, a3, a4, a5, a6] : List Value)).length ≤ mxl M2) (hr : (rest.map Value.category).sum ≤ 8) (kk : Cl b d M2 [a1, a2, a3, a4, a5, a6] h (fun r h' => ∃ x : Int32, r = some (.int x) ∧ Rn b sc (d + 1) M (pc + 3) lv (.int x :: rest) h' Q)) : Rn b sc (d + 1) M pc lv (a6 :: a5 :: a4 :: a3 :: a2 :: a1 :: rest) h Q := by
  refine Rn.call (rest := rest) hf rfl rfl ?_ h9 hl (Rn.mono kk (fun r h' hq => ?_))
  · simp only [cll]
    rw [if_pos ⟨by simp, by simpa using hr⟩]
    rfl
  · obtain ⟨x, rfl, hq⟩ := hq
    exact hq
theorem t_S6l {a1 a2 a3 a4 a5 a6 : Value} {M2 : Nat} {rest : List Value} {h : List PE} (hf : fetch M pc = some (.invokestatic i, a0, M2, 6, r3)) (h9 : M2 < 9998) (hl : (lg_sl ([a1, a2, a3, a4, a5, a6] : List Value)).length ≤ mxl M2) (hr : (rest.map Value.category).sum ≤ 8) (kk : Cl b d M2 [a1, a2, a3, a4, a5, a6] h (fun r h' => ∃ x : Int64, r = some (.long x) ∧ Rn b sc (d + 1) M (pc + 3) lv (.long x :: rest) h' Q)) : Rn b sc (d + 1) M pc lv (a6 :: a5 :: a4 :: a3 :: a2 :: a1 :: rest) h Q := by
  refine Rn.call (rest := rest) hf rfl rfl ?_ h9 hl (Rn.mono kk (fun r h' hq => ?_))
  · simp only [cll]
    rw [if_pos ⟨by simp, by simpa using hr⟩]
    rfl
  · obtain ⟨x, rfl, hq⟩ := hq
    exact hq
theorem t_S6o {a1 a2 a3 a4 a5 a6 : Value} {M2 : Nat} {rest : List Value} {h : List PE} (hf : fetch M pc = some (.invokestatic i, a0, M2, 6, r3)) (h9 : M2 < 9998) (hl : (lg_sl ([a1, a2, a3, a4, a5, a6] : List Value)).length ≤ mxl M2) (hr : (rest.map Value.category).sum ≤ 8) (kk : Cl b d M2 [a1, a2, a3, a4, a5, a6] h (fun r h' => ∃ x : Option Nat, r = some (ov B x) ∧ Rn b sc (d + 1) M (pc + 3) lv (ov B x :: rest) h' Q)) : Rn b sc (d + 1) M pc lv (a6 :: a5 :: a4 :: a3 :: a2 :: a1 :: rest) h Q := by
  refine Rn.call (rest := rest) hf rfl rfl ?_ h9 hl (Rn.mono kk (fun r h' hq => ?_))
  · simp only [cll]
    rw [if_pos ⟨by simp, by simpa using hr⟩]
    rfl
  · obtain ⟨x, rfl, hq⟩ := hq
    exact hq
theorem t_V0v {M2 k c : Nat} {rest : List Value} (hB : B = b + pre.length) (hk : isC shp k c = true) (hm : (k_cl[c]?).map (·.1) = (mts[M2]?).map (·.1.cls)) (hm2 : (mts[M2]?).isSome = true) (hf : fetch M pc = some (.invokevirtual i, a0, M2, 0, r3)) (h9 : M2 < 9998) (hl : (lg_sl ([.ref (B + k)] : List Value)).length ≤ mxl M2) (hr : (rest.map Value.category).sum ≤ 8) (kk : Cl b d M2 [.ref (B + k)] (HH pre tl shp B σ) (fun r h' => r = none ∧ Rn b sc (d + 1) M (pc + 3) lv rest h' Q)) : Rn b sc (d + 1) M pc lv (.ref (B + k) :: rest) (HH pre tl shp B σ) Q := by
  refine Rn.call (rest := rest) hf rfl rfl ?_ h9 hl (Rn.mono kk (fun r h' hq => ?_))
  · obtain ⟨rs, hs, hc⟩ := isC_at hk
    obtain ⟨mi, hmi⟩ := Option.isSome_iff_exists.mp hm2
    rw [hmi] at hm
    simp only [cll, List.drop_succ_cons, List.drop_zero, rd_HH hB hs, fil, hmi]
    rw [if_pos ⟨hm, by simpa using hr⟩]
    rfl
  · obtain ⟨rfl, hq⟩ := hq
    exact hq
theorem t_V0i {M2 k c : Nat} {rest : List Value} (hB : B = b + pre.length) (hk : isC shp k c = true) (hm : (k_cl[c]?).map (·.1) = (mts[M2]?).map (·.1.cls)) (hm2 : (mts[M2]?).isSome = true) (hf : fetch M pc = some (.invokevirtual i, a0, M2, 0, r3)) (h9 : M2 < 9998) (hl : (lg_sl ([.ref (B + k)] : List Value)).length ≤ mxl M2) (hr : (rest.map Value.category).sum ≤ 8) (kk : Cl b d M2 [.ref (B + k)] (HH pre tl shp B σ) (fun r h' => ∃ x : Int32, r = some (.int x) ∧ Rn b sc (d + 1) M (pc + 3) lv (.int x :: rest) h' Q)) : Rn b sc (d + 1) M pc lv (.ref (B + k) :: rest) (HH pre tl shp B σ) Q := by
  refine Rn.call (rest := rest) hf rfl rfl ?_ h9 hl (Rn.mono kk (fun r h' hq => ?_))
  · obtain ⟨rs, hs, hc⟩ := isC_at hk
    obtain ⟨mi, hmi⟩ := Option.isSome_iff_exists.mp hm2
    rw [hmi] at hm
    simp only [cll, List.drop_succ_cons, List.drop_zero, rd_HH hB hs, fil, hmi]
    rw [if_pos ⟨hm, by simpa using hr⟩]
    rfl
  · obtain ⟨x, rfl, hq⟩ := hq
    exact hq
theorem t_V0l {M2 k c : Nat} {rest : List Value} (hB : B = b + pre.length) (hk : isC shp k c = true) (hm : (k_cl[c]?).map (·.1) = (mts[M2]?).map (·.1.cls)) (hm2 : (mts[M2]?).isSome = true) (hf : fetch M pc = some (.invokevirtual i, a0, M2, 0, r3)) (h9 : M2 < 9998) (hl : (lg_sl ([.ref (B + k)] : List Value)).length ≤ mxl M2) (hr : (rest.map Value.category).sum ≤ 8) (kk : Cl b d M2 [.ref (B + k)] (HH pre tl shp B σ) (fun r h' => ∃ x : Int64, r = some (.long x) ∧ Rn b sc (d + 1) M (pc + 3) lv (.long x :: rest) h' Q)) : Rn b sc (d + 1) M pc lv (.ref (B + k) :: rest) (HH pre tl shp B σ) Q := by
  refine Rn.call (rest := rest) hf rfl rfl ?_ h9 hl (Rn.mono kk (fun r h' hq => ?_))
  · obtain ⟨rs, hs, hc⟩ := isC_at hk
    obtain ⟨mi, hmi⟩ := Option.isSome_iff_exists.mp hm2
    rw [hmi] at hm
    simp only [cll, List.drop_succ_cons, List.drop_zero, rd_HH hB hs, fil, hmi]
    rw [if_pos ⟨hm, by simpa using hr⟩]
    rfl
  · obtain ⟨x, rfl, hq⟩ := hq
    exact hq
theorem t_V0o {M2 k c : Nat} {rest : List Value} (hB : B = b + pre.length) (hk : isC shp k c = true) (hm : (k_cl[c]?).map (·.1) = (mts[M2]?).map (·.1.cls)) (hm2 : (mts[M2]?).isSome = true) (hf : fetch M pc = some (.invokevirtual i, a0, M2, 0, r3)) (h9 : M2 < 9998) (hl : (lg_sl ([.ref (B + k)] : List Value)).length ≤ mxl M2) (hr : (rest.map Value.category).sum ≤ 8) (kk : Cl b d M2 [.ref (B + k)] (HH pre tl shp B σ) (fun r h' => ∃ x : Option Nat, r = some (ov B x) ∧ Rn b sc (d + 1) M (pc + 3) lv (ov B x :: rest) h' Q)) : Rn b sc (d + 1) M pc lv (.ref (B + k) :: rest) (HH pre tl shp B σ) Q := by
  refine Rn.call (rest := rest) hf rfl rfl ?_ h9 hl (Rn.mono kk (fun r h' hq => ?_))
  · obtain ⟨rs, hs, hc⟩ := isC_at hk
    obtain ⟨mi, hmi⟩ := Option.isSome_iff_exists.mp hm2
    rw [hmi] at hm
    simp only [cll, List.drop_succ_cons, List.drop_zero, rd_HH hB hs, fil, hmi]
    rw [if_pos ⟨hm, by simpa using hr⟩]
    rfl
  · obtain ⟨x, rfl, hq⟩ := hq
    exact hq
theorem t_V1v {a1 : Value} {M2 k c : Nat} {rest : List Value} (hB : B = b + pre.length) (hk : isC shp k c = true) (hm : (k_cl[c]?).map (·.1) = (mts[M2]?).map (·.1.cls)) (hm2 : (mts[M2]?).isSome = true) (hf : fetch M pc = some (.invokevirtual i, a0, M2, 1, r3)) (h9 : M2 < 9998) (hl : (lg_sl ([.ref (B + k), a1] : List Value)).length ≤ mxl M2) (hr : (rest.map Value.category).sum ≤ 8) (kk : Cl b d M2 [.ref (B + k), a1] (HH pre tl shp B σ) (fun r h' => r = none ∧ Rn b sc (d + 1) M (pc + 3) lv rest h' Q)) : Rn b sc (d + 1) M pc lv (a1 :: .ref (B + k) :: rest) (HH pre tl shp B σ) Q := by
  refine Rn.call (rest := rest) hf rfl rfl ?_ h9 hl (Rn.mono kk (fun r h' hq => ?_))
  · obtain ⟨rs, hs, hc⟩ := isC_at hk
    obtain ⟨mi, hmi⟩ := Option.isSome_iff_exists.mp hm2
    rw [hmi] at hm
    simp only [cll, List.drop_succ_cons, List.drop_zero, rd_HH hB hs, fil, hmi]
    rw [if_pos ⟨hm, by simpa using hr⟩]
    rfl
  · obtain ⟨rfl, hq⟩ := hq
    exact hq
theorem t_V1i {a1 : Value} {M2 k c : Nat} {rest : List Value} (hB : B = b + pre.length) (hk : isC shp k c = true) (hm : (k_cl[c]?).map (·.1) = (mts[M2]?).map (·.1.cls)) (hm2 : (mts[M2]?).isSome = true) (hf : fetch M pc = some (.invokevirtual i, a0, M2, 1, r3)) (h9 : M2 < 9998) (hl : (lg_sl ([.ref (B + k), a1] : List Value)).length ≤ mxl M2) (hr : (rest.map Value.category).sum ≤ 8) (kk : Cl b d M2 [.ref (B + k), a1] (HH pre tl shp B σ) (fun r h' => ∃ x : Int32, r = some (.int x) ∧ Rn b sc (d + 1) M (pc + 3) lv (.int x :: rest) h' Q)) : Rn b sc (d + 1) M pc lv (a1 :: .ref (B + k) :: rest) (HH pre tl shp B σ) Q := by
  refine Rn.call (rest := rest) hf rfl rfl ?_ h9 hl (Rn.mono kk (fun r h' hq => ?_))
  · obtain ⟨rs, hs, hc⟩ := isC_at hk
    obtain ⟨mi, hmi⟩ := Option.isSome_iff_exists.mp hm2
    rw [hmi] at hm
    simp only [cll, List.drop_succ_cons, List.drop_zero, rd_HH hB hs, fil, hmi]
    rw [if_pos ⟨hm, by simpa using hr⟩]
    rfl
  · obtain ⟨x, rfl, hq⟩ := hq
    exact hq
theorem t_V1l {a1 : Value} {M2 k c : Nat} {rest : List Value} (hB : B = b + pre.length) (hk : isC shp k c = true) (hm : (k_cl[c]?).map (·.1) = (mts[M2]?).map (·.1.cls)) (hm2 : (mts[M2]?).isSome = true) (hf : fetch M pc = some (.invokevirtual i, a0, M2, 1, r3)) (h9 : M2 < 9998) (hl : (lg_sl ([.ref (B + k), a1] : List Value)).length ≤ mxl M2) (hr : (rest.map Value.category).sum ≤ 8) (kk : Cl b d M2 [.ref (B + k), a1] (HH pre tl shp B σ) (fun r h' => ∃ x : Int64, r = some (.long x) ∧ Rn b sc (d + 1) M (pc + 3) lv (.long x :: rest) h' Q)) : Rn b sc (d + 1) M pc lv (a1 :: .ref (B + k) :: rest) (HH pre tl shp B σ) Q := by
  refine Rn.call (rest := rest) hf rfl rfl ?_ h9 hl (Rn.mono kk (fun r h' hq => ?_))
  · obtain ⟨rs, hs, hc⟩ := isC_at hk
    obtain ⟨mi, hmi⟩ := Option.isSome_iff_exists.mp hm2
    rw [hmi] at hm
    simp only [cll, List.drop_succ_cons, List.drop_zero, rd_HH hB hs, fil, hmi]
    rw [if_pos ⟨hm, by simpa using hr⟩]
    rfl
  · obtain ⟨x, rfl, hq⟩ := hq
    exact hq
theorem t_V1o {a1 : Value} {M2 k c : Nat} {rest : List Value} (hB : B = b + pre.length) (hk : isC shp k c = true) (hm : (k_cl[c]?).map (·.1) = (mts[M2]?).map (·.1.cls)) (hm2 : (mts[M2]?).isSome = true) (hf : fetch M pc = some (.invokevirtual i, a0, M2, 1, r3)) (h9 : M2 < 9998) (hl : (lg_sl ([.ref (B + k), a1] : List Value)).length ≤ mxl M2) (hr : (rest.map Value.category).sum ≤ 8) (kk : Cl b d M2 [.ref (B + k), a1] (HH pre tl shp B σ) (fun r h' => ∃ x : Option Nat, r = some (ov B x) ∧ Rn b sc (d + 1) M (pc + 3) lv (ov B x :: rest) h' Q)) : Rn b sc (d + 1) M pc lv (a1 :: .ref (B + k) :: rest) (HH pre tl shp B σ) Q := by
  refine Rn.call (rest := rest) hf rfl rfl ?_ h9 hl (Rn.mono kk (fun r h' hq => ?_))
  · obtain ⟨rs, hs, hc⟩ := isC_at hk
    obtain ⟨mi, hmi⟩ := Option.isSome_iff_exists.mp hm2
    rw [hmi] at hm
    simp only [cll, List.drop_succ_cons, List.drop_zero, rd_HH hB hs, fil, hmi]
    rw [if_pos ⟨hm, by simpa using hr⟩]
    rfl
  · obtain ⟨x, rfl, hq⟩ := hq
    exact hq
theorem t_V2v {a1 a2 : Value} {M2 k c : Nat} {rest : List Value} (hB : B = b + pre.length) (hk : isC shp k c = true) (hm : (k_cl[c]?).map (·.1) = (mts[M2]?).map (·.1.cls)) (hm2 : (mts[M2]?).isSome = true) (hf : fetch M pc = some (.invokevirtual i, a0, M2, 2, r3)) (h9 : M2 < 9998) (hl : (lg_sl ([.ref (B + k), a1, a2] : List Value)).length ≤ mxl M2) (hr : (rest.map Value.category).sum ≤ 8) (kk : Cl b d M2 [.ref (B + k), a1, a2] (HH pre tl shp B σ) (fun r h' => r = none ∧ Rn b sc (d + 1) M (pc + 3) lv rest h' Q)) : Rn b sc (d + 1) M pc lv (a2 :: a1 :: .ref (B + k) :: rest) (HH pre tl shp B σ) Q := by
  refine Rn.call (rest := rest) hf rfl rfl ?_ h9 hl (Rn.mono kk (fun r h' hq => ?_))
  · obtain ⟨rs, hs, hc⟩ := isC_at hk
    obtain ⟨mi, hmi⟩ := Option.isSome_iff_exists.mp hm2
    rw [hmi] at hm
    simp only [cll, List.drop_succ_cons, List.drop_zero, rd_HH hB hs, fil, hmi]
    rw [if_pos ⟨hm, by simpa using hr⟩]
    rfl
  · obtain ⟨rfl, hq⟩ := hq
    exact hq
theorem t_V2i {a1 a2 : Value} {M2 k c : Nat} {rest : List Value} (hB : B = b + pre.length) (hk : isC shp k c = true) (hm : (k_cl[c]?).map (·.1) = (mts[M2]?).map (·.1.cls)) (hm2 : (mts[M2]?).isSome = true) (hf : fetch M pc = some (.invokevirtual i, a0, M2, 2, r3)) (h9 : M2 < 9998) (hl : (lg_sl ([.ref (B + k), a1, a2] : List Value)).length ≤ mxl M2) (hr : (rest.map Value.category).sum ≤ 8) (kk : Cl b d M2 [.ref (B + k), a1, a2] (HH pre tl shp B σ) (fun r h' => ∃ x : Int32, r = some (.int x) ∧ Rn b sc (d + 1) M (pc + 3) lv (.int x :: rest) h' Q)) : Rn b sc (d + 1) M pc lv (a2 :: a1 :: .ref (B + k) :: rest) (HH pre tl shp B σ) Q := by
  refine Rn.call (rest := rest) hf rfl rfl ?_ h9 hl (Rn.mono kk (fun r h' hq => ?_))
  · obtain ⟨rs, hs, hc⟩ := isC_at hk
    obtain ⟨mi, hmi⟩ := Option.isSome_iff_exists.mp hm2
    rw [hmi] at hm
    simp only [cll, List.drop_succ_cons, List.drop_zero, rd_HH hB hs, fil, hmi]
    rw [if_pos ⟨hm, by simpa using hr⟩]
    rfl
  · obtain ⟨x, rfl, hq⟩ := hq
    exact hq
theorem t_V2l {a1 a2 : Value} {M2 k c : Nat} {rest : List Value} (hB : B = b + pre.length) (hk : isC shp k c = true) (hm : (k_cl[c]?).map (·.1) = (mts[M2]?).map (·.1.cls)) (hm2 : (mts[M2]?).isSome = true) (hf : fetch M pc = some (.invokevirtual i, a0, M2, 2, r3)) (h9 : M2 < 9998) (hl : (lg_sl ([.ref (B + k), a1, a2] : List Value)).length ≤ mxl M2) (hr : (rest.map Value.category).sum ≤ 8) (kk : Cl b d M2 [.ref (B + k), a1, a2] (HH pre tl shp B σ) (fun r h' => ∃ x : Int64, r = some (.long x) ∧ Rn b sc (d + 1) M (pc + 3) lv (.long x :: rest) h' Q)) : Rn b sc (d + 1) M pc lv (a2 :: a1 :: .ref (B + k) :: rest) (HH pre tl shp B σ) Q := by
  refine Rn.call (rest := rest) hf rfl rfl ?_ h9 hl (Rn.mono kk (fun r h' hq => ?_))
  · obtain ⟨rs, hs, hc⟩ := isC_at hk
    obtain ⟨mi, hmi⟩ := Option.isSome_iff_exists.mp hm2
    rw [hmi] at hm
    simp only [cll, List.drop_succ_cons, List.drop_zero, rd_HH hB hs, fil, hmi]
    rw [if_pos ⟨hm, by simpa using hr⟩]
    rfl
  · obtain ⟨x, rfl, hq⟩ := hq
    exact hq
theorem t_V2o {a1 a2 : Value} {M2 k c : Nat} {rest : List Value} (hB : B = b + pre.length) (hk : isC shp k c = true) (hm : (k_cl[c]?).map (·.1) = (mts[M2]?).map (·.1.cls)) (hm2 : (mts[M2]?).isSome = true) (hf : fetch M pc = some (.invokevirtual i, a0, M2, 2, r3)) (h9 : M2 < 9998) (hl : (lg_sl ([.ref (B + k), a1, a2] : List Value)).length ≤ mxl M2) (hr : (rest.map Value.category).sum ≤ 8) (kk : Cl b d M2 [.ref (B + k), a1, a2] (HH pre tl shp B σ) (fun r h' => ∃ x : Option Nat, r = some (ov B x) ∧ Rn b sc (d + 1) M (pc + 3) lv (ov B x :: rest) h' Q)) : Rn b sc (d + 1) M pc lv (a2 :: a1 :: .ref (B + k) :: rest) (HH pre tl shp B σ) Q := by
  refine Rn.call (rest := rest) hf rfl rfl ?_ h9 hl (Rn.mono kk (fun r h' hq => ?_))
  · obtain ⟨rs, hs, hc⟩ := isC_at hk
    obtain ⟨mi, hmi⟩ := Option.isSome_iff_exists.mp hm2
    rw [hmi] at hm
    simp only [cll, List.drop_succ_cons, List.drop_zero, rd_HH hB hs, fil, hmi]
    rw [if_pos ⟨hm, by simpa using hr⟩]
    rfl
  · obtain ⟨x, rfl, hq⟩ := hq
    exact hq
theorem t_V3v {a1 a2 a3 : Value} {M2 k c : Nat} {rest : List Value} (hB : B = b + pre.length) (hk : isC shp k c = true) (hm : (k_cl[c]?).map (·.1) = (mts[M2]?).map (·.1.cls)) (hm2 : (mts[M2]?).isSome = true) (hf : fetch M pc = some (.invokevirtual i, a0, M2, 3, r3)) (h9 : M2 < 9998) (hl : (lg_sl ([.ref (B + k), a1, a2, a3] : List Value)).length ≤ mxl M2) (hr : (rest.map Value.category).sum ≤ 8) (kk : Cl b d M2 [.ref (B + k), a1, a2, a3] (HH pre tl shp B σ) (fun r h' => r = none ∧ Rn b sc (d + 1) M (pc + 3) lv rest h' Q)) : Rn b sc (d + 1) M pc lv (a3 :: a2 :: a1 :: .ref (B + k) :: rest) (HH pre tl shp B σ) Q := by
  refine Rn.call (rest := rest) hf rfl rfl ?_ h9 hl (Rn.mono kk (fun r h' hq => ?_))
  · obtain ⟨rs, hs, hc⟩ := isC_at hk
    obtain ⟨mi, hmi⟩ := Option.isSome_iff_exists.mp hm2
    rw [hmi] at hm
    simp only [cll, List.drop_succ_cons, List.drop_zero, rd_HH hB hs, fil, hmi]
    rw [if_pos ⟨hm, by simpa using hr⟩]
    rfl
  · obtain ⟨rfl, hq⟩ := hq
    exact hq
theorem t_V3i {a1 a2 a3 : Value} {M2 k c : Nat} {rest : List Value} (hB : B = b + pre.length) (hk : isC shp k c = true) (hm : (k_cl[c]?).map (·.1) = (mts[M2]?).map (·.1.cls)) (hm2 : (mts[M2]?).isSome = true) (hf : fetch M pc = some (.invokevirtual i, a0, M2, 3, r3)) (h9 : M2 < 9998) (hl : (lg_sl ([.ref (B + k), a1, a2, a3] : List Value)).length ≤ mxl M2) (hr : (rest.map Value.category).sum ≤ 8) (kk : Cl b d M2 [.ref (B + k), a1, a2, a3] (HH pre tl shp B σ) (fun r h' => ∃ x : Int32, r = some (.int x) ∧ Rn b sc (d + 1) M (pc + 3) lv (.int x :: rest) h' Q)) : Rn b sc (d + 1) M pc lv (a3 :: a2 :: a1 :: .ref (B + k) :: rest) (HH pre tl shp B σ) Q := by
  refine Rn.call (rest := rest) hf rfl rfl ?_ h9 hl (Rn.mono kk (fun r h' hq => ?_))
  · obtain ⟨rs, hs, hc⟩ := isC_at hk
    obtain ⟨mi, hmi⟩ := Option.isSome_iff_exists.mp hm2
    rw [hmi] at hm
    simp only [cll, List.drop_succ_cons, List.drop_zero, rd_HH hB hs, fil, hmi]
    rw [if_pos ⟨hm, by simpa using hr⟩]
    rfl
  · obtain ⟨x, rfl, hq⟩ := hq
    exact hq
theorem t_V3l {a1 a2 a3 : Value} {M2 k c : Nat} {rest : List Value} (hB : B = b + pre.length) (hk : isC shp k c = true) (hm : (k_cl[c]?).map (·.1) = (mts[M2]?).map (·.1.cls)) (hm2 : (mts[M2]?).isSome = true) (hf : fetch M pc = some (.invokevirtual i, a0, M2, 3, r3)) (h9 : M2 < 9998) (hl : (lg_sl ([.ref (B + k), a1, a2, a3] : List Value)).length ≤ mxl M2) (hr : (rest.map Value.category).sum ≤ 8) (kk : Cl b d M2 [.ref (B + k), a1, a2, a3] (HH pre tl shp B σ) (fun r h' => ∃ x : Int64, r = some (.long x) ∧ Rn b sc (d + 1) M (pc + 3) lv (.long x :: rest) h' Q)) : Rn b sc (d + 1) M pc lv (a3 :: a2 :: a1 :: .ref (B + k) :: rest) (HH pre tl shp B σ) Q := by
  refine Rn.call (rest := rest) hf rfl rfl ?_ h9 hl (Rn.mono kk (fun r h' hq => ?_))
  · obtain ⟨rs, hs, hc⟩ := isC_at hk
    obtain ⟨mi, hmi⟩ := Option.isSome_iff_exists.mp hm2
    rw [hmi] at hm
    simp only [cll, List.drop_succ_cons, List.drop_zero, rd_HH hB hs, fil, hmi]
    rw [if_pos ⟨hm, by simpa using hr⟩]
    rfl
  · obtain ⟨x, rfl, hq⟩ := hq
    exact hq
theorem t_V3o {a1 a2 a3 : Value} {M2 k c : Nat} {rest : List Value} (hB : B = b + pre.length) (hk : isC shp k c = true) (hm : (k_cl[c]?).map (·.1) = (mts[M2]?).map (·.1.cls)) (hm2 : (mts[M2]?).isSome = true) (hf : fetch M pc = some (.invokevirtual i, a0, M2, 3, r3)) (h9 : M2 < 9998) (hl : (lg_sl ([.ref (B + k), a1, a2, a3] : List Value)).length ≤ mxl M2) (hr : (rest.map Value.category).sum ≤ 8) (kk : Cl b d M2 [.ref (B + k), a1, a2, a3] (HH pre tl shp B σ) (fun r h' => ∃ x : Option Nat, r = some (ov B x) ∧ Rn b sc (d + 1) M (pc + 3) lv (ov B x :: rest) h' Q)) : Rn b sc (d + 1) M pc lv (a3 :: a2 :: a1 :: .ref (B + k) :: rest) (HH pre tl shp B σ) Q := by
  refine Rn.call (rest := rest) hf rfl rfl ?_ h9 hl (Rn.mono kk (fun r h' hq => ?_))
  · obtain ⟨rs, hs, hc⟩ := isC_at hk
    obtain ⟨mi, hmi⟩ := Option.isSome_iff_exists.mp hm2
    rw [hmi] at hm
    simp only [cll, List.drop_succ_cons, List.drop_zero, rd_HH hB hs, fil, hmi]
    rw [if_pos ⟨hm, by simpa using hr⟩]
    rfl
  · obtain ⟨x, rfl, hq⟩ := hq
    exact hq
theorem t_V4v {a1 a2 a3 a4 : Value} {M2 k c : Nat} {rest : List Value} (hB : B = b + pre.length) (hk : isC shp k c = true) (hm : (k_cl[c]?).map (·.1) = (mts[M2]?).map (·.1.cls)) (hm2 : (mts[M2]?).isSome = true) (hf : fetch M pc = some (.invokevirtual i, a0, M2, 4, r3)) (h9 : M2 < 9998) (hl : (lg_sl ([.ref (B + k), a1, a2, a3, a4] : List Value)).length ≤ mxl M2) (hr : (rest.map Value.category).sum ≤ 8) (kk : Cl b d M2 [.ref (B + k), a1, a2, a3, a4] (HH pre tl shp B σ) (fun r h' => r = none ∧ Rn b sc (d + 1) M (pc + 3) lv rest h' Q)) : Rn b sc (d + 1) M pc lv (a4 :: a3 :: a2 :: a1 :: .ref (B + k) :: rest) (HH pre tl shp B σ) Q := by
  refine Rn.call (rest := rest) hf rfl rfl ?_ h9 hl (Rn.mono kk (fun r h' hq => ?_))
  · obtain ⟨rs, hs, hc⟩ := isC_at hk
    obtain ⟨mi, hmi⟩ := Option.isSome_iff_exists.mp hm2
    rw [hmi] at hm
    simp only [cll, List.drop_succ_cons, List.drop_zero, rd_HH hB hs, fil, hmi]
    rw [if_pos ⟨hm, by simpa using hr⟩]
    rfl
  · obtain ⟨rfl, hq⟩ := hq
    exact hq
theorem t_V4i {a1 a2 a3 a4 : Value} {M2 k c : Nat} {rest : List Value} (hB : B = b + pre.length) (hk : isC shp k c = true) (hm : (k_cl[c]?).map (·.1) = (mts[M2]?).map (·.1.cls)) (hm2 : (mts[M2]?).isSome = true) (hf : fetch M pc = some (.invokevirtual i, a0, M2, 4, r3)) (h9 : M2 < 9998) (hl : (lg_sl ([.ref (B + k), a1, a2, a3, a4] : List Value)).length ≤ mxl M2) (hr : (rest.map Value.category).sum ≤ 8) (kk : Cl b d M2 [.ref (B + k), a1, a2, a3, a4] (HH pre tl shp B σ) (fun r h' => ∃ x : Int32, r = some (.int x) ∧ Rn b sc (d + 1) M (pc + 3) lv (.int x :: rest) h' Q)) : Rn b sc (d + 1) M pc lv (a4 :: a3 :: a2 :: a1 :: .ref (B + k) :: rest) (HH pre tl shp B σ) Q := by
  refine Rn.call (rest := rest) hf rfl rfl ?_ h9 hl (Rn.mono kk (fun r h' hq => ?_))
  · obtain ⟨rs, hs, hc⟩ := isC_at hk
    obtain ⟨mi, hmi⟩ := Option.isSome_iff_exists.mp hm2
    rw [hmi] at hm
    simp only [cll, List.drop_succ_cons, List.drop_zero, rd_HH hB hs, fil, hmi]
    rw [if_pos ⟨hm, by simpa using hr⟩]
    rfl
  · obtain ⟨x, rfl, hq⟩ := hq
    exact hq
theorem t_V4l {a1 a2 a3 a4 : Value} {M2 k c : Nat} {rest : List Value} (hB : B = b + pre.length) (hk : isC shp k c = true) (hm : (k_cl[c]?).map (·.1) = (mts[M2]?).map (·.1.cls)) (hm2 : (mts[M2]?).isSome = true) (hf : fetch M pc = some (.invokevirtual i, a0, M2, 4, r3)) (h9 : M2 < 9998) (hl : (lg_sl ([.ref (B + k), a1, a2, a3, a4] : List Value)).length ≤ mxl M2) (hr : (rest.map Value.category).sum ≤ 8) (kk : Cl b d M2 [.ref (B + k), a1, a2, a3, a4] (HH pre tl shp B σ) (fun r h' => ∃ x : Int64, r = some (.long x) ∧ Rn b sc (d + 1) M (pc + 3) lv (.long x :: rest) h' Q)) : Rn b sc (d + 1) M pc lv (a4 :: a3 :: a2 :: a1 :: .ref (B + k) :: rest) (HH pre tl shp B σ) Q := by
  refine Rn.call (rest := rest) hf rfl rfl ?_ h9 hl (Rn.mono kk (fun r h' hq => ?_))
  · obtain ⟨rs, hs, hc⟩ := isC_at hk
    obtain ⟨mi, hmi⟩ := Option.isSome_iff_exists.mp hm2
    rw [hmi] at hm
    simp only [cll, List.drop_succ_cons, List.drop_zero, rd_HH hB hs, fil, hmi]
    rw [if_pos ⟨hm, by simpa using hr⟩]
    rfl
  · obtain ⟨x, rfl, hq⟩ := hq
    exact hq
theorem t_V4o {a1 a2 a3 a4 : Value} {M2 k c : Nat} {rest : List Value} (hB : B = b + pre.length) (hk : isC shp k c = true) (hm : (k_cl[c]?).map (·.1) = (mts[M2]?).map (·.1.cls)) (hm2 : (mts[M2]?).isSome = true) (hf : fetch M pc = some (.invokevirtual i, a0, M2, 4, r3)) (h9 : M2 < 9998) (hl : (lg_sl ([.ref (B + k), a1, a2, a3, a4] : List Value)).length ≤ mxl M2) (hr : (rest.map Value.category).sum ≤ 8) (kk : Cl b d M2 [.ref (B + k), a1, a2, a3, a4] (HH pre tl shp B σ) (fun r h' => ∃ x : Option Nat, r = some (ov B x) ∧ Rn b sc (d + 1) M (pc + 3) lv (ov B x :: rest) h' Q)) : Rn b sc (d + 1) M pc lv (a4 :: a3 :: a2 :: a1 :: .ref (B + k) :: rest) (HH pre tl shp B σ) Q := by
  refine Rn.call (rest := rest) hf rfl rfl ?_ h9 hl (Rn.mono kk (fun r h' hq => ?_))
  · obtain ⟨rs, hs, hc⟩ := isC_at hk
    obtain ⟨mi, hmi⟩ := Option.isSome_iff_exists.mp hm2
    rw [hmi] at hm
    simp only [cll, List.drop_succ_cons, List.drop_zero, rd_HH hB hs, fil, hmi]
    rw [if_pos ⟨hm, by simpa using hr⟩]
    rfl
  · obtain ⟨x, rfl, hq⟩ := hq
    exact hq
theorem t_V5v {a1 a2 a3 a4 a5 : Value} {M2 k c : Nat} {rest : List Value} (hB : B = b + pre.length) (hk : isC shp k c = true) (hm : (k_cl[c]?).map (·.1) = (mts[M2]?).map (·.1.cls)) (hm2 : (mts[M2]?).isSome = true) (hf : fetch M pc = some (.invokevirtual i, a0, M2, 5, r3)) (h9 : M2 < 9998) (hl : (lg_sl ([.ref (B + k), a1, a2, a3, a4, a5] : List Value)).length ≤ mxl M2) (hr : (rest.map Value.category).sum ≤ 8) (kk : Cl b d M2 [.ref (B + k), a1, a2, a3, a4, a5] (HH pre tl shp B σ) (fun r h' => r = none ∧ Rn b sc (d + 1) M (pc + 3) lv rest h' Q)) : Rn b sc (d + 1) M pc lv (a5 :: a4 :: a3 :: a2 :: a1 :: .ref (B + k) :: rest) (HH pre tl shp B σ) Q := by
  refine Rn.call (rest := rest) hf rfl rfl ?_ h9 hl (Rn.mono kk (fun r h' hq => ?_))
  · obtain ⟨rs, hs, hc⟩ := isC_at hk
    obtain ⟨mi, hmi⟩ := Option.isSome_iff_exists.mp hm2
    rw [hmi] at hm
    simp only [cll, List.drop_succ_cons, List.drop_zero, rd_HH hB hs, fil, hmi]
    rw [if_pos ⟨hm, by simpa using hr⟩]
    rfl
  · obtain ⟨rfl, hq⟩ := hq
    exact hq
theorem t_V5i {a1 a2 a3 a4 a5 : Value} {M2 k c : Nat} {rest : List Value} (hB : B = b + pre.length) (hk : isC shp k c = true) (hm : (k_cl[c]?).map (·.1) = (mts[M2]?).map (·.1.cls)) (hm2 : (mts[M2]?).isSome = true) (hf : fetch M pc = some (.invokevirtual i, a0, M2, 5, r3)) (h9 : M2 < 9998) (hl : (lg_sl ([.ref (B + k), a1, a2, a3, a4, a5] : List Value)).length ≤ mxl M2) (hr : (rest.map Value.category).sum ≤ 8) (kk : Cl b d M2 [.ref (B + k), a1, a2, a3, a4, a5] (HH pre tl shp B σ) (fun r h' => ∃ x : Int32, r = some (.int x) ∧ Rn b sc (d + 1) M (pc + 3) lv (.int x :: rest) h' Q)) : Rn b sc (d + 1) M pc lv (a5 :: a4 :: a3 :: a2 :: a1 :: .ref (B + k) :: rest) (HH pre tl shp B σ) Q := by
  refine Rn.call (rest := rest) hf rfl rfl ?_ h9 hl (Rn.mono kk (fun r h' hq => ?_))
  · obtain ⟨rs, hs, hc⟩ := isC_at hk
    obtain ⟨mi, hmi⟩ := Option.isSome_iff_exists.mp hm2
    rw [hmi] at hm
    simp only [cll, List.drop_succ_cons, List.drop_zero, rd_HH hB hs, fil, hmi]
    rw [if_pos ⟨hm, by simpa using hr⟩]
    rfl
  · obtain ⟨x, rfl, hq⟩ := hq
    exact hq
theorem t_V5l {a1 a2 a3 a4 a5 : Value} {M2 k c : Nat} {rest : List Value} (hB : B = b + pre.length) (hk : isC shp k c = true) (hm : (k_cl[c]?).map (·.1) = (mts[M2]?).map (·.1.cls)) (hm2 : (mts[M2]?).isSome = true) (hf : fetch M pc = some (.invokevirtual i, a0, M2, 5, r3)) (h9 : M2 < 9998) (hl : (lg_sl ([.ref (B + k), a1, a2, a3, a4, a5] : List Value)).length ≤ mxl M2) (hr : (rest.map Value.category).sum ≤ 8) (kk : Cl b d M2 [.ref (B + k), a1, a2, a3, a4, a5] (HH pre tl shp B σ) (fun r h' => ∃ x : Int64, r = some (.long x) ∧ Rn b sc (d + 1) M (pc + 3) lv (.long x :: rest) h' Q)) : Rn b sc (d + 1) M pc lv (a5 :: a4 :: a3 :: a2 :: a1 :: .ref (B + k) :: rest) (HH pre tl shp B σ) Q := by
  refine Rn.call (rest := rest) hf rfl rfl ?_ h9 hl (Rn.mono kk (fun r h' hq => ?_))
  · obtain ⟨rs, hs, hc⟩ := isC_at hk
    obtain ⟨mi, hmi⟩ := Option.isSome_iff_exists.mp hm2
    rw [hmi] at hm
    simp only [cll, List.drop_succ_cons, List.drop_zero, rd_HH hB hs, fil, hmi]
    rw [if_pos ⟨hm, by simpa using hr⟩]
    rfl
  · obtain ⟨x, rfl, hq⟩ := hq
    exact hq
theorem t_V5o {a1 a2 a3 a4 a5 : Value} {M2 k c : Nat} {rest : List Value} (hB : B = b + pre.length) (hk : isC shp k c = true) (hm : (k_cl[c]?).map (·.1) = (mts[M2]?).map (·.1.cls)) (hm2 : (mts[M2]?).isSome = true) (hf : fetch M pc = some (.invokevirtual i, a0, M2, 5, r3)) (h9 : M2 < 9998) (hl : (lg_sl ([.ref (B + k), a1, a2, a3, a4, a5] : List Value)).length ≤ mxl M2) (hr : (rest.map Value.category).sum ≤ 8) (kk : Cl b d M2 [.ref (B + k), a1, a2, a3, a4, a5] (HH pre tl shp B σ) (fun r h' => ∃ x : Option Nat, r = some (ov B x) ∧ Rn b sc (d + 1) M (pc + 3) lv (ov B x :: rest) h' Q)) : Rn b sc (d + 1) M pc lv (a5 :: a4 :: a3 :: a2 :: a1 :: .ref (B + k) :: rest) (HH pre tl shp B σ) Q := by
  refine Rn.call (rest := rest) hf rfl rfl ?_ h9 hl (Rn.mono kk (fun r h' hq => ?_))
  · obtain ⟨rs, hs, hc⟩ := isC_at hk
    obtain ⟨mi, hmi⟩ := Option.isSome_iff_exists.mp hm2
    rw [hmi] at hm
    simp only [cll, List.drop_succ_cons, List.drop_zero, rd_HH hB hs, fil, hmi]
    rw [if_pos ⟨hm, by simpa using hr⟩]
    rfl
  · obtain ⟨x, rfl, hq⟩ := hq
    exact hq
theorem t_V6v {a1 a2 a3 a4 a5 a6 : Value} {M2 k c : Nat} {rest : List Value} (hB : B = b + pre.length) (hk : isC shp k c = true) (hm : (k_cl[c]?).map (·.1) = (mts[M2]?).map (·.1.cls)) (hm2 : (mts[M2]?).isSome = true) (hf : fetch M pc = some (.invokevirtual i, a0, M2, 6, r3)) (h9 : M2 < 9998) (hl : (lg_sl ([.ref (B + k), a1, a2, a3, a4, a5, a6] : List Value)).length ≤ mxl M2) (hr : (rest.map Value.category).sum ≤ 8) (kk : Cl b d M2 [.ref (B + k), a1, a2, a3, a4, a5, a6] (HH pre tl shp B σ) (fun r h' => r = none ∧ Rn b sc (d + 1) M (pc + 3) lv rest h' Q)) : Rn b sc (d + 1) M pc lv (a6 :: a5 :: a4 :: a3 :: a2 :: a1 :: .ref (B + k) :: rest) (HH pre tl shp B σ) Q := by
  refine Rn.call (rest := rest) hf rfl rfl ?_ h9 hl (Rn.mono kk (fun r h' hq => ?_))
  · obtain ⟨rs, hs, hc⟩ := isC_at hk
    obtain ⟨mi, hmi⟩ := Option.isSome_iff_exists.mp hm2
    rw [hmi] at hm
    simp only [cll, List.drop_succ_cons, List.drop_zero, rd_HH hB hs, fil, hmi]
    rw [if_pos ⟨hm, by simpa using hr⟩]
    rfl
  · obtain ⟨rfl, hq⟩ := hq
    exact hq
theorem t_V6i {a1 a2 a3 a4 a5 a6 : Value} {M2 k c : Nat} {rest : List Value} (hB : B = b + pre.length) (hk : isC shp k c = true) (hm : (k_cl[c]?).map (·.1) = (mts[M2]?).map (·.1.cls)) (hm2 : (mts[M2]?).isSome = true) (hf : fetch M pc = some (.invokevirtual i, a0, M2, 6, r3)) (h9 : M2 < 9998) (hl : (lg_sl ([.ref (B + k), a1, a2, a3, a4, a5, a6] : List Value)).length ≤ mxl M2) (hr : (rest.map Value.category).sum ≤ 8) (kk : Cl b d M2 [.ref (B + k), a1, a2, a3, a4, a5, a6] (HH pre tl shp B σ) (fun r h' => ∃ x : Int32, r = some (.int x) ∧ Rn b sc (d + 1) M (pc + 3) lv (.int x :: rest) h' Q)) : Rn b sc (d + 1) M pc lv (a6 :: a5 :: a4 :: a3 :: a2 :: a1 :: .ref (B + k) :: rest) (HH pre tl shp B σ) Q := by
  refine Rn.call (rest := rest) hf rfl rfl ?_ h9 hl (Rn.mono kk (fun r h' hq => ?_))
  · obtain ⟨rs, hs, hc⟩ := isC_at hk
    obtain ⟨mi, hmi⟩ := Option.isSome_iff_exists.mp hm2
    rw [hmi] at hm
    simp only [cll, List.drop_succ_cons, List.drop_zero, rd_HH hB hs, fil, hmi]
    rw [if_pos ⟨hm, by simpa using hr⟩]
    rfl
  · obtain ⟨x, rfl, hq⟩ := hq
    exact hq
theorem t_V6l {a1 a2 a3 a4 a5 a6 : Value} {M2 k c : Nat} {rest : List Value} (hB : B = b + pre.length) (hk : isC shp k c = true) (hm : (k_cl[c]?).map (·.1) = (mts[M2]?).map (·.1.cls)) (hm2 : (mts[M2]?).isSome = true) (hf : fetch M pc = some (.invokevirtual i, a0, M2, 6, r3)) (h9 : M2 < 9998) (hl : (lg_sl ([.ref (B + k), a1, a2, a3, a4, a5, a6] : List Value)).length ≤ mxl M2) (hr : (rest.map Value.category).sum ≤ 8) (kk : Cl b d M2 [.ref (B + k), a1, a2, a3, a4, a5, a6] (HH pre tl shp B σ) (fun r h' => ∃ x : Int64, r = some (.long x) ∧ Rn b sc (d + 1) M (pc + 3) lv (.long x :: rest) h' Q)) : Rn b sc (d + 1) M pc lv (a6 :: a5 :: a4 :: a3 :: a2 :: a1 :: .ref (B + k) :: rest) (HH pre tl shp B σ) Q := by
  refine Rn.call (rest := rest) hf rfl rfl ?_ h9 hl (Rn.mono kk (fun r h' hq => ?_))
  · obtain ⟨rs, hs, hc⟩ := isC_at hk
    obtain ⟨mi, hmi⟩ := Option.isSome_iff_exists.mp hm2
    rw [hmi] at hm
    simp only [cll, List.drop_succ_cons, List.drop_zero, rd_HH hB hs, fil, hmi]
    rw [if_pos ⟨hm, by simpa using hr⟩]
    rfl
  · obtain ⟨x, rfl, hq⟩ := hq
    exact hq
theorem t_V6o {a1 a2 a3 a4 a5 a6 : Value} {M2 k c : Nat} {rest : List Value} (hB : B = b + pre.length) (hk : isC shp k c = true) (hm : (k_cl[c]?).map (·.1) = (mts[M2]?).map (·.1.cls)) (hm2 : (mts[M2]?).isSome = true) (hf : fetch M pc = some (.invokevirtual i, a0, M2, 6, r3)) (h9 : M2 < 9998) (hl : (lg_sl ([.ref (B + k), a1, a2, a3, a4, a5, a6] : List Value)).length ≤ mxl M2) (hr : (rest.map Value.category).sum ≤ 8) (kk : Cl b d M2 [.ref (B + k), a1, a2, a3, a4, a5, a6] (HH pre tl shp B σ) (fun r h' => ∃ x : Option Nat, r = some (ov B x) ∧ Rn b sc (d + 1) M (pc + 3) lv (ov B x :: rest) h' Q)) : Rn b sc (d + 1) M pc lv (a6 :: a5 :: a4 :: a3 :: a2 :: a1 :: .ref (B + k) :: rest) (HH pre tl shp B σ) Q := by
  refine Rn.call (rest := rest) hf rfl rfl ?_ h9 hl (Rn.mono kk (fun r h' hq => ?_))
  · obtain ⟨rs, hs, hc⟩ := isC_at hk
    obtain ⟨mi, hmi⟩ := Option.isSome_iff_exists.mp hm2
    rw [hmi] at hm
    simp only [cll, List.drop_succ_cons, List.drop_zero, rd_HH hB hs, fil, hmi]
    rw [if_pos ⟨hm, by simpa using hr⟩]
    rfl
  · obtain ⟨x, rfl, hq⟩ := hq
    exact hq
end TY
