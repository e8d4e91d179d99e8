/-! The law holds, on every script. -/
theorem Inv_0 : Inv sc0 sm0 := by
  have hz : ∀ x g, x < 125 → sc0.1 x g = Int32.ofNat 0 := fun x g hx => by
    show (if g = 0 ∧ 125 ≤ x ∧ x < 173 ∧ (x - 125) % 6 = 0 then Int32.ofNat (4 * ((x - 125) / 6)) else Int32.ofNat 0) = _
    rw [if_neg (by omega)]
  have hR : ∀ IA, IA = 2 ∨ IA = 60 → RelC sc0 IA (fun _ _ => 0) := fun IA hIA => by
    refine ⟨fun _ _ => (show (0 : Nat) < 256 by omega), hz _ _ (by omega), hz _ _ (by omega), fun _ _ => rfl, fun _ _ => rfl, fun m hm => hz _ _ (by omega), fun m hm => hz _ _ (by omega), fun _ _ _ _ => rfl, fun m hm => hz _ _ (by omega), fun _ _ _ _ => rfl, fun m hm => hz _ _ (by omega), fun m r hm hr => hz _ _ (by omega), fun m r hm hr => hz _ _ (by omega), fun m r hm hr => hz _ _ (by omega), fun m r hm hr => hz _ _ (by omega), fun m hm => hz _ _ (by omega), fun _ _ _ _ => rfl⟩
  refine ⟨fun _ => 0, 0, fun _ _ => 0, 2, 60, ⟨hz _ _ (by omega), by omega, fun k hk => by omega⟩, ⟨rfl, by omega, fun k hk => by omega⟩, ⟨rfl, rfl, Or.inl ⟨rfl, rfl⟩, ⟨_, hR 60 (Or.inr rfl)⟩, ⟨fun _ _ => (show (0 : Nat) < 256 by omega), rfl, rfl, fun _ _ _ _ => rfl⟩, Or.inl ⟨rfl, hz _ _ (by omega), ⟨_, hR 2 (Or.inl rfl)⟩⟩⟩, fun f hf => ?_, Or.inl ⟨hz _ _ (by omega), rfl, hz _ _ (by omega), hz _ _ (by omega)⟩⟩
  show (if (0 : Nat) = 0 ∧ 125 ≤ 125 + 6 * f ∧ 125 + 6 * f < 173 ∧ (125 + 6 * f - 125) % 6 = 0 then Int32.ofNat (4 * ((125 + 6 * f - 125) / 6)) else Int32.ofNat 0) = _
  rw [if_pos (by omega), show (125 + 6 * f - 125) / 6 = f by omega]
def shz : SH → Nat
  | .inl q => (k_fk q.1).length
  | .inr q => q.2.1
theorem esz_fil (B : Nat) (σ : SG) (k : Nat) (s : SH) : esz (fil B σ k s) = shz s := by
  rcases s with q | q
  · show ((k_fk q.1).mapIdx (fun f kd => fv B σ k f kd q.2)).length = (k_fk q.1).length
    rw [List.length_mapIdx]
  · rfl
theorem esz_lay (B : Nat) (σ : SG) (shp : List SH) : (lay shp B σ).map esz = shp.map shz := by
  unfold lay
  apply List.ext_getElem?
  intro i
  rw [List.getElem?_map, List.getElem?_mapIdx, List.getElem?_map]
  cases shp[i]? with
  | none => rfl
  | some s => exact congrArg some (esz_fil B σ i s)
theorem sz_c : SHc.length = 176 := by decide +kernel
theorem sz_m : SHm.length = 33 := by decide +kernel
theorem sz_s : (SHc.map shz).sum + (SHm.map shz).sum ≤ 7302250 := by decide +kernel
theorem G_len (b : Nat) (σc σm : SG) : (G b σc σm).length ≤ 600000 ∧ sl (G b σc σm) ≤ 7302250 := by
  constructor
  · unfold G lay
    rw [List.length_append, List.length_mapIdx, List.length_mapIdx, sz_c, sz_m]
    omega
  · unfold sl G
    rw [List.map_append, List.sum_append, esz_lay, esz_lay]
    exact sz_s
theorem isV_0 {v : Option CV} {n : Nat} {b sb : Nat} (h : isV v 0 n = true) : v.map (ev b sb) = some (.int (Int32.ofNat n)) := by
  unfold isV at h
  split at h
  · rw [Bool.and_eq_true, beq_iff_eq, beq_iff_eq] at h
    rw [h.2]
    rfl
  · rw [Bool.and_eq_true, beq_iff_eq] at h
    exact absurd h.1 (by decide)
  · rw [Bool.and_eq_true, beq_iff_eq] at h
    exact absurd h.1 (by decide)
  · cases h
theorem isV_1 {v : Option CV} {n : Nat} {b sb : Nat} (h : isV v 1 n = true) : v.map (ev b sb) = some (.ref (b + n)) := by
  unfold isV at h
  split at h
  · rw [Bool.and_eq_true, beq_iff_eq] at h
    exact absurd h.1 (by decide)
  · rw [Bool.and_eq_true, beq_iff_eq, beq_iff_eq] at h
    rw [h.2]
    rfl
  · rw [Bool.and_eq_true, beq_iff_eq] at h
    exact absurd h.1 (by decide)
  · cases h
theorem isV_2 {v : Option CV} {b sb : Nat} (h : isV v 2 2 = true) : v.map (ev b sb) = some (.ref sb) := by
  unfold isV at h
  split at h
  · rw [Bool.and_eq_true, beq_iff_eq] at h
    exact absurd h.1 (by decide)
  · rw [Bool.and_eq_true, beq_iff_eq] at h
    exact absurd h.1 (by decide)
  · rw [Bool.and_eq_true, beq_iff_eq, beq_iff_eq] at h
    rw [h.2]
    rfl
  · cases h
theorem ctor_ok : ∃ (lv : CLV) (h : List CE), cto 100 9 0 [(0, .inr (.inr 2))] [] [] = some (lv, [], h) ∧ isV (lv.lookup 0) 2 2 = true ∧ isV (lv.lookup 1) 1 0 = true ∧ isV (lv.lookup 2) 1 176 = true ∧ isV (lv.lookup 3) 0 0 = true ∧ chkA sc0 0 0 SHc (h.take 176) = true ∧ chkA sm0 176 0 SHm (h.drop 176) = true := by
  have h := okE_t
  unfold okE at h
  split at h
  · rename_i lv st hh e
    simp only [Bool.and_eq_true] at h
    obtain ⟨⟨⟨⟨⟨⟨h0, h1⟩, h2⟩, h3⟩, h4⟩, h5⟩, h6⟩ := h
    have e4 : st = [] := List.isEmpty_iff.mp h4
    rw [e4] at e
    exact ⟨lv, hh, e, h0, h1, h2, h3, h5, h6⟩
  · cases h
theorem heap_gen {b sb : Nat} {σc σm : SG} {shc shm : List SH} {h : List CE} (c1 : ∀ k, σc.2.2.2.1 k = fun _ => 0) (c2 : ∀ k, σc.2.2.2.2 k = fun _ => 0) (m1 : ∀ k, σm.2.2.2.1 k = fun _ => 0) (m2 : ∀ k, σm.2.2.2.2 k = fun _ => 0) (h5 : chkA σc 0 0 shc (h.take 176) = true) (h6 : chkA σm 176 0 shm (h.drop 176) = true) : h.map (ee b sb) = lay shc b σc ++ lay shm (b + 176) σm := by
  have e1 := chkA_ok (b := b) (sb := sb) c1 c2 _ _ 0 h5
  have e2 := chkA_ok (b := b) (sb := sb) m1 m2 _ _ 0 h6
  have f1 : (fun i s => fil (b + 0) σc (0 + i) s) = fun k s => fil b σc k s := by
    funext i s
    rw [Nat.zero_add, Nat.add_zero]
  have f2 : (fun i s => fil (b + 176) σm (0 + i) s) = fun k s => fil (b + 176) σm k s := by
    funext i s
    rw [Nat.zero_add]
  rw [f1] at e1
  rw [f2] at e2
  have e3 : h.map (ee b sb) = (h.take 176).map (ee b sb) ++ (h.drop 176).map (ee b sb) := by
    rw [← List.map_append, List.take_append_drop]
  rw [e3, e1, e2]
  rfl
theorem heap_ok {b sb : Nat} {h : List CE} (h5 : chkA sc0 0 0 SHc (h.take 176) = true) (h6 : chkA sm0 176 0 SHm (h.drop 176) = true) : h.map (ee b sb) = G b sc0 sm0 := heap_gen (fun _ => rfl) (fun _ => rfl) (fun _ => rfl) (fun _ => rfl) h5 h6
theorem pure_ok : Pure := by
  intro base b L xs hb hL
  obtain ⟨lv, h, e, h0, h1, h2, h3, h5, h6⟩ := ctor_ok
  obtain ⟨k, res, g1, g2⟩ := la_sim (xs := xs) hL Inv_0
  have hw := w_La (b := base) (sb := b) (n := L) (xs := xs) (sc := scr b L xs) (Q := fun r h => r = some (.int 1) ∧ h = G base res.2.1 res.2.2) (res := res) hb (by unfold scr; rw [if_pos rfl]) ⟨by rw [g2]; rfl, rfl⟩ k (el base b lv) 0 sc0 sm0 (by rw [el_look]; exact isV_2 h0) (by rw [el_look]; exact isV_1 h1) (by rw [el_look]; exact isV_1 h2) (by rw [el_look]; exact isV_0 h3) g1
  have hc := cto_ok (b := base) (sb := b) (sc := scr b L xs) (Q := fun r h => r = some (.int 1) ∧ h = G base res.2.1 res.2.2) 100 9 0 [(0, .inr (.inr 2))] [] [] (lv, [], h) e (by
    show Rn base (scr b L xs) 9 0 18 (el base b lv) [] (h.map (ee base b)) _
    rw [heap_ok h5 h6]
    exact hw)
  obtain ⟨n, r, h', p1, p2, p3⟩ := hc
  refine ⟨n, h', ?_, ?_⟩
  · rw [← p2]
    exact p1
  · rw [p3]
    exact G_len _ _ _
