/-! What is thrown comes to a handler, or goes through all. -/
def enS (im : Im) (m f r : Nat) (σ : SG) : SG := setA (setI (setI σ (125 + 6 * f) 4 (Int32.ofNat 0)) (125 + 6 * f) 3 (Int32.ofNat (im 11 (3 * m + r)))) 175 (3 * m + r) (σ.2.2.2.1 175 (3 * m + r) + Int32.ofNat 1)
def kpC (f r : Nat) (a b c : Int32) (σ : SG) : SG := setA (setA (setA σ (128 + 6 * f) r a) (129 + 6 * f) r b) (130 + 6 * f) r c
def kpM (f r : Nat) (a b c : Int32) (σ : SG) : SG := setA (setA (setA σ 28 (3 * f + r) a) 29 (3 * f + r) b) 30 (3 * f + r) c
theorem en_U {im : Im} {m f r : Nat} {K : Nat → Prop} {σa σb : SG} (h : Fg f K σa σb) : Ucg f σa (enS im m f r σb) := by
  refine ⟨h.2.2.1, fun x g p q => ?_, fun x g p q => ?_, fun x g p => ?_⟩
  · show (setI (setI σb (125 + 6 * f) 4 (Int32.ofNat 0)) (125 + 6 * f) 3 (Int32.ofNat (im 11 (3 * m + r)))).1 x g = _
    rw [rI, if_neg (by omega), rI, if_neg (by omega), h.1]
  · unfold enS
    rw [rA, if_neg (by omega)]
    exact h.2.2.2.2.1 x g (by omega)
  · show σb.2.2.2.2 x g = _
    rw [h.2.2.2.1]
theorem hd_U {im : Im} {m f r : Nat} {K : Nat → Prop} {σa σb : SG} (h : Dg f K σa σb) : Umg f σa (hdS im m f r σb) := by
  refine ⟨h.2.2.2.1, fun g p => ?_, fun x g p1 p2 p3 p4 => ?_⟩
  · show σb.1 0 g = _
    rw [h.1]
  · unfold hdS
    rw [rA, if_neg (by omega), rA, if_neg (by omega), rA, if_neg (by omega)]
    exact h.2.2.2.2.1 x g (by omega)
theorem kp_U {f r : Nat} {a b c : Int32} {σ : SG} : Ucg f σ (kpC f r a b c σ) := by
  refine ⟨rfl, fun x g p q => rfl, fun x g p q => ?_, fun x g p => rfl⟩
  unfold kpC
  rw [rA, if_neg (by omega), rA, if_neg (by omega), rA, if_neg (by omega)]
theorem kq_U {f r : Nat} {a b c : Int32} {σ : SG} (hr : r < 3) : Umg f σ (kpM f r a b c σ) := by
  refine ⟨rfl, fun g p => rfl, fun x g p1 p2 p3 p4 => ?_⟩
  unfold kpM
  rw [rA, if_neg (by omega), rA, if_neg (by omega), rA, if_neg (by omega)]
theorem en_he {im : Im} {m f r : Nat} {K K' : Nat → Prop} {σa σb τa τb : SG} (hf : f < 8) (h : Fg f K σa σb) (h' : Dg f K' τa τb) (he : ∀ k, k < 18 → σa.2.2.2.1 175 k = τa.2.2.2.1 31 k) : ∀ k, k < 18 → (enS im m f r σb).2.2.2.1 175 k = (hdS im m f r τb).2.2.2.1 31 k := by
  intro k hk
  have e1 : ∀ k, k < 18 → σb.2.2.2.1 175 k = τb.2.2.2.1 31 k := fun k hk => by
    rw [h.2.2.2.2.1 _ _ (by omega), h'.2.2.2.2.1 _ _ (by omega)]; exact he k hk
  by_cases c : k = 3 * m + r
  · have l1 : (enS im m f r σb).2.2.2.1 175 k = σb.2.2.2.1 175 k + Int32.ofNat 1 := by unfold enS; rw [rA, if_pos ⟨rfl, c⟩, c]
    have l2 : (hdS im m f r τb).2.2.2.1 31 k = τb.2.2.2.1 31 k + Int32.ofNat 1 := by unfold hdS; rw [rA, if_neg (by omega), rA, if_neg (by omega), rA, if_pos ⟨rfl, c⟩, c]
    rw [l1, l2, e1 k hk]
  · have l1 : (enS im m f r σb).2.2.2.1 175 k = σb.2.2.2.1 175 k := by unfold enS; rw [rA, if_neg (by omega)]; rfl
    have l2 : (hdS im m f r τb).2.2.2.1 31 k = τb.2.2.2.1 31 k := by unfold hdS; rw [rA, if_neg (by omega), rA, if_neg (by omega), rA, if_neg (by omega)]
    rw [l1, l2]
    exact e1 k hk
theorem en_Pn {im : Im} {m f r q : Nat} {K : Nat → Prop} {σa σb τa τb : SG} (hf : f < 8) (h : Fg f K σa σb) (h' : Dg f K τa τb) (hK : K q) (hp : PnB im σa τa f m q) : PnB im (enS im m f r σb) (hdS im m f r τb) f m q := by
  refine PnB_congr hp (fun x h1 h2 => ?_) (fun x h1 h2 => ?_)
  · unfold enS
    rw [rA, if_neg (by omega)]
    show σb.2.2.2.1 x q = _
    by_cases c : x = 128 + 6 * f
    · rw [c]; exact h.2.2.2.2.2 q hK
    · exact h.2.2.2.2.1 x q c
  · unfold hdS
    rw [rA, if_neg (by omega), rA, if_neg (by omega), rA, if_neg (by omega)]
    by_cases c : x = 28
    · rw [c]; exact h'.2.2.2.2.2 q hK
    · exact h'.2.2.2.2.1 x _ (by omega)
def Kh (im : Im) (m r : Nat) : Nat → Prop := fun g => g < im 9 m ∧ iH im m g (im 11 (3 * m + r) : Nat)
/-- the handler of a finally -/
theorem hd_fin {im : Im} {IA A : Nat} {ms ps : Nat → Nat} {ls : Nat → List Nat} {T : Nat → Nat} {md : Nat} {σc σm : SG} {r kd fr : Nat} {z : Int} {e : Int32} {σca σma σcb σmb : SG} (h : Md im IA A ms ps ls T md σc σm) (hc : Ucg (A - 1) σc σca) (hm : Umg (A - 1) σm σma) (he : ∀ k, k < 18 → σca.2.2.2.1 175 k = σma.2.2.2.1 31 k)
    (hfc : Fg (A - 1) (Kh im (ms (A - 1)) r) σca σcb) (hfm : Dg (A - 1) (Kh im (ms (A - 1)) r) σma σmb) (hr : r < im 9 (ms (A - 1))) (hp : iP im (ms (A - 1)) r z) (hPn : ∀ q, r < q → q < im 9 (ms (A - 1)) → isF im (ms (A - 1)) q → iH im (ms (A - 1)) q z → PnB im σca σma (A - 1) (ms (A - 1)) q)
    (h100 : im 11 (3 * ms (A - 1) + r) < 100) (hkd : kd = 1 ∨ kd = 2) (hfr : fr < 100) (hip : iP im (ms (A - 1)) r fr) (h2 : kd = 2 → ∃ tg R, e = Int32.ofNat tg ∧ tg < 100 ∧ mayL im (ms (A - 1)) fr tg ∧ Clo im (ms (A - 1)) R ∧ (∀ Q, Clo im (ms (A - 1)) Q → LeQ R Q) ∧ R tg = some [] ∧ ¬ iP im (ms (A - 1)) r tg) :
    Md im IA A ms (upp ps (A - 1) (im 11 (3 * ms (A - 1) + r))) (upl ls (A - 1) []) T md (kpC (A - 1) r (Int32.ofNat kd) e (Int32.ofNat fr) (enS im (ms (A - 1)) (A - 1) r σcb)) (kpM (A - 1) r (Int32.ofNat kd) e (Int32.ofNat fr) (hdS im (ms (A - 1)) (A - 1) r σmb)) := by
  obtain ⟨⟨a1, a2, a3⟩, b0, -, -, e', -, -⟩ := id h
  obtain ⟨f1, f2, -⟩ := e' (A - 1) (by omega)
  have w := wf_m b0.2.2.1 f1
  have h9 := w.2.2.2.2.2.2.1
  have h6 := w.1
  refine Md_top h (Ucg_trans hc (Ucg_trans (en_U hfc) kp_U)) (Umg_trans hm (Umg_trans (hd_U hfm) (kq_U (by omega)))) h100 ?_ (by decide) ?_ ?_ trivial (fun q hq hF hH => ?_) (fun k hk => ?_)
  · show (setI (setI σcb (125 + 6 * (A - 1)) 4 (Int32.ofNat 0)) (125 + 6 * (A - 1)) 3 _).1 _ _ = _
    rw [rI, if_pos ⟨rfl, rfl⟩]
  · show (setI (setI σcb (125 + 6 * (A - 1)) 4 (Int32.ofNat 0)) (125 + 6 * (A - 1)) 3 _).1 _ _ = _
    rw [rI, if_neg (by omega), rI, if_pos ⟨rfl, rfl⟩]; rfl
  · unfold kpM hdS
    rw [rA, if_neg (by omega), rA, if_neg (by omega), rA, if_neg (by omega), rA, if_pos ⟨rfl, rfl⟩]; rfl
  · show PnB im _ _ (A - 1) (ms (A - 1)) q
    by_cases c : q = r
    · subst c
      refine ⟨kd, fr, hkd, hfr, ?_, ?_, ?_, ?_, hip, ?_, fun ek => ?_⟩
      · unfold kpC; rw [rA, if_neg (by omega), rA, if_neg (by omega), rA, if_pos ⟨rfl, rfl⟩]
      · unfold kpM; rw [rA, if_neg (by omega), rA, if_neg (by omega), rA, if_pos ⟨rfl, rfl⟩]
      · unfold kpC; rw [rA, if_pos ⟨rfl, rfl⟩]
      · unfold kpM; rw [rA, if_pos ⟨rfl, rfl⟩]
      · unfold kpC kpM; rw [rA, if_neg (by omega), rA, if_pos ⟨rfl, rfl⟩, rA, if_neg (by omega), rA, if_pos ⟨rfl, rfl⟩]
      · obtain ⟨tg, R, q1, q2⟩ := h2 ek
        refine ⟨tg, R, ?_, q2⟩
        unfold kpC; rw [rA, if_neg (by omega), rA, if_pos ⟨rfl, rfl⟩]; exact q1
    · obtain ⟨g1, g2⟩ := geo_1 f2.2.1 hr hq c hp hH
      refine PnB_congr (en_Pn (r := r) (by omega) hfc hfm ⟨hq, hH⟩ (hPn q g1 hq hF g2)) (fun x _ _ => ?_) (fun x _ _ => ?_)
      · unfold kpC; rw [rA, if_neg (by omega), rA, if_neg (by omega), rA, if_neg (by omega)]
      · unfold kpM; rw [rA, if_neg (by omega), rA, if_neg (by omega), rA, if_neg (by omega)]
  · have := en_he (im := im) (m := ms (A - 1)) (r := r) (show A - 1 < 8 by omega) hfc hfm he k hk
    unfold kpC kpM
    rw [rA, if_neg (by omega), rA, if_neg (by omega), rA, if_neg (by omega), rA, if_neg (by omega), rA, if_neg (by omega), rA, if_neg (by omega)]
    exact this
/-- the handler of a catch -/
theorem hd_cat {im : Im} {IA A : Nat} {ms ps : Nat → Nat} {ls : Nat → List Nat} {T : Nat → Nat} {md : Nat} {σc σm : SG} {r : Nat} {z : Int} {e : Int32} {σca σma σcb σmb : SG} (h : Md im IA A ms ps ls T md σc σm) (hc : Ucg (A - 1) σc σca) (hm : Umg (A - 1) σm σma) (he : ∀ k, k < 18 → σca.2.2.2.1 175 k = σma.2.2.2.1 31 k)
    (hfc : Fg (A - 1) (Kh im (ms (A - 1)) r) σca σcb) (hfm : Dg (A - 1) (Kh im (ms (A - 1)) r) σma σmb) (hr : r < im 9 (ms (A - 1))) (hp : iP im (ms (A - 1)) r z) (hPn : ∀ q, r < q → q < im 9 (ms (A - 1)) → isF im (ms (A - 1)) q → iH im (ms (A - 1)) q z → PnB im σca σma (A - 1) (ms (A - 1)) q)
    (h100 : im 11 (3 * ms (A - 1) + r) < 100) (hF0 : ¬ isF im (ms (A - 1)) r) :
    ∃ σc1 σm1, F_Fr_push (125 + 6 * (A - 1)) e.toInt64 (enS im (ms (A - 1)) (A - 1) r σcb) = some σc1 ∧ F_Mo_put 0 e (Int32.ofNat 0) (hdS im (ms (A - 1)) (A - 1) r σmb) = some σm1 ∧ Md im IA A ms (upp ps (A - 1) (im 11 (3 * ms (A - 1) + r))) (upl ls (A - 1) [1]) T md σc1 σm1 ∧ Sc (A - 1) (enS im (ms (A - 1)) (A - 1) r σcb) σc1 ∧ Sm (A - 1) (hdS im (ms (A - 1)) (A - 1) r σmb) σm1 ∧ σm1.1 = (hdS im (ms (A - 1)) (A - 1) r σmb).1 := by
  obtain ⟨⟨a1, a2, a3⟩, b0, -, -, e', -, -⟩ := id h
  obtain ⟨f1, f2, -⟩ := e' (A - 1) (by omega)
  have w := wf_m b0.2.2.1 f1
  have h9 := w.2.2.2.2.2.2.1
  have h6 := w.1
  have hM : Md im IA A ms (upp ps (A - 1) (im 11 (3 * ms (A - 1) + r))) (upl ls (A - 1) []) T md (enS im (ms (A - 1)) (A - 1) r σcb) (hdS im (ms (A - 1)) (A - 1) r σmb) := by
    refine Md_top h (Ucg_trans hc (en_U hfc)) (Umg_trans hm (hd_U hfm)) h100 ?_ (by decide) ?_ ?_ trivial (fun q hq hF hH => ?_) (en_he (by omega) hfc hfm he)
    · show (setI (setI σcb (125 + 6 * (A - 1)) 4 (Int32.ofNat 0)) (125 + 6 * (A - 1)) 3 _).1 _ _ = _
      rw [rI, if_pos ⟨rfl, rfl⟩]
    · show (setI (setI σcb (125 + 6 * (A - 1)) 4 (Int32.ofNat 0)) (125 + 6 * (A - 1)) 3 _).1 _ _ = _
      rw [rI, if_neg (by omega), rI, if_pos ⟨rfl, rfl⟩]; rfl
    · unfold hdS
      rw [rA, if_pos ⟨rfl, rfl⟩]; rfl
    · show PnB im _ _ (A - 1) (ms (A - 1)) q
      have c : q ≠ r := fun z => hF0 (by rw [← z]; exact hF)
      obtain ⟨g1, g2⟩ := geo_1 f2.2.1 hr hq c hp hH
      exact en_Pn (r := r) (by omega) hfc hfm ⟨hq, hH⟩ (hPn q g1 hq hF g2)
  obtain ⟨σc1, σm1, r1, r2, r5, r6, r7, r8⟩ := sim_push (t := 1) (v := e.toInt64) (a := e) (b := Int32.ofNat 0) hM (by rw [upl_s]; decide) (VR_num e _)
  rw [upl_u, upl_s] at r5
  exact ⟨σc1, σm1, r1, r2, r5, r6, r7, r8⟩
def EnZ (im : Im) (σ : SG) : Prop := ∀ m r, m < im 0 1 → im 9 m ≤ r → r < 3 → σ.2.2.2.1 175 (3 * m + r) = Int32.ofNat 0
theorem EnZ_en {im : Im} {m f r : Nat} {K : Nat → Prop} {σa σb : SG} (hf : f < 8) (h : Fg f K σa σb) (hr : r < im 9 m) (hr3 : r < 3) (hz : EnZ im σa) : EnZ im (enS im m f r σb) := by
  intro m' r' h1 h2 h3
  have c : ¬ (3 * m' + r' = 3 * m + r) := fun z => by
    have e1 : m' = m := by omega
    subst e1
    omega
  unfold enS
  rw [rA, if_neg (by omega)]
  show σb.2.2.2.1 175 _ = _
  rw [h.2.2.2.2.1 _ _ (by omega)]
  exact hz m' r' h1 h2 h3
theorem EnZ_same {im : Im} {σ σ1 : SG} (hz : EnZ im σ) (h : ∀ k, σ1.2.2.2.1 175 k = σ.2.2.2.1 175 k) : EnZ im σ1 := fun m r h1 h2 h3 => by rw [h]; exact hz m r h1 h2 h3
