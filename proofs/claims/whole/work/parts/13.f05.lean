theorem f_Mo_verify_0 : fetch 36 0 = some (.aload_n 0, 1, 0, 0, 0) := rfl
theorem f_Mo_verify_1 : fetch 36 1 = some (.iload_n 1, 1, 0, 0, 0) := rfl
theorem f_Mo_verify_2 : fetch 36 2 = some (.putfield 154, 3, 8, 24, 65) := rfl
theorem f_Mo_verify_5 : fetch 36 5 = some (.aload_n 0, 1, 0, 0, 0) := rfl
theorem f_Mo_verify_6 : fetch 36 6 = some (.aload_n 0, 1, 0, 0, 0) := rfl
theorem f_Mo_verify_7 : fetch 36 7 = some (.invokevirtual 174, 3, 37, 0, 46) := rfl
theorem f_Mo_verify_10 : fetch 36 10 = some (.ifCond .eq 14, 3, 24, 0, 0) := rfl
theorem f_Mo_verify_13 : fetch 36 13 = some (.aload_n 0, 1, 0, 0, 0) := rfl
theorem f_Mo_verify_14 : fetch 36 14 = some (.invokevirtual 178, 3, 40, 0, 47) := rfl
theorem f_Mo_verify_17 : fetch 36 17 = some (.ifCond .eq 7, 3, 24, 0, 0) := rfl
theorem f_Mo_verify_20 : fetch 36 20 = some (.iconst 1, 1, 0, 0, 0) := rfl
theorem f_Mo_verify_21 : fetch 36 21 = some (.goto 4, 3, 25, 0, 0) := rfl
theorem f_Mo_verify_24 : fetch 36 24 = some (.iconst 0, 1, 0, 0, 0) := rfl
theorem f_Mo_verify_25 : fetch 36 25 = some (.putfield 181, 3, 8, 27, 66) := rfl
theorem f_Mo_verify_28 : fetch 36 28 = some (.aload_n 0, 1, 0, 0, 0) := rfl
theorem f_Mo_verify_29 : fetch 36 29 = some (.getfield 181, 3, 8, 27, 66) := rfl
theorem f_Mo_verify_32 : fetch 36 32 = some (.ifCond .eq 10, 3, 42, 0, 0) := rfl
theorem f_Mo_verify_35 : fetch 36 35 = some (.aload_n 0, 1, 0, 0, 0) := rfl
theorem f_Mo_verify_36 : fetch 36 36 = some (.iconst 0, 1, 0, 0, 0) := rfl
theorem f_Mo_verify_37 : fetch 36 37 = some (.iconst 0, 1, 0, 0, 0) := rfl
theorem f_Mo_verify_38 : fetch 36 38 = some (.lconst 0, 1, 0, 0, 0) := rfl
theorem f_Mo_verify_39 : fetch 36 39 = some (.invokevirtual 184, 3, 42, 3, 48) := rfl
theorem f_Mo_verify_42 : fetch 36 42 = some (.aload_n 0, 1, 0, 0, 0) := rfl
theorem f_Mo_verify_43 : fetch 36 43 = some (.getfield 181, 3, 8, 27, 66) := rfl
theorem f_Mo_verify_46 : fetch 36 46 = some (.istore_n 2, 1, 0, 0, 0) := rfl
theorem f_Mo_verify_47 : fetch 36 47 = some (.iconst 0, 1, 0, 0, 0) := rfl
theorem f_Mo_verify_48 : fetch 36 48 = some (.istore_n 3, 1, 0, 0, 0) := rfl
theorem f_Mo_verify_49 : fetch 36 49 = some (.iload_n 3, 1, 0, 0, 0) := rfl
theorem f_Mo_verify_50 : fetch 36 50 = some (.bipush 100, 2, 0, 0, 0) := rfl
theorem f_Mo_verify_52 : fetch 36 52 = some (.if_icmp .ge 16, 3, 68, 0, 0) := rfl
theorem f_Mo_verify_55 : fetch 36 55 = some (.aload_n 0, 1, 0, 0, 0) := rfl
theorem f_Mo_verify_56 : fetch 36 56 = some (.getfield 105, 3, 8, 45, 58) := rfl
theorem f_Mo_verify_59 : fetch 36 59 = some (.iload_n 3, 1, 0, 0, 0) := rfl
theorem f_Mo_verify_60 : fetch 36 60 = some (.iconst 0, 1, 0, 0, 0) := rfl
theorem f_Mo_verify_61 : fetch 36 61 = some (.bastore, 1, 0, 0, 0) := rfl
theorem f_Mo_verify_62 : fetch 36 62 = some (.iinc 3 1, 3, 0, 0, 0) := rfl
theorem f_Mo_verify_65 : fetch 36 65 = some (.goto (-16), 3, 49, 0, 0) := rfl
theorem f_Mo_verify_68 : fetch 36 68 = some (.iload_n 2, 1, 0, 0, 0) := rfl
theorem f_Mo_verify_69 : fetch 36 69 = some (.ifCond .eq 80, 3, 149, 0, 0) := rfl
theorem f_Mo_verify_72 : fetch 36 72 = some (.aload_n 0, 1, 0, 0, 0) := rfl
theorem f_Mo_verify_73 : fetch 36 73 = some (.getfield 181, 3, 8, 27, 66) := rfl
theorem f_Mo_verify_76 : fetch 36 76 = some (.ifCond .eq 73, 3, 149, 0, 0) := rfl
theorem f_Mo_verify_79 : fetch 36 79 = some (.iconst 0, 1, 0, 0, 0) := rfl
theorem f_Mo_verify_80 : fetch 36 80 = some (.istore_n 2, 1, 0, 0, 0) := rfl
theorem f_Mo_verify_81 : fetch 36 81 = some (.iconst 0, 1, 0, 0, 0) := rfl
theorem f_Mo_verify_82 : fetch 36 82 = some (.istore_n 3, 1, 0, 0, 0) := rfl
theorem f_Mo_verify_83 : fetch 36 83 = some (.iload_n 3, 1, 0, 0, 0) := rfl
theorem f_Mo_verify_84 : fetch 36 84 = some (.aload_n 0, 1, 0, 0, 0) := rfl
theorem f_Mo_verify_85 : fetch 36 85 = some (.getfield 50, 3, 8, 18, 40) := rfl
theorem f_Mo_verify_88 : fetch 36 88 = some (.iload_n 1, 1, 0, 0, 0) := rfl
theorem f_Mo_verify_89 : fetch 36 89 = some (.iaload, 1, 0, 0, 0) := rfl
theorem f_Mo_verify_90 : fetch 36 90 = some (.if_icmp .ge 56, 3, 146, 0, 0) := rfl
theorem f_Mo_verify_93 : fetch 36 93 = some (.aload_n 0, 1, 0, 0, 0) := rfl
theorem f_Mo_verify_94 : fetch 36 94 = some (.getfield 181, 3, 8, 27, 66) := rfl
theorem f_Mo_verify_97 : fetch 36 97 = some (.ifCond .eq 49, 3, 146, 0, 0) := rfl
theorem f_Mo_verify_100 : fetch 36 100 = some (.aload_n 0, 1, 0, 0, 0) := rfl
theorem f_Mo_verify_101 : fetch 36 101 = some (.getfield 59, 3, 8, 21, 43) := rfl
theorem f_Mo_verify_104 : fetch 36 104 = some (.bipush 100, 2, 0, 0, 0) := rfl
theorem f_Mo_verify_106 : fetch 36 106 = some (.iload_n 1, 1, 0, 0, 0) := rfl
theorem f_Mo_verify_107 : fetch 36 107 = some (.imul, 1, 0, 0, 0) := rfl
theorem f_Mo_verify_108 : fetch 36 108 = some (.iload_n 3, 1, 0, 0, 0) := rfl
theorem f_Mo_verify_109 : fetch 36 109 = some (.iadd, 1, 0, 0, 0) := rfl
theorem f_Mo_verify_110 : fetch 36 110 = some (.iaload, 1, 0, 0, 0) := rfl
theorem f_Mo_verify_111 : fetch 36 111 = some (.ifCond .lt 29, 3, 140, 0, 0) := rfl
theorem f_Mo_verify_114 : fetch 36 114 = some (.aload_n 0, 1, 0, 0, 0) := rfl
theorem f_Mo_verify_115 : fetch 36 115 = some (.getfield 105, 3, 8, 45, 58) := rfl
theorem f_Mo_verify_118 : fetch 36 118 = some (.iload_n 3, 1, 0, 0, 0) := rfl
theorem f_Mo_verify_119 : fetch 36 119 = some (.baload, 1, 0, 0, 0) := rfl
theorem f_Mo_verify_120 : fetch 36 120 = some (.ifCond .eq 6, 3, 126, 0, 0) := rfl
theorem f_Mo_verify_123 : fetch 36 123 = some (.goto 17, 3, 140, 0, 0) := rfl
theorem f_Mo_verify_126 : fetch 36 126 = some (.aload_n 0, 1, 0, 0, 0) := rfl
theorem f_Mo_verify_127 : fetch 36 127 = some (.getfield 105, 3, 8, 45, 58) := rfl
theorem f_Mo_verify_130 : fetch 36 130 = some (.iload_n 3, 1, 0, 0, 0) := rfl
theorem f_Mo_verify_131 : fetch 36 131 = some (.iconst 1, 1, 0, 0, 0) := rfl
theorem f_Mo_verify_132 : fetch 36 132 = some (.bastore, 1, 0, 0, 0) := rfl
theorem f_Mo_verify_133 : fetch 36 133 = some (.iconst 1, 1, 0, 0, 0) := rfl
theorem f_Mo_verify_134 : fetch 36 134 = some (.istore_n 2, 1, 0, 0, 0) := rfl
theorem f_Mo_verify_135 : fetch 36 135 = some (.aload_n 0, 1, 0, 0, 0) := rfl
theorem f_Mo_verify_136 : fetch 36 136 = some (.iload_n 3, 1, 0, 0, 0) := rfl
theorem f_Mo_verify_137 : fetch 36 137 = some (.invokevirtual 188, 3, 43, 1, 49) := rfl
theorem f_Mo_verify_140 : fetch 36 140 = some (.iinc 3 1, 3, 0, 0, 0) := rfl
theorem f_Mo_verify_143 : fetch 36 143 = some (.goto (-60), 3, 83, 0, 0) := rfl
theorem f_Mo_verify_146 : fetch 36 146 = some (.goto (-78), 3, 68, 0, 0) := rfl
theorem f_Mo_verify_149 : fetch 36 149 = some (.aload_n 0, 1, 0, 0, 0) := rfl
theorem f_Mo_verify_150 : fetch 36 150 = some (.getfield 66, 3, 8, 23, 45) := rfl
theorem f_Mo_verify_153 : fetch 36 153 = some (.iload_n 1, 1, 0, 0, 0) := rfl
theorem f_Mo_verify_154 : fetch 36 154 = some (.aload_n 0, 1, 0, 0, 0) := rfl
theorem f_Mo_verify_155 : fetch 36 155 = some (.getfield 181, 3, 8, 27, 66) := rfl
theorem f_Mo_verify_158 : fetch 36 158 = some (.bastore, 1, 0, 0, 0) := rfl
theorem f_Mo_verify_159 : fetch 36 159 = some (.return_, 1, 0, 0, 0) := rfl
def F_Mo_verify_149  (x0 : Nat) (x1 : Int32) (σ : SG) : Option (SG) :=
  if x1 < 0 ∨ 6 ≤ (x1).toNatClampNeg then none else
  stl (setA σ ((cref SHm (x0) 23)) ((x1).toNatClampNeg) (bz ((zb (σ.1 (x0) 27))))) fun s2 =>
  some s2
set_option maxHeartbeats 4000000 in
theorem w_Mo_verify_149 {b d : Nat} {sc : SC} {pre tl : List PE} {B : Nat} {Q : Option Value → List PE → Prop} {res : SG} (hB : B = b + pre.length) (hd : 5 ≤ d)   (hQ : Q none (HH pre tl SHm B res)) (lv : LV) (σ : SG) (x0 : Nat) (x1 : Int32) (hx0 : isC SHm (x0) 8 = true) (l0 : lv.lookup 0 = some (.ref (B + (x0)))) (l1 : lv.lookup 1 = some (.int (x1))) (hF : F_Mo_verify_149  x0 x1 σ = some res) : Rn b sc d 36 149 lv [] (HH pre tl SHm B σ) Q := by
  obtain ⟨e0, rfl⟩ : ∃ e, d = e + 1 := ⟨d - 1, by omega⟩
  unfold F_Mo_verify_149 at hF
  refine r_aload_n f_Mo_verify_149 l0 ?_
  refine t_getc hB hx0 f_Mo_verify_150 rfl ?_
  refine r_iload_n f_Mo_verify_153 l1 ?_
  refine r_aload_n f_Mo_verify_154 l0 ?_
  refine t_getz hB hx0 f_Mo_verify_155 rfl ?_
  by_cases c1 : x1 < 0 ∨ 6 ≤ (x1).toNatClampNeg
  · rw [if_pos c1] at hF; cases hF
  rw [if_neg c1] at hF
  refine t_bast (v := (zb (σ.1 (x0) 27))) hB (cc_8_23 hx0) f_Mo_verify_158 c1 ?_
  generalize hs2 : setA σ ((cref SHm (x0) 23)) ((x1).toNatClampNeg) (bz ((zb (σ.1 (x0) 27)))) = s2 at hF ⊢
  rw [stl_eq] at hF
  cases hF
  exact r_return f_Mo_verify_159 hQ
def F_Mo_verify_146 (rec68 : Nat → Int32 → Bool → SG → Option (SG)) (x0 : Nat) (x1 : Int32) (x2 : Bool) (σ : SG) : Option (SG) :=
  rec68 (x0) (x1) (x2) σ
set_option maxHeartbeats 4000000 in
theorem w_Mo_verify_146 {b d : Nat} {sc : SC} {pre tl : List PE} {B : Nat} {Q : Option Value → List PE → Prop} {res : SG} (hB : B = b + pre.length) (hd : 5 ≤ d) {rec68 : Nat → Int32 → Bool → SG → Option (SG)} (hr68 : ∀ (lv : LV) (σ : SG) (x0 : Nat) (x1 : Int32) (x2 : Bool), isC SHm (x0) 8 = true → lv.lookup 0 = some (.ref (B + (x0))) → lv.lookup 1 = some (.int (x1)) → lv.lookup 2 = some (.int (bz (x2))) →  rec68 x0 x1 x2 σ = some res → Rn b sc d 36 68 lv [] (HH pre tl SHm B σ) Q) (hQ : Q none (HH pre tl SHm B res)) (lv : LV) (σ : SG) (x0 : Nat) (x1 : Int32) (x2 : Bool) (hx0 : isC SHm (x0) 8 = true) (l0 : lv.lookup 0 = some (.ref (B + (x0)))) (l1 : lv.lookup 1 = some (.int (x1))) (l2 : lv.lookup 2 = some (.int (bz (x2)))) (hF : F_Mo_verify_146 rec68 x0 x1 x2 σ = some res) : Rn b sc d 36 146 lv [] (HH pre tl SHm B σ) Q := by
  obtain ⟨e0, rfl⟩ : ∃ e, d = e + 1 := ⟨d - 1, by omega⟩
  unfold F_Mo_verify_146 at hF
  refine r_goto f_Mo_verify_146 ?_
  exact hr68 _ (σ) (x0) (x1) (x2) hx0 l0 l1 l2 hF
def F_Mo_verify_140 (rec68 : Nat → Int32 → Bool → SG → Option (SG)) (rec83 : Nat → Int32 → Bool → Int32 → SG → Option (SG)) (x0 : Nat) (x1 : Int32) (x2 : Bool) (x3 : Int32) (σ : SG) : Option (SG) :=
  rec83 (x0) (x1) (x2) ((x3 + 1)) σ
set_option maxHeartbeats 4000000 in
theorem w_Mo_verify_140 {b d : Nat} {sc : SC} {pre tl : List PE} {B : Nat} {Q : Option Value → List PE → Prop} {res : SG} (hB : B = b + pre.length) (hd : 5 ≤ d) {rec68 : Nat → Int32 → Bool → SG → Option (SG)} {rec83 : Nat → Int32 → Bool → Int32 → SG → Option (SG)} (hr68 : ∀ (lv : LV) (σ : SG) (x0 : Nat) (x1 : Int32) (x2 : Bool), isC SHm (x0) 8 = true → lv.lookup 0 = some (.ref (B + (x0))) → lv.lookup 1 = some (.int (x1)) → lv.lookup 2 = some (.int (bz (x2))) →  rec68 x0 x1 x2 σ = some res → Rn b sc d 36 68 lv [] (HH pre tl SHm B σ) Q) (hr83 : ∀ (lv : LV) (σ : SG) (x0 : Nat) (x1 : Int32) (x2 : Bool) (x3 : Int32), isC SHm (x0) 8 = true → lv.lookup 0 = some (.ref (B + (x0))) → lv.lookup 1 = some (.int (x1)) → lv.lookup 2 = some (.int (bz (x2))) → lv.lookup 3 = some (.int (x3)) →  rec83 x0 x1 x2 x3 σ = some res → Rn b sc d 36 83 lv [] (HH pre tl SHm B σ) Q) (hQ : Q none (HH pre tl SHm B res)) (lv : LV) (σ : SG) (x0 : Nat) (x1 : Int32) (x2 : Bool) (x3 : Int32) (hx0 : isC SHm (x0) 8 = true) (l0 : lv.lookup 0 = some (.ref (B + (x0)))) (l1 : lv.lookup 1 = some (.int (x1))) (l2 : lv.lookup 2 = some (.int (bz (x2)))) (l3 : lv.lookup 3 = some (.int (x3))) (hF : F_Mo_verify_140 rec68 rec83 x0 x1 x2 x3 σ = some res) : Rn b sc d 36 140 lv [] (HH pre tl SHm B σ) Q := by
  obtain ⟨e0, rfl⟩ : ∃ e, d = e + 1 := ⟨d - 1, by omega⟩
  unfold F_Mo_verify_140 at hF
  refine r_iinc f_Mo_verify_140 l3 (w := x3 + 1) rfl ?_
  refine r_goto f_Mo_verify_143 ?_
  exact hr83 _ (σ) (x0) (x1) (x2) ((x3 + 1)) hx0 (lk_put_ne l0 (by decide) (Or.inl rfl)) (lk_put_ne l1 (by decide) (Or.inl rfl)) (lk_put_ne l2 (by decide) (Or.inl rfl)) lk_put hF
def F_Mo_verify_83 (rec68 : Nat → Int32 → Bool → SG → Option (SG)) : Nat → Nat → Int32 → Bool → Int32 → SG → Option (SG)
  | 0, _, _, _, _, _ => none
  | n + 1, x0, x1, x2, x3, σ =>
  if x1 < 0 ∨ 6 ≤ (x1).toNatClampNeg then none else
  if (σ.2.2.2.1 ((cref SHm (x0) 18)) ((x1).toNatClampNeg)) ≤ x3 then
  F_Mo_verify_146 (rec68) (x0) (x1) (x2) σ
  else if (zb (σ.1 (x0) 27)) = true then
  if (((100 : Int32) * x1) + x3) < 0 ∨ 600 ≤ ((((100 : Int32) * x1) + x3)).toNatClampNeg then none else
  if (σ.2.2.2.1 ((cref SHm (x0) 21)) (((((100 : Int32) * x1) + x3)).toNatClampNeg)) < 0 then
  F_Mo_verify_140 (rec68) (F_Mo_verify_83 rec68 n) (x0) (x1) (x2) (x3) σ
  else if x3 < 0 ∨ 100 ≤ (x3).toNatClampNeg then none else
  if (zb (σ.2.2.2.1 ((cref SHm (x0) 45)) ((x3).toNatClampNeg))) = true then
  F_Mo_verify_140 (rec68) (F_Mo_verify_83 rec68 n) (x0) (x1) (x2) (x3) σ
  else if x3 < 0 ∨ 100 ≤ (x3).toNatClampNeg then none else
  stl (setA σ ((cref SHm (x0) 45)) ((x3).toNatClampNeg) (bz (true))) fun s11 =>
  match F_Mo_flow (x0) (x3) s11 with
  | none => none
  | some q12 =>
  F_Mo_verify_140 (rec68) (F_Mo_verify_83 rec68 n) (x0) (x1) (true) (x3) q12
  else F_Mo_verify_146 (rec68) (x0) (x1) (x2) σ
set_option maxHeartbeats 4000000 in
theorem w_Mo_verify_83 {b d : Nat} {sc : SC} {pre tl : List PE} {B : Nat} {Q : Option Value → List PE → Prop} {res : SG} (hB : B = b + pre.length) (hd : 5 ≤ d) {rec68 : Nat → Int32 → Bool → SG → Option (SG)} (hr68 : ∀ (lv : LV) (σ : SG) (x0 : Nat) (x1 : Int32) (x2 : Bool), isC SHm (x0) 8 = true → lv.lookup 0 = some (.ref (B + (x0))) → lv.lookup 1 = some (.int (x1)) → lv.lookup 2 = some (.int (bz (x2))) →  rec68 x0 x1 x2 σ = some res → Rn b sc d 36 68 lv [] (HH pre tl SHm B σ) Q) (hQ : Q none (HH pre tl SHm B res)) : ∀ (n : Nat) (lv : LV) (σ : SG) (x0 : Nat) (x1 : Int32) (x2 : Bool) (x3 : Int32), isC SHm (x0) 8 = true → lv.lookup 0 = some (.ref (B + (x0))) → lv.lookup 1 = some (.int (x1)) → lv.lookup 2 = some (.int (bz (x2))) → lv.lookup 3 = some (.int (x3)) → F_Mo_verify_83 rec68 n x0 x1 x2 x3 σ = some res → Rn b sc d 36 83 lv [] (HH pre tl SHm B σ) Q := by
  obtain ⟨e0, rfl⟩ : ∃ e, d = e + 1 := ⟨d - 1, by omega⟩
  intro n
  induction n with
  | zero => intro lv σ x0 x1 x2 x3 hx0 l0 l1 l2 l3 hF; cases hF
  | succ n ih =>
    intro lv σ x0 x1 x2 x3 hx0 l0 l1 l2 l3 hF
    unfold F_Mo_verify_83 at hF
    refine r_iload_n f_Mo_verify_83 l3 ?_
    refine r_aload_n f_Mo_verify_84 l0 ?_
    refine t_getc hB hx0 f_Mo_verify_85 rfl ?_
    refine r_iload_n f_Mo_verify_88 l1 ?_
    by_cases c3 : x1 < 0 ∨ 6 ≤ (x1).toNatClampNeg
    · rw [if_pos c3] at hF; cases hF
    rw [if_neg c3] at hF
    refine t_iald hB (cc_8_18 hx0) f_Mo_verify_89 c3 ?_
    refine r_icmp_ge f_Mo_verify_90 (fun c4 => ?_) (fun c4 => ?_)
    · rw [if_pos c4] at hF
      exact w_Mo_verify_146 hB hd (hr68) hQ _ (σ) (x0) (x1) (x2) hx0 l0 l1 l2 hF
    · rw [if_neg c4] at hF
      refine r_aload_n f_Mo_verify_93 l0 ?_
      refine t_getz hB hx0 f_Mo_verify_94 rfl ?_
      refine r_if_eq f_Mo_verify_97 (fun c5 => ?_) (fun c5 => ?_)
      · rw [if_neg (bz_nt c5)] at hF
        exact w_Mo_verify_146 hB hd (hr68) hQ _ (σ) (x0) (x1) (x2) hx0 l0 l1 l2 hF
      · rw [if_pos (bz_t c5)] at hF
        refine r_aload_n f_Mo_verify_100 l0 ?_
        refine t_getc hB hx0 f_Mo_verify_101 rfl ?_
        refine r_bipush f_Mo_verify_104 (v := 100) (by decide) ?_
        refine r_iload_n f_Mo_verify_106 l1 ?_
        refine r_imul f_Mo_verify_107 ?_
        refine r_iload_n f_Mo_verify_108 l3 ?_
        refine r_iadd f_Mo_verify_109 ?_
        by_cases c6 : (((100 : Int32) * x1) + x3) < 0 ∨ 600 ≤ ((((100 : Int32) * x1) + x3)).toNatClampNeg
        · rw [if_pos c6] at hF; cases hF
        rw [if_neg c6] at hF
        refine t_iald hB (cc_8_21 hx0) f_Mo_verify_110 c6 ?_
        refine r_if_lt f_Mo_verify_111 (fun c7 => ?_) (fun c7 => ?_)
        · rw [if_pos c7] at hF
          exact w_Mo_verify_140 hB hd (hr68) (ih) hQ _ (σ) (x0) (x1) (x2) (x3) hx0 l0 l1 l2 l3 hF
        · rw [if_neg c7] at hF
          refine r_aload_n f_Mo_verify_114 l0 ?_
          refine t_getc hB hx0 f_Mo_verify_115 rfl ?_
          refine r_iload_n f_Mo_verify_118 l3 ?_
          by_cases c8 : x3 < 0 ∨ 100 ≤ (x3).toNatClampNeg
          · rw [if_pos c8] at hF; cases hF
          rw [if_neg c8] at hF
          refine t_bald hB (cc_8_45 hx0) f_Mo_verify_119 c8 ?_
          refine r_if_eq f_Mo_verify_120 (fun c9 => ?_) (fun c9 => ?_)
          · rw [if_neg (bz_nt c9)] at hF
            refine r_aload_n f_Mo_verify_126 l0 ?_
            refine t_getc hB hx0 f_Mo_verify_127 rfl ?_
            refine r_iload_n f_Mo_verify_130 l3 ?_
            refine r_iconst f_Mo_verify_131 (v := 1) (by decide) ?_
            by_cases c10 : x3 < 0 ∨ 100 ≤ (x3).toNatClampNeg
            · rw [if_pos c10] at hF; cases hF
            rw [if_neg c10] at hF
            refine t_bast (v := true) hB (cc_8_45 hx0) f_Mo_verify_132 c10 ?_
            generalize hs11 : setA σ ((cref SHm (x0) 45)) ((x3).toNatClampNeg) (bz (true)) = s11 at hF ⊢
            rw [stl_eq] at hF
            refine r_iconst f_Mo_verify_133 (v := 1) (by decide) ?_
            refine r_istore_n f_Mo_verify_134 ?_
            refine r_aload_n f_Mo_verify_135 (lk_put_ne l0 (by decide) (Or.inl rfl)) ?_
            refine r_iload_n f_Mo_verify_136 (lk_put_ne l3 (by decide) (Or.inl rfl)) ?_
            cases hq12 : F_Mo_flow (x0) (x3) s11 with
            | none => simp only [hq12] at hF; cases hF
            | some q12 =>
              simp only [hq12] at hF
              refine t_V1v hB hx0 rfl rfl f_Mo_verify_137 (by decide) (Nat.le_of_ble_eq_true rfl) (Nat.le_of_ble_eq_true rfl) (w_Mo_flow hB (by omega) (x0) (x3) hx0 hq12 ⟨rfl, ?_⟩)
              exact w_Mo_verify_140 hB hd (hr68) (ih) hQ _ (q12) (x0) (x1) (true) (x3) hx0 (lk_put_ne l0 (by decide) (Or.inl rfl)) (lk_put_ne l1 (by decide) (Or.inl rfl)) lk_put (lk_put_ne l3 (by decide) (Or.inl rfl)) hF
          · rw [if_pos (bz_t c9)] at hF
            refine r_goto f_Mo_verify_123 ?_
            exact w_Mo_verify_140 hB hd (hr68) (ih) hQ _ (σ) (x0) (x1) (x2) (x3) hx0 l0 l1 l2 l3 hF
def F_Mo_verify_68  : Nat → Nat → Int32 → Bool → SG → Option (SG)
  | 0, _, _, _, _ => none
  | n + 1, x0, x1, x2, σ =>
  if x2 = true then
  if (zb (σ.1 (x0) 27)) = true then
  F_Mo_verify_83 (F_Mo_verify_68  n) 5000 (x0) (x1) (false) ((0 : Int32)) σ
  else F_Mo_verify_149 (x0) (x1) σ
  else F_Mo_verify_149 (x0) (x1) σ
set_option maxHeartbeats 4000000 in
theorem w_Mo_verify_68 {b d : Nat} {sc : SC} {pre tl : List PE} {B : Nat} {Q : Option Value → List PE → Prop} {res : SG} (hB : B = b + pre.length) (hd : 5 ≤ d)   (hQ : Q none (HH pre tl SHm B res)) : ∀ (n : Nat) (lv : LV) (σ : SG) (x0 : Nat) (x1 : Int32) (x2 : Bool), isC SHm (x0) 8 = true → lv.lookup 0 = some (.ref (B + (x0))) → lv.lookup 1 = some (.int (x1)) → lv.lookup 2 = some (.int (bz (x2))) → F_Mo_verify_68  n x0 x1 x2 σ = some res → Rn b sc d 36 68 lv [] (HH pre tl SHm B σ) Q := by
  obtain ⟨e0, rfl⟩ : ∃ e, d = e + 1 := ⟨d - 1, by omega⟩
  intro n
  induction n with
  | zero => intro lv σ x0 x1 x2 hx0 l0 l1 l2 hF; cases hF
  | succ n ih =>
    intro lv σ x0 x1 x2 hx0 l0 l1 l2 hF
    unfold F_Mo_verify_68 at hF
    refine r_iload_n f_Mo_verify_68 l2 ?_
    refine r_if_eq f_Mo_verify_69 (fun c13 => ?_) (fun c13 => ?_)
    · rw [if_neg (bz_nt c13)] at hF
      exact w_Mo_verify_149 hB hd  hQ _ (σ) (x0) (x1) hx0 l0 l1 hF
    · rw [if_pos (bz_t c13)] at hF
      refine r_aload_n f_Mo_verify_72 l0 ?_
      refine t_getz hB hx0 f_Mo_verify_73 rfl ?_
      refine r_if_eq f_Mo_verify_76 (fun c14 => ?_) (fun c14 => ?_)
      · rw [if_neg (bz_nt c14)] at hF
        exact w_Mo_verify_149 hB hd  hQ _ (σ) (x0) (x1) hx0 l0 l1 hF
      · rw [if_pos (bz_t c14)] at hF
        refine r_iconst f_Mo_verify_79 (v := 0) (by decide) ?_
        refine r_istore_n f_Mo_verify_80 ?_
        refine r_iconst f_Mo_verify_81 (v := 0) (by decide) ?_
        refine r_istore_n f_Mo_verify_82 ?_
        exact w_Mo_verify_83 hB hd (ih) hQ 5000 _ (σ) (x0) (x1) (false) ((0 : Int32)) hx0 (lk_put_ne (lk_put_ne l0 (by decide) (Or.inl rfl)) (by decide) (Or.inl rfl)) (lk_put_ne (lk_put_ne l1 (by decide) (Or.inl rfl)) (by decide) (Or.inl rfl)) (lk_put_ne lk_put (by decide) (Or.inl rfl)) lk_put hF
def F_Mo_verify_49  : Nat → Nat → Int32 → Bool → Int32 → SG → Option (SG)
  | 0, _, _, _, _, _ => none
  | n + 1, x0, x1, x2, x3, σ =>
  if (100 : Int32) ≤ x3 then
  F_Mo_verify_68  5000 (x0) (x1) (x2) σ
  else if x3 < 0 ∨ 100 ≤ (x3).toNatClampNeg then none else
  stl (setA σ ((cref SHm (x0) 45)) ((x3).toNatClampNeg) (bz (false))) fun s17 =>
  F_Mo_verify_49  n (x0) (x1) (x2) ((x3 + 1)) s17
set_option maxHeartbeats 4000000 in
theorem w_Mo_verify_49 {b d : Nat} {sc : SC} {pre tl : List PE} {B : Nat} {Q : Option Value → List PE → Prop} {res : SG} (hB : B = b + pre.length) (hd : 5 ≤ d)   (hQ : Q none (HH pre tl SHm B res)) : ∀ (n : Nat) (lv : LV) (σ : SG) (x0 : Nat) (x1 : Int32) (x2 : Bool) (x3 : Int32), isC SHm (x0) 8 = true → lv.lookup 0 = some (.ref (B + (x0))) → lv.lookup 1 = some (.int (x1)) → lv.lookup 2 = some (.int (bz (x2))) → lv.lookup 3 = some (.int (x3)) → F_Mo_verify_49  n x0 x1 x2 x3 σ = some res → Rn b sc d 36 49 lv [] (HH pre tl SHm B σ) Q := by
  obtain ⟨e0, rfl⟩ : ∃ e, d = e + 1 := ⟨d - 1, by omega⟩
  intro n
  induction n with
  | zero => intro lv σ x0 x1 x2 x3 hx0 l0 l1 l2 l3 hF; cases hF
  | succ n ih =>
    intro lv σ x0 x1 x2 x3 hx0 l0 l1 l2 l3 hF
    unfold F_Mo_verify_49 at hF
    refine r_iload_n f_Mo_verify_49 l3 ?_
    refine r_bipush f_Mo_verify_50 (v := 100) (by decide) ?_
    refine r_icmp_ge f_Mo_verify_52 (fun c15 => ?_) (fun c15 => ?_)
    · rw [if_pos c15] at hF
      exact w_Mo_verify_68 hB hd  hQ 5000 _ (σ) (x0) (x1) (x2) hx0 l0 l1 l2 hF
    · rw [if_neg c15] at hF
      refine r_aload_n f_Mo_verify_55 l0 ?_
      refine t_getc hB hx0 f_Mo_verify_56 rfl ?_
      refine r_iload_n f_Mo_verify_59 l3 ?_
      refine r_iconst f_Mo_verify_60 (v := 0) (by decide) ?_
      by_cases c16 : x3 < 0 ∨ 100 ≤ (x3).toNatClampNeg
      · rw [if_pos c16] at hF; cases hF
      rw [if_neg c16] at hF
      refine t_bast (v := false) hB (cc_8_45 hx0) f_Mo_verify_61 c16 ?_
      generalize hs17 : setA σ ((cref SHm (x0) 45)) ((x3).toNatClampNeg) (bz (false)) = s17 at hF ⊢
      rw [stl_eq] at hF
      refine r_iinc f_Mo_verify_62 l3 (w := x3 + 1) rfl ?_
      refine r_goto f_Mo_verify_65 ?_
      exact ih _ (s17) (x0) (x1) (x2) ((x3 + 1)) hx0 (lk_put_ne l0 (by decide) (Or.inl rfl)) (lk_put_ne l1 (by decide) (Or.inl rfl)) (lk_put_ne l2 (by decide) (Or.inl rfl)) lk_put hF
def F_Mo_verify_42  (x0 : Nat) (x1 : Int32) (σ : SG) : Option (SG) :=
  F_Mo_verify_49  5000 (x0) (x1) ((zb (σ.1 (x0) 27))) ((0 : Int32)) σ
set_option maxHeartbeats 4000000 in
theorem w_Mo_verify_42 {b d : Nat} {sc : SC} {pre tl : List PE} {B : Nat} {Q : Option Value → List PE → Prop} {res : SG} (hB : B = b + pre.length) (hd : 5 ≤ d)   (hQ : Q none (HH pre tl SHm B res)) (lv : LV) (σ : SG) (x0 : Nat) (x1 : Int32) (hx0 : isC SHm (x0) 8 = true) (l0 : lv.lookup 0 = some (.ref (B + (x0)))) (l1 : lv.lookup 1 = some (.int (x1))) (hF : F_Mo_verify_42  x0 x1 σ = some res) : Rn b sc d 36 42 lv [] (HH pre tl SHm B σ) Q := by
  obtain ⟨e0, rfl⟩ : ∃ e, d = e + 1 := ⟨d - 1, by omega⟩
  unfold F_Mo_verify_42 at hF
  refine r_aload_n f_Mo_verify_42 l0 ?_
  refine t_getz hB hx0 f_Mo_verify_43 rfl ?_
  refine r_istore_n f_Mo_verify_46 ?_
  refine r_iconst f_Mo_verify_47 (v := 0) (by decide) ?_
  refine r_istore_n f_Mo_verify_48 ?_
  exact w_Mo_verify_49 hB hd  hQ 5000 _ (σ) (x0) (x1) ((zb (σ.1 (x0) 27))) ((0 : Int32)) hx0 (lk_put_ne (lk_put_ne l0 (by decide) (Or.inl rfl)) (by decide) (Or.inl rfl)) (lk_put_ne (lk_put_ne l1 (by decide) (Or.inl rfl)) (by decide) (Or.inl rfl)) (lk_put_ne lk_put (by decide) (Or.inl rfl)) lk_put hF
def F_Mo_verify_25  (x0 : Nat) (x1 : Int32) (y0 : Nat) (y1 : Bool) (σ : SG) : Option (SG) :=
  stl (setI σ (y0) 27 (bz (y1))) fun s18 =>
  if (zb (s18.1 (x0) 27)) = true then
  match F_Mo_meet (x0) ((0 : Int32)) ((0 : Int32)) ((0 : Int64)) s18 with
  | none => none
  | some q20 =>
  F_Mo_verify_42 (x0) (x1) q20
  else F_Mo_verify_42 (x0) (x1) s18
set_option maxHeartbeats 4000000 in
theorem w_Mo_verify_25 {b d : Nat} {sc : SC} {pre tl : List PE} {B : Nat} {Q : Option Value → List PE → Prop} {res : SG} (hB : B = b + pre.length) (hd : 5 ≤ d)   (hQ : Q none (HH pre tl SHm B res)) (lv : LV) (σ : SG) (x0 : Nat) (x1 : Int32) (y0 : Nat) (y1 : Bool) (hx0 : isC SHm (x0) 8 = true) (hy0 : isC SHm (y0) 8 = true) (l0 : lv.lookup 0 = some (.ref (B + (x0)))) (l1 : lv.lookup 1 = some (.int (x1))) (hF : F_Mo_verify_25  x0 x1 y0 y1 σ = some res) : Rn b sc d 36 25 lv [.int (bz (y1)), .ref (B + (y0))] (HH pre tl SHm B σ) Q := by
  obtain ⟨e0, rfl⟩ : ∃ e, d = e + 1 := ⟨d - 1, by omega⟩
  unfold F_Mo_verify_25 at hF
  refine t_putz (v := y1) hB hy0 f_Mo_verify_25 rfl rfl ?_
  generalize hs18 : setI σ (y0) 27 (bz (y1)) = s18 at hF ⊢
  rw [stl_eq] at hF
  refine r_aload_n f_Mo_verify_28 l0 ?_
  refine t_getz hB hx0 f_Mo_verify_29 rfl ?_
  refine r_if_eq f_Mo_verify_32 (fun c19 => ?_) (fun c19 => ?_)
  · rw [if_neg (bz_nt c19)] at hF
    exact w_Mo_verify_42 hB hd  hQ _ (s18) (x0) (x1) hx0 l0 l1 hF
  · rw [if_pos (bz_t c19)] at hF
    refine r_aload_n f_Mo_verify_35 l0 ?_
    refine r_iconst f_Mo_verify_36 (v := 0) (by decide) ?_
    refine r_iconst f_Mo_verify_37 (v := 0) (by decide) ?_
    refine r_lconst f_Mo_verify_38 (v := 0) (by decide) ?_
    cases hq20 : F_Mo_meet (x0) ((0 : Int32)) ((0 : Int32)) ((0 : Int64)) s18 with
    | none => simp only [hq20] at hF; cases hF
    | some q20 =>
      simp only [hq20] at hF
      refine t_V3v hB hx0 rfl rfl f_Mo_verify_39 (by decide) (Nat.le_of_ble_eq_true rfl) (Nat.le_of_ble_eq_true rfl) (w_Mo_meet hB (by omega) (x0) ((0 : Int32)) ((0 : Int32)) ((0 : Int64)) hx0 hq20 ⟨rfl, ?_⟩)
      exact w_Mo_verify_42 hB hd  hQ _ (q20) (x0) (x1) hx0 l0 l1 hF
def F_Mo_verify_24  (x0 : Nat) (x1 : Int32) (y0 : Nat) (σ : SG) : Option (SG) :=
  F_Mo_verify_25 (x0) (x1) (y0) (false) σ
set_option maxHeartbeats 4000000 in
theorem w_Mo_verify_24 {b d : Nat} {sc : SC} {pre tl : List PE} {B : Nat} {Q : Option Value → List PE → Prop} {res : SG} (hB : B = b + pre.length) (hd : 5 ≤ d)   (hQ : Q none (HH pre tl SHm B res)) (lv : LV) (σ : SG) (x0 : Nat) (x1 : Int32) (y0 : Nat) (hx0 : isC SHm (x0) 8 = true) (hy0 : isC SHm (y0) 8 = true) (l0 : lv.lookup 0 = some (.ref (B + (x0)))) (l1 : lv.lookup 1 = some (.int (x1))) (hF : F_Mo_verify_24  x0 x1 y0 σ = some res) : Rn b sc d 36 24 lv [.ref (B + (y0))] (HH pre tl SHm B σ) Q := by
  obtain ⟨e0, rfl⟩ : ∃ e, d = e + 1 := ⟨d - 1, by omega⟩
  unfold F_Mo_verify_24 at hF
  refine r_iconst f_Mo_verify_24 (v := 0) (by decide) ?_
  exact w_Mo_verify_25 hB hd  hQ _ (σ) (x0) (x1) (y0) (false) hx0 hy0 l0 l1 hF
def F_Mo_verify (a0 : Nat) (a1 : Int32) (σ : SG) : Option (SG) :=
  stl (setI σ (a0) 24 (a1)) fun s21 =>
  match F_Mo_split (a0) s21 with
  | none => none
  | some q22 =>
  if q22.1 = true then
  match F_Mo_wellMade (a0) q22.2 with
  | none => none
  | some q24 =>
  if q24.1 = true then
  F_Mo_verify_25 (a0) (a1) (a0) (true) q24.2
  else F_Mo_verify_24 (a0) (a1) (a0) q24.2
  else F_Mo_verify_24 (a0) (a1) (a0) q22.2
set_option maxHeartbeats 4000000 in
theorem w_Mo_verify {b d : Nat} {pre tl : List PE} {B : Nat} {Q : Option Value → List PE → Prop} {res : SG} (hB : B = b + pre.length) (hd : 5 ≤ d)  {σ : SG} (a0 : Nat) (a1 : Int32) (ha0 : isC SHm (a0) 8 = true) (hF : F_Mo_verify a0 a1 σ = some res) (hQ : Q none (HH pre tl SHm B res)) : Cl b d 36 [.ref (B + (a0)), .int (a1)] (HH pre tl SHm B σ) Q := by
  obtain ⟨e0, rfl⟩ : ∃ e, d = e + 1 := ⟨d - 1, by omega⟩
  unfold Cl
  unfold F_Mo_verify at hF
  refine r_aload_n f_Mo_verify_0 rfl ?_
  refine r_iload_n f_Mo_verify_1 rfl ?_
  refine t_puti hB ha0 f_Mo_verify_2 rfl rfl ?_
  generalize hs21 : setI σ (a0) 24 (a1) = s21 at hF ⊢
  rw [stl_eq] at hF
  refine r_aload_n f_Mo_verify_5 rfl ?_
  refine r_aload_n f_Mo_verify_6 rfl ?_
  cases hq22 : F_Mo_split (a0) s21 with
  | none => simp only [hq22] at hF; cases hF
  | some q22 =>
    simp only [hq22] at hF
    refine t_V0i hB ha0 rfl rfl f_Mo_verify_7 (by decide) (Nat.le_of_ble_eq_true rfl) (Nat.le_of_ble_eq_true rfl) (w_Mo_split hB (by omega) (a0) ha0 hq22 ⟨_, rfl, ?_⟩)
    refine r_if_eq f_Mo_verify_10 (fun c23 => ?_) (fun c23 => ?_)
    · rw [if_neg (bz_nt c23)] at hF
      exact w_Mo_verify_24 hB hd  hQ _ (q22.2) (a0) (a1) (a0) ha0 ha0 rfl rfl hF
    · rw [if_pos (bz_t c23)] at hF
      refine r_aload_n f_Mo_verify_13 rfl ?_
      cases hq24 : F_Mo_wellMade (a0) q22.2 with
      | none => simp only [hq24] at hF; cases hF
      | some q24 =>
        simp only [hq24] at hF
        refine t_V0i hB ha0 rfl rfl f_Mo_verify_14 (by decide) (Nat.le_of_ble_eq_true rfl) (Nat.le_of_ble_eq_true rfl) (w_Mo_wellMade hB (by omega) (a0) ha0 hq24 ⟨_, rfl, ?_⟩)
        refine r_if_eq f_Mo_verify_17 (fun c25 => ?_) (fun c25 => ?_)
        · rw [if_neg (bz_nt c25)] at hF
          exact w_Mo_verify_24 hB hd  hQ _ (q24.2) (a0) (a1) (a0) ha0 ha0 rfl rfl hF
        · rw [if_pos (bz_t c25)] at hF
          refine r_iconst f_Mo_verify_20 (v := 1) (by decide) ?_
          refine r_goto f_Mo_verify_21 ?_
          exact w_Mo_verify_25 hB hd  hQ _ (q24.2) (a0) (a1) (a0) (true) ha0 ha0 rfl rfl hF
theorem f_Mo_load_0 : fetch 30 0 = some (.aload_n 0, 1, 0, 0, 0) := rfl
theorem f_Mo_load_1 : fetch 30 1 = some (.iconst 0, 1, 0, 0, 0) := rfl
theorem f_Mo_load_2 : fetch 30 2 = some (.invokevirtual 143, 3, 31, 1, 40) := rfl
theorem f_Mo_load_5 : fetch 30 5 = some (.aload_n 0, 1, 0, 0, 0) := rfl
theorem f_Mo_load_6 : fetch 30 6 = some (.getfield 114, 3, 8, 3, 60) := rfl
theorem f_Mo_load_9 : fetch 30 9 = some (.ifCond .eq 5, 3, 14, 0, 0) := rfl
theorem f_Mo_load_12 : fetch 30 12 = some (.iconst (-1), 1, 0, 0, 0) := rfl
theorem f_Mo_load_13 : fetch 30 13 = some (.ireturn, 1, 0, 0, 0) := rfl
theorem f_Mo_load_14 : fetch 30 14 = some (.aload_n 0, 1, 0, 0, 0) := rfl
theorem f_Mo_load_15 : fetch 30 15 = some (.iconst 1, 1, 0, 0, 0) := rfl
theorem f_Mo_load_16 : fetch 30 16 = some (.invokevirtual 143, 3, 31, 1, 40) := rfl
theorem f_Mo_load_19 : fetch 30 19 = some (.aload_n 0, 1, 0, 0, 0) := rfl
theorem f_Mo_load_20 : fetch 30 20 = some (.iconst 0, 1, 0, 0, 0) := rfl
theorem f_Mo_load_21 : fetch 30 21 = some (.putfield 147, 3, 8, 28, 61) := rfl
theorem f_Mo_load_24 : fetch 30 24 = some (.iconst 0, 1, 0, 0, 0) := rfl
theorem f_Mo_load_25 : fetch 30 25 = some (.istore_n 1, 1, 0, 0, 0) := rfl
theorem f_Mo_load_26 : fetch 30 26 = some (.iload_n 1, 1, 0, 0, 0) := rfl
theorem f_Mo_load_27 : fetch 30 27 = some (.aload_n 0, 1, 0, 0, 0) := rfl
theorem f_Mo_load_28 : fetch 30 28 = some (.getfield 136, 3, 8, 7, 62) := rfl
theorem f_Mo_load_31 : fetch 30 31 = some (.if_icmp .ge 14, 3, 45, 0, 0) := rfl
theorem f_Mo_load_34 : fetch 30 34 = some (.aload_n 0, 1, 0, 0, 0) := rfl
theorem f_Mo_load_35 : fetch 30 35 = some (.iload_n 1, 1, 0, 0, 0) := rfl
theorem f_Mo_load_36 : fetch 30 36 = some (.invokevirtual 150, 3, 36, 1, 41) := rfl
theorem f_Mo_load_39 : fetch 30 39 = some (.iinc 1 1, 3, 0, 0, 0) := rfl
theorem f_Mo_load_42 : fetch 30 42 = some (.goto (-16), 3, 26, 0, 0) := rfl
theorem f_Mo_load_45 : fetch 30 45 = some (.aload_n 0, 1, 0, 0, 0) := rfl
theorem f_Mo_load_46 : fetch 30 46 = some (.getfield 136, 3, 8, 7, 62) := rfl
theorem f_Mo_load_49 : fetch 30 49 = some (.ireturn, 1, 0, 0, 0) := rfl
def F_Mo_load_26  : Nat → Nat → Int32 → SG → Option (Int32 × SG)
  | 0, _, _, _ => none
  | n + 1, x0, x1, σ =>
  if (σ.1 (x0) 7) ≤ x1 then
  some ((σ.1 (x0) 7), σ)
  else match F_Mo_verify (x0) (x1) σ with
  | none => none
  | some q2 =>
  F_Mo_load_26  n (x0) ((x1 + 1)) q2
set_option maxHeartbeats 4000000 in
theorem w_Mo_load_26 {b d : Nat} {sc : SC} {pre tl : List PE} {B : Nat} {Q : Option Value → List PE → Prop} {res : Int32 × SG} (hB : B = b + pre.length) (hd : 6 ≤ d)   (hQ : Q (some (.int res.1)) (HH pre tl SHm B res.2)) : ∀ (n : Nat) (lv : LV) (σ : SG) (x0 : Nat) (x1 : Int32), isC SHm (x0) 8 = true → lv.lookup 0 = some (.ref (B + (x0))) → lv.lookup 1 = some (.int (x1)) → F_Mo_load_26  n x0 x1 σ = some res → Rn b sc d 30 26 lv [] (HH pre tl SHm B σ) Q := by
  obtain ⟨e0, rfl⟩ : ∃ e, d = e + 1 := ⟨d - 1, by omega⟩
  intro n
  induction n with
  | zero => intro lv σ x0 x1 hx0 l0 l1 hF; cases hF
  | succ n ih =>
    intro lv σ x0 x1 hx0 l0 l1 hF
    unfold F_Mo_load_26 at hF
    refine r_iload_n f_Mo_load_26 l1 ?_
    refine r_aload_n f_Mo_load_27 l0 ?_
    refine t_geti hB hx0 f_Mo_load_28 rfl ?_
    refine r_icmp_ge f_Mo_load_31 (fun c1 => ?_) (fun c1 => ?_)
    · rw [if_pos c1] at hF
      refine r_aload_n f_Mo_load_45 l0 ?_
      refine t_geti hB hx0 f_Mo_load_46 rfl ?_
      cases hF
      exact r_ireturn f_Mo_load_49 hQ
    · rw [if_neg c1] at hF
      refine r_aload_n f_Mo_load_34 l0 ?_
      refine r_iload_n f_Mo_load_35 l1 ?_
      cases hq2 : F_Mo_verify (x0) (x1) σ with
      | none => simp only [hq2] at hF; cases hF
      | some q2 =>
        simp only [hq2] at hF
        refine t_V1v hB hx0 rfl rfl f_Mo_load_36 (by decide) (Nat.le_of_ble_eq_true rfl) (Nat.le_of_ble_eq_true rfl) (w_Mo_verify hB (by omega) (x0) (x1) hx0 hq2 ⟨rfl, ?_⟩)
        refine r_iinc f_Mo_load_39 l1 (w := x1 + 1) rfl ?_
        refine r_goto f_Mo_load_42 ?_
        exact ih _ (q2) (x0) ((x1 + 1)) hx0 (lk_put_ne l0 (by decide) (Or.inl rfl)) lk_put hF
def F_Mo_load (a0 : Nat) (σ : SG) : Option (Int32 × SG) :=
  match F_Mo_scan (a0) (false) σ with
  | none => none
  | some q3 =>
  if (zb (q3.1 (a0) 3)) = true then
  some (((-1) : Int32), q3)
  else match F_Mo_scan (a0) (true) q3 with
  | none => none
  | some q5 =>
  stl (setI q5 (a0) 28 ((0 : Int32))) fun s6 =>
  F_Mo_load_26  5000 (a0) ((0 : Int32)) s6
set_option maxHeartbeats 4000000 in
theorem w_Mo_load {b d : Nat} {pre tl : List PE} {B : Nat} {Q : Option Value → List PE → Prop} {res : Int32 × SG} (hB : B = b + pre.length) (hd : 6 ≤ d)  {σ : SG} (a0 : Nat) (ha0 : isC SHm (a0) 8 = true) (hF : F_Mo_load a0 σ = some res) (hQ : Q (some (.int res.1)) (HH pre tl SHm B res.2)) : Cl b d 30 [.ref (B + (a0))] (HH pre tl SHm B σ) Q := by
  obtain ⟨e0, rfl⟩ : ∃ e, d = e + 1 := ⟨d - 1, by omega⟩
  unfold Cl
  unfold F_Mo_load at hF
  refine r_aload_n f_Mo_load_0 rfl ?_
  refine r_iconst f_Mo_load_1 (v := 0) (by decide) ?_
  cases hq3 : F_Mo_scan (a0) (false) σ with
  | none => simp only [hq3] at hF; cases hF
  | some q3 =>
    simp only [hq3] at hF
    refine t_V1v hB ha0 rfl rfl f_Mo_load_2 (by decide) (Nat.le_of_ble_eq_true rfl) (Nat.le_of_ble_eq_true rfl) (w_Mo_scan hB (by omega) (a0) (false) ha0 hq3 ⟨rfl, ?_⟩)
    refine r_aload_n f_Mo_load_5 rfl ?_
    refine t_getz hB ha0 f_Mo_load_6 rfl ?_
    refine r_if_eq f_Mo_load_9 (fun c4 => ?_) (fun c4 => ?_)
    · rw [if_neg (bz_nt c4)] at hF
      refine r_aload_n f_Mo_load_14 rfl ?_
      refine r_iconst f_Mo_load_15 (v := 1) (by decide) ?_
      cases hq5 : F_Mo_scan (a0) (true) q3 with
      | none => simp only [hq5] at hF; cases hF
      | some q5 =>
        simp only [hq5] at hF
        refine t_V1v hB ha0 rfl rfl f_Mo_load_16 (by decide) (Nat.le_of_ble_eq_true rfl) (Nat.le_of_ble_eq_true rfl) (w_Mo_scan hB (by omega) (a0) (true) ha0 hq5 ⟨rfl, ?_⟩)
        refine r_aload_n f_Mo_load_19 rfl ?_
        refine r_iconst f_Mo_load_20 (v := 0) (by decide) ?_
        refine t_puti hB ha0 f_Mo_load_21 rfl rfl ?_
        generalize hs6 : setI q5 (a0) 28 ((0 : Int32)) = s6 at hF ⊢
        rw [stl_eq] at hF
        refine r_iconst f_Mo_load_24 (v := 0) (by decide) ?_
        refine r_istore_n f_Mo_load_25 ?_
        exact w_Mo_load_26 hB hd  hQ 5000 _ (s6) (a0) ((0 : Int32)) ha0 (lk_put_ne rfl (by decide) (Or.inl rfl)) lk_put hF
    · rw [if_pos (bz_t c4)] at hF
      refine r_iconst f_Mo_load_12 (v := (-1)) (by decide) ?_
      cases hF
      exact r_ireturn f_Mo_load_13 hQ
theorem f_Mo_isGood_0 : fetch 65 0 = some (.iload_n 1, 1, 0, 0, 0) := rfl
theorem f_Mo_isGood_1 : fetch 65 1 = some (.ifCond .lt 24, 3, 25, 0, 0) := rfl
theorem f_Mo_isGood_4 : fetch 65 4 = some (.iload_n 1, 1, 0, 0, 0) := rfl
theorem f_Mo_isGood_5 : fetch 65 5 = some (.aload_n 0, 1, 0, 0, 0) := rfl
theorem f_Mo_isGood_6 : fetch 65 6 = some (.getfield 136, 3, 8, 7, 62) := rfl
theorem f_Mo_isGood_9 : fetch 65 9 = some (.if_icmp .ge 16, 3, 25, 0, 0) := rfl
theorem f_Mo_isGood_12 : fetch 65 12 = some (.aload_n 0, 1, 0, 0, 0) := rfl
theorem f_Mo_isGood_13 : fetch 65 13 = some (.getfield 66, 3, 8, 23, 45) := rfl
theorem f_Mo_isGood_16 : fetch 65 16 = some (.iload_n 1, 1, 0, 0, 0) := rfl
theorem f_Mo_isGood_17 : fetch 65 17 = some (.baload, 1, 0, 0, 0) := rfl
theorem f_Mo_isGood_18 : fetch 65 18 = some (.ifCond .eq 7, 3, 25, 0, 0) := rfl
theorem f_Mo_isGood_21 : fetch 65 21 = some (.iconst 1, 1, 0, 0, 0) := rfl
theorem f_Mo_isGood_22 : fetch 65 22 = some (.goto 4, 3, 26, 0, 0) := rfl
theorem f_Mo_isGood_25 : fetch 65 25 = some (.iconst 0, 1, 0, 0, 0) := rfl
theorem f_Mo_isGood_26 : fetch 65 26 = some (.ireturn, 1, 2, 0, 0) := rfl
def F_Mo_isGood_26  (y0 : Bool) (σ : SG) : Option (Bool × SG) :=
  some (y0, σ)
set_option maxHeartbeats 4000000 in
theorem w_Mo_isGood_26 {b d : Nat} {sc : SC} {pre tl : List PE} {B : Nat} {Q : Option Value → List PE → Prop} {res : Bool × SG} (hB : B = b + pre.length)   (hQ : Q (some (.int (bz res.1))) (HH pre tl SHm B res.2)) (lv : LV) (σ : SG) (y0 : Bool)  (hF : F_Mo_isGood_26  y0 σ = some res) : Rn b sc d 65 26 lv [.int (bz (y0))] (HH pre tl SHm B σ) Q := by
  unfold F_Mo_isGood_26 at hF
  cases hF
  exact r_zreturn f_Mo_isGood_26 (bz_or (y0)) hQ
def F_Mo_isGood_25   (σ : SG) : Option (Bool × SG) :=
  F_Mo_isGood_26 (false) σ
set_option maxHeartbeats 4000000 in
theorem w_Mo_isGood_25 {b d : Nat} {sc : SC} {pre tl : List PE} {B : Nat} {Q : Option Value → List PE → Prop} {res : Bool × SG} (hB : B = b + pre.length)   (hQ : Q (some (.int (bz res.1))) (HH pre tl SHm B res.2)) (lv : LV) (σ : SG)   (hF : F_Mo_isGood_25   σ = some res) : Rn b sc d 65 25 lv [] (HH pre tl SHm B σ) Q := by
  unfold F_Mo_isGood_25 at hF
  refine r_iconst f_Mo_isGood_25 (v := 0) (by decide) ?_
  exact w_Mo_isGood_26 hB   hQ _ (σ) (false) hF
def F_Mo_isGood (a0 : Nat) (a1 : Int32) (σ : SG) : Option (Bool × SG) :=
  if a1 < 0 then
  F_Mo_isGood_25 σ
  else if (σ.1 (a0) 7) ≤ a1 then
  F_Mo_isGood_25 σ
  else if a1 < 0 ∨ 6 ≤ (a1).toNatClampNeg then none else
  if (zb (σ.2.2.2.1 ((cref SHm (a0) 23)) ((a1).toNatClampNeg))) = true then
  F_Mo_isGood_26 (true) σ
  else F_Mo_isGood_25 σ
set_option maxHeartbeats 4000000 in
theorem w_Mo_isGood {b d : Nat} {pre tl : List PE} {B : Nat} {Q : Option Value → List PE → Prop} {res : Bool × SG} (hB : B = b + pre.length)  {σ : SG} (a0 : Nat) (a1 : Int32) (ha0 : isC SHm (a0) 8 = true) (hF : F_Mo_isGood a0 a1 σ = some res) (hQ : Q (some (.int (bz res.1))) (HH pre tl SHm B res.2)) : Cl b d 65 [.ref (B + (a0)), .int (a1)] (HH pre tl SHm B σ) Q := by
  unfold Cl
  unfold F_Mo_isGood at hF
  refine r_iload_n f_Mo_isGood_0 rfl ?_
  refine r_if_lt f_Mo_isGood_1 (fun c1 => ?_) (fun c1 => ?_)
  · rw [if_pos c1] at hF
    exact w_Mo_isGood_25 hB   hQ _ (σ) hF
  · rw [if_neg c1] at hF
    refine r_iload_n f_Mo_isGood_4 rfl ?_
    refine r_aload_n f_Mo_isGood_5 rfl ?_
    refine t_geti hB ha0 f_Mo_isGood_6 rfl ?_
    refine r_icmp_ge f_Mo_isGood_9 (fun c2 => ?_) (fun c2 => ?_)
    · rw [if_pos c2] at hF
      exact w_Mo_isGood_25 hB   hQ _ (σ) hF
    · rw [if_neg c2] at hF
      refine r_aload_n f_Mo_isGood_12 rfl ?_
      refine t_getc hB ha0 f_Mo_isGood_13 rfl ?_
      refine r_iload_n f_Mo_isGood_16 rfl ?_
      by_cases c3 : a1 < 0 ∨ 6 ≤ (a1).toNatClampNeg
      · rw [if_pos c3] at hF; cases hF
      rw [if_neg c3] at hF
      refine t_bald hB (cc_8_23 ha0) f_Mo_isGood_17 c3 ?_
      refine r_if_eq f_Mo_isGood_18 (fun c4 => ?_) (fun c4 => ?_)
      · rw [if_neg (bz_nt c4)] at hF
        exact w_Mo_isGood_25 hB   hQ _ (σ) hF
      · rw [if_pos (bz_t c4)] at hF
        refine r_iconst f_Mo_isGood_21 (v := 1) (by decide) ?_
        refine r_goto f_Mo_isGood_22 ?_
        exact w_Mo_isGood_26 hB   hQ _ (σ) (true) hF
theorem f_Mo_verified_0 : fetch 64 0 = some (.aload_n 0, 1, 0, 0, 0) := rfl
theorem f_Mo_verified_1 : fetch 64 1 = some (.iload_n 1, 1, 0, 0, 0) := rfl
theorem f_Mo_verified_2 : fetch 64 2 = some (.invokevirtual 257, 3, 65, 1, 73) := rfl
theorem f_Mo_verified_5 : fetch 64 5 = some (.ireturn, 1, 2, 0, 0) := rfl
def F_Mo_verified (a0 : Nat) (a1 : Int32) (σ : SG) : Option (Bool × SG) :=
  match F_Mo_isGood (a0) (a1) σ with
  | none => none
  | some q1 =>
  some (q1.1, q1.2)
set_option maxHeartbeats 4000000 in
theorem w_Mo_verified {b d : Nat} {pre tl : List PE} {B : Nat} {Q : Option Value → List PE → Prop} {res : Bool × SG} (hB : B = b + pre.length) (hd : 1 ≤ d)  {σ : SG} (a0 : Nat) (a1 : Int32) (ha0 : isC SHm (a0) 8 = true) (hF : F_Mo_verified a0 a1 σ = some res) (hQ : Q (some (.int (bz res.1))) (HH pre tl SHm B res.2)) : Cl b d 64 [.ref (B + (a0)), .int (a1)] (HH pre tl SHm B σ) Q := by
  obtain ⟨e0, rfl⟩ : ∃ e, d = e + 1 := ⟨d - 1, by omega⟩
  unfold Cl
  unfold F_Mo_verified at hF
  refine r_aload_n f_Mo_verified_0 rfl ?_
  refine r_iload_n f_Mo_verified_1 rfl ?_
  cases hq1 : F_Mo_isGood (a0) (a1) σ with
  | none => simp only [hq1] at hF; cases hF
  | some q1 =>
    simp only [hq1] at hF
    refine t_V1i hB ha0 rfl rfl f_Mo_verified_2 (by decide) (Nat.le_of_ble_eq_true rfl) (Nat.le_of_ble_eq_true rfl) (w_Mo_isGood hB  (a0) (a1) ha0 hq1 ⟨_, rfl, ?_⟩)
    cases hF
    exact r_zreturn f_Mo_verified_5 (bz_or (q1.1)) hQ
theorem f_Mo_depth_0 : fetch 66 0 = some (.aload_n 0, 1, 0, 0, 0) := rfl
theorem f_Mo_depth_1 : fetch 66 1 = some (.iload_n 1, 1, 0, 0, 0) := rfl
theorem f_Mo_depth_2 : fetch 66 2 = some (.invokevirtual 257, 3, 65, 1, 73) := rfl
theorem f_Mo_depth_5 : fetch 66 5 = some (.ifCond .ne 6, 3, 11, 0, 0) := rfl
theorem f_Mo_depth_8 : fetch 66 8 = some (.bipush (-2), 2, 0, 0, 0) := rfl
theorem f_Mo_depth_10 : fetch 66 10 = some (.ireturn, 1, 0, 0, 0) := rfl
theorem f_Mo_depth_11 : fetch 66 11 = some (.iload_n 2, 1, 0, 0, 0) := rfl
theorem f_Mo_depth_12 : fetch 66 12 = some (.ifCond .lt 13, 3, 25, 0, 0) := rfl
theorem f_Mo_depth_15 : fetch 66 15 = some (.iload_n 2, 1, 0, 0, 0) := rfl
theorem f_Mo_depth_16 : fetch 66 16 = some (.aload_n 0, 1, 0, 0, 0) := rfl
theorem f_Mo_depth_17 : fetch 66 17 = some (.getfield 50, 3, 8, 18, 40) := rfl
theorem f_Mo_depth_20 : fetch 66 20 = some (.iload_n 1, 1, 0, 0, 0) := rfl
theorem f_Mo_depth_21 : fetch 66 21 = some (.iaload, 1, 0, 0, 0) := rfl
theorem f_Mo_depth_22 : fetch 66 22 = some (.if_icmp .lt 7, 3, 29, 0, 0) := rfl
theorem f_Mo_depth_25 : fetch 66 25 = some (.iconst (-1), 1, 0, 0, 0) := rfl
theorem f_Mo_depth_26 : fetch 66 26 = some (.goto 14, 3, 40, 0, 0) := rfl
theorem f_Mo_depth_29 : fetch 66 29 = some (.aload_n 0, 1, 0, 0, 0) := rfl
theorem f_Mo_depth_30 : fetch 66 30 = some (.getfield 59, 3, 8, 21, 43) := rfl
theorem f_Mo_depth_33 : fetch 66 33 = some (.bipush 100, 2, 0, 0, 0) := rfl
theorem f_Mo_depth_35 : fetch 66 35 = some (.iload_n 1, 1, 0, 0, 0) := rfl
theorem f_Mo_depth_36 : fetch 66 36 = some (.imul, 1, 0, 0, 0) := rfl
theorem f_Mo_depth_37 : fetch 66 37 = some (.iload_n 2, 1, 0, 0, 0) := rfl
theorem f_Mo_depth_38 : fetch 66 38 = some (.iadd, 1, 0, 0, 0) := rfl
theorem f_Mo_depth_39 : fetch 66 39 = some (.iaload, 1, 0, 0, 0) := rfl
theorem f_Mo_depth_40 : fetch 66 40 = some (.ireturn, 1, 0, 0, 0) := rfl
def F_Mo_depth_40  (y0 : Int32) (σ : SG) : Option (Int32 × SG) :=
  some (y0, σ)
set_option maxHeartbeats 4000000 in
theorem w_Mo_depth_40 {b d : Nat} {sc : SC} {pre tl : List PE} {B : Nat} {Q : Option Value → List PE → Prop} {res : Int32 × SG} (hB : B = b + pre.length) (hd : 1 ≤ d)   (hQ : Q (some (.int res.1)) (HH pre tl SHm B res.2)) (lv : LV) (σ : SG) (y0 : Int32)  (hF : F_Mo_depth_40  y0 σ = some res) : Rn b sc d 66 40 lv [.int (y0)] (HH pre tl SHm B σ) Q := by
  obtain ⟨e0, rfl⟩ : ∃ e, d = e + 1 := ⟨d - 1, by omega⟩
  unfold F_Mo_depth_40 at hF
  cases hF
  exact r_ireturn f_Mo_depth_40 hQ
def F_Mo_depth_25   (σ : SG) : Option (Int32 × SG) :=
  F_Mo_depth_40 (((-1) : Int32)) σ
set_option maxHeartbeats 4000000 in
theorem w_Mo_depth_25 {b d : Nat} {sc : SC} {pre tl : List PE} {B : Nat} {Q : Option Value → List PE → Prop} {res : Int32 × SG} (hB : B = b + pre.length) (hd : 1 ≤ d)   (hQ : Q (some (.int res.1)) (HH pre tl SHm B res.2)) (lv : LV) (σ : SG)   (hF : F_Mo_depth_25   σ = some res) : Rn b sc d 66 25 lv [] (HH pre tl SHm B σ) Q := by
  obtain ⟨e0, rfl⟩ : ∃ e, d = e + 1 := ⟨d - 1, by omega⟩
  unfold F_Mo_depth_25 at hF
  refine r_iconst f_Mo_depth_25 (v := (-1)) (by decide) ?_
  refine r_goto f_Mo_depth_26 ?_
  exact w_Mo_depth_40 hB hd  hQ _ (σ) (((-1) : Int32)) hF
def F_Mo_depth (a0 : Nat) (a1 : Int32) (a2 : Int32) (σ : SG) : Option (Int32 × SG) :=
  match F_Mo_isGood (a0) (a1) σ with
  | none => none
  | some q1 =>
  if q1.1 = true then
  if a2 < 0 then
  F_Mo_depth_25 q1.2
  else if a1 < 0 ∨ 6 ≤ (a1).toNatClampNeg then none else
  if a2 < (q1.2.2.2.2.1 ((cref SHm (a0) 18)) ((a1).toNatClampNeg)) then
  if (((100 : Int32) * a1) + a2) < 0 ∨ 600 ≤ ((((100 : Int32) * a1) + a2)).toNatClampNeg then none else
  F_Mo_depth_40 ((q1.2.2.2.2.1 ((cref SHm (a0) 21)) (((((100 : Int32) * a1) + a2)).toNatClampNeg))) q1.2
  else F_Mo_depth_25 q1.2
  else some (((-2) : Int32), q1.2)
set_option maxHeartbeats 4000000 in
theorem w_Mo_depth {b d : Nat} {pre tl : List PE} {B : Nat} {Q : Option Value → List PE → Prop} {res : Int32 × SG} (hB : B = b + pre.length) (hd : 1 ≤ d)  {σ : SG} (a0 : Nat) (a1 : Int32) (a2 : Int32) (ha0 : isC SHm (a0) 8 = true) (hF : F_Mo_depth a0 a1 a2 σ = some res) (hQ : Q (some (.int res.1)) (HH pre tl SHm B res.2)) : Cl b d 66 [.ref (B + (a0)), .int (a1), .int (a2)] (HH pre tl SHm B σ) Q := by
  obtain ⟨e0, rfl⟩ : ∃ e, d = e + 1 := ⟨d - 1, by omega⟩
  unfold Cl
  unfold F_Mo_depth at hF
  refine r_aload_n f_Mo_depth_0 rfl ?_
  refine r_iload_n f_Mo_depth_1 rfl ?_
  cases hq1 : F_Mo_isGood (a0) (a1) σ with
  | none => simp only [hq1] at hF; cases hF
  | some q1 =>
    simp only [hq1] at hF
    refine t_V1i hB ha0 rfl rfl f_Mo_depth_2 (by decide) (Nat.le_of_ble_eq_true rfl) (Nat.le_of_ble_eq_true rfl) (w_Mo_isGood hB  (a0) (a1) ha0 hq1 ⟨_, rfl, ?_⟩)
    refine r_if_ne f_Mo_depth_5 (fun c2 => ?_) (fun c2 => ?_)
    · rw [if_pos (bz_t c2)] at hF
      refine r_iload_n f_Mo_depth_11 rfl ?_
      refine r_if_lt f_Mo_depth_12 (fun c3 => ?_) (fun c3 => ?_)
      · rw [if_pos c3] at hF
        exact w_Mo_depth_25 hB hd  hQ _ (q1.2) hF
      · rw [if_neg c3] at hF
        refine r_iload_n f_Mo_depth_15 rfl ?_
        refine r_aload_n f_Mo_depth_16 rfl ?_
        refine t_getc hB ha0 f_Mo_depth_17 rfl ?_
        refine r_iload_n f_Mo_depth_20 rfl ?_
        by_cases c4 : a1 < 0 ∨ 6 ≤ (a1).toNatClampNeg
        · rw [if_pos c4] at hF; cases hF
        rw [if_neg c4] at hF
        refine t_iald hB (cc_8_18 ha0) f_Mo_depth_21 c4 ?_
        refine r_icmp_lt f_Mo_depth_22 (fun c5 => ?_) (fun c5 => ?_)
        · rw [if_pos c5] at hF
          refine r_aload_n f_Mo_depth_29 rfl ?_
          refine t_getc hB ha0 f_Mo_depth_30 rfl ?_
          refine r_bipush f_Mo_depth_33 (v := 100) (by decide) ?_
          refine r_iload_n f_Mo_depth_35 rfl ?_
          refine r_imul f_Mo_depth_36 ?_
          refine r_iload_n f_Mo_depth_37 rfl ?_
          refine r_iadd f_Mo_depth_38 ?_
          by_cases c6 : (((100 : Int32) * a1) + a2) < 0 ∨ 600 ≤ ((((100 : Int32) * a1) + a2)).toNatClampNeg
          · rw [if_pos c6] at hF; cases hF
          rw [if_neg c6] at hF
          refine t_iald hB (cc_8_21 ha0) f_Mo_depth_39 c6 ?_
          exact w_Mo_depth_40 hB hd  hQ _ (q1.2) ((q1.2.2.2.2.1 ((cref SHm (a0) 21)) (((((100 : Int32) * a1) + a2)).toNatClampNeg))) hF
        · rw [if_neg c5] at hF
          exact w_Mo_depth_25 hB hd  hQ _ (q1.2) hF
    · rw [if_neg (bz_nt (Decidable.not_not.mp c2))] at hF
      refine r_bipush f_Mo_depth_8 (v := (-2)) (by decide) ?_
      cases hF
      exact r_ireturn f_Mo_depth_10 hQ
theorem f_Mo_type_0 : fetch 67 0 = some (.iload_n 3, 1, 0, 0, 0) := rfl
theorem f_Mo_type_1 : fetch 67 1 = some (.ifCond .lt 19, 3, 20, 0, 0) := rfl
theorem f_Mo_type_4 : fetch 67 4 = some (.iload_n 3, 1, 0, 0, 0) := rfl
theorem f_Mo_type_5 : fetch 67 5 = some (.bipush 8, 2, 0, 0, 0) := rfl
theorem f_Mo_type_7 : fetch 67 7 = some (.if_icmp .ge 13, 3, 20, 0, 0) := rfl
theorem f_Mo_type_10 : fetch 67 10 = some (.aload_n 0, 1, 0, 0, 0) := rfl
theorem f_Mo_type_11 : fetch 67 11 = some (.iload_n 1, 1, 0, 0, 0) := rfl
theorem f_Mo_type_12 : fetch 67 12 = some (.iload_n 2, 1, 0, 0, 0) := rfl
theorem f_Mo_type_13 : fetch 67 13 = some (.invokevirtual 260, 3, 66, 2, 74) := rfl
theorem f_Mo_type_16 : fetch 67 16 = some (.iload_n 3, 1, 0, 0, 0) := rfl
theorem f_Mo_type_17 : fetch 67 17 = some (.if_icmp .gt 7, 3, 24, 0, 0) := rfl
theorem f_Mo_type_20 : fetch 67 20 = some (.iconst 0, 1, 0, 0, 0) := rfl
theorem f_Mo_type_21 : fetch 67 21 = some (.goto 23, 3, 44, 0, 0) := rfl
theorem f_Mo_type_24 : fetch 67 24 = some (.aload_n 0, 1, 0, 0, 0) := rfl
theorem f_Mo_type_25 : fetch 67 25 = some (.getfield 62, 3, 8, 22, 44) := rfl
theorem f_Mo_type_28 : fetch 67 28 = some (.bipush 100, 2, 0, 0, 0) := rfl
theorem f_Mo_type_30 : fetch 67 30 = some (.iload_n 1, 1, 0, 0, 0) := rfl
theorem f_Mo_type_31 : fetch 67 31 = some (.imul, 1, 0, 0, 0) := rfl
theorem f_Mo_type_32 : fetch 67 32 = some (.iload_n 2, 1, 0, 0, 0) := rfl
theorem f_Mo_type_33 : fetch 67 33 = some (.iadd, 1, 0, 0, 0) := rfl
theorem f_Mo_type_34 : fetch 67 34 = some (.laload, 1, 0, 0, 0) := rfl
theorem f_Mo_type_35 : fetch 67 35 = some (.iconst 4, 1, 0, 0, 0) := rfl
theorem f_Mo_type_36 : fetch 67 36 = some (.iload_n 3, 1, 0, 0, 0) := rfl
theorem f_Mo_type_37 : fetch 67 37 = some (.imul, 1, 0, 0, 0) := rfl
theorem f_Mo_type_38 : fetch 67 38 = some (.lshr, 1, 0, 0, 0) := rfl
theorem f_Mo_type_39 : fetch 67 39 = some (.ldc2_w 198, 3, 15, 0, 2) := rfl
theorem f_Mo_type_42 : fetch 67 42 = some (.land, 1, 0, 0, 0) := rfl
theorem f_Mo_type_43 : fetch 67 43 = some (.l2i, 1, 0, 0, 0) := rfl
theorem f_Mo_type_44 : fetch 67 44 = some (.ireturn, 1, 0, 0, 0) := rfl
def F_Mo_type_44  (y0 : Int32) (σ : SG) : Option (Int32 × SG) :=
  some (y0, σ)
set_option maxHeartbeats 4000000 in
theorem w_Mo_type_44 {b d : Nat} {sc : SC} {pre tl : List PE} {B : Nat} {Q : Option Value → List PE → Prop} {res : Int32 × SG} (hB : B = b + pre.length) (hd : 2 ≤ d)   (hQ : Q (some (.int res.1)) (HH pre tl SHm B res.2)) (lv : LV) (σ : SG) (y0 : Int32)  (hF : F_Mo_type_44  y0 σ = some res) : Rn b sc d 67 44 lv [.int (y0)] (HH pre tl SHm B σ) Q := by
  obtain ⟨e0, rfl⟩ : ∃ e, d = e + 1 := ⟨d - 1, by omega⟩
  unfold F_Mo_type_44 at hF
  cases hF
  exact r_ireturn f_Mo_type_44 hQ
def F_Mo_type_20   (σ : SG) : Option (Int32 × SG) :=
  F_Mo_type_44 ((0 : Int32)) σ
set_option maxHeartbeats 4000000 in
theorem w_Mo_type_20 {b d : Nat} {sc : SC} {pre tl : List PE} {B : Nat} {Q : Option Value → List PE → Prop} {res : Int32 × SG} (hB : B = b + pre.length) (hd : 2 ≤ d)   (hQ : Q (some (.int res.1)) (HH pre tl SHm B res.2)) (lv : LV) (σ : SG)   (hF : F_Mo_type_20   σ = some res) : Rn b sc d 67 20 lv [] (HH pre tl SHm B σ) Q := by
  obtain ⟨e0, rfl⟩ : ∃ e, d = e + 1 := ⟨d - 1, by omega⟩
  unfold F_Mo_type_20 at hF
  refine r_iconst f_Mo_type_20 (v := 0) (by decide) ?_
  refine r_goto f_Mo_type_21 ?_
  exact w_Mo_type_44 hB hd  hQ _ (σ) ((0 : Int32)) hF
def F_Mo_type (a0 : Nat) (a1 : Int32) (a2 : Int32) (a3 : Int32) (σ : SG) : Option (Int32 × SG) :=
  if a3 < 0 then
  F_Mo_type_20 σ
  else if (8 : Int32) ≤ a3 then
  F_Mo_type_20 σ
  else match F_Mo_depth (a0) (a1) (a2) σ with
  | none => none
  | some q3 =>
  if a3 < q3.1 then
  if (((100 : Int32) * a1) + a2) < 0 ∨ 600 ≤ ((((100 : Int32) * a1) + a2)).toNatClampNeg then none else
  F_Mo_type_44 ((((((q3.2.2.2.2.2 ((cref SHm (a0) 22)) (((((100 : Int32) * a1) + a2)).toNatClampNeg)) >>> ((((4 : Int32) * a3)).toInt64 &&& 63)) &&& (15 : Int64)) : Int64).toInt32)) q3.2
  else F_Mo_type_20 q3.2
set_option maxHeartbeats 4000000 in
theorem w_Mo_type {b d : Nat} {pre tl : List PE} {B : Nat} {Q : Option Value → List PE → Prop} {res : Int32 × SG} (hB : B = b + pre.length) (hd : 2 ≤ d)  {σ : SG} (a0 : Nat) (a1 : Int32) (a2 : Int32) (a3 : Int32) (ha0 : isC SHm (a0) 8 = true) (hF : F_Mo_type a0 a1 a2 a3 σ = some res) (hQ : Q (some (.int res.1)) (HH pre tl SHm B res.2)) : Cl b d 67 [.ref (B + (a0)), .int (a1), .int (a2), .int (a3)] (HH pre tl SHm B σ) Q := by
  obtain ⟨e0, rfl⟩ : ∃ e, d = e + 1 := ⟨d - 1, by omega⟩
  unfold Cl
  unfold F_Mo_type at hF
  refine r_iload_n f_Mo_type_0 rfl ?_
  refine r_if_lt f_Mo_type_1 (fun c1 => ?_) (fun c1 => ?_)
  · rw [if_pos c1] at hF
    exact w_Mo_type_20 hB hd  hQ _ (σ) hF
  · rw [if_neg c1] at hF
    refine r_iload_n f_Mo_type_4 rfl ?_
    refine r_bipush f_Mo_type_5 (v := 8) (by decide) ?_
    refine r_icmp_ge f_Mo_type_7 (fun c2 => ?_) (fun c2 => ?_)
    · rw [if_pos c2] at hF
      exact w_Mo_type_20 hB hd  hQ _ (σ) hF
    · rw [if_neg c2] at hF
      refine r_aload_n f_Mo_type_10 rfl ?_
      refine r_iload_n f_Mo_type_11 rfl ?_
      refine r_iload_n f_Mo_type_12 rfl ?_
      cases hq3 : F_Mo_depth (a0) (a1) (a2) σ with
      | none => simp only [hq3] at hF; cases hF
      | some q3 =>
        simp only [hq3] at hF
        refine t_V2i hB ha0 rfl rfl f_Mo_type_13 (by decide) (Nat.le_of_ble_eq_true rfl) (Nat.le_of_ble_eq_true rfl) (w_Mo_depth hB (by omega) (a0) (a1) (a2) ha0 hq3 ⟨_, rfl, ?_⟩)
        refine r_iload_n f_Mo_type_16 rfl ?_
        refine r_icmp_gt f_Mo_type_17 (fun c4 => ?_) (fun c4 => ?_)
        · rw [if_pos c4] at hF
          refine r_aload_n f_Mo_type_24 rfl ?_
          refine t_getc hB ha0 f_Mo_type_25 rfl ?_
          refine r_bipush f_Mo_type_28 (v := 100) (by decide) ?_
          refine r_iload_n f_Mo_type_30 rfl ?_
          refine r_imul f_Mo_type_31 ?_
          refine r_iload_n f_Mo_type_32 rfl ?_
          refine r_iadd f_Mo_type_33 ?_
          by_cases c5 : (((100 : Int32) * a1) + a2) < 0 ∨ 600 ≤ ((((100 : Int32) * a1) + a2)).toNatClampNeg
          · rw [if_pos c5] at hF; cases hF
          rw [if_neg c5] at hF
          refine t_lald hB (cc_8_22 ha0) f_Mo_type_34 c5 ?_
          refine r_iconst f_Mo_type_35 (v := 4) (by decide) ?_
          refine r_iload_n f_Mo_type_36 rfl ?_
          refine r_imul f_Mo_type_37 ?_
          refine r_lshr f_Mo_type_38 ?_
          refine r_ldc2 f_Mo_type_39 (v := 15) (by decide) ?_
          refine r_land f_Mo_type_42 ?_
          refine r_l2i f_Mo_type_43 ?_
          exact w_Mo_type_44 hB hd  hQ _ (q3.2) ((((((q3.2.2.2.2.2 ((cref SHm (a0) 22)) (((((100 : Int32) * a1) + a2)).toNatClampNeg)) >>> ((((4 : Int32) * a3)).toInt64 &&& 63)) &&& (15 : Int64)) : Int64).toInt32)) hF
        · rw [if_neg c4] at hF
          exact w_Mo_type_20 hB hd  hQ _ (q3.2) hF
theorem f_Mo_direct_0 : fetch 70 0 = some (.iconst 0, 1, 0, 0, 0) := rfl
theorem f_Mo_direct_1 : fetch 70 1 = some (.istore_n 2, 1, 0, 0, 0) := rfl
theorem f_Mo_direct_2 : fetch 70 2 = some (.iconst 0, 1, 0, 0, 0) := rfl
theorem f_Mo_direct_3 : fetch 70 3 = some (.istore_n 3, 1, 0, 0, 0) := rfl
theorem f_Mo_direct_4 : fetch 70 4 = some (.iload_n 3, 1, 0, 0, 0) := rfl
theorem f_Mo_direct_5 : fetch 70 5 = some (.aload_n 0, 1, 0, 0, 0) := rfl
theorem f_Mo_direct_6 : fetch 70 6 = some (.getfield 50, 3, 8, 18, 40) := rfl
theorem f_Mo_direct_9 : fetch 70 9 = some (.iload_n 1, 1, 0, 0, 0) := rfl
theorem f_Mo_direct_10 : fetch 70 10 = some (.iaload, 1, 0, 0, 0) := rfl
theorem f_Mo_direct_11 : fetch 70 11 = some (.if_icmp .ge 71, 3, 82, 0, 0) := rfl
theorem f_Mo_direct_14 : fetch 70 14 = some (.aload_n 0, 1, 0, 0, 0) := rfl
theorem f_Mo_direct_15 : fetch 70 15 = some (.getfield 56, 3, 8, 20, 42) := rfl
theorem f_Mo_direct_18 : fetch 70 18 = some (.bipush 100, 2, 0, 0, 0) := rfl
theorem f_Mo_direct_20 : fetch 70 20 = some (.iload_n 1, 1, 0, 0, 0) := rfl
theorem f_Mo_direct_21 : fetch 70 21 = some (.imul, 1, 0, 0, 0) := rfl
theorem f_Mo_direct_22 : fetch 70 22 = some (.iload_n 3, 1, 0, 0, 0) := rfl
theorem f_Mo_direct_23 : fetch 70 23 = some (.iadd, 1, 0, 0, 0) := rfl
theorem f_Mo_direct_24 : fetch 70 24 = some (.baload, 1, 0, 0, 0) := rfl
theorem f_Mo_direct_25 : fetch 70 25 = some (.ifCond .eq 51, 3, 76, 0, 0) := rfl
theorem f_Mo_direct_28 : fetch 70 28 = some (.aload_n 0, 1, 0, 0, 0) := rfl
theorem f_Mo_direct_29 : fetch 70 29 = some (.getfield 59, 3, 8, 21, 43) := rfl
theorem f_Mo_direct_32 : fetch 70 32 = some (.bipush 100, 2, 0, 0, 0) := rfl
theorem f_Mo_direct_34 : fetch 70 34 = some (.iload_n 1, 1, 0, 0, 0) := rfl
theorem f_Mo_direct_35 : fetch 70 35 = some (.imul, 1, 0, 0, 0) := rfl
theorem f_Mo_direct_36 : fetch 70 36 = some (.iload_n 3, 1, 0, 0, 0) := rfl
theorem f_Mo_direct_37 : fetch 70 37 = some (.iadd, 1, 0, 0, 0) := rfl
theorem f_Mo_direct_38 : fetch 70 38 = some (.iaload, 1, 0, 0, 0) := rfl
theorem f_Mo_direct_39 : fetch 70 39 = some (.ifCond .lt 37, 3, 76, 0, 0) := rfl
theorem f_Mo_direct_42 : fetch 70 42 = some (.aload_n 0, 1, 0, 0, 0) := rfl
theorem f_Mo_direct_43 : fetch 70 43 = some (.getfield 53, 3, 8, 19, 41) := rfl
theorem f_Mo_direct_46 : fetch 70 46 = some (.bipush 100, 2, 0, 0, 0) := rfl
theorem f_Mo_direct_48 : fetch 70 48 = some (.iload_n 1, 1, 0, 0, 0) := rfl
theorem f_Mo_direct_49 : fetch 70 49 = some (.imul, 1, 0, 0, 0) := rfl
theorem f_Mo_direct_50 : fetch 70 50 = some (.iload_n 3, 1, 0, 0, 0) := rfl
theorem f_Mo_direct_51 : fetch 70 51 = some (.iadd, 1, 0, 0, 0) := rfl
theorem f_Mo_direct_52 : fetch 70 52 = some (.iaload, 1, 0, 0, 0) := rfl
theorem f_Mo_direct_53 : fetch 70 53 = some (.bipush 33, 2, 0, 0, 0) := rfl
theorem f_Mo_direct_55 : fetch 70 55 = some (.if_icmp .ne 21, 3, 76, 0, 0) := rfl
theorem f_Mo_direct_58 : fetch 70 58 = some (.iload_n 2, 1, 0, 0, 0) := rfl
theorem f_Mo_direct_59 : fetch 70 59 = some (.iconst 1, 1, 0, 0, 0) := rfl
theorem f_Mo_direct_60 : fetch 70 60 = some (.aload_n 0, 1, 0, 0, 0) := rfl
theorem f_Mo_direct_61 : fetch 70 61 = some (.getfield 53, 3, 8, 19, 41) := rfl
theorem f_Mo_direct_64 : fetch 70 64 = some (.bipush 100, 2, 0, 0, 0) := rfl
theorem f_Mo_direct_66 : fetch 70 66 = some (.iload_n 1, 1, 0, 0, 0) := rfl
theorem f_Mo_direct_67 : fetch 70 67 = some (.imul, 1, 0, 0, 0) := rfl
theorem f_Mo_direct_68 : fetch 70 68 = some (.iload_n 3, 1, 0, 0, 0) := rfl
theorem f_Mo_direct_69 : fetch 70 69 = some (.iadd, 1, 0, 0, 0) := rfl
theorem f_Mo_direct_70 : fetch 70 70 = some (.iconst 1, 1, 0, 0, 0) := rfl
theorem f_Mo_direct_71 : fetch 70 71 = some (.iadd, 1, 0, 0, 0) := rfl
theorem f_Mo_direct_72 : fetch 70 72 = some (.iaload, 1, 0, 0, 0) := rfl
theorem f_Mo_direct_73 : fetch 70 73 = some (.ishl, 1, 0, 0, 0) := rfl
theorem f_Mo_direct_74 : fetch 70 74 = some (.ior, 1, 0, 0, 0) := rfl
theorem f_Mo_direct_75 : fetch 70 75 = some (.istore_n 2, 1, 0, 0, 0) := rfl
theorem f_Mo_direct_76 : fetch 70 76 = some (.iinc 3 1, 3, 0, 0, 0) := rfl
theorem f_Mo_direct_79 : fetch 70 79 = some (.goto (-75), 3, 4, 0, 0) := rfl
theorem f_Mo_direct_82 : fetch 70 82 = some (.iload_n 2, 1, 0, 0, 0) := rfl
theorem f_Mo_direct_83 : fetch 70 83 = some (.ireturn, 1, 0, 0, 0) := rfl
def F_Mo_direct_76 (rec4 : Nat → Int32 → Int32 → Int32 → SG → Option (Int32 × SG)) (x0 : Nat) (x1 : Int32) (x2 : Int32) (x3 : Int32) (σ : SG) : Option (Int32 × SG) :=
  rec4 (x0) (x1) (x2) ((x3 + 1)) σ
set_option maxHeartbeats 4000000 in
theorem w_Mo_direct_76 {b d : Nat} {sc : SC} {pre tl : List PE} {B : Nat} {Q : Option Value → List PE → Prop} {res : Int32 × SG} (hB : B = b + pre.length) {rec4 : Nat → Int32 → Int32 → Int32 → SG → Option (Int32 × SG)} (hr4 : ∀ (lv : LV) (σ : SG) (x0 : Nat) (x1 : Int32) (x2 : Int32) (x3 : Int32), isC SHm (x0) 8 = true → lv.lookup 0 = some (.ref (B + (x0))) → lv.lookup 1 = some (.int (x1)) → lv.lookup 2 = some (.int (x2)) → lv.lookup 3 = some (.int (x3)) →  rec4 x0 x1 x2 x3 σ = some res → Rn b sc d 70 4 lv [] (HH pre tl SHm B σ) Q) (hQ : Q (some (.int res.1)) (HH pre tl SHm B res.2)) (lv : LV) (σ : SG) (x0 : Nat) (x1 : Int32) (x2 : Int32) (x3 : Int32) (hx0 : isC SHm (x0) 8 = true) (l0 : lv.lookup 0 = some (.ref (B + (x0)))) (l1 : lv.lookup 1 = some (.int (x1))) (l2 : lv.lookup 2 = some (.int (x2))) (l3 : lv.lookup 3 = some (.int (x3))) (hF : F_Mo_direct_76 rec4 x0 x1 x2 x3 σ = some res) : Rn b sc d 70 76 lv [] (HH pre tl SHm B σ) Q := by
  unfold F_Mo_direct_76 at hF
  refine r_iinc f_Mo_direct_76 l3 (w := x3 + 1) rfl ?_
  refine r_goto f_Mo_direct_79 ?_
  exact hr4 _ (σ) (x0) (x1) (x2) ((x3 + 1)) hx0 (lk_put_ne l0 (by decide) (Or.inl rfl)) (lk_put_ne l1 (by decide) (Or.inl rfl)) (lk_put_ne l2 (by decide) (Or.inl rfl)) lk_put hF
def F_Mo_direct_4  : Nat → Nat → Int32 → Int32 → Int32 → SG → Option (Int32 × SG)
  | 0, _, _, _, _, _ => none
  | n + 1, x0, x1, x2, x3, σ =>
  if x1 < 0 ∨ 6 ≤ (x1).toNatClampNeg then none else
  if (σ.2.2.2.1 ((cref SHm (x0) 18)) ((x1).toNatClampNeg)) ≤ x3 then
  some (x2, σ)
  else if (((100 : Int32) * x1) + x3) < 0 ∨ 600 ≤ ((((100 : Int32) * x1) + x3)).toNatClampNeg then none else
  if (zb (σ.2.2.2.1 ((cref SHm (x0) 20)) (((((100 : Int32) * x1) + x3)).toNatClampNeg))) = true then
  if (((100 : Int32) * x1) + x3) < 0 ∨ 600 ≤ ((((100 : Int32) * x1) + x3)).toNatClampNeg then none else
  if (σ.2.2.2.1 ((cref SHm (x0) 21)) (((((100 : Int32) * x1) + x3)).toNatClampNeg)) < 0 then
  F_Mo_direct_76 (F_Mo_direct_4  n) (x0) (x1) (x2) (x3) σ
  else if (((100 : Int32) * x1) + x3) < 0 ∨ 600 ≤ ((((100 : Int32) * x1) + x3)).toNatClampNeg then none else
  if (σ.2.2.2.1 ((cref SHm (x0) 19)) (((((100 : Int32) * x1) + x3)).toNatClampNeg)) = (33 : Int32) then
  if ((((100 : Int32) * x1) + x3) + (1 : Int32)) < 0 ∨ 600 ≤ (((((100 : Int32) * x1) + x3) + (1 : Int32))).toNatClampNeg then none else
  F_Mo_direct_76 (F_Mo_direct_4  n) (x0) (x1) ((x2 ||| ((1 : Int32) <<< ((σ.2.2.2.1 ((cref SHm (x0) 19)) ((((((100 : Int32) * x1) + x3) + (1 : Int32))).toNatClampNeg)) &&& 31)))) (x3) σ
  else F_Mo_direct_76 (F_Mo_direct_4  n) (x0) (x1) (x2) (x3) σ
  else F_Mo_direct_76 (F_Mo_direct_4  n) (x0) (x1) (x2) (x3) σ
set_option maxHeartbeats 4000000 in
theorem w_Mo_direct_4 {b d : Nat} {sc : SC} {pre tl : List PE} {B : Nat} {Q : Option Value → List PE → Prop} {res : Int32 × SG} (hB : B = b + pre.length)   (hQ : Q (some (.int res.1)) (HH pre tl SHm B res.2)) : ∀ (n : Nat) (lv : LV) (σ : SG) (x0 : Nat) (x1 : Int32) (x2 : Int32) (x3 : Int32), isC SHm (x0) 8 = true → lv.lookup 0 = some (.ref (B + (x0))) → lv.lookup 1 = some (.int (x1)) → lv.lookup 2 = some (.int (x2)) → lv.lookup 3 = some (.int (x3)) → F_Mo_direct_4  n x0 x1 x2 x3 σ = some res → Rn b sc d 70 4 lv [] (HH pre tl SHm B σ) Q := by
  intro n
  induction n with
  | zero => intro lv σ x0 x1 x2 x3 hx0 l0 l1 l2 l3 hF; cases hF
  | succ n ih =>
    intro lv σ x0 x1 x2 x3 hx0 l0 l1 l2 l3 hF
    unfold F_Mo_direct_4 at hF
    refine r_iload_n f_Mo_direct_4 l3 ?_
    refine r_aload_n f_Mo_direct_5 l0 ?_
    refine t_getc hB hx0 f_Mo_direct_6 rfl ?_
    refine r_iload_n f_Mo_direct_9 l1 ?_
    by_cases c1 : x1 < 0 ∨ 6 ≤ (x1).toNatClampNeg
    · rw [if_pos c1] at hF; cases hF
    rw [if_neg c1] at hF
    refine t_iald hB (cc_8_18 hx0) f_Mo_direct_10 c1 ?_
    refine r_icmp_ge f_Mo_direct_11 (fun c2 => ?_) (fun c2 => ?_)
    · rw [if_pos c2] at hF
      refine r_iload_n f_Mo_direct_82 l2 ?_
      cases hF
      exact r_ireturn f_Mo_direct_83 hQ
    · rw [if_neg c2] at hF
      refine r_aload_n f_Mo_direct_14 l0 ?_
      refine t_getc hB hx0 f_Mo_direct_15 rfl ?_
      refine r_bipush f_Mo_direct_18 (v := 100) (by decide) ?_
      refine r_iload_n f_Mo_direct_20 l1 ?_
      refine r_imul f_Mo_direct_21 ?_
      refine r_iload_n f_Mo_direct_22 l3 ?_
      refine r_iadd f_Mo_direct_23 ?_
      by_cases c3 : (((100 : Int32) * x1) + x3) < 0 ∨ 600 ≤ ((((100 : Int32) * x1) + x3)).toNatClampNeg
      · rw [if_pos c3] at hF; cases hF
      rw [if_neg c3] at hF
      refine t_bald hB (cc_8_20 hx0) f_Mo_direct_24 c3 ?_
      refine r_if_eq f_Mo_direct_25 (fun c4 => ?_) (fun c4 => ?_)
      · rw [if_neg (bz_nt c4)] at hF
        exact w_Mo_direct_76 hB  (ih) hQ _ (σ) (x0) (x1) (x2) (x3) hx0 l0 l1 l2 l3 hF
      · rw [if_pos (bz_t c4)] at hF
        refine r_aload_n f_Mo_direct_28 l0 ?_
        refine t_getc hB hx0 f_Mo_direct_29 rfl ?_
        refine r_bipush f_Mo_direct_32 (v := 100) (by decide) ?_
        refine r_iload_n f_Mo_direct_34 l1 ?_
        refine r_imul f_Mo_direct_35 ?_
        refine r_iload_n f_Mo_direct_36 l3 ?_
        refine r_iadd f_Mo_direct_37 ?_
        by_cases c5 : (((100 : Int32) * x1) + x3) < 0 ∨ 600 ≤ ((((100 : Int32) * x1) + x3)).toNatClampNeg
        · rw [if_pos c5] at hF; cases hF
        rw [if_neg c5] at hF
        refine t_iald hB (cc_8_21 hx0) f_Mo_direct_38 c5 ?_
        refine r_if_lt f_Mo_direct_39 (fun c6 => ?_) (fun c6 => ?_)
        · rw [if_pos c6] at hF
          exact w_Mo_direct_76 hB  (ih) hQ _ (σ) (x0) (x1) (x2) (x3) hx0 l0 l1 l2 l3 hF
        · rw [if_neg c6] at hF
          refine r_aload_n f_Mo_direct_42 l0 ?_
          refine t_getc hB hx0 f_Mo_direct_43 rfl ?_
          refine r_bipush f_Mo_direct_46 (v := 100) (by decide) ?_
          refine r_iload_n f_Mo_direct_48 l1 ?_
          refine r_imul f_Mo_direct_49 ?_
          refine r_iload_n f_Mo_direct_50 l3 ?_
          refine r_iadd f_Mo_direct_51 ?_
          by_cases c7 : (((100 : Int32) * x1) + x3) < 0 ∨ 600 ≤ ((((100 : Int32) * x1) + x3)).toNatClampNeg
          · rw [if_pos c7] at hF; cases hF
          rw [if_neg c7] at hF
          refine t_iald hB (cc_8_19 hx0) f_Mo_direct_52 c7 ?_
          refine r_bipush f_Mo_direct_53 (v := 33) (by decide) ?_
          refine r_icmp_ne f_Mo_direct_55 (fun c8 => ?_) (fun c8 => ?_)
          · rw [if_neg c8] at hF
            exact w_Mo_direct_76 hB  (ih) hQ _ (σ) (x0) (x1) (x2) (x3) hx0 l0 l1 l2 l3 hF
          · rw [if_pos (Decidable.not_not.mp c8)] at hF
            refine r_iload_n f_Mo_direct_58 l2 ?_
            refine r_iconst f_Mo_direct_59 (v := 1) (by decide) ?_
            refine r_aload_n f_Mo_direct_60 l0 ?_
            refine t_getc hB hx0 f_Mo_direct_61 rfl ?_
            refine r_bipush f_Mo_direct_64 (v := 100) (by decide) ?_
            refine r_iload_n f_Mo_direct_66 l1 ?_
            refine r_imul f_Mo_direct_67 ?_
            refine r_iload_n f_Mo_direct_68 l3 ?_
            refine r_iadd f_Mo_direct_69 ?_
            refine r_iconst f_Mo_direct_70 (v := 1) (by decide) ?_
            refine r_iadd f_Mo_direct_71 ?_
            by_cases c9 : ((((100 : Int32) * x1) + x3) + (1 : Int32)) < 0 ∨ 600 ≤ (((((100 : Int32) * x1) + x3) + (1 : Int32))).toNatClampNeg
            · rw [if_pos c9] at hF; cases hF
            rw [if_neg c9] at hF
            refine t_iald hB (cc_8_19 hx0) f_Mo_direct_72 c9 ?_
            refine r_ishl f_Mo_direct_73 ?_
            refine r_ior f_Mo_direct_74 ?_
            refine r_istore_n f_Mo_direct_75 ?_
            exact w_Mo_direct_76 hB  (ih) hQ _ (σ) (x0) (x1) ((x2 ||| ((1 : Int32) <<< ((σ.2.2.2.1 ((cref SHm (x0) 19)) ((((((100 : Int32) * x1) + x3) + (1 : Int32))).toNatClampNeg)) &&& 31)))) (x3) hx0 (lk_put_ne l0 (by decide) (Or.inl rfl)) (lk_put_ne l1 (by decide) (Or.inl rfl)) lk_put (lk_put_ne l3 (by decide) (Or.inl rfl)) hF
def F_Mo_direct (a0 : Nat) (a1 : Int32) (σ : SG) : Option (Int32 × SG) :=
  F_Mo_direct_4  5000 (a0) (a1) ((0 : Int32)) ((0 : Int32)) σ
set_option maxHeartbeats 4000000 in
theorem w_Mo_direct {b d : Nat} {pre tl : List PE} {B : Nat} {Q : Option Value → List PE → Prop} {res : Int32 × SG} (hB : B = b + pre.length)  {σ : SG} (a0 : Nat) (a1 : Int32) (ha0 : isC SHm (a0) 8 = true) (hF : F_Mo_direct a0 a1 σ = some res) (hQ : Q (some (.int res.1)) (HH pre tl SHm B res.2)) : Cl b d 70 [.ref (B + (a0)), .int (a1)] (HH pre tl SHm B σ) Q := by
  unfold Cl
  unfold F_Mo_direct at hF
  refine r_iconst f_Mo_direct_0 (v := 0) (by decide) ?_
  refine r_istore_n f_Mo_direct_1 ?_
  refine r_iconst f_Mo_direct_2 (v := 0) (by decide) ?_
  refine r_istore_n f_Mo_direct_3 ?_
  exact w_Mo_direct_4 hB   hQ 5000 _ (σ) (a0) (a1) ((0 : Int32)) ((0 : Int32)) ha0 (lk_put_ne (lk_put_ne rfl (by decide) (Or.inl rfl)) (by decide) (Or.inl rfl)) (lk_put_ne (lk_put_ne rfl (by decide) (Or.inl rfl)) (by decide) (Or.inl rfl)) (lk_put_ne lk_put (by decide) (Or.inl rfl)) lk_put hF
theorem f_Mo_allGood_0 : fetch 69 0 = some (.aload_n 0, 1, 0, 0, 0) := rfl
theorem f_Mo_allGood_1 : fetch 69 1 = some (.iload_n 1, 1, 0, 0, 0) := rfl
theorem f_Mo_allGood_2 : fetch 69 2 = some (.invokevirtual 257, 3, 65, 1, 73) := rfl
theorem f_Mo_allGood_5 : fetch 69 5 = some (.ifCond .ne 5, 3, 10, 0, 0) := rfl
theorem f_Mo_allGood_8 : fetch 69 8 = some (.iconst 0, 1, 0, 0, 0) := rfl
theorem f_Mo_allGood_9 : fetch 69 9 = some (.ireturn, 1, 2, 0, 0) := rfl
theorem f_Mo_allGood_10 : fetch 69 10 = some (.iconst 1, 1, 0, 0, 0) := rfl
theorem f_Mo_allGood_11 : fetch 69 11 = some (.iload_n 1, 1, 0, 0, 0) := rfl
theorem f_Mo_allGood_12 : fetch 69 12 = some (.ishl, 1, 0, 0, 0) := rfl
theorem f_Mo_allGood_13 : fetch 69 13 = some (.istore_n 2, 1, 0, 0, 0) := rfl
theorem f_Mo_allGood_14 : fetch 69 14 = some (.iconst 1, 1, 0, 0, 0) := rfl
theorem f_Mo_allGood_15 : fetch 69 15 = some (.istore_n 3, 1, 0, 0, 0) := rfl
theorem f_Mo_allGood_16 : fetch 69 16 = some (.iconst 0, 1, 0, 0, 0) := rfl
theorem f_Mo_allGood_17 : fetch 69 17 = some (.istore 4, 2, 0, 0, 0) := rfl
theorem f_Mo_allGood_19 : fetch 69 19 = some (.iload 4, 2, 0, 0, 0) := rfl
theorem f_Mo_allGood_21 : fetch 69 21 = some (.bipush 6, 2, 0, 0, 0) := rfl
theorem f_Mo_allGood_23 : fetch 69 23 = some (.if_icmp .ge 72, 3, 95, 0, 0) := rfl
theorem f_Mo_allGood_26 : fetch 69 26 = some (.iload_n 3, 1, 0, 0, 0) := rfl
theorem f_Mo_allGood_27 : fetch 69 27 = some (.ifCond .eq 68, 3, 95, 0, 0) := rfl
theorem f_Mo_allGood_30 : fetch 69 30 = some (.iconst 0, 1, 0, 0, 0) := rfl
theorem f_Mo_allGood_31 : fetch 69 31 = some (.istore 5, 2, 0, 0, 0) := rfl
theorem f_Mo_allGood_33 : fetch 69 33 = some (.iload 5, 2, 0, 0, 0) := rfl
theorem f_Mo_allGood_35 : fetch 69 35 = some (.aload_n 0, 1, 0, 0, 0) := rfl
theorem f_Mo_allGood_36 : fetch 69 36 = some (.getfield 136, 3, 8, 7, 62) := rfl
theorem f_Mo_allGood_39 : fetch 69 39 = some (.if_icmp .ge 50, 3, 89, 0, 0) := rfl
theorem f_Mo_allGood_42 : fetch 69 42 = some (.iload_n 3, 1, 0, 0, 0) := rfl
theorem f_Mo_allGood_43 : fetch 69 43 = some (.ifCond .eq 46, 3, 89, 0, 0) := rfl
theorem f_Mo_allGood_46 : fetch 69 46 = some (.iload_n 2, 1, 0, 0, 0) := rfl
theorem f_Mo_allGood_47 : fetch 69 47 = some (.iload 5, 2, 0, 0, 0) := rfl
theorem f_Mo_allGood_49 : fetch 69 49 = some (.ishr, 1, 0, 0, 0) := rfl
theorem f_Mo_allGood_50 : fetch 69 50 = some (.iconst 1, 1, 0, 0, 0) := rfl
theorem f_Mo_allGood_51 : fetch 69 51 = some (.iand, 1, 0, 0, 0) := rfl
theorem f_Mo_allGood_52 : fetch 69 52 = some (.ifCond .ne 6, 3, 58, 0, 0) := rfl
theorem f_Mo_allGood_55 : fetch 69 55 = some (.goto 28, 3, 83, 0, 0) := rfl
theorem f_Mo_allGood_58 : fetch 69 58 = some (.aload_n 0, 1, 0, 0, 0) := rfl
theorem f_Mo_allGood_59 : fetch 69 59 = some (.getfield 66, 3, 8, 23, 45) := rfl
theorem f_Mo_allGood_62 : fetch 69 62 = some (.iload 5, 2, 0, 0, 0) := rfl
theorem f_Mo_allGood_64 : fetch 69 64 = some (.baload, 1, 0, 0, 0) := rfl
theorem f_Mo_allGood_65 : fetch 69 65 = some (.istore_n 3, 1, 0, 0, 0) := rfl
theorem f_Mo_allGood_66 : fetch 69 66 = some (.iload_n 2, 1, 0, 0, 0) := rfl
theorem f_Mo_allGood_67 : fetch 69 67 = some (.iload_n 3, 1, 0, 0, 0) := rfl
theorem f_Mo_allGood_68 : fetch 69 68 = some (.ifCond .eq 12, 3, 80, 0, 0) := rfl
theorem f_Mo_allGood_71 : fetch 69 71 = some (.aload_n 0, 1, 0, 0, 0) := rfl
theorem f_Mo_allGood_72 : fetch 69 72 = some (.iload 5, 2, 0, 0, 0) := rfl
theorem f_Mo_allGood_74 : fetch 69 74 = some (.invokevirtual 263, 3, 70, 1, 77) := rfl
theorem f_Mo_allGood_77 : fetch 69 77 = some (.goto 4, 3, 81, 0, 0) := rfl
theorem f_Mo_allGood_80 : fetch 69 80 = some (.iconst 0, 1, 0, 0, 0) := rfl
theorem f_Mo_allGood_81 : fetch 69 81 = some (.ior, 1, 0, 0, 0) := rfl
theorem f_Mo_allGood_82 : fetch 69 82 = some (.istore_n 2, 1, 0, 0, 0) := rfl
theorem f_Mo_allGood_83 : fetch 69 83 = some (.iinc 5 1, 3, 0, 0, 0) := rfl
theorem f_Mo_allGood_86 : fetch 69 86 = some (.goto (-53), 3, 33, 0, 0) := rfl
theorem f_Mo_allGood_89 : fetch 69 89 = some (.iinc 4 1, 3, 0, 0, 0) := rfl
theorem f_Mo_allGood_92 : fetch 69 92 = some (.goto (-73), 3, 19, 0, 0) := rfl
theorem f_Mo_allGood_95 : fetch 69 95 = some (.iload_n 3, 1, 0, 0, 0) := rfl
theorem f_Mo_allGood_96 : fetch 69 96 = some (.ireturn, 1, 2, 0, 0) := rfl
def F_Mo_allGood_95  (x3 : Bool) (σ : SG) : Option (Bool × SG) :=
  some (x3, σ)
set_option maxHeartbeats 4000000 in
theorem w_Mo_allGood_95 {b d : Nat} {sc : SC} {pre tl : List PE} {B : Nat} {Q : Option Value → List PE → Prop} {res : Bool × SG} (hB : B = b + pre.length) (hd : 1 ≤ d)   (hQ : Q (some (.int (bz res.1))) (HH pre tl SHm B res.2)) (lv : LV) (σ : SG) (x3 : Bool) (l3 : lv.lookup 3 = some (.int (bz (x3)))) (hF : F_Mo_allGood_95  x3 σ = some res) : Rn b sc d 69 95 lv [] (HH pre tl SHm B σ) Q := by
  obtain ⟨e0, rfl⟩ : ∃ e, d = e + 1 := ⟨d - 1, by omega⟩
  unfold F_Mo_allGood_95 at hF
  refine r_iload_n f_Mo_allGood_95 l3 ?_
  cases hF
  exact r_zreturn f_Mo_allGood_96 (bz_or (x3)) hQ
def F_Mo_allGood_89 (rec19 : Nat → Int32 → Bool → Int32 → SG → Option (Bool × SG)) (x0 : Nat) (x2 : Int32) (x3 : Bool) (x4 : Int32) (σ : SG) : Option (Bool × SG) :=
  rec19 (x0) (x2) (x3) ((x4 + 1)) σ
set_option maxHeartbeats 4000000 in
theorem w_Mo_allGood_89 {b d : Nat} {sc : SC} {pre tl : List PE} {B : Nat} {Q : Option Value → List PE → Prop} {res : Bool × SG} (hB : B = b + pre.length) (hd : 1 ≤ d) {rec19 : Nat → Int32 → Bool → Int32 → SG → Option (Bool × SG)} (hr19 : ∀ (lv : LV) (σ : SG) (x0 : Nat) (x2 : Int32) (x3 : Bool) (x4 : Int32), isC SHm (x0) 8 = true → lv.lookup 0 = some (.ref (B + (x0))) → lv.lookup 2 = some (.int (x2)) → lv.lookup 3 = some (.int (bz (x3))) → lv.lookup 4 = some (.int (x4)) →  rec19 x0 x2 x3 x4 σ = some res → Rn b sc d 69 19 lv [] (HH pre tl SHm B σ) Q) (hQ : Q (some (.int (bz res.1))) (HH pre tl SHm B res.2)) (lv : LV) (σ : SG) (x0 : Nat) (x2 : Int32) (x3 : Bool) (x4 : Int32) (hx0 : isC SHm (x0) 8 = true) (l0 : lv.lookup 0 = some (.ref (B + (x0)))) (l2 : lv.lookup 2 = some (.int (x2))) (l3 : lv.lookup 3 = some (.int (bz (x3)))) (l4 : lv.lookup 4 = some (.int (x4))) (hF : F_Mo_allGood_89 rec19 x0 x2 x3 x4 σ = some res) : Rn b sc d 69 89 lv [] (HH pre tl SHm B σ) Q := by
  obtain ⟨e0, rfl⟩ : ∃ e, d = e + 1 := ⟨d - 1, by omega⟩
  unfold F_Mo_allGood_89 at hF
  refine r_iinc f_Mo_allGood_89 l4 (w := x4 + 1) rfl ?_
  refine r_goto f_Mo_allGood_92 ?_
  exact hr19 _ (σ) (x0) (x2) (x3) ((x4 + 1)) hx0 (lk_put_ne l0 (by decide) (Or.inl rfl)) (lk_put_ne l2 (by decide) (Or.inl rfl)) (lk_put_ne l3 (by decide) (Or.inl rfl)) lk_put hF
def F_Mo_allGood_83 (rec19 : Nat → Int32 → Bool → Int32 → SG → Option (Bool × SG)) (rec33 : Nat → Int32 → Bool → Int32 → Int32 → SG → Option (Bool × SG)) (x0 : Nat) (x2 : Int32) (x3 : Bool) (x4 : Int32) (x5 : Int32) (σ : SG) : Option (Bool × SG) :=
  rec33 (x0) (x2) (x3) (x4) ((x5 + 1)) σ
set_option maxHeartbeats 4000000 in
theorem w_Mo_allGood_83 {b d : Nat} {sc : SC} {pre tl : List PE} {B : Nat} {Q : Option Value → List PE → Prop} {res : Bool × SG} (hB : B = b + pre.length) (hd : 1 ≤ d) {rec19 : Nat → Int32 → Bool → Int32 → SG → Option (Bool × SG)} {rec33 : Nat → Int32 → Bool → Int32 → Int32 → SG → Option (Bool × SG)} (hr19 : ∀ (lv : LV) (σ : SG) (x0 : Nat) (x2 : Int32) (x3 : Bool) (x4 : Int32), isC SHm (x0) 8 = true → lv.lookup 0 = some (.ref (B + (x0))) → lv.lookup 2 = some (.int (x2)) → lv.lookup 3 = some (.int (bz (x3))) → lv.lookup 4 = some (.int (x4)) →  rec19 x0 x2 x3 x4 σ = some res → Rn b sc d 69 19 lv [] (HH pre tl SHm B σ) Q) (hr33 : ∀ (lv : LV) (σ : SG) (x0 : Nat) (x2 : Int32) (x3 : Bool) (x4 : Int32) (x5 : Int32), isC SHm (x0) 8 = true → lv.lookup 0 = some (.ref (B + (x0))) → lv.lookup 2 = some (.int (x2)) → lv.lookup 3 = some (.int (bz (x3))) → lv.lookup 4 = some (.int (x4)) → lv.lookup 5 = some (.int (x5)) →  rec33 x0 x2 x3 x4 x5 σ = some res → Rn b sc d 69 33 lv [] (HH pre tl SHm B σ) Q) (hQ : Q (some (.int (bz res.1))) (HH pre tl SHm B res.2)) (lv : LV) (σ : SG) (x0 : Nat) (x2 : Int32) (x3 : Bool) (x4 : Int32) (x5 : Int32) (hx0 : isC SHm (x0) 8 = true) (l0 : lv.lookup 0 = some (.ref (B + (x0)))) (l2 : lv.lookup 2 = some (.int (x2))) (l3 : lv.lookup 3 = some (.int (bz (x3)))) (l4 : lv.lookup 4 = some (.int (x4))) (l5 : lv.lookup 5 = some (.int (x5))) (hF : F_Mo_allGood_83 rec19 rec33 x0 x2 x3 x4 x5 σ = some res) : Rn b sc d 69 83 lv [] (HH pre tl SHm B σ) Q := by
  obtain ⟨e0, rfl⟩ : ∃ e, d = e + 1 := ⟨d - 1, by omega⟩
  unfold F_Mo_allGood_83 at hF
  refine r_iinc f_Mo_allGood_83 l5 (w := x5 + 1) rfl ?_
  refine r_goto f_Mo_allGood_86 ?_
  exact hr33 _ (σ) (x0) (x2) (x3) (x4) ((x5 + 1)) hx0 (lk_put_ne l0 (by decide) (Or.inl rfl)) (lk_put_ne l2 (by decide) (Or.inl rfl)) (lk_put_ne l3 (by decide) (Or.inl rfl)) (lk_put_ne l4 (by decide) (Or.inl rfl)) lk_put hF
def F_Mo_allGood_81 (rec19 : Nat → Int32 → Bool → Int32 → SG → Option (Bool × SG)) (rec33 : Nat → Int32 → Bool → Int32 → Int32 → SG → Option (Bool × SG)) (x0 : Nat) (x3 : Bool) (x4 : Int32) (x5 : Int32) (y0 : Int32) (y1 : Int32) (σ : SG) : Option (Bool × SG) :=
  F_Mo_allGood_83 (rec19) (rec33) (x0) ((y0 ||| y1)) (x3) (x4) (x5) σ
set_option maxHeartbeats 4000000 in
theorem w_Mo_allGood_81 {b d : Nat} {sc : SC} {pre tl : List PE} {B : Nat} {Q : Option Value → List PE → Prop} {res : Bool × SG} (hB : B = b + pre.length) (hd : 1 ≤ d) {rec19 : Nat → Int32 → Bool → Int32 → SG → Option (Bool × SG)} {rec33 : Nat → Int32 → Bool → Int32 → Int32 → SG → Option (Bool × SG)} (hr19 : ∀ (lv : LV) (σ : SG) (x0 : Nat) (x2 : Int32) (x3 : Bool) (x4 : Int32), isC SHm (x0) 8 = true → lv.lookup 0 = some (.ref (B + (x0))) → lv.lookup 2 = some (.int (x2)) → lv.lookup 3 = some (.int (bz (x3))) → lv.lookup 4 = some (.int (x4)) →  rec19 x0 x2 x3 x4 σ = some res → Rn b sc d 69 19 lv [] (HH pre tl SHm B σ) Q) (hr33 : ∀ (lv : LV) (σ : SG) (x0 : Nat) (x2 : Int32) (x3 : Bool) (x4 : Int32) (x5 : Int32), isC SHm (x0) 8 = true → lv.lookup 0 = some (.ref (B + (x0))) → lv.lookup 2 = some (.int (x2)) → lv.lookup 3 = some (.int (bz (x3))) → lv.lookup 4 = some (.int (x4)) → lv.lookup 5 = some (.int (x5)) →  rec33 x0 x2 x3 x4 x5 σ = some res → Rn b sc d 69 33 lv [] (HH pre tl SHm B σ) Q) (hQ : Q (some (.int (bz res.1))) (HH pre tl SHm B res.2)) (lv : LV) (σ : SG) (x0 : Nat) (x3 : Bool) (x4 : Int32) (x5 : Int32) (y0 : Int32) (y1 : Int32) (hx0 : isC SHm (x0) 8 = true) (l0 : lv.lookup 0 = some (.ref (B + (x0)))) (l3 : lv.lookup 3 = some (.int (bz (x3)))) (l4 : lv.lookup 4 = some (.int (x4))) (l5 : lv.lookup 5 = some (.int (x5))) (hF : F_Mo_allGood_81 rec19 rec33 x0 x3 x4 x5 y0 y1 σ = some res) : Rn b sc d 69 81 lv [.int (y1), .int (y0)] (HH pre tl SHm B σ) Q := by
  obtain ⟨e0, rfl⟩ : ∃ e, d = e + 1 := ⟨d - 1, by omega⟩
  unfold F_Mo_allGood_81 at hF
  refine r_ior f_Mo_allGood_81 ?_
  refine r_istore_n f_Mo_allGood_82 ?_
  exact w_Mo_allGood_83 hB hd (hr19) (hr33) hQ _ (σ) (x0) ((y0 ||| y1)) (x3) (x4) (x5) hx0 (lk_put_ne l0 (by decide) (Or.inl rfl)) lk_put (lk_put_ne l3 (by decide) (Or.inl rfl)) (lk_put_ne l4 (by decide) (Or.inl rfl)) (lk_put_ne l5 (by decide) (Or.inl rfl)) hF
def F_Mo_allGood_33 (rec19 : Nat → Int32 → Bool → Int32 → SG → Option (Bool × SG)) : Nat → Nat → Int32 → Bool → Int32 → Int32 → SG → Option (Bool × SG)
  | 0, _, _, _, _, _, _ => none
  | n + 1, x0, x2, x3, x4, x5, σ =>
  if (σ.1 (x0) 7) ≤ x5 then
  F_Mo_allGood_89 (rec19) (x0) (x2) (x3) (x4) σ
  else if x3 = true then
  if ((x2 >>> (x5 &&& 31)) &&& (1 : Int32)) = 0 then
  F_Mo_allGood_83 (rec19) (F_Mo_allGood_33 rec19 n) (x0) (x2) (x3) (x4) (x5) σ
  else if x5 < 0 ∨ 6 ≤ (x5).toNatClampNeg then none else
  if (zb (σ.2.2.2.1 ((cref SHm (x0) 23)) ((x5).toNatClampNeg))) = true then
  match F_Mo_direct (x0) (x5) σ with
  | none => none
  | some q6 =>
  F_Mo_allGood_81 (rec19) (F_Mo_allGood_33 rec19 n) (x0) ((zb (σ.2.2.2.1 ((cref SHm (x0) 23)) ((x5).toNatClampNeg)))) (x4) (x5) (x2) (q6.1) q6.2
  else F_Mo_allGood_81 (rec19) (F_Mo_allGood_33 rec19 n) (x0) ((zb (σ.2.2.2.1 ((cref SHm (x0) 23)) ((x5).toNatClampNeg)))) (x4) (x5) (x2) ((0 : Int32)) σ
  else F_Mo_allGood_89 (rec19) (x0) (x2) (x3) (x4) σ
set_option maxHeartbeats 4000000 in
theorem w_Mo_allGood_33 {b d : Nat} {sc : SC} {pre tl : List PE} {B : Nat} {Q : Option Value → List PE → Prop} {res : Bool × SG} (hB : B = b + pre.length) (hd : 1 ≤ d) {rec19 : Nat → Int32 → Bool → Int32 → SG → Option (Bool × SG)} (hr19 : ∀ (lv : LV) (σ : SG) (x0 : Nat) (x2 : Int32) (x3 : Bool) (x4 : Int32), isC SHm (x0) 8 = true → lv.lookup 0 = some (.ref (B + (x0))) → lv.lookup 2 = some (.int (x2)) → lv.lookup 3 = some (.int (bz (x3))) → lv.lookup 4 = some (.int (x4)) →  rec19 x0 x2 x3 x4 σ = some res → Rn b sc d 69 19 lv [] (HH pre tl SHm B σ) Q) (hQ : Q (some (.int (bz res.1))) (HH pre tl SHm B res.2)) : ∀ (n : Nat) (lv : LV) (σ : SG) (x0 : Nat) (x2 : Int32) (x3 : Bool) (x4 : Int32) (x5 : Int32), isC SHm (x0) 8 = true → lv.lookup 0 = some (.ref (B + (x0))) → lv.lookup 2 = some (.int (x2)) → lv.lookup 3 = some (.int (bz (x3))) → lv.lookup 4 = some (.int (x4)) → lv.lookup 5 = some (.int (x5)) → F_Mo_allGood_33 rec19 n x0 x2 x3 x4 x5 σ = some res → Rn b sc d 69 33 lv [] (HH pre tl SHm B σ) Q := by
  obtain ⟨e0, rfl⟩ : ∃ e, d = e + 1 := ⟨d - 1, by omega⟩
  intro n
  induction n with
  | zero => intro lv σ x0 x2 x3 x4 x5 hx0 l0 l2 l3 l4 l5 hF; cases hF
  | succ n ih =>
    intro lv σ x0 x2 x3 x4 x5 hx0 l0 l2 l3 l4 l5 hF
    unfold F_Mo_allGood_33 at hF
    refine r_iload f_Mo_allGood_33 l5 ?_
    refine r_aload_n f_Mo_allGood_35 l0 ?_
    refine t_geti hB hx0 f_Mo_allGood_36 rfl ?_
    refine r_icmp_ge f_Mo_allGood_39 (fun c1 => ?_) (fun c1 => ?_)
    · rw [if_pos c1] at hF
      exact w_Mo_allGood_89 hB hd (hr19) hQ _ (σ) (x0) (x2) (x3) (x4) hx0 l0 l2 l3 l4 hF
    · rw [if_neg c1] at hF
      refine r_iload_n f_Mo_allGood_42 l3 ?_
      refine r_if_eq f_Mo_allGood_43 (fun c2 => ?_) (fun c2 => ?_)
      · rw [if_neg (bz_nt c2)] at hF
        exact w_Mo_allGood_89 hB hd (hr19) hQ _ (σ) (x0) (x2) (x3) (x4) hx0 l0 l2 l3 l4 hF
      · rw [if_pos (bz_t c2)] at hF
        refine r_iload_n f_Mo_allGood_46 l2 ?_
        refine r_iload f_Mo_allGood_47 l5 ?_
        refine r_ishr f_Mo_allGood_49 ?_
        refine r_iconst f_Mo_allGood_50 (v := 1) (by decide) ?_
        refine r_iand f_Mo_allGood_51 ?_
        refine r_if_ne f_Mo_allGood_52 (fun c3 => ?_) (fun c3 => ?_)
        · rw [if_neg c3] at hF
          refine r_aload_n f_Mo_allGood_58 l0 ?_
          refine t_getc hB hx0 f_Mo_allGood_59 rfl ?_
          refine r_iload f_Mo_allGood_62 l5 ?_
          by_cases c4 : x5 < 0 ∨ 6 ≤ (x5).toNatClampNeg
          · rw [if_pos c4] at hF; cases hF
          rw [if_neg c4] at hF
          refine t_bald hB (cc_8_23 hx0) f_Mo_allGood_64 c4 ?_
          refine r_istore_n f_Mo_allGood_65 ?_
          refine r_iload_n f_Mo_allGood_66 (lk_put_ne l2 (by decide) (Or.inl rfl)) ?_
          refine r_iload_n f_Mo_allGood_67 lk_put ?_
          refine r_if_eq f_Mo_allGood_68 (fun c5 => ?_) (fun c5 => ?_)
          · rw [if_neg (bz_nt c5)] at hF
            refine r_iconst f_Mo_allGood_80 (v := 0) (by decide) ?_
            exact w_Mo_allGood_81 hB hd (hr19) (ih) hQ _ (σ) (x0) ((zb (σ.2.2.2.1 ((cref SHm (x0) 23)) ((x5).toNatClampNeg)))) (x4) (x5) (x2) ((0 : Int32)) hx0 (lk_put_ne l0 (by decide) (Or.inl rfl)) lk_put (lk_put_ne l4 (by decide) (Or.inl rfl)) (lk_put_ne l5 (by decide) (Or.inl rfl)) hF
          · rw [if_pos (bz_t c5)] at hF
            refine r_aload_n f_Mo_allGood_71 (lk_put_ne l0 (by decide) (Or.inl rfl)) ?_
            refine r_iload f_Mo_allGood_72 (lk_put_ne l5 (by decide) (Or.inl rfl)) ?_
            cases hq6 : F_Mo_direct (x0) (x5) σ with
            | none => simp only [hq6] at hF; cases hF
            | some q6 =>
              simp only [hq6] at hF
              refine t_V1i hB hx0 rfl rfl f_Mo_allGood_74 (by decide) (Nat.le_of_ble_eq_true rfl) (Nat.le_of_ble_eq_true rfl) (w_Mo_direct hB  (x0) (x5) hx0 hq6 ⟨_, rfl, ?_⟩)
              refine r_goto f_Mo_allGood_77 ?_
              exact w_Mo_allGood_81 hB hd (hr19) (ih) hQ _ (q6.2) (x0) ((zb (σ.2.2.2.1 ((cref SHm (x0) 23)) ((x5).toNatClampNeg)))) (x4) (x5) (x2) (q6.1) hx0 (lk_put_ne l0 (by decide) (Or.inl rfl)) lk_put (lk_put_ne l4 (by decide) (Or.inl rfl)) (lk_put_ne l5 (by decide) (Or.inl rfl)) hF
        · rw [if_pos (Decidable.not_not.mp c3)] at hF
          refine r_goto f_Mo_allGood_55 ?_
          exact w_Mo_allGood_83 hB hd (hr19) (ih) hQ _ (σ) (x0) (x2) (x3) (x4) (x5) hx0 l0 l2 l3 l4 l5 hF
def F_Mo_allGood_19  : Nat → Nat → Int32 → Bool → Int32 → SG → Option (Bool × SG)
  | 0, _, _, _, _, _ => none
  | n + 1, x0, x2, x3, x4, σ =>
  if (6 : Int32) ≤ x4 then
  F_Mo_allGood_95 (x3) σ
  else if x3 = true then
  F_Mo_allGood_33 (F_Mo_allGood_19  n) 5000 (x0) (x2) (x3) (x4) ((0 : Int32)) σ
  else F_Mo_allGood_95 (x3) σ
set_option maxHeartbeats 4000000 in
theorem w_Mo_allGood_19 {b d : Nat} {sc : SC} {pre tl : List PE} {B : Nat} {Q : Option Value → List PE → Prop} {res : Bool × SG} (hB : B = b + pre.length) (hd : 1 ≤ d)   (hQ : Q (some (.int (bz res.1))) (HH pre tl SHm B res.2)) : ∀ (n : Nat) (lv : LV) (σ : SG) (x0 : Nat) (x2 : Int32) (x3 : Bool) (x4 : Int32), isC SHm (x0) 8 = true → lv.lookup 0 = some (.ref (B + (x0))) → lv.lookup 2 = some (.int (x2)) → lv.lookup 3 = some (.int (bz (x3))) → lv.lookup 4 = some (.int (x4)) → F_Mo_allGood_19  n x0 x2 x3 x4 σ = some res → Rn b sc d 69 19 lv [] (HH pre tl SHm B σ) Q := by
  obtain ⟨e0, rfl⟩ : ∃ e, d = e + 1 := ⟨d - 1, by omega⟩
  intro n
  induction n with
  | zero => intro lv σ x0 x2 x3 x4 hx0 l0 l2 l3 l4 hF; cases hF
  | succ n ih =>
    intro lv σ x0 x2 x3 x4 hx0 l0 l2 l3 l4 hF
    unfold F_Mo_allGood_19 at hF
    refine r_iload f_Mo_allGood_19 l4 ?_
    refine r_bipush f_Mo_allGood_21 (v := 6) (by decide) ?_
    refine r_icmp_ge f_Mo_allGood_23 (fun c7 => ?_) (fun c7 => ?_)
    · rw [if_pos c7] at hF
      exact w_Mo_allGood_95 hB hd  hQ _ (σ) (x3) l3 hF
    · rw [if_neg c7] at hF
      refine r_iload_n f_Mo_allGood_26 l3 ?_
      refine r_if_eq f_Mo_allGood_27 (fun c8 => ?_) (fun c8 => ?_)
      · rw [if_neg (bz_nt c8)] at hF
        exact w_Mo_allGood_95 hB hd  hQ _ (σ) (x3) l3 hF
      · rw [if_pos (bz_t c8)] at hF
        refine r_iconst f_Mo_allGood_30 (v := 0) (by decide) ?_
        refine r_istore f_Mo_allGood_31 ?_
        exact w_Mo_allGood_33 hB hd (ih) hQ 5000 _ (σ) (x0) (x2) (x3) (x4) ((0 : Int32)) hx0 (lk_put_ne l0 (by decide) (Or.inl rfl)) (lk_put_ne l2 (by decide) (Or.inl rfl)) (lk_put_ne l3 (by decide) (Or.inl rfl)) (lk_put_ne l4 (by decide) (Or.inl rfl)) lk_put hF
def F_Mo_allGood (a0 : Nat) (a1 : Int32) (σ : SG) : Option (Bool × SG) :=
  match F_Mo_isGood (a0) (a1) σ with
  | none => none
  | some q9 =>
  if q9.1 = true then
  F_Mo_allGood_19  5000 (a0) (((1 : Int32) <<< (a1 &&& 31))) (true) ((0 : Int32)) q9.2
  else some (false, q9.2)
set_option maxHeartbeats 4000000 in
theorem w_Mo_allGood {b d : Nat} {pre tl : List PE} {B : Nat} {Q : Option Value → List PE → Prop} {res : Bool × SG} (hB : B = b + pre.length) (hd : 1 ≤ d)  {σ : SG} (a0 : Nat) (a1 : Int32) (ha0 : isC SHm (a0) 8 = true) (hF : F_Mo_allGood a0 a1 σ = some res) (hQ : Q (some (.int (bz res.1))) (HH pre tl SHm B res.2)) : Cl b d 69 [.ref (B + (a0)), .int (a1)] (HH pre tl SHm B σ) Q := by
  obtain ⟨e0, rfl⟩ : ∃ e, d = e + 1 := ⟨d - 1, by omega⟩
  unfold Cl
  unfold F_Mo_allGood at hF
  refine r_aload_n f_Mo_allGood_0 rfl ?_
  refine r_iload_n f_Mo_allGood_1 rfl ?_
  cases hq9 : F_Mo_isGood (a0) (a1) σ with
  | none => simp only [hq9] at hF; cases hF
  | some q9 =>
    simp only [hq9] at hF
    refine t_V1i hB ha0 rfl rfl f_Mo_allGood_2 (by decide) (Nat.le_of_ble_eq_true rfl) (Nat.le_of_ble_eq_true rfl) (w_Mo_isGood hB  (a0) (a1) ha0 hq9 ⟨_, rfl, ?_⟩)
    refine r_if_ne f_Mo_allGood_5 (fun c10 => ?_) (fun c10 => ?_)
    · rw [if_pos (bz_t c10)] at hF
      refine r_iconst f_Mo_allGood_10 (v := 1) (by decide) ?_
      refine r_iload_n f_Mo_allGood_11 rfl ?_
      refine r_ishl f_Mo_allGood_12 ?_
      refine r_istore_n f_Mo_allGood_13 ?_
      refine r_iconst f_Mo_allGood_14 (v := 1) (by decide) ?_
      refine r_istore_n f_Mo_allGood_15 ?_
      refine r_iconst f_Mo_allGood_16 (v := 0) (by decide) ?_
      refine r_istore f_Mo_allGood_17 ?_
      exact w_Mo_allGood_19 hB hd  hQ 5000 _ (q9.2) (a0) (((1 : Int32) <<< (a1 &&& 31))) (true) ((0 : Int32)) ha0 (lk_put_ne (lk_put_ne (lk_put_ne rfl (by decide) (Or.inl rfl)) (by decide) (Or.inl rfl)) (by decide) (Or.inl rfl)) (lk_put_ne (lk_put_ne lk_put (by decide) (Or.inl rfl)) (by decide) (Or.inl rfl)) (lk_put_ne lk_put (by decide) (Or.inl rfl)) lk_put hF
    · rw [if_neg (bz_nt (Decidable.not_not.mp c10))] at hF
      refine r_iconst f_Mo_allGood_8 (v := 0) (by decide) ?_
      cases hF
      exact r_zreturn f_Mo_allGood_9 (bz_or (false)) hQ
theorem f_Mo_isReference_0 : fetch 72 0 = some (.iload_n 0, 1, 0, 0, 0) := rfl
theorem f_Mo_isReference_1 : fetch 72 1 = some (.iconst 3, 1, 0, 0, 0) := rfl
theorem f_Mo_isReference_2 : fetch 72 2 = some (.if_icmp .le 7, 3, 9, 0, 0) := rfl
theorem f_Mo_isReference_5 : fetch 72 5 = some (.iconst 1, 1, 0, 0, 0) := rfl
theorem f_Mo_isReference_6 : fetch 72 6 = some (.goto 4, 3, 10, 0, 0) := rfl
theorem f_Mo_isReference_9 : fetch 72 9 = some (.iconst 0, 1, 0, 0, 0) := rfl
theorem f_Mo_isReference_10 : fetch 72 10 = some (.ireturn, 1, 2, 0, 0) := rfl
def F_Mo_isReference_10  (y0 : Bool) (σ : SG) : Option (Bool × SG) :=
  some (y0, σ)
set_option maxHeartbeats 4000000 in
theorem w_Mo_isReference_10 {b d : Nat} {sc : SC} {pre tl : List PE} {B : Nat} {Q : Option Value → List PE → Prop} {res : Bool × SG} (hB : B = b + pre.length)   (hQ : Q (some (.int (bz res.1))) (HH pre tl SHm B res.2)) (lv : LV) (σ : SG) (y0 : Bool)  (hF : F_Mo_isReference_10  y0 σ = some res) : Rn b sc d 72 10 lv [.int (bz (y0))] (HH pre tl SHm B σ) Q := by
  unfold F_Mo_isReference_10 at hF
  cases hF
  exact r_zreturn f_Mo_isReference_10 (bz_or (y0)) hQ
def F_Mo_isReference (a0 : Int32) (σ : SG) : Option (Bool × SG) :=
  if a0 ≤ (3 : Int32) then
  F_Mo_isReference_10 (false) σ
  else F_Mo_isReference_10 (true) σ
set_option maxHeartbeats 4000000 in
theorem w_Mo_isReference {b d : Nat} {pre tl : List PE} {B : Nat} {Q : Option Value → List PE → Prop} {res : Bool × SG} (hB : B = b + pre.length)  {σ : SG} (a0 : Int32)  (hF : F_Mo_isReference a0 σ = some res) (hQ : Q (some (.int (bz res.1))) (HH pre tl SHm B res.2)) : Cl b d 72 [.int (a0)] (HH pre tl SHm B σ) Q := by
  unfold Cl
  unfold F_Mo_isReference at hF
  refine r_iload_n f_Mo_isReference_0 rfl ?_
  refine r_iconst f_Mo_isReference_1 (v := 3) (by decide) ?_
  refine r_icmp_le f_Mo_isReference_2 (fun c1 => ?_) (fun c1 => ?_)
  · rw [if_pos c1] at hF
    refine r_iconst f_Mo_isReference_9 (v := 0) (by decide) ?_
    exact w_Mo_isReference_10 hB   hQ _ (σ) (false) hF
  · rw [if_neg c1] at hF
    refine r_iconst f_Mo_isReference_5 (v := 1) (by decide) ?_
    refine r_goto f_Mo_isReference_6 ?_
    exact w_Mo_isReference_10 hB   hQ _ (σ) (true) hF
theorem f_Mo_enter_0 : fetch 71 0 = some (.aload_n 0, 1, 0, 0, 0) := rfl
theorem f_Mo_enter_1 : fetch 71 1 = some (.getfield 275, 3, 8, 31, 71) := rfl
theorem f_Mo_enter_4 : fetch 71 4 = some (.istore_n 2, 1, 0, 0, 0) := rfl
theorem f_Mo_enter_5 : fetch 71 5 = some (.aload_n 0, 1, 0, 0, 0) := rfl
theorem f_Mo_enter_6 : fetch 71 6 = some (.dup, 1, 0, 0, 0) := rfl
theorem f_Mo_enter_7 : fetch 71 7 = some (.getfield 275, 3, 8, 31, 71) := rfl
theorem f_Mo_enter_10 : fetch 71 10 = some (.iconst 1, 1, 0, 0, 0) := rfl
theorem f_Mo_enter_11 : fetch 71 11 = some (.iadd, 1, 0, 0, 0) := rfl
theorem f_Mo_enter_12 : fetch 71 12 = some (.putfield 275, 3, 8, 31, 71) := rfl
theorem f_Mo_enter_15 : fetch 71 15 = some (.aload_n 0, 1, 0, 0, 0) := rfl
theorem f_Mo_enter_16 : fetch 71 16 = some (.getfield 69, 3, 8, 32, 46) := rfl
theorem f_Mo_enter_19 : fetch 71 19 = some (.iload_n 2, 1, 0, 0, 0) := rfl
theorem f_Mo_enter_20 : fetch 71 20 = some (.iload_n 1, 1, 0, 0, 0) := rfl
theorem f_Mo_enter_21 : fetch 71 21 = some (.iastore, 1, 0, 0, 0) := rfl
theorem f_Mo_enter_22 : fetch 71 22 = some (.aload_n 0, 1, 0, 0, 0) := rfl
theorem f_Mo_enter_23 : fetch 71 23 = some (.getfield 72, 3, 8, 33, 47) := rfl
theorem f_Mo_enter_26 : fetch 71 26 = some (.iload_n 2, 1, 0, 0, 0) := rfl
theorem f_Mo_enter_27 : fetch 71 27 = some (.iconst 0, 1, 0, 0, 0) := rfl
theorem f_Mo_enter_28 : fetch 71 28 = some (.iastore, 1, 0, 0, 0) := rfl
theorem f_Mo_enter_29 : fetch 71 29 = some (.aload_n 0, 1, 0, 0, 0) := rfl
theorem f_Mo_enter_30 : fetch 71 30 = some (.getfield 75, 3, 8, 34, 48) := rfl
theorem f_Mo_enter_33 : fetch 71 33 = some (.iload_n 2, 1, 0, 0, 0) := rfl
theorem f_Mo_enter_34 : fetch 71 34 = some (.iconst 0, 1, 0, 0, 0) := rfl
theorem f_Mo_enter_35 : fetch 71 35 = some (.iastore, 1, 0, 0, 0) := rfl
theorem f_Mo_enter_36 : fetch 71 36 = some (.iconst 0, 1, 0, 0, 0) := rfl
theorem f_Mo_enter_37 : fetch 71 37 = some (.istore_n 3, 1, 0, 0, 0) := rfl
theorem f_Mo_enter_38 : fetch 71 38 = some (.iload_n 3, 1, 0, 0, 0) := rfl
theorem f_Mo_enter_39 : fetch 71 39 = some (.iconst 4, 1, 0, 0, 0) := rfl
theorem f_Mo_enter_40 : fetch 71 40 = some (.if_icmp .ge 61, 3, 101, 0, 0) := rfl
theorem f_Mo_enter_43 : fetch 71 43 = some (.aload_n 0, 1, 0, 0, 0) := rfl
theorem f_Mo_enter_44 : fetch 71 44 = some (.getfield 84, 3, 8, 37, 51) := rfl
theorem f_Mo_enter_47 : fetch 71 47 = some (.iconst 4, 1, 0, 0, 0) := rfl
theorem f_Mo_enter_48 : fetch 71 48 = some (.iload_n 2, 1, 0, 0, 0) := rfl
theorem f_Mo_enter_49 : fetch 71 49 = some (.imul, 1, 0, 0, 0) := rfl
theorem f_Mo_enter_50 : fetch 71 50 = some (.iload_n 3, 1, 0, 0, 0) := rfl
theorem f_Mo_enter_51 : fetch 71 51 = some (.iadd, 1, 0, 0, 0) := rfl
theorem f_Mo_enter_52 : fetch 71 52 = some (.iload_n 3, 1, 0, 0, 0) := rfl
theorem f_Mo_enter_53 : fetch 71 53 = some (.aload_n 0, 1, 0, 0, 0) := rfl
theorem f_Mo_enter_54 : fetch 71 54 = some (.getfield 28, 3, 8, 11, 33) := rfl
theorem f_Mo_enter_57 : fetch 71 57 = some (.iload_n 1, 1, 0, 0, 0) := rfl
theorem f_Mo_enter_58 : fetch 71 58 = some (.iaload, 1, 0, 0, 0) := rfl
theorem f_Mo_enter_59 : fetch 71 59 = some (.if_icmp .ge 23, 3, 82, 0, 0) := rfl
theorem f_Mo_enter_62 : fetch 71 62 = some (.aload_n 0, 1, 0, 0, 0) := rfl
theorem f_Mo_enter_63 : fetch 71 63 = some (.getfield 31, 3, 8, 12, 34) := rfl
theorem f_Mo_enter_66 : fetch 71 66 = some (.iconst 4, 1, 0, 0, 0) := rfl
theorem f_Mo_enter_67 : fetch 71 67 = some (.iload_n 1, 1, 0, 0, 0) := rfl
theorem f_Mo_enter_68 : fetch 71 68 = some (.imul, 1, 0, 0, 0) := rfl
theorem f_Mo_enter_69 : fetch 71 69 = some (.iload_n 3, 1, 0, 0, 0) := rfl
theorem f_Mo_enter_70 : fetch 71 70 = some (.iadd, 1, 0, 0, 0) := rfl
theorem f_Mo_enter_71 : fetch 71 71 = some (.iaload, 1, 0, 0, 0) := rfl
theorem f_Mo_enter_72 : fetch 71 72 = some (.invokestatic 281, 3, 72, 1, 78) := rfl
theorem f_Mo_enter_75 : fetch 71 75 = some (.ifCond .eq 7, 3, 82, 0, 0) := rfl
theorem f_Mo_enter_78 : fetch 71 78 = some (.iconst (-1), 1, 0, 0, 0) := rfl
theorem f_Mo_enter_79 : fetch 71 79 = some (.goto 4, 3, 83, 0, 0) := rfl
theorem f_Mo_enter_82 : fetch 71 82 = some (.iconst 0, 1, 0, 0, 0) := rfl
theorem f_Mo_enter_83 : fetch 71 83 = some (.iastore, 1, 0, 0, 0) := rfl
theorem f_Mo_enter_84 : fetch 71 84 = some (.aload_n 0, 1, 0, 0, 0) := rfl
theorem f_Mo_enter_85 : fetch 71 85 = some (.getfield 87, 3, 8, 38, 52) := rfl
theorem f_Mo_enter_88 : fetch 71 88 = some (.iconst 4, 1, 0, 0, 0) := rfl
theorem f_Mo_enter_89 : fetch 71 89 = some (.iload_n 2, 1, 0, 0, 0) := rfl
theorem f_Mo_enter_90 : fetch 71 90 = some (.imul, 1, 0, 0, 0) := rfl
theorem f_Mo_enter_91 : fetch 71 91 = some (.iload_n 3, 1, 0, 0, 0) := rfl
theorem f_Mo_enter_92 : fetch 71 92 = some (.iadd, 1, 0, 0, 0) := rfl
theorem f_Mo_enter_93 : fetch 71 93 = some (.iconst 0, 1, 0, 0, 0) := rfl
theorem f_Mo_enter_94 : fetch 71 94 = some (.iastore, 1, 0, 0, 0) := rfl
theorem f_Mo_enter_95 : fetch 71 95 = some (.iinc 3 1, 3, 0, 0, 0) := rfl
theorem f_Mo_enter_98 : fetch 71 98 = some (.goto (-60), 3, 38, 0, 0) := rfl
theorem f_Mo_enter_101 : fetch 71 101 = some (.iconst 0, 1, 0, 0, 0) := rfl
theorem f_Mo_enter_102 : fetch 71 102 = some (.istore_n 3, 1, 0, 0, 0) := rfl
theorem f_Mo_enter_103 : fetch 71 103 = some (.iload_n 3, 1, 0, 0, 0) := rfl
theorem f_Mo_enter_104 : fetch 71 104 = some (.iconst 3, 1, 0, 0, 0) := rfl
theorem f_Mo_enter_105 : fetch 71 105 = some (.if_icmp .ge 20, 3, 125, 0, 0) := rfl
theorem f_Mo_enter_108 : fetch 71 108 = some (.aload_n 0, 1, 0, 0, 0) := rfl
theorem f_Mo_enter_109 : fetch 71 109 = some (.getfield 93, 3, 8, 40, 54) := rfl
theorem f_Mo_enter_112 : fetch 71 112 = some (.iconst 3, 1, 0, 0, 0) := rfl
theorem f_Mo_enter_113 : fetch 71 113 = some (.iload_n 2, 1, 0, 0, 0) := rfl
theorem f_Mo_enter_114 : fetch 71 114 = some (.imul, 1, 0, 0, 0) := rfl
theorem f_Mo_enter_115 : fetch 71 115 = some (.iload_n 3, 1, 0, 0, 0) := rfl
theorem f_Mo_enter_116 : fetch 71 116 = some (.iadd, 1, 0, 0, 0) := rfl
theorem f_Mo_enter_117 : fetch 71 117 = some (.iconst 0, 1, 0, 0, 0) := rfl
theorem f_Mo_enter_118 : fetch 71 118 = some (.iastore, 1, 0, 0, 0) := rfl
theorem f_Mo_enter_119 : fetch 71 119 = some (.iinc 3 1, 3, 0, 0, 0) := rfl
theorem f_Mo_enter_122 : fetch 71 122 = some (.goto (-19), 3, 103, 0, 0) := rfl
theorem f_Mo_enter_125 : fetch 71 125 = some (.return_, 1, 0, 0, 0) := rfl
def F_Mo_enter_103  : Nat → Nat → Int32 → Int32 → SG → Option (SG)
  | 0, _, _, _, _ => none
  | n + 1, x0, x2, x3, σ =>
  if (3 : Int32) ≤ x3 then
  some σ
  else if (((3 : Int32) * x2) + x3) < 0 ∨ 24 ≤ ((((3 : Int32) * x2) + x3)).toNatClampNeg then none else
  stl (setA σ ((cref SHm (x0) 40)) (((((3 : Int32) * x2) + x3)).toNatClampNeg) ((0 : Int32))) fun s3 =>
  F_Mo_enter_103  n (x0) (x2) ((x3 + 1)) s3
set_option maxHeartbeats 4000000 in
theorem w_Mo_enter_103 {b d : Nat} {sc : SC} {pre tl : List PE} {B : Nat} {Q : Option Value → List PE → Prop} {res : SG} (hB : B = b + pre.length) (hd : 1 ≤ d)   (hQ : Q none (HH pre tl SHm B res)) : ∀ (n : Nat) (lv : LV) (σ : SG) (x0 : Nat) (x2 : Int32) (x3 : Int32), isC SHm (x0) 8 = true → lv.lookup 0 = some (.ref (B + (x0))) → lv.lookup 2 = some (.int (x2)) → lv.lookup 3 = some (.int (x3)) → F_Mo_enter_103  n x0 x2 x3 σ = some res → Rn b sc d 71 103 lv [] (HH pre tl SHm B σ) Q := by
  obtain ⟨e0, rfl⟩ : ∃ e, d = e + 1 := ⟨d - 1, by omega⟩
  intro n
  induction n with
  | zero => intro lv σ x0 x2 x3 hx0 l0 l2 l3 hF; cases hF
  | succ n ih =>
    intro lv σ x0 x2 x3 hx0 l0 l2 l3 hF
    unfold F_Mo_enter_103 at hF
    refine r_iload_n f_Mo_enter_103 l3 ?_
    refine r_iconst f_Mo_enter_104 (v := 3) (by decide) ?_
    refine r_icmp_ge f_Mo_enter_105 (fun c1 => ?_) (fun c1 => ?_)
    · rw [if_pos c1] at hF
      cases hF
      exact r_return f_Mo_enter_125 hQ
    · rw [if_neg c1] at hF
      refine r_aload_n f_Mo_enter_108 l0 ?_
      refine t_getc hB hx0 f_Mo_enter_109 rfl ?_
      refine r_iconst f_Mo_enter_112 (v := 3) (by decide) ?_
      refine r_iload_n f_Mo_enter_113 l2 ?_
      refine r_imul f_Mo_enter_114 ?_
      refine r_iload_n f_Mo_enter_115 l3 ?_
      refine r_iadd f_Mo_enter_116 ?_
      refine r_iconst f_Mo_enter_117 (v := 0) (by decide) ?_
      by_cases c2 : (((3 : Int32) * x2) + x3) < 0 ∨ 24 ≤ ((((3 : Int32) * x2) + x3)).toNatClampNeg
      · rw [if_pos c2] at hF; cases hF
      rw [if_neg c2] at hF
      refine t_iast hB (cc_8_40 hx0) f_Mo_enter_118 c2 ?_
      generalize hs3 : setA σ ((cref SHm (x0) 40)) (((((3 : Int32) * x2) + x3)).toNatClampNeg) ((0 : Int32)) = s3 at hF ⊢
      rw [stl_eq] at hF
      refine r_iinc f_Mo_enter_119 l3 (w := x3 + 1) rfl ?_
      refine r_goto f_Mo_enter_122 ?_
      exact ih _ (s3) (x0) (x2) ((x3 + 1)) hx0 (lk_put_ne l0 (by decide) (Or.inl rfl)) (lk_put_ne l2 (by decide) (Or.inl rfl)) lk_put hF
def F_Mo_enter_83 (rec38 : Nat → Int32 → Int32 → Int32 → SG → Option (SG)) (x0 : Nat) (x1 : Int32) (x2 : Int32) (x3 : Int32) (y0 : Nat) (y1 : Int32) (y2 : Int32) (σ : SG) : Option (SG) :=
  if y1 < 0 ∨ 856 ≤ (y1).toNatClampNeg then none else
  stl (setA σ (y0) ((y1).toNatClampNeg) (y2)) fun s5 =>
  if (((4 : Int32) * x2) + x3) < 0 ∨ 856 ≤ ((((4 : Int32) * x2) + x3)).toNatClampNeg then none else
  stl (setA s5 ((cref SHm (x0) 38)) (((((4 : Int32) * x2) + x3)).toNatClampNeg) ((0 : Int32))) fun s7 =>
  rec38 (x0) (x1) (x2) ((x3 + 1)) s7
set_option maxHeartbeats 4000000 in
theorem w_Mo_enter_83 {b d : Nat} {sc : SC} {pre tl : List PE} {B : Nat} {Q : Option Value → List PE → Prop} {res : SG} (hB : B = b + pre.length) (hd : 1 ≤ d) {rec38 : Nat → Int32 → Int32 → Int32 → SG → Option (SG)} (hr38 : ∀ (lv : LV) (σ : SG) (x0 : Nat) (x1 : Int32) (x2 : Int32) (x3 : Int32), isC SHm (x0) 8 = true → lv.lookup 0 = some (.ref (B + (x0))) → lv.lookup 1 = some (.int (x1)) → lv.lookup 2 = some (.int (x2)) → lv.lookup 3 = some (.int (x3)) →  rec38 x0 x1 x2 x3 σ = some res → Rn b sc d 71 38 lv [] (HH pre tl SHm B σ) Q) (hQ : Q none (HH pre tl SHm B res)) (lv : LV) (σ : SG) (x0 : Nat) (x1 : Int32) (x2 : Int32) (x3 : Int32) (y0 : Nat) (y1 : Int32) (y2 : Int32) (hx0 : isC SHm (x0) 8 = true) (hy0 : isA SHm (y0) 0 856 = true) (l0 : lv.lookup 0 = some (.ref (B + (x0)))) (l1 : lv.lookup 1 = some (.int (x1))) (l2 : lv.lookup 2 = some (.int (x2))) (l3 : lv.lookup 3 = some (.int (x3))) (hF : F_Mo_enter_83 rec38 x0 x1 x2 x3 y0 y1 y2 σ = some res) : Rn b sc d 71 83 lv [.int (y2), .int (y1), .ref (B + (y0))] (HH pre tl SHm B σ) Q := by
  obtain ⟨e0, rfl⟩ : ∃ e, d = e + 1 := ⟨d - 1, by omega⟩
  unfold F_Mo_enter_83 at hF
  by_cases c4 : y1 < 0 ∨ 856 ≤ (y1).toNatClampNeg
  · rw [if_pos c4] at hF; cases hF
  rw [if_neg c4] at hF
  refine t_iast hB hy0 f_Mo_enter_83 c4 ?_
  generalize hs5 : setA σ (y0) ((y1).toNatClampNeg) (y2) = s5 at hF ⊢
  rw [stl_eq] at hF
  refine r_aload_n f_Mo_enter_84 l0 ?_
  refine t_getc hB hx0 f_Mo_enter_85 rfl ?_
  refine r_iconst f_Mo_enter_88 (v := 4) (by decide) ?_
  refine r_iload_n f_Mo_enter_89 l2 ?_
  refine r_imul f_Mo_enter_90 ?_
  refine r_iload_n f_Mo_enter_91 l3 ?_
  refine r_iadd f_Mo_enter_92 ?_
  refine r_iconst f_Mo_enter_93 (v := 0) (by decide) ?_
  by_cases c6 : (((4 : Int32) * x2) + x3) < 0 ∨ 856 ≤ ((((4 : Int32) * x2) + x3)).toNatClampNeg
  · rw [if_pos c6] at hF; cases hF
  rw [if_neg c6] at hF
  refine t_iast hB (cc_8_38 hx0) f_Mo_enter_94 c6 ?_
  generalize hs7 : setA s5 ((cref SHm (x0) 38)) (((((4 : Int32) * x2) + x3)).toNatClampNeg) ((0 : Int32)) = s7 at hF ⊢
  rw [stl_eq] at hF
  refine r_iinc f_Mo_enter_95 l3 (w := x3 + 1) rfl ?_
  refine r_goto f_Mo_enter_98 ?_
  exact hr38 _ (s7) (x0) (x1) (x2) ((x3 + 1)) hx0 (lk_put_ne l0 (by decide) (Or.inl rfl)) (lk_put_ne l1 (by decide) (Or.inl rfl)) (lk_put_ne l2 (by decide) (Or.inl rfl)) lk_put hF
def F_Mo_enter_82 (rec38 : Nat → Int32 → Int32 → Int32 → SG → Option (SG)) (x0 : Nat) (x1 : Int32) (x2 : Int32) (x3 : Int32) (y0 : Nat) (y1 : Int32) (σ : SG) : Option (SG) :=
  F_Mo_enter_83 (rec38) (x0) (x1) (x2) (x3) (y0) (y1) ((0 : Int32)) σ
set_option maxHeartbeats 4000000 in
theorem w_Mo_enter_82 {b d : Nat} {sc : SC} {pre tl : List PE} {B : Nat} {Q : Option Value → List PE → Prop} {res : SG} (hB : B = b + pre.length) (hd : 1 ≤ d) {rec38 : Nat → Int32 → Int32 → Int32 → SG → Option (SG)} (hr38 : ∀ (lv : LV) (σ : SG) (x0 : Nat) (x1 : Int32) (x2 : Int32) (x3 : Int32), isC SHm (x0) 8 = true → lv.lookup 0 = some (.ref (B + (x0))) → lv.lookup 1 = some (.int (x1)) → lv.lookup 2 = some (.int (x2)) → lv.lookup 3 = some (.int (x3)) →  rec38 x0 x1 x2 x3 σ = some res → Rn b sc d 71 38 lv [] (HH pre tl SHm B σ) Q) (hQ : Q none (HH pre tl SHm B res)) (lv : LV) (σ : SG) (x0 : Nat) (x1 : Int32) (x2 : Int32) (x3 : Int32) (y0 : Nat) (y1 : Int32) (hx0 : isC SHm (x0) 8 = true) (hy0 : isA SHm (y0) 0 856 = true) (l0 : lv.lookup 0 = some (.ref (B + (x0)))) (l1 : lv.lookup 1 = some (.int (x1))) (l2 : lv.lookup 2 = some (.int (x2))) (l3 : lv.lookup 3 = some (.int (x3))) (hF : F_Mo_enter_82 rec38 x0 x1 x2 x3 y0 y1 σ = some res) : Rn b sc d 71 82 lv [.int (y1), .ref (B + (y0))] (HH pre tl SHm B σ) Q := by
  obtain ⟨e0, rfl⟩ : ∃ e, d = e + 1 := ⟨d - 1, by omega⟩
  unfold F_Mo_enter_82 at hF
  refine r_iconst f_Mo_enter_82 (v := 0) (by decide) ?_
  exact w_Mo_enter_83 hB hd (hr38) hQ _ (σ) (x0) (x1) (x2) (x3) (y0) (y1) ((0 : Int32)) hx0 hy0 l0 l1 l2 l3 hF
def F_Mo_enter_38  : Nat → Nat → Int32 → Int32 → Int32 → SG → Option (SG)
  | 0, _, _, _, _, _ => none
  | n + 1, x0, x1, x2, x3, σ =>
  if (4 : Int32) ≤ x3 then
  F_Mo_enter_103  5000 (x0) (x2) ((0 : Int32)) σ
  else if x1 < 0 ∨ 6 ≤ (x1).toNatClampNeg then none else
  if (σ.2.2.2.1 ((cref SHm (x0) 11)) ((x1).toNatClampNeg)) ≤ x3 then
  F_Mo_enter_82 (F_Mo_enter_38  n) (x0) (x1) (x2) (x3) ((cref SHm (x0) 37)) ((((4 : Int32) * x2) + x3)) σ
  else if (((4 : Int32) * x1) + x3) < 0 ∨ 24 ≤ ((((4 : Int32) * x1) + x3)).toNatClampNeg then none else
  match F_Mo_isReference ((σ.2.2.2.1 ((cref SHm (x0) 12)) (((((4 : Int32) * x1) + x3)).toNatClampNeg))) σ with
  | none => none
  | some q12 =>
  if q12.1 = true then
  F_Mo_enter_83 (F_Mo_enter_38  n) (x0) (x1) (x2) (x3) ((cref SHm (x0) 37)) ((((4 : Int32) * x2) + x3)) (((-1) : Int32)) q12.2
  else F_Mo_enter_82 (F_Mo_enter_38  n) (x0) (x1) (x2) (x3) ((cref SHm (x0) 37)) ((((4 : Int32) * x2) + x3)) q12.2
set_option maxHeartbeats 4000000 in
theorem w_Mo_enter_38 {b d : Nat} {sc : SC} {pre tl : List PE} {B : Nat} {Q : Option Value → List PE → Prop} {res : SG} (hB : B = b + pre.length) (hd : 1 ≤ d)   (hQ : Q none (HH pre tl SHm B res)) : ∀ (n : Nat) (lv : LV) (σ : SG) (x0 : Nat) (x1 : Int32) (x2 : Int32) (x3 : Int32), isC SHm (x0) 8 = true → lv.lookup 0 = some (.ref (B + (x0))) → lv.lookup 1 = some (.int (x1)) → lv.lookup 2 = some (.int (x2)) → lv.lookup 3 = some (.int (x3)) → F_Mo_enter_38  n x0 x1 x2 x3 σ = some res → Rn b sc d 71 38 lv [] (HH pre tl SHm B σ) Q := by
  obtain ⟨e0, rfl⟩ : ∃ e, d = e + 1 := ⟨d - 1, by omega⟩
  intro n
  induction n with
  | zero => intro lv σ x0 x1 x2 x3 hx0 l0 l1 l2 l3 hF; cases hF
  | succ n ih =>
    intro lv σ x0 x1 x2 x3 hx0 l0 l1 l2 l3 hF
    unfold F_Mo_enter_38 at hF
    refine r_iload_n f_Mo_enter_38 l3 ?_
    refine r_iconst f_Mo_enter_39 (v := 4) (by decide) ?_
    refine r_icmp_ge f_Mo_enter_40 (fun c8 => ?_) (fun c8 => ?_)
    · rw [if_pos c8] at hF
      refine r_iconst f_Mo_enter_101 (v := 0) (by decide) ?_
      refine r_istore_n f_Mo_enter_102 ?_
      exact w_Mo_enter_103 hB hd  hQ 5000 _ (σ) (x0) (x2) ((0 : Int32)) hx0 (lk_put_ne l0 (by decide) (Or.inl rfl)) (lk_put_ne l2 (by decide) (Or.inl rfl)) lk_put hF
    · rw [if_neg c8] at hF
      refine r_aload_n f_Mo_enter_43 l0 ?_
      refine t_getc hB hx0 f_Mo_enter_44 rfl ?_
      refine r_iconst f_Mo_enter_47 (v := 4) (by decide) ?_
      refine r_iload_n f_Mo_enter_48 l2 ?_
      refine r_imul f_Mo_enter_49 ?_
      refine r_iload_n f_Mo_enter_50 l3 ?_
      refine r_iadd f_Mo_enter_51 ?_
      refine r_iload_n f_Mo_enter_52 l3 ?_
      refine r_aload_n f_Mo_enter_53 l0 ?_
      refine t_getc hB hx0 f_Mo_enter_54 rfl ?_
      refine r_iload_n f_Mo_enter_57 l1 ?_
      by_cases c9 : x1 < 0 ∨ 6 ≤ (x1).toNatClampNeg
      · rw [if_pos c9] at hF; cases hF
      rw [if_neg c9] at hF
      refine t_iald hB (cc_8_11 hx0) f_Mo_enter_58 c9 ?_
      refine r_icmp_ge f_Mo_enter_59 (fun c10 => ?_) (fun c10 => ?_)
      · rw [if_pos c10] at hF
        exact w_Mo_enter_82 hB hd (ih) hQ _ (σ) (x0) (x1) (x2) (x3) ((cref SHm (x0) 37)) ((((4 : Int32) * x2) + x3)) hx0 (cc_8_37 hx0) l0 l1 l2 l3 hF
      · rw [if_neg c10] at hF
        refine r_aload_n f_Mo_enter_62 l0 ?_
        refine t_getc hB hx0 f_Mo_enter_63 rfl ?_
        refine r_iconst f_Mo_enter_66 (v := 4) (by decide) ?_
        refine r_iload_n f_Mo_enter_67 l1 ?_
        refine r_imul f_Mo_enter_68 ?_
        refine r_iload_n f_Mo_enter_69 l3 ?_
        refine r_iadd f_Mo_enter_70 ?_
        by_cases c11 : (((4 : Int32) * x1) + x3) < 0 ∨ 24 ≤ ((((4 : Int32) * x1) + x3)).toNatClampNeg
        · rw [if_pos c11] at hF; cases hF
        rw [if_neg c11] at hF
        refine t_iald hB (cc_8_12 hx0) f_Mo_enter_71 c11 ?_
        cases hq12 : F_Mo_isReference ((σ.2.2.2.1 ((cref SHm (x0) 12)) (((((4 : Int32) * x1) + x3)).toNatClampNeg))) σ with
        | none => simp only [hq12] at hF; cases hF
        | some q12 =>
          simp only [hq12] at hF
          refine t_S1i f_Mo_enter_72 (by decide) (Nat.le_of_ble_eq_true rfl) (Nat.le_of_ble_eq_true rfl) (w_Mo_isReference hB  ((σ.2.2.2.1 ((cref SHm (x0) 12)) (((((4 : Int32) * x1) + x3)).toNatClampNeg)))  hq12 ⟨_, rfl, ?_⟩)
          refine r_if_eq f_Mo_enter_75 (fun c13 => ?_) (fun c13 => ?_)
          · rw [if_neg (bz_nt c13)] at hF
            exact w_Mo_enter_82 hB hd (ih) hQ _ (q12.2) (x0) (x1) (x2) (x3) ((cref SHm (x0) 37)) ((((4 : Int32) * x2) + x3)) hx0 (cc_8_37 hx0) l0 l1 l2 l3 hF
          · rw [if_pos (bz_t c13)] at hF
            refine r_iconst f_Mo_enter_78 (v := (-1)) (by decide) ?_
            refine r_goto f_Mo_enter_79 ?_
            exact w_Mo_enter_83 hB hd (ih) hQ _ (q12.2) (x0) (x1) (x2) (x3) ((cref SHm (x0) 37)) ((((4 : Int32) * x2) + x3)) (((-1) : Int32)) hx0 (cc_8_37 hx0) l0 l1 l2 l3 hF
def F_Mo_enter (a0 : Nat) (a1 : Int32) (σ : SG) : Option (SG) :=
  stl (setI σ (a0) 31 (((σ.1 (a0) 31) + (1 : Int32)))) fun s14 =>
  if (σ.1 (a0) 31) < 0 ∨ 8 ≤ ((σ.1 (a0) 31)).toNatClampNeg then none else
  stl (setA s14 ((cref SHm (a0) 32)) (((σ.1 (a0) 31)).toNatClampNeg) (a1)) fun s16 =>
  if (σ.1 (a0) 31) < 0 ∨ 8 ≤ ((σ.1 (a0) 31)).toNatClampNeg then none else
  stl (setA s16 ((cref SHm (a0) 33)) (((σ.1 (a0) 31)).toNatClampNeg) ((0 : Int32))) fun s18 =>
  if (σ.1 (a0) 31) < 0 ∨ 8 ≤ ((σ.1 (a0) 31)).toNatClampNeg then none else
  stl (setA s18 ((cref SHm (a0) 34)) (((σ.1 (a0) 31)).toNatClampNeg) ((0 : Int32))) fun s20 =>
  F_Mo_enter_38  5000 (a0) (a1) ((σ.1 (a0) 31)) ((0 : Int32)) s20
set_option maxHeartbeats 4000000 in
theorem w_Mo_enter {b d : Nat} {pre tl : List PE} {B : Nat} {Q : Option Value → List PE → Prop} {res : SG} (hB : B = b + pre.length) (hd : 1 ≤ d)  {σ : SG} (a0 : Nat) (a1 : Int32) (ha0 : isC SHm (a0) 8 = true) (hF : F_Mo_enter a0 a1 σ = some res) (hQ : Q none (HH pre tl SHm B res)) : Cl b d 71 [.ref (B + (a0)), .int (a1)] (HH pre tl SHm B σ) Q := by
  obtain ⟨e0, rfl⟩ : ∃ e, d = e + 1 := ⟨d - 1, by omega⟩
  unfold Cl
  unfold F_Mo_enter at hF
  refine r_aload_n f_Mo_enter_0 rfl ?_
  refine t_geti hB ha0 f_Mo_enter_1 rfl ?_
  refine r_istore_n f_Mo_enter_4 ?_
  refine r_aload_n f_Mo_enter_5 (lk_put_ne rfl (by decide) (Or.inl rfl)) ?_
  refine r_dup f_Mo_enter_6 rfl ?_
  refine t_geti hB ha0 f_Mo_enter_7 rfl ?_
  refine r_iconst f_Mo_enter_10 (v := 1) (by decide) ?_
  refine r_iadd f_Mo_enter_11 ?_
  refine t_puti hB ha0 f_Mo_enter_12 rfl rfl ?_
  generalize hs14 : setI σ (a0) 31 (((σ.1 (a0) 31) + (1 : Int32))) = s14 at hF ⊢
  rw [stl_eq] at hF
  refine r_aload_n f_Mo_enter_15 (lk_put_ne rfl (by decide) (Or.inl rfl)) ?_
  refine t_getc hB ha0 f_Mo_enter_16 rfl ?_
  refine r_iload_n f_Mo_enter_19 lk_put ?_
  refine r_iload_n f_Mo_enter_20 (lk_put_ne rfl (by decide) (Or.inl rfl)) ?_
  by_cases c15 : (σ.1 (a0) 31) < 0 ∨ 8 ≤ ((σ.1 (a0) 31)).toNatClampNeg
  · rw [if_pos c15] at hF; cases hF
  rw [if_neg c15] at hF
  refine t_iast hB (cc_8_32 ha0) f_Mo_enter_21 c15 ?_
  generalize hs16 : setA s14 ((cref SHm (a0) 32)) (((σ.1 (a0) 31)).toNatClampNeg) (a1) = s16 at hF ⊢
  rw [stl_eq] at hF
  refine r_aload_n f_Mo_enter_22 (lk_put_ne rfl (by decide) (Or.inl rfl)) ?_
  refine t_getc hB ha0 f_Mo_enter_23 rfl ?_
  refine r_iload_n f_Mo_enter_26 lk_put ?_
  refine r_iconst f_Mo_enter_27 (v := 0) (by decide) ?_
  by_cases c17 : (σ.1 (a0) 31) < 0 ∨ 8 ≤ ((σ.1 (a0) 31)).toNatClampNeg
  · rw [if_pos c17] at hF; cases hF
  rw [if_neg c17] at hF
  refine t_iast hB (cc_8_33 ha0) f_Mo_enter_28 c17 ?_
  generalize hs18 : setA s16 ((cref SHm (a0) 33)) (((σ.1 (a0) 31)).toNatClampNeg) ((0 : Int32)) = s18 at hF ⊢
  rw [stl_eq] at hF
  refine r_aload_n f_Mo_enter_29 (lk_put_ne rfl (by decide) (Or.inl rfl)) ?_
  refine t_getc hB ha0 f_Mo_enter_30 rfl ?_
  refine r_iload_n f_Mo_enter_33 lk_put ?_
  refine r_iconst f_Mo_enter_34 (v := 0) (by decide) ?_
  by_cases c19 : (σ.1 (a0) 31) < 0 ∨ 8 ≤ ((σ.1 (a0) 31)).toNatClampNeg
  · rw [if_pos c19] at hF; cases hF
  rw [if_neg c19] at hF
  refine t_iast hB (cc_8_34 ha0) f_Mo_enter_35 c19 ?_
  generalize hs20 : setA s18 ((cref SHm (a0) 34)) (((σ.1 (a0) 31)).toNatClampNeg) ((0 : Int32)) = s20 at hF ⊢
  rw [stl_eq] at hF
  refine r_iconst f_Mo_enter_36 (v := 0) (by decide) ?_
  refine r_istore_n f_Mo_enter_37 ?_
  exact w_Mo_enter_38 hB hd  hQ 5000 _ (s20) (a0) (a1) ((σ.1 (a0) 31)) ((0 : Int32)) ha0 (lk_put_ne (lk_put_ne rfl (by decide) (Or.inl rfl)) (by decide) (Or.inl rfl)) (lk_put_ne (lk_put_ne rfl (by decide) (Or.inl rfl)) (by decide) (Or.inl rfl)) (lk_put_ne lk_put (by decide) (Or.inl rfl)) lk_put hF
theorem f_Mo_start_0 : fetch 68 0 = some (.aload_n 0, 1, 0, 0, 0) := rfl
theorem f_Mo_start_1 : fetch 68 1 = some (.iload_n 1, 1, 0, 0, 0) := rfl
theorem f_Mo_start_2 : fetch 68 2 = some (.invokevirtual 266, 3, 69, 1, 75) := rfl
theorem f_Mo_start_5 : fetch 68 5 = some (.ifCond .ne 5, 3, 10, 0, 0) := rfl
theorem f_Mo_start_8 : fetch 68 8 = some (.iconst 0, 1, 0, 0, 0) := rfl
theorem f_Mo_start_9 : fetch 68 9 = some (.ireturn, 1, 2, 0, 0) := rfl
theorem f_Mo_start_10 : fetch 68 10 = some (.iconst 0, 1, 0, 0, 0) := rfl
theorem f_Mo_start_11 : fetch 68 11 = some (.istore 4, 2, 0, 0, 0) := rfl
theorem f_Mo_start_13 : fetch 68 13 = some (.iload 4, 2, 0, 0, 0) := rfl
theorem f_Mo_start_15 : fetch 68 15 = some (.aload_n 0, 1, 0, 0, 0) := rfl
theorem f_Mo_start_16 : fetch 68 16 = some (.getfield 22, 3, 8, 9, 31) := rfl
theorem f_Mo_start_19 : fetch 68 19 = some (.iload_n 1, 1, 0, 0, 0) := rfl
theorem f_Mo_start_20 : fetch 68 20 = some (.iaload, 1, 0, 0, 0) := rfl
theorem f_Mo_start_21 : fetch 68 21 = some (.if_icmp .ge 26, 3, 47, 0, 0) := rfl
theorem f_Mo_start_24 : fetch 68 24 = some (.aload_n 0, 1, 0, 0, 0) := rfl
theorem f_Mo_start_25 : fetch 68 25 = some (.getfield 25, 3, 8, 10, 32) := rfl
theorem f_Mo_start_28 : fetch 68 28 = some (.iconst 3, 1, 0, 0, 0) := rfl
theorem f_Mo_start_29 : fetch 68 29 = some (.iload_n 1, 1, 0, 0, 0) := rfl
theorem f_Mo_start_30 : fetch 68 30 = some (.imul, 1, 0, 0, 0) := rfl
theorem f_Mo_start_31 : fetch 68 31 = some (.iload 4, 2, 0, 0, 0) := rfl
theorem f_Mo_start_33 : fetch 68 33 = some (.iadd, 1, 0, 0, 0) := rfl
theorem f_Mo_start_34 : fetch 68 34 = some (.iaload, 1, 0, 0, 0) := rfl
theorem f_Mo_start_35 : fetch 68 35 = some (.iconst 1, 1, 0, 0, 0) := rfl
theorem f_Mo_start_36 : fetch 68 36 = some (.if_icmp .eq 5, 3, 41, 0, 0) := rfl
theorem f_Mo_start_39 : fetch 68 39 = some (.iconst 0, 1, 0, 0, 0) := rfl
theorem f_Mo_start_40 : fetch 68 40 = some (.ireturn, 1, 2, 0, 0) := rfl
theorem f_Mo_start_41 : fetch 68 41 = some (.iinc 4 1, 3, 0, 0, 0) := rfl
theorem f_Mo_start_44 : fetch 68 44 = some (.goto (-31), 3, 13, 0, 0) := rfl
theorem f_Mo_start_47 : fetch 68 47 = some (.aload_n 0, 1, 0, 0, 0) := rfl
theorem f_Mo_start_48 : fetch 68 48 = some (.iconst 1, 1, 0, 0, 0) := rfl
theorem f_Mo_start_49 : fetch 68 49 = some (.putfield 147, 3, 8, 28, 61) := rfl
theorem f_Mo_start_52 : fetch 68 52 = some (.aload_n 0, 1, 0, 0, 0) := rfl
theorem f_Mo_start_53 : fetch 68 53 = some (.iconst 0, 1, 0, 0, 0) := rfl
theorem f_Mo_start_54 : fetch 68 54 = some (.putfield 269, 3, 8, 29, 69) := rfl
theorem f_Mo_start_57 : fetch 68 57 = some (.aload_n 0, 1, 0, 0, 0) := rfl
theorem f_Mo_start_58 : fetch 68 58 = some (.iconst 0, 1, 0, 0, 0) := rfl
theorem f_Mo_start_59 : fetch 68 59 = some (.putfield 272, 3, 8, 30, 70) := rfl
theorem f_Mo_start_62 : fetch 68 62 = some (.aload_n 0, 1, 0, 0, 0) := rfl
theorem f_Mo_start_63 : fetch 68 63 = some (.iconst 0, 1, 0, 0, 0) := rfl
theorem f_Mo_start_64 : fetch 68 64 = some (.putfield 275, 3, 8, 31, 71) := rfl
theorem f_Mo_start_67 : fetch 68 67 = some (.iconst 0, 1, 0, 0, 0) := rfl
theorem f_Mo_start_68 : fetch 68 68 = some (.istore 4, 2, 0, 0, 0) := rfl
theorem f_Mo_start_70 : fetch 68 70 = some (.iload 4, 2, 0, 0, 0) := rfl
theorem f_Mo_start_72 : fetch 68 72 = some (.bipush 18, 2, 0, 0, 0) := rfl
theorem f_Mo_start_74 : fetch 68 74 = some (.if_icmp .ge 17, 3, 91, 0, 0) := rfl
theorem f_Mo_start_77 : fetch 68 77 = some (.aload_n 0, 1, 0, 0, 0) := rfl
theorem f_Mo_start_78 : fetch 68 78 = some (.getfield 102, 3, 8, 43, 57) := rfl
theorem f_Mo_start_81 : fetch 68 81 = some (.iload 4, 2, 0, 0, 0) := rfl
theorem f_Mo_start_83 : fetch 68 83 = some (.iconst 0, 1, 0, 0, 0) := rfl
theorem f_Mo_start_84 : fetch 68 84 = some (.iastore, 1, 0, 0, 0) := rfl
theorem f_Mo_start_85 : fetch 68 85 = some (.iinc 4 1, 3, 0, 0, 0) := rfl
theorem f_Mo_start_88 : fetch 68 88 = some (.goto (-18), 3, 70, 0, 0) := rfl
theorem f_Mo_start_91 : fetch 68 91 = some (.aload_n 0, 1, 0, 0, 0) := rfl
theorem f_Mo_start_92 : fetch 68 92 = some (.iload_n 1, 1, 0, 0, 0) := rfl
theorem f_Mo_start_93 : fetch 68 93 = some (.invokevirtual 278, 3, 71, 1, 76) := rfl
theorem f_Mo_start_96 : fetch 68 96 = some (.aload_n 0, 1, 0, 0, 0) := rfl
theorem f_Mo_start_97 : fetch 68 97 = some (.getfield 84, 3, 8, 37, 51) := rfl
theorem f_Mo_start_100 : fetch 68 100 = some (.bipush 32, 2, 0, 0, 0) := rfl
theorem f_Mo_start_102 : fetch 68 102 = some (.iload_n 2, 1, 0, 0, 0) := rfl
theorem f_Mo_start_103 : fetch 68 103 = some (.iastore, 1, 0, 0, 0) := rfl
theorem f_Mo_start_104 : fetch 68 104 = some (.aload_n 0, 1, 0, 0, 0) := rfl
theorem f_Mo_start_105 : fetch 68 105 = some (.getfield 84, 3, 8, 37, 51) := rfl
theorem f_Mo_start_108 : fetch 68 108 = some (.bipush 33, 2, 0, 0, 0) := rfl
theorem f_Mo_start_110 : fetch 68 110 = some (.iload_n 3, 1, 0, 0, 0) := rfl
theorem f_Mo_start_111 : fetch 68 111 = some (.iastore, 1, 0, 0, 0) := rfl
theorem f_Mo_start_112 : fetch 68 112 = some (.aload_n 0, 1, 0, 0, 0) := rfl
theorem f_Mo_start_113 : fetch 68 113 = some (.getfield 84, 3, 8, 37, 51) := rfl
theorem f_Mo_start_116 : fetch 68 116 = some (.bipush 34, 2, 0, 0, 0) := rfl
theorem f_Mo_start_118 : fetch 68 118 = some (.iconst 0, 1, 0, 0, 0) := rfl
theorem f_Mo_start_119 : fetch 68 119 = some (.iastore, 1, 0, 0, 0) := rfl
theorem f_Mo_start_120 : fetch 68 120 = some (.iconst 1, 1, 0, 0, 0) := rfl
theorem f_Mo_start_121 : fetch 68 121 = some (.ireturn, 1, 2, 0, 0) := rfl
def F_Mo_start_70  : Nat → Nat → Int32 → Int32 → Int32 → Int32 → SG → Option (Bool × SG)
  | 0, _, _, _, _, _, _ => none
  | n + 1, x0, x1, x2, x3, x4, σ =>
  if (18 : Int32) ≤ x4 then
  match F_Mo_enter (x0) (x1) σ with
  | none => none
  | some q2 =>
  stl (setA q2 ((cref SHm (x0) 37)) ((32 : Int32).toNatClampNeg) (x2)) fun s4 =>
  stl (setA s4 ((cref SHm (x0) 37)) ((33 : Int32).toNatClampNeg) (x3)) fun s6 =>
  stl (setA s6 ((cref SHm (x0) 37)) ((34 : Int32).toNatClampNeg) ((0 : Int32))) fun s8 =>
  some (true, s8)
  else if x4 < 0 ∨ 18 ≤ (x4).toNatClampNeg then none else
  stl (setA σ ((cref SHm (x0) 43)) ((x4).toNatClampNeg) ((0 : Int32))) fun s10 =>
  F_Mo_start_70  n (x0) (x1) (x2) (x3) ((x4 + 1)) s10
set_option maxHeartbeats 4000000 in
theorem w_Mo_start_70 {b d : Nat} {sc : SC} {pre tl : List PE} {B : Nat} {Q : Option Value → List PE → Prop} {res : Bool × SG} (hB : B = b + pre.length) (hd : 2 ≤ d)   (hQ : Q (some (.int (bz res.1))) (HH pre tl SHm B res.2)) : ∀ (n : Nat) (lv : LV) (σ : SG) (x0 : Nat) (x1 : Int32) (x2 : Int32) (x3 : Int32) (x4 : Int32), isC SHm (x0) 8 = true → lv.lookup 0 = some (.ref (B + (x0))) → lv.lookup 1 = some (.int (x1)) → lv.lookup 2 = some (.int (x2)) → lv.lookup 3 = some (.int (x3)) → lv.lookup 4 = some (.int (x4)) → F_Mo_start_70  n x0 x1 x2 x3 x4 σ = some res → Rn b sc d 68 70 lv [] (HH pre tl SHm B σ) Q := by
  obtain ⟨e0, rfl⟩ : ∃ e, d = e + 1 := ⟨d - 1, by omega⟩
  intro n
  induction n with
  | zero => intro lv σ x0 x1 x2 x3 x4 hx0 l0 l1 l2 l3 l4 hF; cases hF
  | succ n ih =>
    intro lv σ x0 x1 x2 x3 x4 hx0 l0 l1 l2 l3 l4 hF
    unfold F_Mo_start_70 at hF
    refine r_iload f_Mo_start_70 l4 ?_
    refine r_bipush f_Mo_start_72 (v := 18) (by decide) ?_
    refine r_icmp_ge f_Mo_start_74 (fun c1 => ?_) (fun c1 => ?_)
    · rw [if_pos c1] at hF
      refine r_aload_n f_Mo_start_91 l0 ?_
      refine r_iload_n f_Mo_start_92 l1 ?_
      cases hq2 : F_Mo_enter (x0) (x1) σ with
      | none => simp only [hq2] at hF; cases hF
      | some q2 =>
        simp only [hq2] at hF
        refine t_V1v hB hx0 rfl rfl f_Mo_start_93 (by decide) (Nat.le_of_ble_eq_true rfl) (Nat.le_of_ble_eq_true rfl) (w_Mo_enter hB (by omega) (x0) (x1) hx0 hq2 ⟨rfl, ?_⟩)
        refine r_aload_n f_Mo_start_96 l0 ?_
        refine t_getc hB hx0 f_Mo_start_97 rfl ?_
        refine r_bipush f_Mo_start_100 (v := 32) (by decide) ?_
        refine r_iload_n f_Mo_start_102 l2 ?_
        refine t_iast hB (cc_8_37 hx0) f_Mo_start_103 (by decide) ?_
        generalize hs4 : setA q2 ((cref SHm (x0) 37)) ((32 : Int32).toNatClampNeg) (x2) = s4 at hF ⊢
        rw [stl_eq] at hF
        refine r_aload_n f_Mo_start_104 l0 ?_
        refine t_getc hB hx0 f_Mo_start_105 rfl ?_
        refine r_bipush f_Mo_start_108 (v := 33) (by decide) ?_
        refine r_iload_n f_Mo_start_110 l3 ?_
        refine t_iast hB (cc_8_37 hx0) f_Mo_start_111 (by decide) ?_
        generalize hs6 : setA s4 ((cref SHm (x0) 37)) ((33 : Int32).toNatClampNeg) (x3) = s6 at hF ⊢
        rw [stl_eq] at hF
        refine r_aload_n f_Mo_start_112 l0 ?_
        refine t_getc hB hx0 f_Mo_start_113 rfl ?_
        refine r_bipush f_Mo_start_116 (v := 34) (by decide) ?_
        refine r_iconst f_Mo_start_118 (v := 0) (by decide) ?_
        refine t_iast hB (cc_8_37 hx0) f_Mo_start_119 (by decide) ?_
        generalize hs8 : setA s6 ((cref SHm (x0) 37)) ((34 : Int32).toNatClampNeg) ((0 : Int32)) = s8 at hF ⊢
        rw [stl_eq] at hF
        refine r_iconst f_Mo_start_120 (v := 1) (by decide) ?_
        cases hF
        exact r_zreturn f_Mo_start_121 (bz_or (true)) hQ
    · rw [if_neg c1] at hF
      refine r_aload_n f_Mo_start_77 l0 ?_
      refine t_getc hB hx0 f_Mo_start_78 rfl ?_
      refine r_iload f_Mo_start_81 l4 ?_
      refine r_iconst f_Mo_start_83 (v := 0) (by decide) ?_
      by_cases c9 : x4 < 0 ∨ 18 ≤ (x4).toNatClampNeg
      · rw [if_pos c9] at hF; cases hF
      rw [if_neg c9] at hF
      refine t_iast hB (cc_8_43 hx0) f_Mo_start_84 c9 ?_
      generalize hs10 : setA σ ((cref SHm (x0) 43)) ((x4).toNatClampNeg) ((0 : Int32)) = s10 at hF ⊢
      rw [stl_eq] at hF
      refine r_iinc f_Mo_start_85 l4 (w := x4 + 1) rfl ?_
      refine r_goto f_Mo_start_88 ?_
      exact ih _ (s10) (x0) (x1) (x2) (x3) ((x4 + 1)) hx0 (lk_put_ne l0 (by decide) (Or.inl rfl)) (lk_put_ne l1 (by decide) (Or.inl rfl)) (lk_put_ne l2 (by decide) (Or.inl rfl)) (lk_put_ne l3 (by decide) (Or.inl rfl)) lk_put hF
def F_Mo_start_13  : Nat → Nat → Int32 → Int32 → Int32 → Int32 → SG → Option (Bool × SG)
  | 0, _, _, _, _, _, _ => none
  | n + 1, x0, x1, x2, x3, x4, σ =>
  if x1 < 0 ∨ 6 ≤ (x1).toNatClampNeg then none else
  if (σ.2.2.2.1 ((cref SHm (x0) 9)) ((x1).toNatClampNeg)) ≤ x4 then
  stl (setI σ (x0) 28 ((1 : Int32))) fun s13 =>
  stl (setI s13 (x0) 29 ((0 : Int32))) fun s14 =>
  stl (setI s14 (x0) 30 ((0 : Int32))) fun s15 =>
  stl (setI s15 (x0) 31 ((0 : Int32))) fun s16 =>
  F_Mo_start_70  5000 (x0) (x1) (x2) (x3) ((0 : Int32)) s16
  else if (((3 : Int32) * x1) + x4) < 0 ∨ 18 ≤ ((((3 : Int32) * x1) + x4)).toNatClampNeg then none else
  if (σ.2.2.2.1 ((cref SHm (x0) 10)) (((((3 : Int32) * x1) + x4)).toNatClampNeg)) = (1 : Int32) then
  F_Mo_start_13  n (x0) (x1) (x2) (x3) ((x4 + 1)) σ
  else some (false, σ)
set_option maxHeartbeats 4000000 in
theorem w_Mo_start_13 {b d : Nat} {sc : SC} {pre tl : List PE} {B : Nat} {Q : Option Value → List PE → Prop} {res : Bool × SG} (hB : B = b + pre.length) (hd : 2 ≤ d)   (hQ : Q (some (.int (bz res.1))) (HH pre tl SHm B res.2)) : ∀ (n : Nat) (lv : LV) (σ : SG) (x0 : Nat) (x1 : Int32) (x2 : Int32) (x3 : Int32) (x4 : Int32), isC SHm (x0) 8 = true → lv.lookup 0 = some (.ref (B + (x0))) → lv.lookup 1 = some (.int (x1)) → lv.lookup 2 = some (.int (x2)) → lv.lookup 3 = some (.int (x3)) → lv.lookup 4 = some (.int (x4)) → F_Mo_start_13  n x0 x1 x2 x3 x4 σ = some res → Rn b sc d 68 13 lv [] (HH pre tl SHm B σ) Q := by
  obtain ⟨e0, rfl⟩ : ∃ e, d = e + 1 := ⟨d - 1, by omega⟩
  intro n
  induction n with
  | zero => intro lv σ x0 x1 x2 x3 x4 hx0 l0 l1 l2 l3 l4 hF; cases hF
  | succ n ih =>
    intro lv σ x0 x1 x2 x3 x4 hx0 l0 l1 l2 l3 l4 hF
    unfold F_Mo_start_13 at hF
    refine r_iload f_Mo_start_13 l4 ?_
    refine r_aload_n f_Mo_start_15 l0 ?_
    refine t_getc hB hx0 f_Mo_start_16 rfl ?_
    refine r_iload_n f_Mo_start_19 l1 ?_
    by_cases c11 : x1 < 0 ∨ 6 ≤ (x1).toNatClampNeg
    · rw [if_pos c11] at hF; cases hF
    rw [if_neg c11] at hF
    refine t_iald hB (cc_8_9 hx0) f_Mo_start_20 c11 ?_
    refine r_icmp_ge f_Mo_start_21 (fun c12 => ?_) (fun c12 => ?_)
    · rw [if_pos c12] at hF
      refine r_aload_n f_Mo_start_47 l0 ?_
      refine r_iconst f_Mo_start_48 (v := 1) (by decide) ?_
      refine t_puti hB hx0 f_Mo_start_49 rfl rfl ?_
      generalize hs13 : setI σ (x0) 28 ((1 : Int32)) = s13 at hF ⊢
      rw [stl_eq] at hF
      refine r_aload_n f_Mo_start_52 l0 ?_
      refine r_iconst f_Mo_start_53 (v := 0) (by decide) ?_
      refine t_puti hB hx0 f_Mo_start_54 rfl rfl ?_
      generalize hs14 : setI s13 (x0) 29 ((0 : Int32)) = s14 at hF ⊢
      rw [stl_eq] at hF
      refine r_aload_n f_Mo_start_57 l0 ?_
      refine r_iconst f_Mo_start_58 (v := 0) (by decide) ?_
      refine t_puti hB hx0 f_Mo_start_59 rfl rfl ?_
      generalize hs15 : setI s14 (x0) 30 ((0 : Int32)) = s15 at hF ⊢
      rw [stl_eq] at hF
      refine r_aload_n f_Mo_start_62 l0 ?_
      refine r_iconst f_Mo_start_63 (v := 0) (by decide) ?_
      refine t_puti hB hx0 f_Mo_start_64 rfl rfl ?_
      generalize hs16 : setI s15 (x0) 31 ((0 : Int32)) = s16 at hF ⊢
      rw [stl_eq] at hF
      refine r_iconst f_Mo_start_67 (v := 0) (by decide) ?_
      refine r_istore f_Mo_start_68 ?_
      exact w_Mo_start_70 hB hd  hQ 5000 _ (s16) (x0) (x1) (x2) (x3) ((0 : Int32)) hx0 (lk_put_ne l0 (by decide) (Or.inl rfl)) (lk_put_ne l1 (by decide) (Or.inl rfl)) (lk_put_ne l2 (by decide) (Or.inl rfl)) (lk_put_ne l3 (by decide) (Or.inl rfl)) lk_put hF
    · rw [if_neg c12] at hF
      refine r_aload_n f_Mo_start_24 l0 ?_
      refine t_getc hB hx0 f_Mo_start_25 rfl ?_
      refine r_iconst f_Mo_start_28 (v := 3) (by decide) ?_
      refine r_iload_n f_Mo_start_29 l1 ?_
      refine r_imul f_Mo_start_30 ?_
      refine r_iload f_Mo_start_31 l4 ?_
      refine r_iadd f_Mo_start_33 ?_
      by_cases c17 : (((3 : Int32) * x1) + x4) < 0 ∨ 18 ≤ ((((3 : Int32) * x1) + x4)).toNatClampNeg
      · rw [if_pos c17] at hF; cases hF
      rw [if_neg c17] at hF
      refine t_iald hB (cc_8_10 hx0) f_Mo_start_34 c17 ?_
      refine r_iconst f_Mo_start_35 (v := 1) (by decide) ?_
      refine r_icmp_eq f_Mo_start_36 (fun c18 => ?_) (fun c18 => ?_)
      · rw [if_pos c18] at hF
        refine r_iinc f_Mo_start_41 l4 (w := x4 + 1) rfl ?_
        refine r_goto f_Mo_start_44 ?_
        exact ih _ (σ) (x0) (x1) (x2) (x3) ((x4 + 1)) hx0 (lk_put_ne l0 (by decide) (Or.inl rfl)) (lk_put_ne l1 (by decide) (Or.inl rfl)) (lk_put_ne l2 (by decide) (Or.inl rfl)) (lk_put_ne l3 (by decide) (Or.inl rfl)) lk_put hF
      · rw [if_neg c18] at hF
        refine r_iconst f_Mo_start_39 (v := 0) (by decide) ?_
        cases hF
        exact r_zreturn f_Mo_start_40 (bz_or (false)) hQ
def F_Mo_start (a0 : Nat) (a1 : Int32) (a2 : Int32) (a3 : Int32) (σ : SG) : Option (Bool × SG) :=
  match F_Mo_allGood (a0) (a1) σ with
  | none => none
  | some q19 =>
  if q19.1 = true then
  F_Mo_start_13  5000 (a0) (a1) (a2) (a3) ((0 : Int32)) q19.2
  else some (false, q19.2)
set_option maxHeartbeats 4000000 in
theorem w_Mo_start {b d : Nat} {pre tl : List PE} {B : Nat} {Q : Option Value → List PE → Prop} {res : Bool × SG} (hB : B = b + pre.length) (hd : 2 ≤ d)  {σ : SG} (a0 : Nat) (a1 : Int32) (a2 : Int32) (a3 : Int32) (ha0 : isC SHm (a0) 8 = true) (hF : F_Mo_start a0 a1 a2 a3 σ = some res) (hQ : Q (some (.int (bz res.1))) (HH pre tl SHm B res.2)) : Cl b d 68 [.ref (B + (a0)), .int (a1), .int (a2), .int (a3)] (HH pre tl SHm B σ) Q := by
  obtain ⟨e0, rfl⟩ : ∃ e, d = e + 1 := ⟨d - 1, by omega⟩
  unfold Cl
  unfold F_Mo_start at hF
  refine r_aload_n f_Mo_start_0 rfl ?_
  refine r_iload_n f_Mo_start_1 rfl ?_
  cases hq19 : F_Mo_allGood (a0) (a1) σ with
  | none => simp only [hq19] at hF; cases hF
  | some q19 =>
    simp only [hq19] at hF
    refine t_V1i hB ha0 rfl rfl f_Mo_start_2 (by decide) (Nat.le_of_ble_eq_true rfl) (Nat.le_of_ble_eq_true rfl) (w_Mo_allGood hB (by omega) (a0) (a1) ha0 hq19 ⟨_, rfl, ?_⟩)
    refine r_if_ne f_Mo_start_5 (fun c20 => ?_) (fun c20 => ?_)
    · rw [if_pos (bz_t c20)] at hF
      refine r_iconst f_Mo_start_10 (v := 0) (by decide) ?_
      refine r_istore f_Mo_start_11 ?_
      exact w_Mo_start_13 hB hd  hQ 5000 _ (q19.2) (a0) (a1) (a2) (a3) ((0 : Int32)) ha0 (lk_put_ne rfl (by decide) (Or.inl rfl)) (lk_put_ne rfl (by decide) (Or.inl rfl)) (lk_put_ne rfl (by decide) (Or.inl rfl)) (lk_put_ne rfl (by decide) (Or.inl rfl)) lk_put hF
    · rw [if_neg (bz_nt (Decidable.not_not.mp c20))] at hF
      refine r_iconst f_Mo_start_8 (v := 0) (by decide) ?_
      cases hF
      exact r_zreturn f_Mo_start_9 (bz_or (false)) hQ
