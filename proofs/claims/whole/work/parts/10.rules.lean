/-! Runs of the pure machine, without fuel; a rule an instruction. -/
set_option maxHeartbeats 1000000 in
theorem prun_up {base : Nat} : ∀ (n : Nat) (sc : SC) (d M pc : Nat) (lv : LV) (st : List Value) (h : List PE) (r : Option Value × List PE), prun base n sc d M pc lv st h = some r → prun base (n + 1) sc d M pc lv st h = some r := by
  intro n
  induction n with
  | zero => intro sc d M pc lv st h r hr; cases hr
  | succ n ih =>
    intro sc d M pc lv st h r hr
    unfold prun at hr ⊢
    split at hr
    · cases hr
    · rename_i x hf
      try rw [hf]
      try dsimp only
      cases h1 : isRet x with
      | true =>
        rw [h1] at hr
        exact hr
      | false =>
        rw [h1] at hr
        simp only [cond_false] at hr ⊢
        cases h2 : isCall x with
        | true =>
          rw [h2] at hr
          simp only [cond_true] at hr ⊢
          split at hr
          · cases hr
          · rename_i c hc
            try rw [hc]
            try dsimp only
            cases h3 : c.1 == 9999 with
            | true =>
              rw [h3] at hr
              simp only [cond_true] at hr ⊢
              split at hr
              · rename_i hd
                try rw [if_pos hd]
                exact ih _ _ _ _ _ _ _ _ hr
              · cases hr
            | false =>
              rw [h3] at hr
              simp only [cond_false] at hr ⊢
              cases h4 : c.1 == 9998 with
              | true =>
                rw [h4] at hr
                simp only [cond_true] at hr ⊢
                split at hr
                · rename_i hd
                  try rw [if_pos hd]
                  split at hr
                  · rename_i hxy
                    try rw [hxy]
                    exact ih _ _ _ _ _ _ _ _ hr
                  · cases hr
                · cases hr
              | false =>
                rw [h4] at hr
                simp only [cond_false] at hr ⊢
                split at hr
                · cases hr
                · try dsimp only
                  split at hr
                  · rename_i hsl
                    try rw [if_pos hsl]
                    split at hr
                    · cases hr
                    · rename_i r1 hr1
                      rw [ih _ _ _ _ _ _ _ _ hr1]
                      exact ih _ _ _ _ _ _ _ _ hr
                  · cases hr
        | false =>
          rw [h2] at hr
          simp only [cond_false] at hr ⊢
          split at hr
          · cases hr
          · rename_i t ht
            try rw [ht]
            exact ih _ _ _ _ _ _ _ _ hr
theorem prun_le {base : Nat} {n m : Nat} (hnm : n ≤ m) {sc : SC} {d M pc : Nat} {lv : LV} {st : List Value} {h : List PE} {r : Option Value × List PE} (hr : prun base n sc d M pc lv st h = some r) : prun base m sc d M pc lv st h = some r := by
  induction hnm with
  | refl => exact hr
  | step _ ih => exact prun_up _ _ _ _ _ _ _ _ _ ih
def Rn (b : Nat) (sc : SC) (d M pc : Nat) (lv : LV) (st : List Value) (h : List PE) (Q : Option Value → List PE → Prop) : Prop := ∃ n r h', prun b n sc d M pc lv st h = some (r, h') ∧ Q r h'
/-- a call's run -/
def Cl (b d M : Nat) (as : List Value) (h : List PE) (Q : Option Value → List PE → Prop) : Prop := Rn b (fun _ => none) d M 0 (lv_args 0 as) [] h Q
section RN
variable {b : Nat} {sc : SC} {d M pc : Nat} {lv : LV} {st : List Value} {h : List PE} {Q : Option Value → List PE → Prop} {z : Nat × Nat × Nat × Nat}
theorem Rn.mono {Q' : Option Value → List PE → Prop} (k : Rn b sc d M pc lv st h Q) (hQ : ∀ r h', Q r h' → Q' r h') : Rn b sc d M pc lv st h Q' := by
  obtain ⟨n, r, h', h1, h2⟩ := k
  exact ⟨n, r, h', h1, hQ _ _ h2⟩
theorem Rn.stp {x : PI} {t : PS} (hf : fetch M pc = some x) (h1 : isRet x = false) (h2 : isCall x = false) (hs : stp b sc x pc lv st h = some t) (k : Rn b sc d M t.1 t.2.1 t.2.2.1 t.2.2.2 Q) : Rn b sc d M pc lv st h Q := by
  obtain ⟨n, r, h', hr, hq⟩ := k
  refine ⟨n + 1, r, h', ?_, hq⟩
  unfold prun
  rw [hf]
  simp only [h1, h2, cond_false, hs]
  exact hr
theorem Rn.ret {x : PI} {v : Option Value} (hf : fetch M pc = some x) (h1 : isRet x = true) (hv : rtv x st = some v) (k : Q v h) : Rn b sc d M pc lv st h Q := by
  refine ⟨1, v, h, ?_, k⟩
  unfold prun
  rw [hf]
  simp only [h1, cond_true, hv]
  rfl
theorem Rn.call {x : PI} {M2 : Nat} {as rest : List Value} (hf : fetch M pc = some x) (h1 : isRet x = false) (h2 : isCall x = true) (hc : cll b x st h = some (M2, as, rest)) (h9 : M2 < 9998) (hl : (lg_sl as).length ≤ mxl M2) (k : Cl b d M2 as h (fun r h' => Rn b sc (d + 1) M (pc + 3) lv (r.toList ++ rest) h' Q)) : Rn b sc (d + 1) M pc lv st h Q := by
  obtain ⟨n, r, h', hr, n2, r2, h2', hr2, hq⟩ := k
  refine ⟨max n n2 + 1, r2, h2', ?_, hq⟩
  unfold prun
  rw [hf]
  have e9 : (M2 == 9999) = false := by rw [beq_eq_false_iff_ne]; omega
  have e8 : (M2 == 9998) = false := by rw [beq_eq_false_iff_ne]; omega
  simp only [h1, h2, cond_false, cond_true, hc, e9, e8, if_pos hl, prun_le (Nat.le_max_left n n2) hr]
  exact prun_le (Nat.le_max_right n n2) hr2
theorem Rn.obj {x : PI} {as rest : List Value} (hf : fetch M pc = some x) (h1 : isRet x = false) (h2 : isCall x = true) (hc : cll b x st h = some (9999, as, rest)) (hd : 1 ≤ d) (k : Rn b sc d M (pc + 3) lv rest h Q) : Rn b sc d M pc lv st h Q := by
  obtain ⟨n, r, h', hr, hq⟩ := k
  refine ⟨n + 1, r, h', ?_, hq⟩
  unfold prun
  rw [hf]
  simp only [h1, h2, cond_false, cond_true, hc, beq_self_eq_true, if_pos hd]
  exact hr
theorem Rn.min {x : PI} {u v : Int32} {rest : List Value} (hf : fetch M pc = some x) (h1 : isRet x = false) (h2 : isCall x = true) (hc : cll b x st h = some (9998, [.int u, .int v], rest)) (hd : 1 ≤ d) (k : Rn b sc d M (pc + 3) lv (.int (if v < u then v else u) :: rest) h Q) : Rn b sc d M pc lv st h Q := by
  obtain ⟨n, r, h', hr, hq⟩ := k
  refine ⟨n + 1, r, h', ?_, hq⟩
  unfold prun
  rw [hf]
  simp only [h1, h2, cond_false, cond_true, hc, if_pos hd]
  exact hr
theorem r_null  (hf : fetch M pc = some (.aconst_null, z)) (k : Rn b sc d M (pc + 1) (lv) (.null :: st) (h) Q) : Rn b sc d M pc lv (st) h Q := Rn.stp hf rfl rfl (t := (pc + 1, lv, .null :: st, h)) (rfl) k
theorem r_iconst {n : Int} {v : Int32} (hf : fetch M pc = some (.iconst n, z)) (hv : Int32.ofInt n = v) (k : Rn b sc d M (pc + 1) (lv) (.int v :: st) (h) Q) : Rn b sc d M pc lv (st) h Q := Rn.stp hf rfl rfl (t := (pc + 1, lv, .int v :: st, h)) (by rw [← hv]; rfl) k
theorem r_bipush {n : Int} {v : Int32} (hf : fetch M pc = some (.bipush n, z)) (hv : (Int8.ofInt n).toInt32 = v) (k : Rn b sc d M (pc + 2) (lv) (.int v :: st) (h) Q) : Rn b sc d M pc lv (st) h Q := Rn.stp hf rfl rfl (t := (pc + 2, lv, .int v :: st, h)) (by rw [← hv]; rfl) k
theorem r_sipush {n : Int} {v : Int32} (hf : fetch M pc = some (.sipush n, z)) (hv : (Int16.ofInt n).toInt32 = v) (k : Rn b sc d M (pc + 3) (lv) (.int v :: st) (h) Q) : Rn b sc d M pc lv (st) h Q := Rn.stp hf rfl rfl (t := (pc + 3, lv, .int v :: st, h)) (by rw [← hv]; rfl) k
theorem r_lconst {n : Fin 2} {v : Int64} (hf : fetch M pc = some (.lconst n, z)) (hv : Int64.ofNat n.val = v) (k : Rn b sc d M (pc + 1) (lv) (.long v :: st) (h) Q) : Rn b sc d M pc lv (st) h Q := Rn.stp hf rfl rfl (t := (pc + 1, lv, .long v :: st, h)) (by rw [← hv]; rfl) k
theorem r_ldc2 {i a0 r1 r2 r3 : Nat} {v : Int64} (hf : fetch M pc = some (.ldc2_w i, a0, r1, r2, r3)) (hv : Int64.ofNat r1 = v) (k : Rn b sc d M (pc + 3) lv (.long v :: st) h Q) : Rn b sc d M pc lv st h Q := Rn.stp hf rfl rfl (t := (pc + 3, lv, .long v :: st, h)) (by rw [← hv]; rfl) k
theorem r_iload {i : Nat} {v : Int32} (hf : fetch M pc = some (.iload i, z)) (hl : lv.lookup (i) = some (.int v)) (k : Rn b sc d M (pc + 2) (lv) (.int v :: st) (h) Q) : Rn b sc d M pc lv (st) h Q := Rn.stp hf rfl rfl (t := (pc + 2, lv, .int v :: st, h)) (by simp only [stp, q_ldi, hl]) k
theorem r_iload_n {i : Fin 4} {v : Int32} (hf : fetch M pc = some (.iload_n i, z)) (hl : lv.lookup (i.val) = some (.int v)) (k : Rn b sc d M (pc + 1) (lv) (.int v :: st) (h) Q) : Rn b sc d M pc lv (st) h Q := Rn.stp hf rfl rfl (t := (pc + 1, lv, .int v :: st, h)) (by simp only [stp, q_ldi, hl]) k
theorem r_lload {i : Nat} {v : Int64} (hf : fetch M pc = some (.lload i, z)) (hl : lv.lookup (i) = some (.long v)) (k : Rn b sc d M (pc + 2) (lv) (.long v :: st) (h) Q) : Rn b sc d M pc lv (st) h Q := Rn.stp hf rfl rfl (t := (pc + 2, lv, .long v :: st, h)) (by simp only [stp, q_ldl, hl]) k
theorem r_lload_n {i : Fin 4} {v : Int64} (hf : fetch M pc = some (.lload_n i, z)) (hl : lv.lookup (i.val) = some (.long v)) (k : Rn b sc d M (pc + 1) (lv) (.long v :: st) (h) Q) : Rn b sc d M pc lv (st) h Q := Rn.stp hf rfl rfl (t := (pc + 1, lv, .long v :: st, h)) (by simp only [stp, q_ldl, hl]) k
theorem r_aload {i : Nat} {v : Nat} (hf : fetch M pc = some (.aload i, z)) (hl : lv.lookup (i) = some (.ref v)) (k : Rn b sc d M (pc + 2) (lv) (.ref v :: st) (h) Q) : Rn b sc d M pc lv (st) h Q := Rn.stp hf rfl rfl (t := (pc + 2, lv, .ref v :: st, h)) (by simp only [stp, q_lda, hl]) k
theorem r_aloadN {i : Nat} (hf : fetch M pc = some (.aload i, z)) (hl : lv.lookup (i) = some .null) (k : Rn b sc d M (pc + 2) (lv) (.null :: st) (h) Q) : Rn b sc d M pc lv (st) h Q := Rn.stp hf rfl rfl (t := (pc + 2, lv, .null :: st, h)) (by simp only [stp, q_lda, hl]) k
theorem r_aload_n {i : Fin 4} {v : Nat} (hf : fetch M pc = some (.aload_n i, z)) (hl : lv.lookup (i.val) = some (.ref v)) (k : Rn b sc d M (pc + 1) (lv) (.ref v :: st) (h) Q) : Rn b sc d M pc lv (st) h Q := Rn.stp hf rfl rfl (t := (pc + 1, lv, .ref v :: st, h)) (by simp only [stp, q_lda, hl]) k
theorem r_aload_nN {i : Fin 4} (hf : fetch M pc = some (.aload_n i, z)) (hl : lv.lookup (i.val) = some .null) (k : Rn b sc d M (pc + 1) (lv) (.null :: st) (h) Q) : Rn b sc d M pc lv (st) h Q := Rn.stp hf rfl rfl (t := (pc + 1, lv, .null :: st, h)) (by simp only [stp, q_lda, hl]) k
theorem r_istore {i : Nat} {v : Int32} (hf : fetch M pc = some (.istore i, z)) (k : Rn b sc d M (pc + 2) (lput lv (i) (.int v)) (st) (h) Q) : Rn b sc d M pc lv (.int v :: st) h Q := Rn.stp hf rfl rfl (t := (pc + 2, lput lv (i) (.int v), st, h)) (rfl) k
theorem r_istore_n {i : Fin 4} {v : Int32} (hf : fetch M pc = some (.istore_n i, z)) (k : Rn b sc d M (pc + 1) (lput lv (i.val) (.int v)) (st) (h) Q) : Rn b sc d M pc lv (.int v :: st) h Q := Rn.stp hf rfl rfl (t := (pc + 1, lput lv (i.val) (.int v), st, h)) (rfl) k
theorem r_lstore {i : Nat} {v : Int64} (hf : fetch M pc = some (.lstore i, z)) (k : Rn b sc d M (pc + 2) (lput2 lv (i) (.long v)) (st) (h) Q) : Rn b sc d M pc lv (.long v :: st) h Q := Rn.stp hf rfl rfl (t := (pc + 2, lput2 lv (i) (.long v), st, h)) (rfl) k
theorem r_lstore_n {i : Fin 4} {v : Int64} (hf : fetch M pc = some (.lstore_n i, z)) (k : Rn b sc d M (pc + 1) (lput2 lv (i.val) (.long v)) (st) (h) Q) : Rn b sc d M pc lv (.long v :: st) h Q := Rn.stp hf rfl rfl (t := (pc + 1, lput2 lv (i.val) (.long v), st, h)) (rfl) k
theorem r_astore {i : Nat} {v : Nat} (hf : fetch M pc = some (.astore i, z)) (k : Rn b sc d M (pc + 2) (lput lv (i) (.ref v)) (st) (h) Q) : Rn b sc d M pc lv (.ref v :: st) h Q := Rn.stp hf rfl rfl (t := (pc + 2, lput lv (i) (.ref v), st, h)) (rfl) k
theorem r_astoreN {i : Nat} (hf : fetch M pc = some (.astore i, z)) (k : Rn b sc d M (pc + 2) (lput lv (i) .null) (st) (h) Q) : Rn b sc d M pc lv (.null :: st) h Q := Rn.stp hf rfl rfl (t := (pc + 2, lput lv (i) .null, st, h)) (rfl) k
theorem r_astore_n {i : Fin 4} {v : Nat} (hf : fetch M pc = some (.astore_n i, z)) (k : Rn b sc d M (pc + 1) (lput lv (i.val) (.ref v)) (st) (h) Q) : Rn b sc d M pc lv (.ref v :: st) h Q := Rn.stp hf rfl rfl (t := (pc + 1, lput lv (i.val) (.ref v), st, h)) (rfl) k
theorem r_astore_nN {i : Fin 4} (hf : fetch M pc = some (.astore_n i, z)) (k : Rn b sc d M (pc + 1) (lput lv (i.val) .null) (st) (h) Q) : Rn b sc d M pc lv (.null :: st) h Q := Rn.stp hf rfl rfl (t := (pc + 1, lput lv (i.val) .null, st, h)) (rfl) k
theorem r_iinc {i : Nat} {n : Int} {v w : Int32} (hf : fetch M pc = some (.iinc i n, z)) (hl : lv.lookup i = some (.int v)) (hv : v + Int32.ofInt n = w) (k : Rn b sc d M (pc + 3) (lput lv i (.int w)) (st) (h) Q) : Rn b sc d M pc lv (st) h Q := Rn.stp hf rfl rfl (t := (pc + 3, lput lv i (.int w), st, h)) (by simp only [stp, q_inc, hl, hv]) k
theorem r_iadd {x y : Int32} (hf : fetch M pc = some (.iadd, z)) (k : Rn b sc d M (pc + 1) (lv) (.int (x + y) :: st) (h) Q) : Rn b sc d M pc lv (.int y :: .int x :: st) h Q := Rn.stp hf rfl rfl (t := (pc + 1, lv, .int (x + y) :: st, h)) (rfl) k
theorem r_isub {x y : Int32} (hf : fetch M pc = some (.isub, z)) (k : Rn b sc d M (pc + 1) (lv) (.int (x - y) :: st) (h) Q) : Rn b sc d M pc lv (.int y :: .int x :: st) h Q := Rn.stp hf rfl rfl (t := (pc + 1, lv, .int (x - y) :: st, h)) (rfl) k
theorem r_imul {x y : Int32} (hf : fetch M pc = some (.imul, z)) (k : Rn b sc d M (pc + 1) (lv) (.int (x * y) :: st) (h) Q) : Rn b sc d M pc lv (.int y :: .int x :: st) h Q := Rn.stp hf rfl rfl (t := (pc + 1, lv, .int (x * y) :: st, h)) (rfl) k
theorem r_iand {x y : Int32} (hf : fetch M pc = some (.iand, z)) (k : Rn b sc d M (pc + 1) (lv) (.int (x &&& y) :: st) (h) Q) : Rn b sc d M pc lv (.int y :: .int x :: st) h Q := Rn.stp hf rfl rfl (t := (pc + 1, lv, .int (x &&& y) :: st, h)) (rfl) k
theorem r_ior {x y : Int32} (hf : fetch M pc = some (.ior, z)) (k : Rn b sc d M (pc + 1) (lv) (.int (x ||| y) :: st) (h) Q) : Rn b sc d M pc lv (.int y :: .int x :: st) h Q := Rn.stp hf rfl rfl (t := (pc + 1, lv, .int (x ||| y) :: st, h)) (rfl) k
theorem r_ixor {x y : Int32} (hf : fetch M pc = some (.ixor, z)) (k : Rn b sc d M (pc + 1) (lv) (.int (x ^^^ y) :: st) (h) Q) : Rn b sc d M pc lv (.int y :: .int x :: st) h Q := Rn.stp hf rfl rfl (t := (pc + 1, lv, .int (x ^^^ y) :: st, h)) (rfl) k
theorem r_ishl {x y : Int32} (hf : fetch M pc = some (.ishl, z)) (k : Rn b sc d M (pc + 1) (lv) (.int (x <<< (y &&& 31)) :: st) (h) Q) : Rn b sc d M pc lv (.int y :: .int x :: st) h Q := Rn.stp hf rfl rfl (t := (pc + 1, lv, .int (x <<< (y &&& 31)) :: st, h)) (rfl) k
theorem r_ishr {x y : Int32} (hf : fetch M pc = some (.ishr, z)) (k : Rn b sc d M (pc + 1) (lv) (.int (x >>> (y &&& 31)) :: st) (h) Q) : Rn b sc d M pc lv (.int y :: .int x :: st) h Q := Rn.stp hf rfl rfl (t := (pc + 1, lv, .int (x >>> (y &&& 31)) :: st, h)) (rfl) k
theorem r_iushr {x y : Int32} (hf : fetch M pc = some (.iushr, z)) (k : Rn b sc d M (pc + 1) (lv) (.int ((x.toUInt32 >>> (y.toUInt32 &&& Int32.toUInt32 31)).toInt32) :: st) (h) Q) : Rn b sc d M pc lv (.int y :: .int x :: st) h Q := Rn.stp hf rfl rfl (t := (pc + 1, lv, .int ((x.toUInt32 >>> (y.toUInt32 &&& Int32.toUInt32 31)).toInt32) :: st, h)) (rfl) k
theorem r_idiv {x y : Int32} (hf : fetch M pc = some (.idiv, z)) (hy : ¬ y = 0) (k : Rn b sc d M (pc + 1) (lv) (.int (x / y) :: st) (h) Q) : Rn b sc d M pc lv (.int y :: .int x :: st) h Q := Rn.stp hf rfl rfl (t := (pc + 1, lv, .int (x / y) :: st, h)) (by simp only [stp, q_id, if_neg hy]) k
theorem r_irem {x y : Int32} (hf : fetch M pc = some (.irem, z)) (hy : ¬ y = 0) (k : Rn b sc d M (pc + 1) (lv) (.int (x - x / y * y) :: st) (h) Q) : Rn b sc d M pc lv (.int y :: .int x :: st) h Q := Rn.stp hf rfl rfl (t := (pc + 1, lv, .int (x - x / y * y) :: st, h)) (by simp only [stp, q_id, if_neg hy]) k
theorem r_lsub {x y : Int64} (hf : fetch M pc = some (.lsub, z)) (k : Rn b sc d M (pc + 1) (lv) (.long (x - y) :: st) (h) Q) : Rn b sc d M pc lv (.long y :: .long x :: st) h Q := Rn.stp hf rfl rfl (t := (pc + 1, lv, .long (x - y) :: st, h)) (rfl) k
theorem r_land {x y : Int64} (hf : fetch M pc = some (.land, z)) (k : Rn b sc d M (pc + 1) (lv) (.long (x &&& y) :: st) (h) Q) : Rn b sc d M pc lv (.long y :: .long x :: st) h Q := Rn.stp hf rfl rfl (t := (pc + 1, lv, .long (x &&& y) :: st, h)) (rfl) k
theorem r_lor {x y : Int64} (hf : fetch M pc = some (.lor, z)) (k : Rn b sc d M (pc + 1) (lv) (.long (x ||| y) :: st) (h) Q) : Rn b sc d M pc lv (.long y :: .long x :: st) h Q := Rn.stp hf rfl rfl (t := (pc + 1, lv, .long (x ||| y) :: st, h)) (rfl) k
theorem r_lshl {x : Int64} {y : Int32} (hf : fetch M pc = some (.lshl, z)) (k : Rn b sc d M (pc + 1) (lv) (.long (x <<< (y.toInt64 &&& 63)) :: st) (h) Q) : Rn b sc d M pc lv (.int y :: .long x :: st) h Q := Rn.stp hf rfl rfl (t := (pc + 1, lv, .long (x <<< (y.toInt64 &&& 63)) :: st, h)) (rfl) k
theorem r_lshr {x : Int64} {y : Int32} (hf : fetch M pc = some (.lshr, z)) (k : Rn b sc d M (pc + 1) (lv) (.long (x >>> (y.toInt64 &&& 63)) :: st) (h) Q) : Rn b sc d M pc lv (.int y :: .long x :: st) h Q := Rn.stp hf rfl rfl (t := (pc + 1, lv, .long (x >>> (y.toInt64 &&& 63)) :: st, h)) (rfl) k
theorem r_lushr {x : Int64} {y : Int32} (hf : fetch M pc = some (.lushr, z)) (k : Rn b sc d M (pc + 1) (lv) (.long ((x.toUInt64 >>> (y.toInt64.toUInt64 &&& Int64.toUInt64 63)).toInt64) :: st) (h) Q) : Rn b sc d M pc lv (.int y :: .long x :: st) h Q := Rn.stp hf rfl rfl (t := (pc + 1, lv, .long ((x.toUInt64 >>> (y.toInt64.toUInt64 &&& Int64.toUInt64 63)).toInt64) :: st, h)) (rfl) k
theorem r_if_eq {off : Int} {x : Int32} {a0 r1 r2 r3 : Nat} (hf : fetch M pc = some (.ifCond .eq off, a0, r1, r2, r3)) (kt : x = 0 → Rn b sc d M r1 lv st h Q) (kf : ¬ (x = 0) → Rn b sc d M (pc + 3) lv st h Q) : Rn b sc d M pc lv (.int x :: st) h Q := by
  by_cases c : x = 0
  · exact Rn.stp hf rfl rfl (t := (r1, lv, st, h)) (by simp [stp, q_c1, c]) (kt c)
  · exact Rn.stp hf rfl rfl (t := (pc + 3, lv, st, h)) (by simp [stp, q_c1, c]) (kf c)
theorem r_if_ne {off : Int} {x : Int32} {a0 r1 r2 r3 : Nat} (hf : fetch M pc = some (.ifCond .ne off, a0, r1, r2, r3)) (kt : ¬ x = 0 → Rn b sc d M r1 lv st h Q) (kf : ¬ (¬ x = 0) → Rn b sc d M (pc + 3) lv st h Q) : Rn b sc d M pc lv (.int x :: st) h Q := by
  by_cases c : ¬ x = 0
  · exact Rn.stp hf rfl rfl (t := (r1, lv, st, h)) (by simp [stp, q_c1, c]) (kt c)
  · exact Rn.stp hf rfl rfl (t := (pc + 3, lv, st, h)) (by simp [stp, q_c1, c]) (kf c)
theorem r_if_lt {off : Int} {x : Int32} {a0 r1 r2 r3 : Nat} (hf : fetch M pc = some (.ifCond .lt off, a0, r1, r2, r3)) (kt : x < 0 → Rn b sc d M r1 lv st h Q) (kf : ¬ (x < 0) → Rn b sc d M (pc + 3) lv st h Q) : Rn b sc d M pc lv (.int x :: st) h Q := by
  by_cases c : x < 0
  · exact Rn.stp hf rfl rfl (t := (r1, lv, st, h)) (by simp [stp, q_c1, c]) (kt c)
  · exact Rn.stp hf rfl rfl (t := (pc + 3, lv, st, h)) (by simp [stp, q_c1, c]) (kf c)
theorem r_if_ge {off : Int} {x : Int32} {a0 r1 r2 r3 : Nat} (hf : fetch M pc = some (.ifCond .ge off, a0, r1, r2, r3)) (kt : 0 ≤ x → Rn b sc d M r1 lv st h Q) (kf : ¬ (0 ≤ x) → Rn b sc d M (pc + 3) lv st h Q) : Rn b sc d M pc lv (.int x :: st) h Q := by
  by_cases c : 0 ≤ x
  · exact Rn.stp hf rfl rfl (t := (r1, lv, st, h)) (by simp [stp, q_c1, c]) (kt c)
  · exact Rn.stp hf rfl rfl (t := (pc + 3, lv, st, h)) (by simp [stp, q_c1, c]) (kf c)
theorem r_if_gt {off : Int} {x : Int32} {a0 r1 r2 r3 : Nat} (hf : fetch M pc = some (.ifCond .gt off, a0, r1, r2, r3)) (kt : 0 < x → Rn b sc d M r1 lv st h Q) (kf : ¬ (0 < x) → Rn b sc d M (pc + 3) lv st h Q) : Rn b sc d M pc lv (.int x :: st) h Q := by
  by_cases c : 0 < x
  · exact Rn.stp hf rfl rfl (t := (r1, lv, st, h)) (by simp [stp, q_c1, c]) (kt c)
  · exact Rn.stp hf rfl rfl (t := (pc + 3, lv, st, h)) (by simp [stp, q_c1, c]) (kf c)
theorem r_if_le {off : Int} {x : Int32} {a0 r1 r2 r3 : Nat} (hf : fetch M pc = some (.ifCond .le off, a0, r1, r2, r3)) (kt : x ≤ 0 → Rn b sc d M r1 lv st h Q) (kf : ¬ (x ≤ 0) → Rn b sc d M (pc + 3) lv st h Q) : Rn b sc d M pc lv (.int x :: st) h Q := by
  by_cases c : x ≤ 0
  · exact Rn.stp hf rfl rfl (t := (r1, lv, st, h)) (by simp [stp, q_c1, c]) (kt c)
  · exact Rn.stp hf rfl rfl (t := (pc + 3, lv, st, h)) (by simp [stp, q_c1, c]) (kf c)
theorem r_icmp_eq {off : Int} {x y : Int32} {a0 r1 r2 r3 : Nat} (hf : fetch M pc = some (.if_icmp .eq off, a0, r1, r2, r3)) (kt : x = y → Rn b sc d M r1 lv st h Q) (kf : ¬ (x = y) → Rn b sc d M (pc + 3) lv st h Q) : Rn b sc d M pc lv (.int y :: .int x :: st) h Q := by
  by_cases c : x = y
  · exact Rn.stp hf rfl rfl (t := (r1, lv, st, h)) (by simp [stp, q_c2, c]) (kt c)
  · exact Rn.stp hf rfl rfl (t := (pc + 3, lv, st, h)) (by simp [stp, q_c2, c]) (kf c)
theorem r_icmp_ne {off : Int} {x y : Int32} {a0 r1 r2 r3 : Nat} (hf : fetch M pc = some (.if_icmp .ne off, a0, r1, r2, r3)) (kt : ¬ x = y → Rn b sc d M r1 lv st h Q) (kf : ¬ (¬ x = y) → Rn b sc d M (pc + 3) lv st h Q) : Rn b sc d M pc lv (.int y :: .int x :: st) h Q := by
  by_cases c : ¬ x = y
  · exact Rn.stp hf rfl rfl (t := (r1, lv, st, h)) (by simp [stp, q_c2, c]) (kt c)
  · exact Rn.stp hf rfl rfl (t := (pc + 3, lv, st, h)) (by simp [stp, q_c2, c]) (kf c)
theorem r_icmp_lt {off : Int} {x y : Int32} {a0 r1 r2 r3 : Nat} (hf : fetch M pc = some (.if_icmp .lt off, a0, r1, r2, r3)) (kt : x < y → Rn b sc d M r1 lv st h Q) (kf : ¬ (x < y) → Rn b sc d M (pc + 3) lv st h Q) : Rn b sc d M pc lv (.int y :: .int x :: st) h Q := by
  by_cases c : x < y
  · exact Rn.stp hf rfl rfl (t := (r1, lv, st, h)) (by simp [stp, q_c2, c]) (kt c)
  · exact Rn.stp hf rfl rfl (t := (pc + 3, lv, st, h)) (by simp [stp, q_c2, c]) (kf c)
theorem r_icmp_ge {off : Int} {x y : Int32} {a0 r1 r2 r3 : Nat} (hf : fetch M pc = some (.if_icmp .ge off, a0, r1, r2, r3)) (kt : y ≤ x → Rn b sc d M r1 lv st h Q) (kf : ¬ (y ≤ x) → Rn b sc d M (pc + 3) lv st h Q) : Rn b sc d M pc lv (.int y :: .int x :: st) h Q := by
  by_cases c : y ≤ x
  · exact Rn.stp hf rfl rfl (t := (r1, lv, st, h)) (by simp [stp, q_c2, c]) (kt c)
  · exact Rn.stp hf rfl rfl (t := (pc + 3, lv, st, h)) (by simp [stp, q_c2, c]) (kf c)
theorem r_icmp_gt {off : Int} {x y : Int32} {a0 r1 r2 r3 : Nat} (hf : fetch M pc = some (.if_icmp .gt off, a0, r1, r2, r3)) (kt : y < x → Rn b sc d M r1 lv st h Q) (kf : ¬ (y < x) → Rn b sc d M (pc + 3) lv st h Q) : Rn b sc d M pc lv (.int y :: .int x :: st) h Q := by
  by_cases c : y < x
  · exact Rn.stp hf rfl rfl (t := (r1, lv, st, h)) (by simp [stp, q_c2, c]) (kt c)
  · exact Rn.stp hf rfl rfl (t := (pc + 3, lv, st, h)) (by simp [stp, q_c2, c]) (kf c)
theorem r_icmp_le {off : Int} {x y : Int32} {a0 r1 r2 r3 : Nat} (hf : fetch M pc = some (.if_icmp .le off, a0, r1, r2, r3)) (kt : x ≤ y → Rn b sc d M r1 lv st h Q) (kf : ¬ (x ≤ y) → Rn b sc d M (pc + 3) lv st h Q) : Rn b sc d M pc lv (.int y :: .int x :: st) h Q := by
  by_cases c : x ≤ y
  · exact Rn.stp hf rfl rfl (t := (r1, lv, st, h)) (by simp [stp, q_c2, c]) (kt c)
  · exact Rn.stp hf rfl rfl (t := (pc + 3, lv, st, h)) (by simp [stp, q_c2, c]) (kf c)
theorem r_goto {off : Int} {a0 r1 r2 r3 : Nat} (hf : fetch M pc = some (.goto off, a0, r1, r2, r3)) (k : Rn b sc d M r1 lv st h Q) : Rn b sc d M pc lv st h Q := Rn.stp hf rfl rfl (t := (r1, lv, st, h)) rfl k
theorem r_ifnullT {off : Int} {a0 r1 r2 r3 : Nat} (hf : fetch M pc = some (.ifnull off, a0, r1, r2, r3)) (k : Rn b sc d M r1 lv st h Q) : Rn b sc d M pc lv (.null :: st) h Q := Rn.stp hf rfl rfl (t := (r1, lv, st, h)) rfl k
theorem r_ifnullF {off : Int} {v : Nat} (hf : fetch M pc = some (.ifnull off, z)) (k : Rn b sc d M (pc + 3) lv st h Q) : Rn b sc d M pc lv (.ref v :: st) h Q := Rn.stp hf rfl rfl (t := (pc + 3, lv, st, h)) rfl k
theorem r_ifnonnullT {off : Int} {v : Nat} {a0 r1 r2 r3 : Nat} (hf : fetch M pc = some (.ifnonnull off, a0, r1, r2, r3)) (k : Rn b sc d M r1 lv st h Q) : Rn b sc d M pc lv (.ref v :: st) h Q := Rn.stp hf rfl rfl (t := (r1, lv, st, h)) rfl k
theorem r_ifnonnullF {off : Int} (hf : fetch M pc = some (.ifnonnull off, z)) (k : Rn b sc d M (pc + 3) lv st h Q) : Rn b sc d M pc lv (.null :: st) h Q := Rn.stp hf rfl rfl (t := (pc + 3, lv, st, h)) rfl k
theorem r_tswO {df lo hi : Int} {offs : Array Int} {x : Int32} {a0 r1 r2 r3 : Nat} (hf : fetch M pc = some (.tableswitch df lo hi offs, a0, r1, r2, r3)) (hx : x.toInt < lo ∨ hi < x.toInt) (k : Rn b sc d M r1 lv st h Q) : Rn b sc d M pc lv (.int x :: st) h Q := Rn.stp hf rfl rfl (t := (r1, lv, st, h)) (by simp only [stp, q_tsw, if_pos hx]) k
theorem r_tswI {df lo hi : Int} {offs : Array Int} {x : Int32} {t : Nat} {off : Int} (j : Nat) (hf : fetch M pc = some (.tableswitch df lo hi offs, z)) (h1 : ¬ (x.toInt < lo ∨ hi < x.toInt)) (hj : (x.toInt - lo).toNat = j) (ho : offs[j]? = some off) (ht : (pc : Int) + off = (t : Int)) (k : Rn b sc d M t lv st h Q) : Rn b sc d M pc lv (.int x :: st) h Q := by
  subst hj
  refine Rn.stp hf rfl rfl (t := (t, lv, st, h)) ?_ k
  simp only [stp, q_tsw, if_neg h1, ho, ht]
  rw [if_pos (by omega), Int.toNat_natCast]
theorem r_dup {v : Value} (hf : fetch M pc = some (.dup, z)) (hv : v.category = 1) (k : Rn b sc d M (pc + 1) (lv) (v :: v :: st) (h) Q) : Rn b sc d M pc lv (v :: st) h Q := Rn.stp hf rfl rfl (t := (pc + 1, lv, v :: v :: st, h)) (by simp only [stp, q_dup, if_pos hv]) k
theorem r_dup2 {v w : Value} (hf : fetch M pc = some (.dup2, z)) (hv : v.category = 1 ∧ w.category = 1) (k : Rn b sc d M (pc + 1) (lv) (v :: w :: v :: w :: st) (h) Q) : Rn b sc d M pc lv (v :: w :: st) h Q := Rn.stp hf rfl rfl (t := (pc + 1, lv, v :: w :: v :: w :: st, h)) (by simp only [stp, q_dup2, if_pos hv]) k
theorem r_pop {v : Value} (hf : fetch M pc = some (.pop, z)) (hv : v.category = 1) (k : Rn b sc d M (pc + 1) (lv) (st) (h) Q) : Rn b sc d M pc lv (v :: st) h Q := Rn.stp hf rfl rfl (t := (pc + 1, lv, st, h)) (by simp only [stp, q_pop, if_pos hv]) k
theorem r_pop2 {v : Value} (hf : fetch M pc = some (.pop2, z)) (hv : v.category = 2) (k : Rn b sc d M (pc + 1) (lv) (st) (h) Q) : Rn b sc d M pc lv (v :: st) h Q := Rn.stp hf rfl rfl (t := (pc + 1, lv, st, h)) (by simp only [stp, q_pop2, if_pos hv]) k
theorem r_i2l {v : Int32} (hf : fetch M pc = some (.i2l, z)) (k : Rn b sc d M (pc + 1) (lv) (.long v.toInt64 :: st) (h) Q) : Rn b sc d M pc lv (.int v :: st) h Q := Rn.stp hf rfl rfl (t := (pc + 1, lv, .long v.toInt64 :: st, h)) (rfl) k
theorem r_l2i {v : Int64} (hf : fetch M pc = some (.l2i, z)) (k : Rn b sc d M (pc + 1) (lv) (.int v.toInt32 :: st) (h) Q) : Rn b sc d M pc lv (.long v :: st) h Q := Rn.stp hf rfl rfl (t := (pc + 1, lv, .int v.toInt32 :: st, h)) (rfl) k
theorem r_lcmp {x y : Int64} (hf : fetch M pc = some (.lcmp, z)) (k : Rn b sc d M (pc + 1) (lv) (.int (lg_cmp x y) :: st) (h) Q) : Rn b sc d M pc lv (.long y :: .long x :: st) h Q := Rn.stp hf rfl rfl (t := (pc + 1, lv, .int (lg_cmp x y) :: st, h)) (rfl) k
theorem r_ireturn {v : Int32} {a0 r2 r3 : Nat} (hf : fetch M pc = some (.ireturn, a0, 0, r2, r3)) (k : Q (some (.int v)) h) : Rn b sc d M pc lv [.int v] h Q := Rn.ret hf rfl rfl k
theorem r_zreturn {v : Int32} {a0 r2 r3 : Nat} (hf : fetch M pc = some (.ireturn, a0, 2, r2, r3)) (hv : v = 0 ∨ v = 1) (k : Q (some (.int v)) h) : Rn b sc d M pc lv [.int v] h Q := Rn.ret hf rfl (by rcases hv with rfl | rfl <;> rfl) k
theorem r_lreturn {v : Int64} (hf : fetch M pc = some (.lreturn, z)) (k : Q (some (.long v)) h) : Rn b sc d M pc lv [.long v] h Q := Rn.ret hf rfl rfl k
theorem r_areturn {v : Nat} (hf : fetch M pc = some (.areturn, z)) (k : Q (some (.ref v)) h) : Rn b sc d M pc lv [.ref v] h Q := Rn.ret hf rfl rfl k
theorem r_areturnN (hf : fetch M pc = some (.areturn, z)) (k : Q (some .null) h) : Rn b sc d M pc lv [.null] h Q := Rn.ret hf rfl rfl k
theorem r_return (hf : fetch M pc = some (.return_, z)) (k : Q none h) : Rn b sc d M pc lv [] h Q := Rn.ret hf rfl rfl k
end RN
theorem lk_put {lv : LV} {i : Nat} {v : Value} : (lput lv i v).lookup i = some v := by simp [lput]
theorem lk_put2 {lv : LV} {i : Nat} {v : Value} : (lput2 lv i v).lookup i = some v := by simp [lput2]
theorem lk_flt {p : Nat × Value → Bool} {j : Nat} {w : Value} : ∀ {lv : LV}, lv.lookup j = some w → p (j, w) = true → (lv.filter p).lookup j = some w := by
  intro lv
  induction lv with
  | nil => intro h _; cases h
  | cons q t ih =>
    intro h hp
    obtain ⟨a, u⟩ := q
    rw [List.lookup_cons] at h
    split at h
    · rename_i hb
      rw [beq_iff_eq] at hb
      subst hb
      cases h
      rw [List.filter_cons_of_pos hp, List.lookup_cons]
      simp
    · rename_i hb
      by_cases hq : p (a, u) = true
      · rw [List.filter_cons_of_pos hq, List.lookup_cons, hb]
        exact ih h hp
      · rw [List.filter_cons_of_neg hq]
        exact ih h hp
theorem lk_put_ne {lv : LV} {i j : Nat} {v w : Value} (h : lv.lookup j = some w) (hj : j ≠ i) (hc : w.category = 1 ∨ j + 1 ≠ i) : (lput lv i v).lookup j = some w := by
  unfold lput
  rw [List.lookup_cons, show (j == i) = false by rw [beq_eq_false_iff_ne]; exact hj]
  refine lk_flt h ?_
  rcases hc with hc | hc
  · simp [hj, hc]
  · simp [hj, hc]
theorem lk_put2_ne {lv : LV} {i j : Nat} {v w : Value} (h : lv.lookup j = some w) (hj : j ≠ i) (hj2 : j ≠ i + 1) (hc : w.category = 1 ∨ j + 1 ≠ i) : (lput2 lv i v).lookup j = some w := by
  unfold lput2
  rw [List.lookup_cons, show (j == i) = false by rw [beq_eq_false_iff_ne]; exact hj]
  refine lk_flt h ?_
  rcases hc with hc | hc
  · simp [hj, hj2, hc]
  · simp [hj, hj2, hc]
