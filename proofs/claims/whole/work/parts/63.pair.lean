/-! The halves of a pair. -/
theorem s32 : ((Int32.ofNat 32).toInt64 &&& Int64.ofNat 63) = Int64.ofNat 32 := by decide
theorem sm32 : BitVec.smod (BitVec.ofNat 64 32) (BitVec.ofNat 64 64) = BitVec.ofNat 64 32 := by decide
theorem bit_m (i : Nat) : (BitVec.ofNat 64 4294967295).getLsbD i = decide (i < 32) := by
  rw [BitVec.getLsbD_ofNat]
  have h : Nat.testBit 4294967295 i = decide (i < 32) := Nat.testBit_two_pow_sub_one 32 i
  rw [h]
  by_cases c : i < 32
  · simp [c]; omega
  · simp [c]
theorem pv_lo (a b : Int32) : (pv a b).toInt32 = b := by
  apply Int32.toBitVec.inj
  unfold pv
  rw [s32]
  show BitVec.signExtend 32 ((a.toBitVec.signExtend 64 <<< (BitVec.smod (BitVec.ofNat 64 32) (BitVec.ofNat 64 64))) ||| (b.toBitVec.signExtend 64 &&& BitVec.ofNat 64 4294967295)) = b.toBitVec
  rw [sm32]
  apply BitVec.eq_of_getLsbD_eq
  intro i hi
  rw [BitVec.getLsbD_signExtend, BitVec.getLsbD_or, BitVec.getLsbD_and, bit_m, BitVec.getLsbD_signExtend]
  have h1 : (BitVec.signExtend 64 a.toBitVec <<< BitVec.ofNat 64 32).getLsbD i = false := by
    rw [BitVec.shiftLeft_eq', BitVec.getLsbD_shiftLeft]
    simp
    omega
  rw [h1]
  simp [hi, show i < 64 by omega]
theorem pv_hi (a b : Int32) : (pv a b >>> ((Int32.ofNat 32).toInt64 &&& Int64.ofNat 63)).toInt32 = a := by
  apply Int32.toBitVec.inj
  unfold pv
  rw [s32]
  show BitVec.signExtend 32 (BitVec.sshiftRight' ((a.toBitVec.signExtend 64 <<< (BitVec.smod (BitVec.ofNat 64 32) (BitVec.ofNat 64 64))) ||| (b.toBitVec.signExtend 64 &&& BitVec.ofNat 64 4294967295)) (BitVec.smod (BitVec.ofNat 64 32) (BitVec.ofNat 64 64))) = a.toBitVec
  rw [sm32]
  apply BitVec.eq_of_getLsbD_eq
  intro i hi
  rw [BitVec.getLsbD_signExtend, if_pos (by omega)]
  unfold BitVec.sshiftRight'
  rw [BitVec.getLsbD_sshiftRight]
  have e : (BitVec.ofNat 64 32).toNat = 32 := by decide
  rw [e, BitVec.getLsbD_or, BitVec.getLsbD_and, bit_m, BitVec.shiftLeft_eq', BitVec.getLsbD_shiftLeft, BitVec.getLsbD_signExtend]
  simp [hi, e, show 32 + i < 64 by omega, show ¬ (64 ≤ i) by omega, show i < 64 by omega, show ¬ (32 + i < 32) by omega]
