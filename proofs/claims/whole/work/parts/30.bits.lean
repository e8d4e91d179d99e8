/-! Rows of four bits each. -/
theorem lit64n (k : Nat) : (no_index (OfNat.ofNat k) : Int64) = Int64.ofNat (OfNat.ofNat k) := by cases k <;> rfl
theorem b_or (e t k : Nat) (he : e < 2 ^ k) : e ||| t * 2 ^ k = e + t * 2 ^ k := by
  have h := Nat.two_pow_add_eq_or_of_lt he t
  rw [Nat.or_comm, Nat.mul_comm t, ← h, Nat.add_comm]
theorem b_and {e M k : Nat} (h1 : ∀ i, i < k → Nat.testBit M i = true) (h2 : ∀ i, i < k + 4 → ¬ i < k → Nat.testBit M i = false) (he : e < 2 ^ (k + 4)) : e &&& M = e % 2 ^ k := by
  refine Nat.eq_of_testBit_eq (fun i => ?_)
  rw [Nat.testBit_and, Nat.testBit_mod_two_pow]
  by_cases c : i < k
  · rw [h1 i c, decide_eq_true c, Bool.and_true, Bool.true_and]
  · rw [decide_eq_false c, Bool.false_and]
    by_cases c2 : i < k + 4
    · rw [h2 i c2 c, Bool.and_false]
    · rw [Nat.testBit_lt_two_pow (Nat.lt_of_lt_of_le he (Nat.pow_le_pow_right (by omega) (by omega))), Bool.false_and]
theorem i_or (a b : Nat) : Int32.ofNat a ||| Int32.ofNat b = Int32.ofNat (a ||| b) := by
  apply Int32.toBitVec.inj
  rw [Int32.toBitVec_or]
  show BitVec.ofNat 32 a ||| BitVec.ofNat 32 b = BitVec.ofNat 32 (a ||| b)
  apply BitVec.eq_of_toNat_eq
  simp only [BitVec.toNat_or, BitVec.toNat_ofNat, Nat.or_mod_two_pow]
theorem i_and (a b : Nat) : Int32.ofNat a &&& Int32.ofNat b = Int32.ofNat (a &&& b) := by
  apply Int32.toBitVec.inj
  rw [Int32.toBitVec_and]
  show BitVec.ofNat 32 a &&& BitVec.ofNat 32 b = BitVec.ofNat 32 (a &&& b)
  apply BitVec.eq_of_toNat_eq
  simp only [BitVec.toNat_and, BitVec.toNat_ofNat, Nat.and_mod_two_pow]
theorem j_or (a b : Nat) : Int64.ofNat a ||| Int64.ofNat b = Int64.ofNat (a ||| b) := by
  apply Int64.toBitVec.inj
  rw [Int64.toBitVec_or]
  show BitVec.ofNat 64 a ||| BitVec.ofNat 64 b = BitVec.ofNat 64 (a ||| b)
  apply BitVec.eq_of_toNat_eq
  simp only [BitVec.toNat_or, BitVec.toNat_ofNat, Nat.or_mod_two_pow]
theorem j_and (a b : Nat) : Int64.ofNat a &&& Int64.ofNat b = Int64.ofNat (a &&& b) := by
  apply Int64.toBitVec.inj
  rw [Int64.toBitVec_and]
  show BitVec.ofNat 64 a &&& BitVec.ofNat 64 b = BitVec.ofNat 64 (a &&& b)
  apply BitVec.eq_of_toNat_eq
  simp only [BitVec.toNat_and, BitVec.toNat_ofNat, Nat.and_mod_two_pow]
theorem b_15 (x : Nat) : x &&& 15 = x % 16 := Nat.and_two_pow_sub_one_eq_mod x 4
theorem i_shl (t k : Nat) (hk : k < 8) : Int32.ofNat t <<< (Int32.ofNat (4 * k) &&& Int32.ofNat 31) = Int32.ofNat (t * 2 ^ (4 * k)) := by
  obtain rfl | rfl | rfl | rfl | rfl | rfl | rfl | rfl : k = 0 ∨ k = 1 ∨ k = 2 ∨ k = 3 ∨ k = 4 ∨ k = 5 ∨ k = 6 ∨ k = 7 := by omega
  · have h : (Int32.ofNat (4 * 0) &&& Int32.ofNat 31) = Int32.ofNat 0 := by decide
    rw [h]
    apply Int32.toBitVec.inj
    rw [Int32.toBitVec_shiftLeft]
    show BitVec.ofNat 32 t <<< (BitVec.smod (BitVec.ofNat 32 0) (BitVec.ofNat 32 32)) = BitVec.ofNat 32 (t * 2 ^ (4 * 0))
    have h2 : BitVec.smod (BitVec.ofNat 32 0) (BitVec.ofNat 32 32) = BitVec.ofNat 32 0 := by decide
    rw [h2]
    apply BitVec.eq_of_toNat_eq
    simp [BitVec.toNat_shiftLeft, Nat.shiftLeft_eq]
  · have h : (Int32.ofNat (4 * 1) &&& Int32.ofNat 31) = Int32.ofNat 4 := by decide
    rw [h]
    apply Int32.toBitVec.inj
    rw [Int32.toBitVec_shiftLeft]
    show BitVec.ofNat 32 t <<< (BitVec.smod (BitVec.ofNat 32 4) (BitVec.ofNat 32 32)) = BitVec.ofNat 32 (t * 2 ^ (4 * 1))
    have h2 : BitVec.smod (BitVec.ofNat 32 4) (BitVec.ofNat 32 32) = BitVec.ofNat 32 4 := by decide
    rw [h2]
    apply BitVec.eq_of_toNat_eq
    simp [BitVec.toNat_shiftLeft, Nat.shiftLeft_eq]
  · have h : (Int32.ofNat (4 * 2) &&& Int32.ofNat 31) = Int32.ofNat 8 := by decide
    rw [h]
    apply Int32.toBitVec.inj
    rw [Int32.toBitVec_shiftLeft]
    show BitVec.ofNat 32 t <<< (BitVec.smod (BitVec.ofNat 32 8) (BitVec.ofNat 32 32)) = BitVec.ofNat 32 (t * 2 ^ (4 * 2))
    have h2 : BitVec.smod (BitVec.ofNat 32 8) (BitVec.ofNat 32 32) = BitVec.ofNat 32 8 := by decide
    rw [h2]
    apply BitVec.eq_of_toNat_eq
    simp [BitVec.toNat_shiftLeft, Nat.shiftLeft_eq]
  · have h : (Int32.ofNat (4 * 3) &&& Int32.ofNat 31) = Int32.ofNat 12 := by decide
    rw [h]
    apply Int32.toBitVec.inj
    rw [Int32.toBitVec_shiftLeft]
    show BitVec.ofNat 32 t <<< (BitVec.smod (BitVec.ofNat 32 12) (BitVec.ofNat 32 32)) = BitVec.ofNat 32 (t * 2 ^ (4 * 3))
    have h2 : BitVec.smod (BitVec.ofNat 32 12) (BitVec.ofNat 32 32) = BitVec.ofNat 32 12 := by decide
    rw [h2]
    apply BitVec.eq_of_toNat_eq
    simp [BitVec.toNat_shiftLeft, Nat.shiftLeft_eq]
  · have h : (Int32.ofNat (4 * 4) &&& Int32.ofNat 31) = Int32.ofNat 16 := by decide
    rw [h]
    apply Int32.toBitVec.inj
    rw [Int32.toBitVec_shiftLeft]
    show BitVec.ofNat 32 t <<< (BitVec.smod (BitVec.ofNat 32 16) (BitVec.ofNat 32 32)) = BitVec.ofNat 32 (t * 2 ^ (4 * 4))
    have h2 : BitVec.smod (BitVec.ofNat 32 16) (BitVec.ofNat 32 32) = BitVec.ofNat 32 16 := by decide
    rw [h2]
    apply BitVec.eq_of_toNat_eq
    simp [BitVec.toNat_shiftLeft, Nat.shiftLeft_eq]
  · have h : (Int32.ofNat (4 * 5) &&& Int32.ofNat 31) = Int32.ofNat 20 := by decide
    rw [h]
    apply Int32.toBitVec.inj
    rw [Int32.toBitVec_shiftLeft]
    show BitVec.ofNat 32 t <<< (BitVec.smod (BitVec.ofNat 32 20) (BitVec.ofNat 32 32)) = BitVec.ofNat 32 (t * 2 ^ (4 * 5))
    have h2 : BitVec.smod (BitVec.ofNat 32 20) (BitVec.ofNat 32 32) = BitVec.ofNat 32 20 := by decide
    rw [h2]
    apply BitVec.eq_of_toNat_eq
    simp [BitVec.toNat_shiftLeft, Nat.shiftLeft_eq]
  · have h : (Int32.ofNat (4 * 6) &&& Int32.ofNat 31) = Int32.ofNat 24 := by decide
    rw [h]
    apply Int32.toBitVec.inj
    rw [Int32.toBitVec_shiftLeft]
    show BitVec.ofNat 32 t <<< (BitVec.smod (BitVec.ofNat 32 24) (BitVec.ofNat 32 32)) = BitVec.ofNat 32 (t * 2 ^ (4 * 6))
    have h2 : BitVec.smod (BitVec.ofNat 32 24) (BitVec.ofNat 32 32) = BitVec.ofNat 32 24 := by decide
    rw [h2]
    apply BitVec.eq_of_toNat_eq
    simp [BitVec.toNat_shiftLeft, Nat.shiftLeft_eq]
  · have h : (Int32.ofNat (4 * 7) &&& Int32.ofNat 31) = Int32.ofNat 28 := by decide
    rw [h]
    apply Int32.toBitVec.inj
    rw [Int32.toBitVec_shiftLeft]
    show BitVec.ofNat 32 t <<< (BitVec.smod (BitVec.ofNat 32 28) (BitVec.ofNat 32 32)) = BitVec.ofNat 32 (t * 2 ^ (4 * 7))
    have h2 : BitVec.smod (BitVec.ofNat 32 28) (BitVec.ofNat 32 32) = BitVec.ofNat 32 28 := by decide
    rw [h2]
    apply BitVec.eq_of_toNat_eq
    simp [BitVec.toNat_shiftLeft, Nat.shiftLeft_eq]
theorem i_shr (e k : Nat) (he : e < 4294967296) (hk : k < 8) : ((Int32.ofNat e).toUInt32 >>> ((Int32.ofNat (4 * k)).toUInt32 &&& Int32.toUInt32 (Int32.ofNat 31))).toInt32 = Int32.ofNat (e / 2 ^ (4 * k)) := by
  obtain rfl | rfl | rfl | rfl | rfl | rfl | rfl | rfl : k = 0 ∨ k = 1 ∨ k = 2 ∨ k = 3 ∨ k = 4 ∨ k = 5 ∨ k = 6 ∨ k = 7 := by omega
  · have h : ((Int32.ofNat (4 * 0)).toUInt32 &&& Int32.toUInt32 (Int32.ofNat 31)) = UInt32.ofNat 0 := by decide
    rw [h]
    have h2 : (Int32.ofNat e).toUInt32 >>> UInt32.ofNat 0 = UInt32.ofNat (e / 2 ^ (4 * 0)) := by
      apply UInt32.toNat_inj.mp
      rw [UInt32.toNat_shiftRight]
      show (e % 4294967296) >>> 0 = (e / 1) % 4294967296
      rw [Nat.shiftRight_eq_div_pow]
      omega
    rw [h2]
    rfl
  · have h : ((Int32.ofNat (4 * 1)).toUInt32 &&& Int32.toUInt32 (Int32.ofNat 31)) = UInt32.ofNat 4 := by decide
    rw [h]
    have h2 : (Int32.ofNat e).toUInt32 >>> UInt32.ofNat 4 = UInt32.ofNat (e / 2 ^ (4 * 1)) := by
      apply UInt32.toNat_inj.mp
      rw [UInt32.toNat_shiftRight]
      show (e % 4294967296) >>> 4 = (e / 16) % 4294967296
      rw [Nat.shiftRight_eq_div_pow]
      omega
    rw [h2]
    rfl
  · have h : ((Int32.ofNat (4 * 2)).toUInt32 &&& Int32.toUInt32 (Int32.ofNat 31)) = UInt32.ofNat 8 := by decide
    rw [h]
    have h2 : (Int32.ofNat e).toUInt32 >>> UInt32.ofNat 8 = UInt32.ofNat (e / 2 ^ (4 * 2)) := by
      apply UInt32.toNat_inj.mp
      rw [UInt32.toNat_shiftRight]
      show (e % 4294967296) >>> 8 = (e / 256) % 4294967296
      rw [Nat.shiftRight_eq_div_pow]
      omega
    rw [h2]
    rfl
  · have h : ((Int32.ofNat (4 * 3)).toUInt32 &&& Int32.toUInt32 (Int32.ofNat 31)) = UInt32.ofNat 12 := by decide
    rw [h]
    have h2 : (Int32.ofNat e).toUInt32 >>> UInt32.ofNat 12 = UInt32.ofNat (e / 2 ^ (4 * 3)) := by
      apply UInt32.toNat_inj.mp
      rw [UInt32.toNat_shiftRight]
      show (e % 4294967296) >>> 12 = (e / 4096) % 4294967296
      rw [Nat.shiftRight_eq_div_pow]
      omega
    rw [h2]
    rfl
  · have h : ((Int32.ofNat (4 * 4)).toUInt32 &&& Int32.toUInt32 (Int32.ofNat 31)) = UInt32.ofNat 16 := by decide
    rw [h]
    have h2 : (Int32.ofNat e).toUInt32 >>> UInt32.ofNat 16 = UInt32.ofNat (e / 2 ^ (4 * 4)) := by
      apply UInt32.toNat_inj.mp
      rw [UInt32.toNat_shiftRight]
      show (e % 4294967296) >>> 16 = (e / 65536) % 4294967296
      rw [Nat.shiftRight_eq_div_pow]
      omega
    rw [h2]
    rfl
  · have h : ((Int32.ofNat (4 * 5)).toUInt32 &&& Int32.toUInt32 (Int32.ofNat 31)) = UInt32.ofNat 20 := by decide
    rw [h]
    have h2 : (Int32.ofNat e).toUInt32 >>> UInt32.ofNat 20 = UInt32.ofNat (e / 2 ^ (4 * 5)) := by
      apply UInt32.toNat_inj.mp
      rw [UInt32.toNat_shiftRight]
      show (e % 4294967296) >>> 20 = (e / 1048576) % 4294967296
      rw [Nat.shiftRight_eq_div_pow]
      omega
    rw [h2]
    rfl
  · have h : ((Int32.ofNat (4 * 6)).toUInt32 &&& Int32.toUInt32 (Int32.ofNat 31)) = UInt32.ofNat 24 := by decide
    rw [h]
    have h2 : (Int32.ofNat e).toUInt32 >>> UInt32.ofNat 24 = UInt32.ofNat (e / 2 ^ (4 * 6)) := by
      apply UInt32.toNat_inj.mp
      rw [UInt32.toNat_shiftRight]
      show (e % 4294967296) >>> 24 = (e / 16777216) % 4294967296
      rw [Nat.shiftRight_eq_div_pow]
      omega
    rw [h2]
    rfl
  · have h : ((Int32.ofNat (4 * 7)).toUInt32 &&& Int32.toUInt32 (Int32.ofNat 31)) = UInt32.ofNat 28 := by decide
    rw [h]
    have h2 : (Int32.ofNat e).toUInt32 >>> UInt32.ofNat 28 = UInt32.ofNat (e / 2 ^ (4 * 7)) := by
      apply UInt32.toNat_inj.mp
      rw [UInt32.toNat_shiftRight]
      show (e % 4294967296) >>> 28 = (e / 268435456) % 4294967296
      rw [Nat.shiftRight_eq_div_pow]
      omega
    rw [h2]
    rfl
theorem i_clr (e k : Nat) (hk : k < 8) (he : e < 2 ^ (4 * k + 4)) : Int32.ofNat e &&& ((Int32.ofNat 15 <<< (Int32.ofNat (4 * k) &&& Int32.ofNat 31)) ^^^ (-Int32.ofNat 1)) = Int32.ofNat (e % 2 ^ (4 * k)) := by
  obtain rfl | rfl | rfl | rfl | rfl | rfl | rfl | rfl : k = 0 ∨ k = 1 ∨ k = 2 ∨ k = 3 ∨ k = 4 ∨ k = 5 ∨ k = 6 ∨ k = 7 := by omega
  · have h : ((Int32.ofNat 15 <<< (Int32.ofNat (4 * 0) &&& Int32.ofNat 31)) ^^^ (-Int32.ofNat 1)) = Int32.ofNat 4294967280 := by decide
    rw [h, i_and, b_and (k := 4 * 0) (by decide) (by decide) he]
  · have h : ((Int32.ofNat 15 <<< (Int32.ofNat (4 * 1) &&& Int32.ofNat 31)) ^^^ (-Int32.ofNat 1)) = Int32.ofNat 4294967055 := by decide
    rw [h, i_and, b_and (k := 4 * 1) (by decide) (by decide) he]
  · have h : ((Int32.ofNat 15 <<< (Int32.ofNat (4 * 2) &&& Int32.ofNat 31)) ^^^ (-Int32.ofNat 1)) = Int32.ofNat 4294963455 := by decide
    rw [h, i_and, b_and (k := 4 * 2) (by decide) (by decide) he]
  · have h : ((Int32.ofNat 15 <<< (Int32.ofNat (4 * 3) &&& Int32.ofNat 31)) ^^^ (-Int32.ofNat 1)) = Int32.ofNat 4294905855 := by decide
    rw [h, i_and, b_and (k := 4 * 3) (by decide) (by decide) he]
  · have h : ((Int32.ofNat 15 <<< (Int32.ofNat (4 * 4) &&& Int32.ofNat 31)) ^^^ (-Int32.ofNat 1)) = Int32.ofNat 4293984255 := by decide
    rw [h, i_and, b_and (k := 4 * 4) (by decide) (by decide) he]
  · have h : ((Int32.ofNat 15 <<< (Int32.ofNat (4 * 5) &&& Int32.ofNat 31)) ^^^ (-Int32.ofNat 1)) = Int32.ofNat 4279238655 := by decide
    rw [h, i_and, b_and (k := 4 * 5) (by decide) (by decide) he]
  · have h : ((Int32.ofNat 15 <<< (Int32.ofNat (4 * 6) &&& Int32.ofNat 31)) ^^^ (-Int32.ofNat 1)) = Int32.ofNat 4043309055 := by decide
    rw [h, i_and, b_and (k := 4 * 6) (by decide) (by decide) he]
  · have h : ((Int32.ofNat 15 <<< (Int32.ofNat (4 * 7) &&& Int32.ofNat 31)) ^^^ (-Int32.ofNat 1)) = Int32.ofNat 268435455 := by decide
    rw [h, i_and, b_and (k := 4 * 7) (by decide) (by decide) he]
theorem j_n (k : Nat) (hk : k < 9) : ((Int32.ofNat (4 * k)).toInt64 &&& Int64.ofNat 63) = Int64.ofNat (4 * k) := by
  obtain rfl | rfl | rfl | rfl | rfl | rfl | rfl | rfl | rfl : k = 0 ∨ k = 1 ∨ k = 2 ∨ k = 3 ∨ k = 4 ∨ k = 5 ∨ k = 6 ∨ k = 7 ∨ k = 8 := by omega
  all_goals decide
theorem j_shl (t k : Nat) (hk : k < 9) : Int64.ofNat t <<< Int64.ofNat (4 * k) = Int64.ofNat (t * 2 ^ (4 * k)) := by
  obtain rfl | rfl | rfl | rfl | rfl | rfl | rfl | rfl | rfl : k = 0 ∨ k = 1 ∨ k = 2 ∨ k = 3 ∨ k = 4 ∨ k = 5 ∨ k = 6 ∨ k = 7 ∨ k = 8 := by omega
  · apply Int64.toBitVec.inj
    rw [Int64.toBitVec_shiftLeft]
    show BitVec.ofNat 64 t <<< (BitVec.smod (BitVec.ofNat 64 (4 * 0)) (BitVec.ofNat 64 64)) = BitVec.ofNat 64 (t * 2 ^ (4 * 0))
    have h2 : BitVec.smod (BitVec.ofNat 64 (4 * 0)) (BitVec.ofNat 64 64) = BitVec.ofNat 64 0 := by decide
    rw [h2]
    apply BitVec.eq_of_toNat_eq
    simp [BitVec.toNat_shiftLeft, Nat.shiftLeft_eq]
  · apply Int64.toBitVec.inj
    rw [Int64.toBitVec_shiftLeft]
    show BitVec.ofNat 64 t <<< (BitVec.smod (BitVec.ofNat 64 (4 * 1)) (BitVec.ofNat 64 64)) = BitVec.ofNat 64 (t * 2 ^ (4 * 1))
    have h2 : BitVec.smod (BitVec.ofNat 64 (4 * 1)) (BitVec.ofNat 64 64) = BitVec.ofNat 64 4 := by decide
    rw [h2]
    apply BitVec.eq_of_toNat_eq
    simp [BitVec.toNat_shiftLeft, Nat.shiftLeft_eq]
  · apply Int64.toBitVec.inj
    rw [Int64.toBitVec_shiftLeft]
    show BitVec.ofNat 64 t <<< (BitVec.smod (BitVec.ofNat 64 (4 * 2)) (BitVec.ofNat 64 64)) = BitVec.ofNat 64 (t * 2 ^ (4 * 2))
    have h2 : BitVec.smod (BitVec.ofNat 64 (4 * 2)) (BitVec.ofNat 64 64) = BitVec.ofNat 64 8 := by decide
    rw [h2]
    apply BitVec.eq_of_toNat_eq
    simp [BitVec.toNat_shiftLeft, Nat.shiftLeft_eq]
  · apply Int64.toBitVec.inj
    rw [Int64.toBitVec_shiftLeft]
    show BitVec.ofNat 64 t <<< (BitVec.smod (BitVec.ofNat 64 (4 * 3)) (BitVec.ofNat 64 64)) = BitVec.ofNat 64 (t * 2 ^ (4 * 3))
    have h2 : BitVec.smod (BitVec.ofNat 64 (4 * 3)) (BitVec.ofNat 64 64) = BitVec.ofNat 64 12 := by decide
    rw [h2]
    apply BitVec.eq_of_toNat_eq
    simp [BitVec.toNat_shiftLeft, Nat.shiftLeft_eq]
  · apply Int64.toBitVec.inj
    rw [Int64.toBitVec_shiftLeft]
    show BitVec.ofNat 64 t <<< (BitVec.smod (BitVec.ofNat 64 (4 * 4)) (BitVec.ofNat 64 64)) = BitVec.ofNat 64 (t * 2 ^ (4 * 4))
    have h2 : BitVec.smod (BitVec.ofNat 64 (4 * 4)) (BitVec.ofNat 64 64) = BitVec.ofNat 64 16 := by decide
    rw [h2]
    apply BitVec.eq_of_toNat_eq
    simp [BitVec.toNat_shiftLeft, Nat.shiftLeft_eq]
  · apply Int64.toBitVec.inj
    rw [Int64.toBitVec_shiftLeft]
    show BitVec.ofNat 64 t <<< (BitVec.smod (BitVec.ofNat 64 (4 * 5)) (BitVec.ofNat 64 64)) = BitVec.ofNat 64 (t * 2 ^ (4 * 5))
    have h2 : BitVec.smod (BitVec.ofNat 64 (4 * 5)) (BitVec.ofNat 64 64) = BitVec.ofNat 64 20 := by decide
    rw [h2]
    apply BitVec.eq_of_toNat_eq
    simp [BitVec.toNat_shiftLeft, Nat.shiftLeft_eq]
  · apply Int64.toBitVec.inj
    rw [Int64.toBitVec_shiftLeft]
    show BitVec.ofNat 64 t <<< (BitVec.smod (BitVec.ofNat 64 (4 * 6)) (BitVec.ofNat 64 64)) = BitVec.ofNat 64 (t * 2 ^ (4 * 6))
    have h2 : BitVec.smod (BitVec.ofNat 64 (4 * 6)) (BitVec.ofNat 64 64) = BitVec.ofNat 64 24 := by decide
    rw [h2]
    apply BitVec.eq_of_toNat_eq
    simp [BitVec.toNat_shiftLeft, Nat.shiftLeft_eq]
  · apply Int64.toBitVec.inj
    rw [Int64.toBitVec_shiftLeft]
    show BitVec.ofNat 64 t <<< (BitVec.smod (BitVec.ofNat 64 (4 * 7)) (BitVec.ofNat 64 64)) = BitVec.ofNat 64 (t * 2 ^ (4 * 7))
    have h2 : BitVec.smod (BitVec.ofNat 64 (4 * 7)) (BitVec.ofNat 64 64) = BitVec.ofNat 64 28 := by decide
    rw [h2]
    apply BitVec.eq_of_toNat_eq
    simp [BitVec.toNat_shiftLeft, Nat.shiftLeft_eq]
  · apply Int64.toBitVec.inj
    rw [Int64.toBitVec_shiftLeft]
    show BitVec.ofNat 64 t <<< (BitVec.smod (BitVec.ofNat 64 (4 * 8)) (BitVec.ofNat 64 64)) = BitVec.ofNat 64 (t * 2 ^ (4 * 8))
    have h2 : BitVec.smod (BitVec.ofNat 64 (4 * 8)) (BitVec.ofNat 64 64) = BitVec.ofNat 64 32 := by decide
    rw [h2]
    apply BitVec.eq_of_toNat_eq
    simp [BitVec.toNat_shiftLeft, Nat.shiftLeft_eq]
theorem j_shr (e k : Nat) (he : e < 9223372036854775808) (hk : k < 9) : Int64.ofNat e >>> Int64.ofNat (4 * k) = Int64.ofNat (e / 2 ^ (4 * k)) := by
  have hm : (BitVec.ofNat 64 e).msb = false := by rw [BitVec.msb_eq_false_iff_two_mul_lt, BitVec.toNat_ofNat]; omega
  obtain rfl | rfl | rfl | rfl | rfl | rfl | rfl | rfl | rfl : k = 0 ∨ k = 1 ∨ k = 2 ∨ k = 3 ∨ k = 4 ∨ k = 5 ∨ k = 6 ∨ k = 7 ∨ k = 8 := by omega
  · apply Int64.toBitVec.inj
    rw [Int64.toBitVec_shiftRight]
    show (BitVec.ofNat 64 e).sshiftRight' (BitVec.smod (BitVec.ofNat 64 (4 * 0)) (BitVec.ofNat 64 64)) = BitVec.ofNat 64 (e / 2 ^ (4 * 0))
    have h2 : BitVec.smod (BitVec.ofNat 64 (4 * 0)) (BitVec.ofNat 64 64) = BitVec.ofNat 64 0 := by decide
    rw [h2]
    apply BitVec.eq_of_toNat_eq
    rw [BitVec.toNat_sshiftRight'_of_msb_false hm]
    simp [Nat.shiftRight_eq_div_pow]
    try omega
  · apply Int64.toBitVec.inj
    rw [Int64.toBitVec_shiftRight]
    show (BitVec.ofNat 64 e).sshiftRight' (BitVec.smod (BitVec.ofNat 64 (4 * 1)) (BitVec.ofNat 64 64)) = BitVec.ofNat 64 (e / 2 ^ (4 * 1))
    have h2 : BitVec.smod (BitVec.ofNat 64 (4 * 1)) (BitVec.ofNat 64 64) = BitVec.ofNat 64 4 := by decide
    rw [h2]
    apply BitVec.eq_of_toNat_eq
    rw [BitVec.toNat_sshiftRight'_of_msb_false hm]
    simp [Nat.shiftRight_eq_div_pow]
    try omega
  · apply Int64.toBitVec.inj
    rw [Int64.toBitVec_shiftRight]
    show (BitVec.ofNat 64 e).sshiftRight' (BitVec.smod (BitVec.ofNat 64 (4 * 2)) (BitVec.ofNat 64 64)) = BitVec.ofNat 64 (e / 2 ^ (4 * 2))
    have h2 : BitVec.smod (BitVec.ofNat 64 (4 * 2)) (BitVec.ofNat 64 64) = BitVec.ofNat 64 8 := by decide
    rw [h2]
    apply BitVec.eq_of_toNat_eq
    rw [BitVec.toNat_sshiftRight'_of_msb_false hm]
    simp [Nat.shiftRight_eq_div_pow]
    try omega
  · apply Int64.toBitVec.inj
    rw [Int64.toBitVec_shiftRight]
    show (BitVec.ofNat 64 e).sshiftRight' (BitVec.smod (BitVec.ofNat 64 (4 * 3)) (BitVec.ofNat 64 64)) = BitVec.ofNat 64 (e / 2 ^ (4 * 3))
    have h2 : BitVec.smod (BitVec.ofNat 64 (4 * 3)) (BitVec.ofNat 64 64) = BitVec.ofNat 64 12 := by decide
    rw [h2]
    apply BitVec.eq_of_toNat_eq
    rw [BitVec.toNat_sshiftRight'_of_msb_false hm]
    simp [Nat.shiftRight_eq_div_pow]
    try omega
  · apply Int64.toBitVec.inj
    rw [Int64.toBitVec_shiftRight]
    show (BitVec.ofNat 64 e).sshiftRight' (BitVec.smod (BitVec.ofNat 64 (4 * 4)) (BitVec.ofNat 64 64)) = BitVec.ofNat 64 (e / 2 ^ (4 * 4))
    have h2 : BitVec.smod (BitVec.ofNat 64 (4 * 4)) (BitVec.ofNat 64 64) = BitVec.ofNat 64 16 := by decide
    rw [h2]
    apply BitVec.eq_of_toNat_eq
    rw [BitVec.toNat_sshiftRight'_of_msb_false hm]
    simp [Nat.shiftRight_eq_div_pow]
    try omega
  · apply Int64.toBitVec.inj
    rw [Int64.toBitVec_shiftRight]
    show (BitVec.ofNat 64 e).sshiftRight' (BitVec.smod (BitVec.ofNat 64 (4 * 5)) (BitVec.ofNat 64 64)) = BitVec.ofNat 64 (e / 2 ^ (4 * 5))
    have h2 : BitVec.smod (BitVec.ofNat 64 (4 * 5)) (BitVec.ofNat 64 64) = BitVec.ofNat 64 20 := by decide
    rw [h2]
    apply BitVec.eq_of_toNat_eq
    rw [BitVec.toNat_sshiftRight'_of_msb_false hm]
    simp [Nat.shiftRight_eq_div_pow]
    try omega
  · apply Int64.toBitVec.inj
    rw [Int64.toBitVec_shiftRight]
    show (BitVec.ofNat 64 e).sshiftRight' (BitVec.smod (BitVec.ofNat 64 (4 * 6)) (BitVec.ofNat 64 64)) = BitVec.ofNat 64 (e / 2 ^ (4 * 6))
    have h2 : BitVec.smod (BitVec.ofNat 64 (4 * 6)) (BitVec.ofNat 64 64) = BitVec.ofNat 64 24 := by decide
    rw [h2]
    apply BitVec.eq_of_toNat_eq
    rw [BitVec.toNat_sshiftRight'_of_msb_false hm]
    simp [Nat.shiftRight_eq_div_pow]
    try omega
  · apply Int64.toBitVec.inj
    rw [Int64.toBitVec_shiftRight]
    show (BitVec.ofNat 64 e).sshiftRight' (BitVec.smod (BitVec.ofNat 64 (4 * 7)) (BitVec.ofNat 64 64)) = BitVec.ofNat 64 (e / 2 ^ (4 * 7))
    have h2 : BitVec.smod (BitVec.ofNat 64 (4 * 7)) (BitVec.ofNat 64 64) = BitVec.ofNat 64 28 := by decide
    rw [h2]
    apply BitVec.eq_of_toNat_eq
    rw [BitVec.toNat_sshiftRight'_of_msb_false hm]
    simp [Nat.shiftRight_eq_div_pow]
    try omega
  · apply Int64.toBitVec.inj
    rw [Int64.toBitVec_shiftRight]
    show (BitVec.ofNat 64 e).sshiftRight' (BitVec.smod (BitVec.ofNat 64 (4 * 8)) (BitVec.ofNat 64 64)) = BitVec.ofNat 64 (e / 2 ^ (4 * 8))
    have h2 : BitVec.smod (BitVec.ofNat 64 (4 * 8)) (BitVec.ofNat 64 64) = BitVec.ofNat 64 32 := by decide
    rw [h2]
    apply BitVec.eq_of_toNat_eq
    rw [BitVec.toNat_sshiftRight'_of_msb_false hm]
    simp [Nat.shiftRight_eq_div_pow]
    try omega
theorem j_m1 (k : Nat) (hk : k < 9) : Int64.ofNat (2 ^ (4 * k)) - Int64.ofNat 1 = Int64.ofNat (2 ^ (4 * k) - 1) := by
  rw [Int64.ofNat_sub _ _ (Nat.one_le_two_pow)]
theorem j_i (x : Nat) : (Int64.ofNat x).toInt32 = Int32.ofNat x := Int64.toInt32_ofNat'
theorem i_j (x : Nat) (hx : x < 2147483648) : (Int32.ofNat x).toInt64 = Int64.ofNat x := by
  have h : Int32.maxValue.toInt = 2147483647 := by decide
  exact Int32.toInt64_ofNat' (by omega)
