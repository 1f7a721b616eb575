/-! ===== feed ===== -/
theorem m255 (x : Int32) : inb (x &&& 255) 256 := by
  have h : (x &&& 255).toBitVec.toNat < 256 := by
    rw [Int32.toBitVec_and, BitVec.toNat_and]
    exact Nat.lt_of_le_of_lt Nat.and_le_right (by decide)
  have e : (x &&& 255).toInt = ((x &&& 255).toBitVec.toNat : Int) := by
    show (x &&& 255).toBitVec.toInt = _
    rw [BitVec.toInt_eq_toNat_of_lt (by omega)]
  exact ⟨by omega, by omega⟩
theorem bt_l (x : Int64) {j : Nat} (hj : j < 32) : bt x.toInt32 j = x.toBitVec.getLsbD j := by
  show (x.toBitVec.signExtend 32).getLsbD j = _
  rw [BitVec.getLsbD_signExtend, decide_eq_true hj, Bool.true_and, if_pos (by omega)]
theorem feed_bits (b : Int64) {i : Nat} (hi : i < 8) : ((b.toUInt64 >>> ((nI (8 * i)).toInt64.toUInt64 &&& Int64.toUInt64 63)).toInt64).toInt32 &&& 255 = ((b >>> ((nI (8 * i)).toInt64 &&& 63)).toInt32) &&& 255 := by
  apply b_ext
  intro j hj
  rw [b_and, b_and, b_255]
  by_cases c : j < 8
  · rw [bt_l _ hj, bt_l _ hj, wb_c _ (show 8 * i < 64 by omega), wb_cu _ (show 8 * i < 64 by omega)]
    congr 1
    rw [Int64.toBitVec_shiftRight, wb_tb, wb_sm _ (by omega)]
    show (b.toUInt64 >>> UInt64.ofNat (8 * i)).toBitVec.getLsbD j = _
    rw [UInt64.toBitVec_shiftRight]
    have e1 : ((UInt64.ofNat (8 * i)).toBitVec % 64).toNat = 8 * i := by
      rw [BitVec.toNat_umod]
      show (8 * i) % 2 ^ 64 % 64 = 8 * i
      omega
    have e2 : (BitVec.ofNat 64 (8 * i)).toNat = 8 * i := by rw [BitVec.toNat_ofNat]; omega
    rw [BitVec.ushiftRight_eq', e1, BitVec.getLsbD_ushiftRight]
    show _ = (b.toBitVec.sshiftRight (BitVec.ofNat 64 (8 * i)).toNat).getLsbD j
    rw [e2, BitVec.getLsbD_sshiftRight, decide_eq_false (show ¬ 64 ≤ j by omega), Bool.not_false, Bool.true_and, if_pos (by omega)]
    rfl
  · rw [decide_eq_false c, Bool.and_false, Bool.and_false]
