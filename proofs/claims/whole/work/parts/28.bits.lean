theorem sh24 (X : Int32) : ((X.toUInt32 >>> ((Int32.ofInt 24).toUInt32 &&& Int32.toUInt32 31)).toInt32).toInt8 = (X >>> (Int32.ofInt 24 &&& 31)).toInt8 := by
  apply Int8.toBitVec_inj.1
  have e1 : ((X.toUInt32 >>> ((Int32.ofInt 24).toUInt32 &&& Int32.toUInt32 31)).toInt32).toInt8.toBitVec = (X.toBitVec >>> 24).setWidth 8 := by
    show BitVec.signExtend 8 (X.toBitVec >>> ((Int32.ofInt 24).toUInt32 &&& Int32.toUInt32 31).toBitVec) = _
    rw [BitVec.signExtend_eq_setWidth_of_le _ (by decide)]
    rfl
  have e2 : (X >>> (Int32.ofInt 24 &&& 31)).toInt8.toBitVec = (X.toBitVec.sshiftRight 24).setWidth 8 := by
    show BitVec.signExtend 8 (BitVec.sshiftRight' X.toBitVec ((Int32.ofInt 24 &&& 31).toBitVec.smod 32)) = _
    rw [BitVec.signExtend_eq_setWidth_of_le _ (by decide)]
    rfl
  rw [e1, e2]
  apply BitVec.eq_of_getLsbD_eq
  intro i hi
  rw [BitVec.getLsbD_setWidth, BitVec.getLsbD_setWidth, BitVec.getLsbD_ushiftRight, BitVec.getLsbD_sshiftRight]
  have h1 : ¬ (32 ≤ i) := by omega
  have h2 : 24 + i < 32 := by omega
  simp [h1, h2]
theorem sh16 (X : Int32) : ((X.toUInt32 >>> ((Int32.ofInt 16).toUInt32 &&& Int32.toUInt32 31)).toInt32).toInt8 = (X >>> (Int32.ofInt 16 &&& 31)).toInt8 := by
  apply Int8.toBitVec_inj.1
  have e1 : ((X.toUInt32 >>> ((Int32.ofInt 16).toUInt32 &&& Int32.toUInt32 31)).toInt32).toInt8.toBitVec = (X.toBitVec >>> 16).setWidth 8 := by
    show BitVec.signExtend 8 (X.toBitVec >>> ((Int32.ofInt 16).toUInt32 &&& Int32.toUInt32 31).toBitVec) = _
    rw [BitVec.signExtend_eq_setWidth_of_le _ (by decide)]
    rfl
  have e2 : (X >>> (Int32.ofInt 16 &&& 31)).toInt8.toBitVec = (X.toBitVec.sshiftRight 16).setWidth 8 := by
    show BitVec.signExtend 8 (BitVec.sshiftRight' X.toBitVec ((Int32.ofInt 16 &&& 31).toBitVec.smod 32)) = _
    rw [BitVec.signExtend_eq_setWidth_of_le _ (by decide)]
    rfl
  rw [e1, e2]
  apply BitVec.eq_of_getLsbD_eq
  intro i hi
  rw [BitVec.getLsbD_setWidth, BitVec.getLsbD_setWidth, BitVec.getLsbD_ushiftRight, BitVec.getLsbD_sshiftRight]
  have h1 : ¬ (32 ≤ i) := by omega
  have h2 : 16 + i < 32 := by omega
  simp [h1, h2]
theorem sh8 (X : Int32) : ((X.toUInt32 >>> ((Int32.ofInt 8).toUInt32 &&& Int32.toUInt32 31)).toInt32).toInt8 = (X >>> (Int32.ofInt 8 &&& 31)).toInt8 := by
  apply Int8.toBitVec_inj.1
  have e1 : ((X.toUInt32 >>> ((Int32.ofInt 8).toUInt32 &&& Int32.toUInt32 31)).toInt32).toInt8.toBitVec = (X.toBitVec >>> 8).setWidth 8 := by
    show BitVec.signExtend 8 (X.toBitVec >>> ((Int32.ofInt 8).toUInt32 &&& Int32.toUInt32 31).toBitVec) = _
    rw [BitVec.signExtend_eq_setWidth_of_le _ (by decide)]
    rfl
  have e2 : (X >>> (Int32.ofInt 8 &&& 31)).toInt8.toBitVec = (X.toBitVec.sshiftRight 8).setWidth 8 := by
    show BitVec.signExtend 8 (BitVec.sshiftRight' X.toBitVec ((Int32.ofInt 8 &&& 31).toBitVec.smod 32)) = _
    rw [BitVec.signExtend_eq_setWidth_of_le _ (by decide)]
    rfl
  rw [e1, e2]
  apply BitVec.eq_of_getLsbD_eq
  intro i hi
  rw [BitVec.getLsbD_setWidth, BitVec.getLsbD_setWidth, BitVec.getLsbD_ushiftRight, BitVec.getLsbD_sshiftRight]
  have h1 : ¬ (32 ≤ i) := by omega
  have h2 : 8 + i < 32 := by omega
  simp [h1, h2]
theorem sh0 (X : Int32) : ((X.toUInt32 >>> ((Int32.ofInt 0).toUInt32 &&& Int32.toUInt32 31)).toInt32).toInt8 = (X >>> (Int32.ofInt 0 &&& 31)).toInt8 := by
  apply Int8.toBitVec_inj.1
  have e1 : ((X.toUInt32 >>> ((Int32.ofInt 0).toUInt32 &&& Int32.toUInt32 31)).toInt32).toInt8.toBitVec = (X.toBitVec >>> 0).setWidth 8 := by
    show BitVec.signExtend 8 (X.toBitVec >>> ((Int32.ofInt 0).toUInt32 &&& Int32.toUInt32 31).toBitVec) = _
    rw [BitVec.signExtend_eq_setWidth_of_le _ (by decide)]
    rfl
  have e2 : (X >>> (Int32.ofInt 0 &&& 31)).toInt8.toBitVec = (X.toBitVec.sshiftRight 0).setWidth 8 := by
    show BitVec.signExtend 8 (BitVec.sshiftRight' X.toBitVec ((Int32.ofInt 0 &&& 31).toBitVec.smod 32)) = _
    rw [BitVec.signExtend_eq_setWidth_of_le _ (by decide)]
    rfl
  rw [e1, e2]
  apply BitVec.eq_of_getLsbD_eq
  intro i hi
  rw [BitVec.getLsbD_setWidth, BitVec.getLsbD_setWidth, BitVec.getLsbD_ushiftRight, BitVec.getLsbD_sshiftRight]
  have h1 : ¬ (32 ≤ i) := by omega
  have h2 : i < 32 := by omega
  simp [h1, h2]
theorem g_same (v1 v2 v3 v4 v5 : Int) (j : Nat) : gF v1 v2 v3 v4 v5 j = gR v1 v2 v3 v4 v5 j := by
  unfold gF gR i_2b i_ushr i_shr
  simp only [tc1]
  have h : j % 4 = 0 ∨ j % 4 = 1 ∨ j % 4 = 2 ∨ j % 4 = 3 := by omega
  rcases h with h | h | h | h
  · rw [h, show (24 - 8 * ((0 : Nat) : Int)) = 24 from rfl, sh24]
  · rw [h, show (24 - 8 * ((1 : Nat) : Int)) = 16 from rfl, sh16]
  · rw [h, show (24 - 8 * ((2 : Nat) : Int)) = 8 from rfl, sh8]
  · rw [h, show (24 - 8 * ((3 : Nat) : Int)) = 0 from rfl, sh0]
