/-! A long as a set of bits. -/
def bv (x : Int) (k : Nat) : Bool := (Int64.ofInt x).toBitVec.getLsbD k
theorem s63 : ∀ k : Nat, k < 64 → ((Int32.ofInt (k : Int)).toInt64 &&& 63).toBitVec.smod 64 = BitVec.ofNat 64 k := by decide +kernel
theorem u63 : ∀ k : Nat, k < 64 → ((Int32.ofInt (k : Int)).toInt64.toUInt64 &&& Int64.toUInt64 63).toNat % 64 = k := by decide +kernel
theorem and1_64 (Z : Int64) : (Z &&& Int64.ofInt 1).toInt = if Z.toBitVec.getLsbD 0 = true then 1 else 0 := by
  have h : (Z &&& Int64.ofInt 1).toBitVec.toNat = Z.toBitVec.toNat % 2 := by
    rw [Int64.toBitVec_and, BitVec.toNat_and]
    exact Nat.and_two_pow_sub_one_eq_mod _ 1
  show (Z &&& Int64.ofInt 1).toBitVec.toInt = _
  rw [BitVec.toInt_eq_toNat_of_lt (by omega), h]
  have h2 : Z.toBitVec.getLsbD 0 = decide (Z.toBitVec.toNat % 2 = 1) := by
    show Z.toBitVec.toNat.testBit 0 = _
    rw [Nat.testBit_zero]
  rw [h2]
  by_cases q : Z.toBitVec.toNat % 2 = 1
  · rw [decide_eq_true q, if_pos rfl]; omega
  · rw [decide_eq_false q, if_neg (by decide)]; omega
theorem l_shr_bit {x : Int} {k : Nat} (hk : k < 64) : l_and (l_shr x (k : Int)) 1 = if bv x k = true then 1 else 0 := by
  unfold l_and l_shr
  rw [tc2, and1_64]
  have : (Int64.ofInt x >>> ((Int32.ofInt (k : Int)).toInt64 &&& 63)).toBitVec.getLsbD 0 = bv x k := by
    rw [Int64.toBitVec_shiftRight, s63 k hk]
    unfold BitVec.sshiftRight'
    rw [BitVec.getLsbD_sshiftRight]
    have e : (BitVec.ofNat 64 k).toNat = k := by rw [BitVec.toNat_ofNat]; exact Nat.mod_eq_of_lt (by omega)
    rw [e]
    simp [hk, bv]
  rw [this]
theorem l_ushr_bit {x : Int} {k : Nat} (hk : k < 64) : l_and (l_ushr x (k : Int)) 1 = if bv x k = true then 1 else 0 := by
  unfold l_and l_ushr
  rw [tc2, and1_64]
  have : ((Int64.ofInt x).toUInt64 >>> ((Int32.ofInt (k : Int)).toInt64.toUInt64 &&& Int64.toUInt64 63)).toInt64.toBitVec.getLsbD 0 = bv x k := by
    have e : ((Int64.ofInt x).toUInt64 >>> ((Int32.ofInt (k : Int)).toInt64.toUInt64 &&& Int64.toUInt64 63)).toInt64.toBitVec = (Int64.ofInt x).toBitVec >>> k := by
      apply BitVec.eq_of_toNat_eq
      show ((Int64.ofInt x).toUInt64 >>> ((Int32.ofInt (k : Int)).toInt64.toUInt64 &&& Int64.toUInt64 63)).toNat = _
      rw [UInt64.toNat_shiftRight, u63 k hk, BitVec.toNat_ushiftRight]
      rfl
    rw [e, BitVec.getLsbD_ushiftRight]
    rfl
  rw [this]
theorem bt_bv {x : Int} {k : Nat} (hk : k < 64) : bt x k = bv x k := by
  unfold bt
  rw [l_shr_bit hk]
  cases bv x k <;> simp
theorem bv_or (x y : Int) (k : Nat) : bv (l_or x y) k = (bv x k || bv y k) := by
  unfold bv l_or
  rw [tc2, Int64.toBitVec_or, BitVec.getLsbD_or]
theorem bv_and (x y : Int) (k : Nat) : bv (l_and x y) k = (bv x k && bv y k) := by
  unfold bv l_and
  rw [tc2, Int64.toBitVec_and, BitVec.getLsbD_and]
theorem bv_shl {j k : Nat} (hj : j < 64) (hk : k < 64) : bv (l_shl 1 (j : Int)) k = decide (k = j) := by
  unfold bv l_shl
  rw [tc2, Int64.toBitVec_shiftLeft, s63 j hj, BitVec.shiftLeft_eq', BitVec.getLsbD_shiftLeft]
  have e : (BitVec.ofNat 64 j).toNat = j := by rw [BitVec.toNat_ofNat]; exact Nat.mod_eq_of_lt (by omega)
  have e1 : (Int64.ofInt 1).toBitVec = 1#64 := by decide
  rw [e, e1, BitVec.getLsbD_one]
  by_cases h : k = j
  · subst h; simp [hk]
  · by_cases h2 : k < j
    · simp [h, h2]
    · have : k - j ≠ 0 := by omega
      simp [h, this]
theorem bv_0 (k : Nat) : bv 0 k = false := by
  unfold bv
  rw [show (Int64.ofInt 0).toBitVec = 0#64 by decide]; simp
theorem bv_m1 {k : Nat} (hk : k < 64) : bv (-1) k = true := by
  unfold bv
  rw [show (Int64.ofInt (-1)).toBitVec = BitVec.allOnes 64 by decide, BitVec.getLsbD_allOnes]; simp [hk]
theorem l_or_ok (x y : Int) : -9223372036854775808 ≤ l_or x y ∧ l_or x y < 9223372036854775808 := tc9 _
theorem l_and_ok (x y : Int) : -9223372036854775808 ≤ l_and x y ∧ l_and x y < 9223372036854775808 := tc9 _
theorem l_shl_ok (x y : Int) : -9223372036854775808 ≤ l_shl x y ∧ l_shl x y < 9223372036854775808 := tc9 _
theorem bv_ext {x y : Int} (hx : -9223372036854775808 ≤ x ∧ x < 9223372036854775808) (hy : -9223372036854775808 ≤ y ∧ y < 9223372036854775808) (h : ∀ k, k < 64 → bv x k = bv y k) : x = y := by
  have : Int64.ofInt x = Int64.ofInt y := by
    apply Int64.toBitVec_inj.mp
    apply BitVec.eq_of_getLsbD_eq
    intro i hi
    exact h i hi
  have h2 := congrArg Int64.toInt this
  rwa [tc7 hx, tc7 hy] at h2
theorem l_or_0 {x : Int} (hx : -9223372036854775808 ≤ x ∧ x < 9223372036854775808) : l_or 0 x = x := bv_ext (l_or_ok _ _) hx (fun k _ => by rw [bv_or, bv_0]; simp)
theorem l_or_0r {x : Int} (hx : -9223372036854775808 ≤ x ∧ x < 9223372036854775808) : l_or x 0 = x := bv_ext (l_or_ok _ _) hx (fun k _ => by rw [bv_or, bv_0]; simp)
theorem l_and_m1 {x : Int} (hx : -9223372036854775808 ≤ x ∧ x < 9223372036854775808) : l_and x (-1) = x := bv_ext (l_and_ok _ _) hx (fun k hk => by rw [bv_and, bv_m1 hk]; simp)
