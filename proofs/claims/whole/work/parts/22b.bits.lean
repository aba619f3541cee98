-- BITS
theorem q_cnt : ∀ k : Fin 32, ((Int32.ofInt (k.val : Int) &&& 31).toBitVec.smod 32).toNat = k.val := by decide +kernel
theorem q_tob (a : Int) : (Int32.ofInt a).toBitVec = BitVec.ofInt 32 a := rfl
theorem zshr_eq {a : Int} (ha : zr a) {k : Nat} (hk : k < 32) : zshr a k = a / 2 ^ k := by
  unfold zshr
  have h : (Int32.ofInt a >>> (Int32.ofInt (k : Int) &&& 31)).toInt = ((Int32.ofInt a).toBitVec.sshiftRight k).toInt := by
    show (Int32.ofInt a >>> (Int32.ofInt (k : Int) &&& 31)).toBitVec.toInt = _
    rw [Int32.toBitVec_shiftRight]
    show ((Int32.ofInt a).toBitVec.sshiftRight (((Int32.ofInt (k : Int) &&& 31).toBitVec.smod 32).toNat)).toInt = _
    rw [q_cnt ⟨k, hk⟩]
  rw [h, BitVec.toInt_sshiftRight]
  show (Int32.ofInt a).toInt >>> k = _
  rw [z_of ha, Int.shiftRight_eq_div_pow]
  rfl
theorem zshl_eq (a : Int) {k : Nat} (hk : k < 32) : zshl a k = zw (a * 2 ^ k) := by
  unfold zshl
  have h : (Int32.ofInt a <<< (Int32.ofInt (k : Int) &&& 31)).toInt = ((Int32.ofInt a).toBitVec <<< k).toInt := by
    show (Int32.ofInt a <<< (Int32.ofInt (k : Int) &&& 31)).toBitVec.toInt = _
    rw [Int32.toBitVec_shiftLeft]
    show ((Int32.ofInt a).toBitVec <<< (((Int32.ofInt (k : Int) &&& 31).toBitVec.smod 32).toNat)).toInt = _
    rw [q_cnt ⟨k, hk⟩]
  rw [h, q_tob, ← z_bmod, BitVec.toInt_shiftLeft, Nat.shiftLeft_eq, BitVec.toNat_ofInt]
  have e : (((a % ((2 ^ 32 : Nat) : Int)).toNat * 2 ^ k : Nat) : Int) = a % 4294967296 * 2 ^ k := by
    rw [Int.natCast_mul, Int.toNat_of_nonneg (Int.emod_nonneg _ (by decide))]
    simp
  rw [e]
  have := Int.emod_add_mul_ediv a 4294967296
  rw [show a * 2 ^ k = a % 4294967296 * 2 ^ k + ((2 ^ 32 : Nat) : Int) * (a / 4294967296 * 2 ^ k) by
    conv => lhs; rw [← this]
    rw [Int.add_mul]
    congr 1
    rw [Int.mul_assoc]
    rfl]
  rw [Int.add_mul_bmod_self_left]
theorem zand_nn {a b : Nat} (ha : a < 2147483648) (hb : b < 2147483648) : zand a b = ((a &&& b : Nat) : Int) := by
  unfold zand
  show (Int32.ofInt (a : Int) &&& Int32.ofInt (b : Int)).toBitVec.toInt = _
  rw [Int32.toBitVec_and, q_tob, q_tob, BitVec.ofInt_natCast, BitVec.ofInt_natCast]
  have h1 : a &&& b ≤ a := Nat.and_le_left
  rw [← BitVec.ofNat_and, BitVec.toInt_ofNat', Int.bmod_eq_of_le] <;> simp <;> omega
theorem zor_nn {a b : Nat} (ha : a < 2147483648) (hb : b < 2147483648) : zor a b = ((a ||| b : Nat) : Int) := by
  unfold zor
  show (Int32.ofInt (a : Int) ||| Int32.ofInt (b : Int)).toBitVec.toInt = _
  rw [Int32.toBitVec_or, q_tob, q_tob, BitVec.ofInt_natCast, BitVec.ofInt_natCast]
  have h1 : a ||| b < 2 ^ 31 := Nat.or_lt_two_pow ha hb
  rw [← BitVec.ofNat_or, BitVec.toInt_ofNat', Int.bmod_eq_of_le] <;> simp <;> omega
theorem zand_mask (a : Int) {k : Nat} (hk : k ≤ 8) : zand a (2 ^ k - 1 : Nat) = a % (2 ^ k : Nat) := by
  have hp : 2 ^ k ≤ 2 ^ 8 := Nat.pow_le_pow_right (by decide) hk
  have hp0 : 0 < 2 ^ k := Nat.two_pow_pos k
  unfold zand
  show (Int32.ofInt a &&& Int32.ofInt ((2 ^ k - 1 : Nat) : Int)).toBitVec.toInt = _
  rw [Int32.toBitVec_and, q_tob, q_tob, BitVec.ofInt_natCast]
  have hn : (BitVec.ofInt 32 a &&& BitVec.ofNat 32 (2 ^ k - 1)).toNat = (a % 4294967296).toNat % 2 ^ k := by
    rw [BitVec.toNat_and, BitVec.toNat_ofInt, BitVec.toNat_ofNat, Nat.mod_eq_of_lt (a := 2 ^ k - 1) (by omega), Nat.and_two_pow_sub_one_eq_mod]
    rfl
  have hlt := Nat.mod_lt (a % 4294967296).toNat hp0
  rw [BitVec.toInt_eq_toNat_of_lt (by rw [hn]; omega), hn, Int.natCast_emod, Int.toNat_of_nonneg (Int.emod_nonneg _ (by decide)), Int.emod_emod_of_dvd]
  have : (2 ^ k : Nat) ∣ 2 ^ 32 := Nat.pow_dvd_pow 2 (by omega)
  exact Int.ofNat_dvd.mpr this
theorem zand_255 (a : Int) : zand a 255 = a % 256 := zand_mask a (k := 8) (by omega)
theorem zand_1 (a : Int) : zand a 1 = a % 2 := zand_mask a (k := 1) (by omega)
theorem zi2b_eq (a : Int) : zi2b a = (a + 128) % 256 - 128 := by
  have h : zi2b a = a.bmod 256 := by
    unfold zi2b
    rw [Int8.toInt_toInt32, Int32.toInt_toInt8, Int32.toInt_ofInt]
    exact Int.bmod_bmod_of_dvd (by decide)
  rw [h, Int.bmod_def]
  split <;> omega
