-- BITS
theorem q_cnt : ∀ k : Fin 32, ((Int32.ofInt (k.val : Int) &&& 31).toBitVec.smod 32).toNat = k.val := by decide +kernel
theorem q_tob (a : Int) : (Int32.ofInt a).toBitVec = BitVec.ofInt 32 a := rfl
theorem zshr_eq {a : Int} (ha : zr a) {k : Nat} (hk : k < 32) : zshr a k = a / 2 ^ k := by
  unfold zshr
  have h : (Int32.ofInt a >>> (Int32.ofInt (k : Int) &&& 31)).toInt = ((Int32.ofInt a).toBitVec.sshiftRight k).toInt := by
    show (Int32.ofInt a >>> (Int32.ofInt (k : Int) &&& 31)).toBitVec.toInt = _
    rw [Int32.toBitVec_shiftRight]
    show ((Int32.ofInt a).toBitVec.sshiftRight (((Int32.ofInt (k : Int) &&& 31).toBitVec.smod 32).toNat)).toInt = _
    rw [q_cnt ⟨k, hk⟩]
  rw [h, BitVec.toInt_sshiftRight]
  show (Int32.ofInt a).toInt >>> k = _
  rw [z_of ha, Int.shiftRight_eq_div_pow]
  rfl
theorem zshl_eq (a : Int) {k : Nat} (hk : k < 32) : zshl a k = zw (a * 2 ^ k) := by
  unfold zshl
  have h : (Int32.ofInt a <<< (Int32.ofInt (k : Int) &&& 31)).toInt = ((Int32.ofInt a).toBitVec <<< k).toInt := by
    show (Int32.ofInt a <<< (Int32.ofInt (k : Int) &&& 31)).toBitVec.toInt = _
    rw [Int32.toBitVec_shiftLeft]
    show ((Int32.ofInt a).toBitVec <<< (((Int32.ofInt (k : Int) &&& 31).toBitVec.smod 32).toNat)).toInt = _
    rw [q_cnt ⟨k, hk⟩]
  rw [h, q_tob, ← z_bmod, BitVec.toInt_shiftLeft, Nat.shiftLeft_eq, BitVec.toNat_ofInt]
  have e : (((a % ((2 ^ 32 : Nat) : Int)).toNat * 2 ^ k : Nat) : Int) = a % 4294967296 * 2 ^ k := by
    rw [Int.natCast_mul, Int.toNat_of_nonneg (Int.emod_nonneg _ (by decide))]
    simp
  rw [e]
  have := Int.emod_add_mul_ediv a 4294967296
  rw [show a * 2 ^ k = a % 4294967296 * 2 ^ k + ((2 ^ 32 : Nat) : Int) * (a / 4294967296 * 2 ^ k) by
    conv => lhs; rw [← this]
    rw [Int.add_mul]
    congr 1
    rw [Int.mul_assoc]
    rfl]
  rw [Int.add_mul_bmod_self_left]
theorem zand_nn {a b : Nat} (ha : a < 2147483648) (hb : b < 2147483648) : zand a b = ((a &&& b : Nat) : Int) := by
  unfold zand
  show (Int32.ofInt (a : Int) &&& Int32.ofInt (b : Int)).toBitVec.toInt = _
  rw [Int32.toBitVec_and, q_tob, q_tob, BitVec.ofInt_natCast, BitVec.ofInt_natCast]
  have h1 : a &&& b ≤ a := Nat.and_le_left
  rw [← BitVec.ofNat_and, BitVec.toInt_ofNat', Int.bmod_eq_of_le] <;> simp <;> omega
theorem zor_nn {a b : Nat} (ha : a < 2147483648) (hb : b < 2147483648) : zor a b = ((a ||| b : Nat) : Int) := by
  unfold zor
  show (Int32.ofInt (a : Int) ||| Int32.ofInt (b : Int)).toBitVec.toInt = _
  rw [Int32.toBitVec_or, q_tob, q_tob, BitVec.ofInt_natCast, BitVec.ofInt_natCast]
  have h1 : a ||| b < 2 ^ 31 := Nat.or_lt_two_pow ha hb
  rw [← BitVec.ofNat_or, BitVec.toInt_ofNat', Int.bmod_eq_of_le] <;> simp <;> omega
