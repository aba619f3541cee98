-- longs, four bits at a time
def zLn (f : Nat → Int) : Nat → Nat
  | 0 => 0
  | n + 1 => 2 ^ (4 * n) * (f n % 16).toNat + zLn f n
def zLg (f : Nat → Int) : Int64 := Int64.ofBitVec (BitVec.ofNat 64 (zLn f 16))
theorem zLn_lt (f : Nat → Int) : ∀ n, zLn f n < 2 ^ (4 * n) := by
  intro n
  induction n with
  | zero => show (0 : Nat) < 1; omega
  | succ n ih =>
    show 2 ^ (4 * n) * (f n % 16).toNat + zLn f n < 2 ^ (4 * (n + 1))
    have h1 : (f n % 16).toNat ≤ 15 := by omega
    have h2 : 2 ^ (4 * (n + 1)) = 2 ^ (4 * n) * 16 := by rw [show 4 * (n + 1) = 4 * n + 4 by omega, Nat.pow_add]
    rw [h2]
    have h3 := Nat.mul_le_mul_left (2 ^ (4 * n)) h1
    omega
theorem zLn_bit (f : Nat → Int) (n i : Nat) : (zLn f n).testBit i = (decide (i < 4 * n) && ((f (i / 4) % 16).toNat).testBit (i % 4)) := by
  induction n with
  | zero => show (0 : Nat).testBit i = _; rw [Nat.zero_testBit]; simp
  | succ n ih =>
    show (2 ^ (4 * n) * (f n % 16).toNat + zLn f n).testBit i = _
    rw [Nat.testBit_two_pow_mul_add _ (zLn_lt f n), ih]
    by_cases h1 : i < 4 * n
    · have h2 : i < 4 * (n + 1) := by omega
      rw [if_pos h1]
      simp [h1, h2]
    · rw [if_neg h1]
      by_cases h2 : i < 4 * (n + 1)
      · have h3 : i / 4 = n := by omega
        have h4 : i - 4 * n = i % 4 := by omega
        rw [h3, h4]
        simp [h2]
      · have h5 : (f n % 16).toNat < 2 ^ (i - 4 * n) := by
          have h6 : (f n % 16).toNat < 2 ^ 4 := by omega
          exact Nat.lt_of_lt_of_le h6 (Nat.pow_le_pow_right (by omega) (by omega))
        rw [Nat.testBit_lt_two_pow h5]
        simp [h2]
theorem zLg_bit (f : Nat → Int) {i : Nat} (h : i < 64) : (zLg f).toBitVec.getLsbD i = ((f (i / 4) % 16).toNat).testBit (i % 4) := by
  show (BitVec.ofNat 64 (zLn f 16)).getLsbD i = _
  rw [BitVec.getLsbD_ofNat, zLn_bit]
  have h2 : i < 4 * 16 := by omega
  simp [h]
/-- how far is shifted -/
theorem z_lsh {x : Int} (h0 : 0 ≤ x) (h1 : x < 64) : ((Int32.ofInt x).toInt64 &&& 63).toBitVec.smod 64 = BitVec.ofNat 64 x.toNat := by
  obtain ⟨n, rfl⟩ : ∃ n : Nat, x = (n : Int) := ⟨x.toNat, by omega⟩
  have h2 : n < 64 := by omega
  have h3 : ∀ k : Fin 64, ((Int32.ofInt ((k : Nat) : Int)).toInt64 &&& 63).toBitVec.smod 64 = BitVec.ofNat 64 ((k : Nat) : Int).toNat := by decide +kernel
  exact h3 ⟨n, h2⟩
theorem z_lshr {a : Int64} {x : Int} (h0 : 0 ≤ x) (h1 : x < 64) : (a >>> ((Int32.ofInt x).toInt64 &&& 63)).toBitVec = a.toBitVec.sshiftRight x.toNat := by
  rw [Int64.toBitVec_shiftRight, z_lsh h0 h1]
  show a.toBitVec.sshiftRight (BitVec.ofNat 64 x.toNat).toNat = _
  rw [BitVec.toNat_ofNat, Nat.mod_eq_of_lt (by omega)]
theorem z_lshl {a : Int64} {x : Int} (h0 : 0 ≤ x) (h1 : x < 64) : (a <<< ((Int32.ofInt x).toInt64 &&& 63)).toBitVec = a.toBitVec <<< x.toNat := by
  rw [Int64.toBitVec_shiftLeft, z_lsh h0 h1]
  show a.toBitVec <<< (BitVec.ofNat 64 x.toNat).toNat = _
  rw [BitVec.toNat_ofNat, Nat.mod_eq_of_lt (by omega)]
theorem z_lread {f : Nat → Int} {x : Int} (h0 : 0 ≤ x) (h1 : x < 64) (h4 : x % 4 = 0) : (zLg f >>> ((Int32.ofInt x).toInt64 &&& 63)).toInt32 &&& (Int8.ofInt 15).toInt32 = Int32.ofInt (f (x.toNat / 4) % 16) := by
  have e15 : (Int8.ofInt 15).toInt32 = 15 := by decide +kernel
  rw [e15]
  apply Int32.toBitVec_inj.mp
  apply BitVec.eq_of_getLsbD_eq
  intro i hi
  have hm : (f (x.toNat / 4) % 16).toNat < 2 ^ 4 := by omega
  have eR : (Int32.ofInt (f (x.toNat / 4) % 16)).toBitVec = BitVec.ofNat 32 (f (x.toNat / 4) % 16).toNat := by
    show BitVec.ofInt 32 (f (x.toNat / 4) % 16) = _
    obtain ⟨k, hk⟩ : ∃ k : Nat, f (x.toNat / 4) % 16 = (k : Int) := ⟨(f (x.toNat / 4) % 16).toNat, by omega⟩
    rw [hk, BitVec.ofInt_natCast]
    rfl
  rw [eR, BitVec.getLsbD_ofNat, Int32.toBitVec_and, BitVec.getLsbD_and]
  have e15b : (15 : Int32).toBitVec = BitVec.ofNat 32 (2 ^ 4 - 1) := by decide +kernel
  rw [e15b, BitVec.getLsbD_ofNat, Nat.testBit_two_pow_sub_one]
  by_cases h : i < 4
  · have eL : (zLg f >>> ((Int32.ofInt x).toInt64 &&& 63)).toInt32.toBitVec.getLsbD i = ((f (x.toNat / 4) % 16).toNat).testBit i := by
      have h9 : i < 64 := by omega
      rw [Int64.toBitVec_toInt32, BitVec.getLsbD_signExtend, z_lshr h0 h1, if_pos h9, BitVec.getLsbD_sshiftRight]
      have h5 : x.toNat + i < 64 := by omega
      rw [if_pos h5, zLg_bit f h5]
      have h6 : (x.toNat + i) / 4 = x.toNat / 4 := by omega
      have h7 : (x.toNat + i) % 4 = i := by omega
      rw [h6, h7]
      have h8 : ¬ 64 ≤ i := by omega
      simp [hi, h8]
    rw [eL]
    simp [h, hi]
  · rw [Nat.testBit_lt_two_pow (Nat.lt_of_lt_of_le hm (Nat.pow_le_pow_right (by omega) (by omega)))]
    simp [h]
theorem z_lwrite {f : Nat → Int} {x y : Int} (h0 : 0 ≤ x) (h1 : x < 64) (h4 : x % 4 = 0) (hy0 : 0 ≤ y) (hy1 : y < 16) (hf : f (x.toNat / 4) % 16 = 0) : zLg f ||| ((Int32.ofInt y).toInt64 <<< ((Int32.ofInt x).toInt64 &&& 63)) = zLg (fun j => if j = x.toNat / 4 then y else f j) := by
  apply Int64.toBitVec_inj.mp
  apply BitVec.eq_of_getLsbD_eq
  intro i hi
  have eY : (Int32.ofInt y).toInt64.toBitVec = BitVec.ofNat 64 y.toNat := by
    obtain ⟨n, rfl⟩ : ∃ n : Nat, y = (n : Int) := ⟨y.toNat, by omega⟩
    have h2 : n < 16 := by omega
    have h3 : ∀ k : Fin 16, (Int32.ofInt ((k : Nat) : Int)).toInt64.toBitVec = BitVec.ofNat 64 ((k : Nat) : Int).toNat := by decide +kernel
    exact h3 ⟨n, h2⟩
  rw [Int64.toBitVec_or, BitVec.getLsbD_or, z_lshl h0 h1, eY, zLg_bit f hi, zLg_bit _ hi, BitVec.getLsbD_shiftLeft, BitVec.getLsbD_ofNat]
  by_cases h : i / 4 = x.toNat / 4
  · have e1 : ¬ i < x.toNat := by omega
    have e2 : i - x.toNat = i % 4 := by omega
    have e3 : (y % 16).toNat = y.toNat := by omega
    rw [h, hf, if_pos rfl, e2, e3]
    have e4 : i % 4 < 64 := by omega
    simp [e1, e4, hi]
  · rw [if_neg h]
    by_cases e1 : i < x.toNat
    · simp [e1]
    · have e2 : y.toNat < 2 ^ (i - x.toNat) := Nat.lt_of_lt_of_le (show y.toNat < 2 ^ 4 by omega) (Nat.pow_le_pow_right (by omega) (by omega))
      rw [Nat.testBit_lt_two_pow e2]
      simp
theorem zLg_0 {f : Nat → Int} (h : ∀ j, j < 16 → f j = 0) : zLg f = 0 := by
  apply Int64.toBitVec_inj.mp
  apply BitVec.eq_of_getLsbD_eq
  intro i hi
  rw [zLg_bit f hi, h (i / 4) (by omega)]
  show Nat.testBit 0 _ = (0 : BitVec 64).getLsbD i
  rw [Nat.zero_testBit]
  simp
theorem zLg_cong {f g : Nat → Int} (h : ∀ j, j < 16 → f j = g j) : zLg f = zLg g := by
  apply Int64.toBitVec_inj.mp
  apply BitVec.eq_of_getLsbD_eq
  intro i hi
  rw [zLg_bit f hi, zLg_bit g hi, h (i / 4) (by omega)]
