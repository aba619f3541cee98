-- ints of the machine and Ints
theorem z_bmod (x : Int) : x.bmod (2 ^ 32) = zw x := by
  show x.bmod 4294967296 = zw x
  unfold zw
  rw [Int.bmod_def]
  split <;> omega
theorem zr_zw (x : Int) : zr (zw x) := by
  unfold zr zw; omega
theorem zw_id {x : Int} (h : zr x) : zw x = x := by
  unfold zr at h; unfold zw; omega
theorem zrb_iff {x : Int} : zrb x = true ↔ zr x := by
  unfold zrb zr; simp
theorem z_of {x : Int} (h : zr x) : (Int32.ofInt x).toInt = x := Int32.toInt_ofInt_of_le (by unfold zr at h; omega) (by unfold zr at h; omega)
theorem z_to (x : Int32) : zr x.toInt := by
  have h1 := x.toInt_lt
  have h2 := x.le_toInt
  unfold zr; omega
theorem z_oft (x : Int32) : Int32.ofInt x.toInt = x := Int32.ofInt_toInt x
theorem z_inj {x y : Int32} (h : x.toInt = y.toInt) : x = y := Int32.toInt_inj.mp h
theorem z_ofw (x : Int) : Int32.ofInt (zw x) = Int32.ofInt x := by
  apply z_inj
  rw [z_of (zr_zw x), Int32.toInt_ofInt]
  exact (z_bmod x).symm
theorem z_add (a b : Int) : Int32.ofInt a + Int32.ofInt b = Int32.ofInt (zw (a + b)) := by rw [z_ofw, Int32.ofInt_add]
theorem z_sub (a b : Int) : Int32.ofInt a - Int32.ofInt b = Int32.ofInt (zw (a - b)) := by rw [z_ofw, Int32.ofInt_sub]
theorem z_mul (a b : Int) : Int32.ofInt a * Int32.ofInt b = Int32.ofInt (zw (a * b)) := by rw [z_ofw, Int32.ofInt_mul]
theorem z_div {a b : Int} (ha : zr a) (hb : zr b) : Int32.ofInt a / Int32.ofInt b = Int32.ofInt (zw (a.tdiv b)) := by
  apply z_inj
  rw [Int32.toInt_div, z_of ha, z_of hb, z_bmod, z_of (zr_zw _)]
theorem z_tmod_r {a b : Int} (ha : zr a) (hb : ¬ b = 0) : zr (a.tmod b) := by
  have h : (a.tmod b).natAbs ≤ a.natAbs := by rw [Int.natAbs_tmod]; exact Nat.mod_le _ _
  have h2 : (0 ≤ a → 0 ≤ a.tmod b) := fun q => Int.tmod_nonneg b q
  unfold zr at ha ⊢
  by_cases h3 : 0 ≤ a
  · have := h2 h3
    omega
  · have h4 : a.tmod b ≤ 0 := by
      have h5 := Int.tmod_nonneg b (a := -a) (by omega)
      rw [Int.neg_tmod] at h5
      omega
    omega
theorem z_rem {a b : Int} (ha : zr a) (hb : zr b) : Int32.ofInt a - Int32.ofInt a / Int32.ofInt b * Int32.ofInt b = Int32.ofInt (a.tmod b) := by
  rw [z_div ha hb, z_ofw, ← Int32.ofInt_mul, ← Int32.ofInt_sub]
  congr 1
  have h := Int.tmod_add_mul_tdiv a b
  have h2 : a.tdiv b * b = b * a.tdiv b := Int.mul_comm _ _
  omega
theorem z_le {a b : Int} (ha : zr a) (hb : zr b) : Int32.ofInt a ≤ Int32.ofInt b ↔ a ≤ b := by
  rw [Int32.le_iff_toInt_le, z_of ha, z_of hb]
theorem z_lt {a b : Int} (ha : zr a) (hb : zr b) : Int32.ofInt a < Int32.ofInt b ↔ a < b := by
  rw [Int32.lt_iff_toInt_lt, z_of ha, z_of hb]
theorem z_eq {a b : Int} (ha : zr a) (hb : zr b) : Int32.ofInt a = Int32.ofInt b ↔ a = b := by
  refine ⟨fun h => ?_, fun h => by rw [h]⟩
  have h1 : (Int32.ofInt a).toInt = (Int32.ofInt b).toInt := by rw [h]
  rwa [z_of ha, z_of hb] at h1
theorem zr_0 : zr 0 := by unfold zr; omega
theorem z_0 : Int32.ofInt 0 = 0 := rfl
theorem z_clamp {a : Int} (h : zr a) : (Int32.ofInt a).toNatClampNeg = a.toNat := by
  show (Int32.ofInt a).toInt.toNat = a.toNat
  rw [z_of h]
theorem z_vin {a : Int} {n : Nat} (h : zr a) (h0 : 0 ≤ a) (h1 : a < (n : Int)) : vp_in (Int32.ofInt a) n := by
  rw [vp_in_iff, z_of h]; exact ⟨h0, h1⟩
theorem z_nn {a : Int} (h : zr a) (h0 : 0 ≤ a) : ¬ Int32.ofInt a < 0 := by
  rw [← z_0, z_lt h zr_0]; omega
theorem z_i8 {n : Int} (h0 : -128 ≤ n) (h1 : n < 128) : (Int8.ofInt n).toInt32 = Int32.ofInt n := by
  apply z_inj
  rw [Int8.toInt_toInt32, Int8.toInt_ofInt_of_le (by omega) (by omega), z_of (by unfold zr; omega)]
theorem z_i16 {n : Int} (h0 : -32768 ≤ n) (h1 : n < 32768) : (Int16.ofInt n).toInt32 = Int32.ofInt n := by
  apply z_inj
  rw [Int16.toInt_toInt32, Int16.toInt_ofInt_of_le (by omega) (by omega), z_of (by unfold zr; omega)]
theorem zr_and (a b : Int) : zr (zand a b) := z_to _
theorem zr_or (a b : Int) : zr (zor a b) := z_to _
theorem zr_shl (a b : Int) : zr (zshl a b) := z_to _
theorem zr_shr (a b : Int) : zr (zshr a b) := z_to _
theorem zr_i2b (a : Int) : zr (zi2b a) := z_to _
theorem zr_i2c (a : Int) : zr (zi2c a) := z_to _
theorem z_max {x y : Int} (hx : zr x) (hy : zr y) : (if Int32.ofInt x < Int32.ofInt y then Int32.ofInt y else Int32.ofInt x) = Int32.ofInt (if x < y then y else x) := by
  by_cases h : x < y
  · rw [if_pos h, if_pos ((z_lt hx hy).mpr h)]
  · rw [if_neg h, if_neg (fun q => h ((z_lt hx hy).mp q))]
theorem z_abs {x : Int} (hx : zr x) : (if 0 ≤ Int32.ofInt x then Int32.ofInt x else 0 - Int32.ofInt x) = Int32.ofInt (if 0 ≤ x then x else zw (0 - x)) := by
  have h0 : (0 ≤ Int32.ofInt x) ↔ 0 ≤ x := z_le zr_0 hx
  by_cases h : 0 ≤ x
  · rw [if_pos h, if_pos (h0.mpr h)]
  · rw [if_neg h, if_neg (fun q => h (h0.mp q)), ← z_sub]; rfl
