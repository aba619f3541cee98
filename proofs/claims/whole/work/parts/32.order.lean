-- BITS OF AN INT; ORDER
def zBit (x : Int) (b : Nat) : Bool := (x % 4294967296).toNat.testBit b
theorem zBit_0 (b : Nat) : zBit 0 b = false := Nat.zero_testBit b
theorem q_bv {w : BitVec 32} : (w.toInt % 4294967296).toNat = w.toNat := by
  have h := w.isLt
  rw [BitVec.toInt_eq_toNat_cond]
  split <;> omega
theorem zBit_toInt (w : BitVec 32) (b : Nat) : zBit w.toInt b = w.getLsbD b := by
  unfold zBit
  rw [q_bv, BitVec.getLsbD]
theorem q_ofInt (x : Int) : (BitVec.ofInt 32 x).toNat = (x % 4294967296).toNat := by
  rw [BitVec.toNat_ofInt]; rfl
theorem zBit_or (x y : Int) (b : Nat) : zBit (zor x y) b = (zBit x b || zBit y b) := by
  unfold zor
  show zBit (Int32.ofInt x ||| Int32.ofInt y).toBitVec.toInt b = _
  rw [zBit_toInt, Int32.toBitVec_or, q_tob, q_tob, BitVec.getLsbD_or]
  unfold zBit
  rw [← q_ofInt, ← q_ofInt]; rfl
theorem zBit_and (x y : Int) (b : Nat) : zBit (zand x y) b = (zBit x b && zBit y b) := by
  unfold zand
  show zBit (Int32.ofInt x &&& Int32.ofInt y).toBitVec.toInt b = _
  rw [zBit_toInt, Int32.toBitVec_and, q_tob, q_tob, BitVec.getLsbD_and]
  unfold zBit
  rw [← q_ofInt, ← q_ofInt]; rfl
theorem zBit_one {k b : Nat} (hk : k < 32) : zBit (zshl 1 k) b = decide (b = k) := by
  rw [zshl_eq 1 hk, Int.one_mul]
  have h : (zw (2 ^ k) % 4294967296).toNat = 2 ^ k := by
    have hp : 2 ^ k ≤ 2 ^ 31 := Nat.pow_le_pow_right (by decide) (by omega)
    have e : ((2 : Int) ^ k) = ((2 ^ k : Nat) : Int) := by simp
    rw [← z_bmod, e, Int.bmod_def]
    generalize 2 ^ k = p at hp
    have e32 : ((2 ^ 32 : Nat) : Int) = 4294967296 := rfl
    rw [e32]
    split <;> omega
  unfold zBit
  rw [h, Nat.testBit_two_pow]
  exact decide_eq_decide.mpr eq_comm
theorem zBit_and1 {x : Int} (hx : zr x) {b : Nat} (hb : b < 32) : zand (zshr x b) 1 = if zBit x b then 1 else 0 := by
  rw [zand_1, zshr_eq hx hb]
  unfold zBit
  rw [Nat.testBit_eq_decide_div_mod_eq]
  have hp : (0 : Int) < 2 ^ b := Int.pow_pos (by decide)
  have e1 : x = (x % 4294967296) + 2 ^ b * (2 ^ (32 - b) * (x / 4294967296)) := by
    have h1 : ((2 : Int) ^ b * (2 ^ (32 - b))) = 4294967296 := by
      rw [← Int.pow_add, show b + (32 - b) = 32 by omega]; rfl
    rw [← Int.mul_assoc, h1]
    have := Int.emod_add_mul_ediv x 4294967296
    omega
  have e2 : x / 2 ^ b = (x % 4294967296) / 2 ^ b + 2 ^ (32 - b) * (x / 4294967296) := by
    conv => lhs; rw [e1]
    rw [Int.add_mul_ediv_left _ _ (by omega)]
  have e3 : (2 : Int) ^ (32 - b) = 2 * 2 ^ (31 - b) := by
    rw [show 32 - b = (31 - b) + 1 by omega, Int.pow_succ, Int.mul_comm]
  have e4 : x / 2 ^ b % 2 = (x % 4294967296) / 2 ^ b % 2 := by
    rw [e2, e3, Int.mul_assoc, Int.add_mul_emod_self_left]
  have e5 : (((x % 4294967296).toNat / 2 ^ b % 2 : Nat) : Int) = (x % 4294967296) / 2 ^ b % 2 := by
    have : ((x % 4294967296).toNat : Int) = x % 4294967296 := Int.toNat_of_nonneg (Int.emod_nonneg _ (by decide))
    rw [Int.natCast_emod, Int.natCast_ediv, this]; simp
  rw [e4]
  by_cases g : (x % 4294967296).toNat / 2 ^ b % 2 = 1
  · rw [if_pos (decide_eq_true g)]; omega
  · rw [if_neg (by simpa using g)]; omega
/-- does the row tell each once -/
def pEach (T : Nat → Int) (P : Int → Int) : Nat → Nat → Int → Bool
  | _, 0, _ => true
  | j, c + 1, x => if P (T j) < 0 then false else if zand (zshr x (T j)) 1 = 0 then pEach T P (j + 1) c (zor x (zshl 1 (T j))) else false
theorem pEach_ok {T : Nat → Int} {P : Int → Int} (hT : ∀ b, 0 ≤ P b → 0 ≤ b ∧ b < 32) : ∀ (c j : Nat) (x : Int), zr x → pEach T P j c x = true → (∀ k, j ≤ k → k < j + c → 0 ≤ P (T k) ∧ zBit x (T k).toNat = false) ∧ ∀ i k, j ≤ i → i < k → k < j + c → ¬ T i = T k
  | 0, j, x, hx, h => ⟨fun k h1 h2 => by omega, fun i k h1 h2 h3 => by omega⟩
  | c + 1, j, x, hx, h => by
    unfold pEach at h
    by_cases g : P (T j) < 0
    · rw [if_pos g] at h; cases h
    rw [if_neg g] at h
    have hb := hT (T j) (by omega)
    by_cases z : zand (zshr x (T j)) 1 = 0
    · rw [if_pos z] at h
      obtain ⟨r1, r2⟩ := pEach_ok hT c (j + 1) _ (zr_or _ _) h
      have ej : T j = ((T j).toNat : Int) := by omega
      have z1 : zBit x (T j).toNat = false := by
        rw [ej, zBit_and1 hx (by omega)] at z
        by_cases q : zBit x (T j).toNat = true
        · rw [if_pos q] at z; cases z
        · simpa using q
      have r3 : ∀ k, j + 1 ≤ k → k < j + (c + 1) → zBit x (T k).toNat = false ∧ ¬ T j = T k := fun k h1 h2 => by
        have r := (r1 k h1 (by omega)).2
        rw [zBit_or, ej, zBit_one (by omega), Bool.or_eq_false_iff] at r
        have := of_decide_eq_false r.2
        exact ⟨r.1, fun e => this (by rw [← e])⟩
      refine ⟨fun k h1 h2 => ?_, fun i k h1 h2 h3 => ?_⟩
      · by_cases e : k = j
        · rw [e]; exact ⟨by omega, z1⟩
        · exact ⟨(r1 k (by omega) (by omega)).1, (r3 k (by omega) h2).1⟩
      · by_cases e : i = j
        · rw [e]; exact (r3 k (by omega) h3).2
        · exact r2 i k (by omega) h2 (by omega)
    · rw [if_neg z] at h; cases h
section OR
variable {d n t : Nat} {sh : ZS} {R : ZR} {I : ZI} {x1 x2 x3 x4 x5 : Int}
theorem l_T_each {Q : Int → ZI → Prop} (hW : Wf sh R) {s : Nat} (hS : St sh R s) (h0 : 0 ≤ I s 6 ∧ I s 6 ≤ 32) (h9 : I s 6 ≤ I 2 1) (h8 : I 2 1 ≤ 220) : ∀ (c j : Nat) (x : Int) (u : Option AV), ((j + c : Nat) : Int) = I s 6 → Q (if pEach (I 3) (pPlace (I (s + 5)) (I s 6)) j c x then 1 else 0) I → XIs (d + 1) 87 4 [some (.inr 2), some (.inr s), some (.inl x), some (.inl (j : Int)), u] [] n sh R I Q
  | 0, j, x, u, h, q => b_T_tellsEachOf_4 hW hS (by rw [if_pos (by omega)]; exact q)
  | c + 1, j, x, u, h, q => b_T_tellsEachOf_4 hW hS (by
    rw [if_neg (by omega), if_neg (by omega), if_neg (by omega), Int.toNat_natCast]
    refine ⟨by omega, s_S_placeOf hW hS h0.1 h0.2 ?_⟩
    unfold pEach at q
    by_cases g : pPlace (I (s + 5)) (I s 6) (I 3 j) < 0
    · rw [if_pos g]; rw [if_pos g] at q; exact q
    rw [if_neg g]; rw [if_neg g] at q
    by_cases z : zand (zshr x (I 3 j)) 1 = 0
    · rw [if_pos z]; rw [if_pos z] at q
      exact ⟨by unfold zr; omega, l_T_each hW hS h0 h9 h8 c (j + 1) _ _ (by omega) q⟩
    · rw [if_neg z]; rw [if_neg z] at q; exact q)
theorem s_T_each {Q : Int → ZI → Prop} (hW : Wf sh R) {s : Nat} (hS : St sh R s) (h0 : 0 ≤ I s 6 ∧ I s 6 ≤ 32) (h9 : I s 6 ≤ I 2 1) (h8 : I 2 1 ≤ 220) (q : Q (if pEach (I 3) (pPlace (I (s + 5)) (I s 6)) 0 (I s 6).toNat 0 then 1 else 0) I) : XI (d + 1) 87 [.inr 2, .inr s] n sh R I Q :=
  b_T_tellsEachOf_0 hW hS (l_T_each hW hS h0 h9 h8 _ 0 0 _ (by omega) q)
theorem l_N_order {Q : Int → ZI → Prop} (hW : Wf sh R) : ∀ (c j : Nat) (I : ZI), ((j + c : Nat) : Int) = x1 → x1 ≤ 32 → x1 ≤ I 2 1 → I 2 1 ≤ 220 → Q 1 (zup (zcpy I 3 j 23 j c) 2 1 0) → XIs (d + 2) 101 42 [some (.inr 1), some (.inl x1), some (.inl 1), some (.inl (j : Int))] [] n sh R I Q
  | 0, j, I, h, h1, h2, h3, q => b_N_order_42 hW (by rw [if_pos (by omega)]; rw [cpy_0] at q; exact ⟨.inr rfl, q⟩)
  | c + 1, j, I, h, h1, h2, h3, q => b_N_order_42 hW (by
    rw [if_neg (by omega), if_neg (by omega), if_neg (by omega), Int.toNat_natCast]
    exact ⟨by omega, by omega, by unfold zr; omega, l_N_order hW c (j + 1) _ (by omega) h1 (by rw [zup_ne (by omega)]; exact h2) (by rw [zup_ne (by omega)]; exact h3) (by rw [cpy_step (by omega)]; exact q)⟩)
theorem l_M_order2 {Q : Int → ZI → Prop} (hW : Wf sh R) : ∀ (c j : Nat) (I : ZI) (u2 u4 : Option AV), ((j + c : Nat) : Int) = x1 → x1 ≤ 32 → Q 1 (zcpy I 144 j 142 j c) → XIs (d + 1) 192 85 [some (.inr 137), some (.inl x1), u2, some (.inl (j : Int)), u4] [] n sh R I Q
  | 0, j, I, u2, u4, h, h1, q => b_M_order_85 hW (by rw [if_pos (by omega)]; rw [cpy_0] at q; exact q)
  | c + 1, j, I, u2, u4, h, h1, q => b_M_order_85 hW (by
    rw [if_neg (by omega), Int.toNat_natCast]
    exact ⟨by omega, by omega, by unfold zr; omega, l_M_order2 hW c (j + 1) _ _ _ (by omega) h1 (by rw [cpy_step (by omega)]; exact q)⟩)
/-- the model's look at the told row: the same as the class's -/
theorem l_M_order {Q : Int → ZI → Prop} (hW : Wf sh R) {T : Nat → Int} (hT : tAg T (I 144)) {P : Int → Int} (hP : ∀ b, P b < 0 ∨ 0 ≤ b ∧ b < 32 ∧ b < I 137 0) (hP2 : ∀ b, P b = pPlace (I 142) (I 137 1) b) (h1 : 0 ≤ I 137 1 ∧ I 137 1 ≤ 32) (h9 : x1 ≤ 32) : ∀ (c j : Nat) (x : Int) (u : Option AV), ((j + c : Nat) : Int) = x1 → zr x → (pEach T P j c x = false → Q 0 I) → (pEach T P j c x = true → ∀ x u, XIs (d + 1) 192 85 [some (.inr 137), some (.inl x1), some (.inl x), some (.inl 0), u] [] n sh R I Q) → XIs (d + 1) 192 27 [some (.inr 137), some (.inl x1), some (.inl x), some (.inl (j : Int)), u] [] n sh R I Q
  | 0, j, x, u, h, hx, q0, q1 => b_M_order_27 hW (by rw [if_pos (by omega)]; exact q1 rfl x u)
  | c + 1, j, x, u, h, hx, q0, q1 => b_M_order_27 hW (by
    have ht := hT j (by omega)
    have e1 := ht.1
    rw [zi2b_eq] at e1
    have p := hP (T j)
    rw [if_neg (by omega), Int.toNat_natCast]
    refine ⟨by omega, ?_⟩
    unfold pEach at q0 q1
    by_cases g1 : I 144 j < 0
    · rw [if_pos g1]
      exact q0 (by rw [if_pos (by omega)])
    rw [if_neg g1]
    have e : I 144 j = T j := by omega
    rw [e]
    by_cases g2 : I 137 0 ≤ T j
    · rw [if_pos g2]
      exact q0 (by rw [if_pos (by omega)])
    rw [if_neg g2]
    refine s_M_placeOf hW h1.1 h1.2 ?_
    rw [← hP2]
    have pr : pPlace (I 142) (I 137 1) (T j) = -1 ∨ 0 ≤ pPlace (I 142) (I 137 1) (T j) := by
      rcases pFind_range (p := fun k => decide (I 142 k = T j)) (I 137 1).toNat 0 with ⟨a, _⟩ | ⟨k, a, _⟩
      · exact .inl a
      · exact .inr (by unfold pPlace; omega)
    rw [← hP2] at pr
    by_cases g3 : P (T j) = -1
    · rw [if_pos g3]
      exact q0 (by rw [if_pos (by omega)])
    rw [if_neg g3]
    have b01 : zand (zshr x (T j)) 1 = 0 ∨ zand (zshr x (T j)) 1 = 1 := by rw [zand_1]; omega
    by_cases z : zand (zshr x (T j)) 1 = 1
    · rw [if_neg (not_not_intro z)]
      exact q0 (by rw [if_neg (by omega), if_neg (by omega)])
    · rw [if_pos z]
      rw [if_neg (by omega), if_pos (by omega)] at q0 q1
      exact ⟨by unfold zr; omega, l_M_order hW hT hP hP2 h1 h9 c (j + 1) _ _ (by omega) (zr_or _ _) q0 q1⟩)
theorem pPlace_in {o : Nat → Int} {m L : Int} (h : ∀ k : Nat, (k : Int) < m → 0 ≤ o k ∧ o k < L) (b : Int) : pPlace o m b = -1 ∨ (0 ≤ b ∧ b < L) ∧ 0 ≤ pPlace o m b ∧ pPlace o m b < m ∧ o (pPlace o m b).toNat = b := by
  unfold pPlace
  rcases pFind_range (p := fun k => decide (o k = b)) m.toNat 0 with ⟨a, _⟩ | ⟨k, a, a1, a2, a3, _⟩
  · exact .inl a
  · have := h k (by omega)
    have e := of_decide_eq_true a3
    rw [a]
    exact .inr ⟨by omega, by omega, by omega, by rw [Int.toNat_natCast]; exact e⟩
theorem pPlace_congr {o o2 : Nat → Int} {m m2 : Int} (hm : m2 = m) (h : ∀ k : Nat, (k : Int) < m → o2 k = o k) (b : Int) : pPlace o2 m2 b = pPlace o m b := by
  subst hm
  exact pFind_congr _ _ fun k h1 h2 => by rw [h k (by omega)]
theorem c_order (hW : Wf sh R) (h : Rel t I R) : XI (d + 2) 101 [.inr 1, .inl x1] n sh R I (fun v J => XI (d + 1) 192 [.inr 137, .inl x1] n sh R J (fun v2 K => v2 = v ∧ Rel (t + 1) K R)) := by
  obtain ⟨⟨o1, o2, o3, o4, o5, o6, o7⟩, od, lt, di⟩ := h.1.od
  obtain ⟨⟨t1, t2, t3⟩, t4⟩ := h.2.2.2.1
  refine b_N_order_0 hW ?_
  by_cases g1 : x1 = I 18 6
  · rw [if_neg (not_not_intro g1)]
    by_cases g2 : x1 ≤ I 2 1
    · rw [if_pos g2]
      refine s_T_each hW (St_18 hW) (by omega) (by omega) t3 ?_
      show if (if pEach (I 3) (pPlace (I 23) (I 18 6)) 0 (I 18 6).toNat 0 then (1 : Int) else 0) = 0 then _ else _
      have hP : ∀ b, pPlace (I 23) (I 18 6) b < 0 ∨ 0 ≤ b ∧ b < 32 ∧ b < I 18 5 := fun b => by
        have := pPlace_in (o := I 23) (m := I 18 6) (L := I 18 5) (fun k hk => (od k hk).1) b
        omega
      have ff : ∀ a k, ¬ (a = 2 ∧ k = 1) → ¬ (a = 137 ∧ k = 13) → (zup (zup I 2 1 0) 137 13 0) a k = I a k := fun a k h1 h2 => by rw [zup_ne h2, zup_ne h1]
      have rt : rTape (zup (zup I 2 1 0) 137 13 0) := ⟨⟨rfl, Int.le_refl 0, (by decide : (0 : Int) ≤ 220)⟩, t4⟩
      by_cases e : pEach (I 3) (pPlace (I 23) (I 18 6)) 0 (I 18 6).toNat 0 = true
      · rw [if_neg (by rw [if_pos e]; decide), if_pos e]
        refine l_N_order hW (I 18 6).toNat 0 I (by omega) (by omega) g2 t3 ?_
        have z1 : (zup (zcpy I 3 0 23 0 (I 18 6).toNat) 2 1 0) 137 1 = I 137 1 := by rw [zup_ne (by omega), zcpy_ne (by omega)]
        have z2 : (zup (zcpy I 3 0 23 0 (I 18 6).toNat) 2 1 0) 137 13 = I 137 13 := by rw [zup_ne (by omega), zcpy_ne (by omega)]
        refine b_M_order_0 hW ?_
        rw [z1, z2, if_neg (by omega), if_pos (by omega)]
        have y0 : (zup (zup (zcpy I 3 0 23 0 (I 18 6).toNat) 2 1 0) 137 13 0) 137 0 = I 137 0 := by rw [zup_ne (by omega), zup_ne (by omega), zcpy_ne (by omega)]
        have y1 : (zup (zup (zcpy I 3 0 23 0 (I 18 6).toNat) 2 1 0) 137 13 0) 137 1 = I 137 1 := by rw [zup_ne (by omega), zup_ne (by omega), zcpy_ne (by omega)]
        have y2 : (zup (zup (zcpy I 3 0 23 0 (I 18 6).toNat) 2 1 0) 137 13 0) 142 = I 142 := funext fun k => by rw [zup_ne (by omega), zup_ne (by omega), zcpy_ne (by omega)]
        have y3 : (zup (zup (zcpy I 3 0 23 0 (I 18 6).toNat) 2 1 0) 137 13 0) 144 = I 144 := funext fun k => by rw [zup_ne (by omega), zup_ne (by omega), zcpy_ne (by omega)]
        refine l_M_order hW (T := I 3) (P := pPlace (I 23) (I 18 6)) (by rw [y3]; exact t4) (by rw [y0, o4]; exact hP) (fun b => ?_) (by rw [y1]; omega) (by omega) (I 18 6).toNat 0 0 none (by omega) (by unfold zr; omega) (fun a => absurd (e.symm.trans a) (by decide)) fun _ x u => ?_
        · rw [y1, y2]; exact (pPlace_congr o5 (fun k hk => (od k hk).2) b).symm
        refine l_M_order2 hW (I 18 6).toNat 0 _ _ _ (by omega) (by omega) ⟨rfl, ?_⟩
        obtain ⟨p1, p2⟩ := pEach_ok (T := I 3) (P := pPlace (I 23) (I 18 6)) (fun b hb => by have := hP b; omega) (I 18 6).toNat 0 0 (by unfold zr; omega) e
        have tk : ∀ k : Nat, (k : Int) < I 18 6 → (0 ≤ I 3 k ∧ I 3 k < I 18 5) ∧ I 144 k = I 3 k := fun k hk => by
          have := (p1 k (by omega) (by omega)).1
          have := hP (I 3 k)
          have e1 := (t4 k (by omega)).1
          rw [zi2b_eq] at e1
          omega
        have fz : ∀ a k, ¬ (a = 2 ∧ k = 1) → ¬ (a = 137 ∧ k = 13) → ¬ a = 23 → ¬ a = 142 → (zcpy (zup (zup (zcpy I 3 0 23 0 (I 18 6).toNat) 2 1 0) 137 13 0) 144 0 142 0 (I 18 6).toNat) a k = I a k := fun a k h1 h2 h3 h4 => by
          rw [zcpy_ne (by omega), zup_ne h2, zup_ne h1, zcpy_ne (by omega)]
        have f23 : ∀ k : Nat, (zcpy (zup (zup (zcpy I 3 0 23 0 (I 18 6).toNat) 2 1 0) 137 13 0) 144 0 142 0 (I 18 6).toNat) 23 k = if (k : Int) < I 18 6 then I 3 k else I 23 k := fun k => by
          rw [zcpy_ne (by omega), zup_ne (by omega), zup_ne (by omega)]
          by_cases g : (k : Int) < I 18 6
          · rw [if_pos g, zcpy_to (by omega)]
          · rw [if_neg g, zcpy_ne (by omega)]
        have f142 : ∀ k : Nat, (zcpy (zup (zup (zcpy I 3 0 23 0 (I 18 6).toNat) 2 1 0) 137 13 0) 144 0 142 0 (I 18 6).toNat) 142 k = if (k : Int) < I 18 6 then I 144 k else I 142 k := fun k => by
          by_cases g : (k : Int) < I 18 6
          · rw [if_pos g, zcpy_to (by omega), y3]
          · rw [if_neg g, zcpy_ne (by omega), y2]
        have k21 : (zcpy (zup (zup (zcpy I 3 0 23 0 (I 18 6).toNat) 2 1 0) 137 13 0) 144 0 142 0 (I 18 6).toNat) 2 1 = 0 := by rw [zcpy_ne (by omega), zup_ne (by omega), zup_eq (by omega)]
        have k13 : (zcpy (zup (zup (zcpy I 3 0 23 0 (I 18 6).toNat) 2 1 0) 137 13 0) 144 0 142 0 (I 18 6).toNat) 137 13 = 0 := by rw [zcpy_ne (by omega), zup_eq (by omega)]
        generalize zcpy (zup (zup (zcpy I 3 0 23 0 (I 18 6).toNat) 2 1 0) 137 13 0) 144 0 142 0 (I 18 6).toNat = K at fz f23 f142 k21 k13 ⊢
        have fa : ∀ a, ¬ a = 2 → ¬ a = 137 → ¬ a = 23 → ¬ a = 142 → K a = I a := fun a h1 h2 h3 h4 => funext fun k => fz a k (by omega) (by omega) h3 h4
        obtain ⟨⟨a1, a2, a3, a4, a5⟩, b1, b2, b3, b4, b5, b6⟩ := h.1
        refine h.up (by omega) (.inl ⟨⟨?_, ?_, ?_, ?_, fun k hk => ?_⟩, ?_⟩) (.inr ?_) (.inr ?_) (.inl ⟨⟨by omega, by omega, by omega⟩, ?_⟩) (.inr ?_) (.inr ?_)
        · rw [fa 18 (by omega) (by omega) (by omega) (by omega), fz 137 0 (by omega) (by omega) (by omega) (by omega)]; exact a1
        · rw [fa 18 (by omega) (by omega) (by omega) (by omega), fz 137 1 (by omega) (by omega) (by omega) (by omega)]; exact a2
        · rw [fa 18 (by omega) (by omega) (by omega) (by omega), fz 137 2 (by omega) (by omega) (by omega) (by omega)]; exact a3
        · rw [fa 18 (by omega) (by omega) (by omega) (by omega), fz 137 5 (by omega) (by omega) (by omega) (by omega)]; exact a4
        · have := a5 k hk
          refine ⟨?_, ?_, ?_, ?_, ?_⟩
          · show K 19 k = K 138 k; rw [fa 19 (by omega) (by omega) (by omega) (by omega), fa 138 (by omega) (by omega) (by omega) (by omega)]; exact this.1
          · show K 20 k = K 139 k; rw [fa 20 (by omega) (by omega) (by omega) (by omega), fa 139 (by omega) (by omega) (by omega) (by omega)]; exact this.2.1
          · show K 21 k = K 140 k; rw [fa 21 (by omega) (by omega) (by omega) (by omega), fa 140 (by omega) (by omega) (by omega) (by omega)]; exact this.2.2.1
          · show K 22 k = K 141 k; rw [fa 22 (by omega) (by omega) (by omega) (by omega), fa 141 (by omega) (by omega) (by omega) (by omega)]; exact this.2.2.2.1
          · show K 23 k = K 142 k
            rw [f23, f142]
            by_cases g : (k : Int) < I 18 6
            · rw [if_pos g, if_pos g]; exact (tk k g).2.symm
            · rw [if_neg g, if_neg g]; exact this.2.2.2.2
        · rw [fa 18 (by omega) (by omega) (by omega) (by omega), fa 19 (by omega) (by omega) (by omega) (by omega), fa 20 (by omega) (by omega) (by omega) (by omega), fa 21 (by omega) (by omega) (by omega) (by omega), fa 22 (by omega) (by omega) (by omega) (by omega)]
          refine ⟨b1, b2, b3, fun k hk => ?_, fun i k hi hk => ?_, fun k hk => ?_⟩
          · rw [f23, if_pos hk]; exact (tk k hk).1
          · rw [f23, f23, if_pos hk, if_pos (by omega)]
            exact p2 i k (by omega) hi (by omega)
          · rw [f23, if_pos hk]
            have z := (p1 k (by omega) (by omega)).1
            rcases pPlace_in (o := I 23) (m := I 18 6) (L := I 18 5) (fun k hk => (od k hk).1) (I 3 k) with y | ⟨y1, y2, y3, y4⟩
            · omega
            · have l := b6 (pPlace (I 23) (I 18 6) (I 3 k)).toNat (by omega)
              rw [y4] at l
              exact l
        · intro a k hk; unfold fKept at hk; exact fz _ _ (by omega) (by omega) (by omega) (by omega)
        · intro a k hk; unfold fEnv at hk; exact fz _ _ (by omega) (by omega) (by omega) (by omega)
        · rw [fa 3 (by omega) (by omega) (by omega) (by omega), fa 144 (by omega) (by omega) (by omega) (by omega)]; exact t4
        · intro a k hk; unfold fBlame at hk; exact fz _ _ (by omega) (by omega) (by omega) (by omega)
        · intro a k hk; unfold fLaw at hk; exact fz _ _ (by omega) (by omega) (by omega) (by omega)
      · rw [if_pos (by rw [if_neg e]), if_neg e]
        refine ⟨.inl rfl, b_M_order_0 hW ?_⟩
        have e' : pEach (I 3) (pPlace (I 23) (I 18 6)) 0 (I 18 6).toNat 0 = false := by simpa using e
        have z1 : (zup I 2 1 0) 137 1 = I 137 1 := zup_ne (by omega)
        have z2 : (zup I 2 1 0) 137 13 = I 137 13 := zup_ne (by omega)
        rw [z1, z2, if_neg (by omega), if_pos (by omega)]
        refine l_M_order (I := zup (zup I 2 1 0) 137 13 0) hW (T := I 3) (P := pPlace (I 23) (I 18 6)) t4 (by rw [ff 137 0 (by omega) (by omega), o4]; exact hP) (fun b => ?_) (by rw [ff 137 1 (by omega) (by omega)]; omega) (by omega) (I 18 6).toNat 0 0 none (by omega) (by unfold zr; omega) (fun _ => ⟨rfl, ?_⟩) (fun a => absurd a e)
        · exact (pPlace_congr o5 (fun k hk => (od k hk).2) b).symm
        · refine h.up (by omega) (.inr ?_) (.inr ?_) (.inr ?_) (.inl rt) (.inr ?_) (.inr ?_)
          · intro a k hk; unfold fNow at hk; exact ff _ _ (by omega) (by omega)
          · intro a k hk; unfold fKept at hk; exact ff _ _ (by omega) (by omega)
          · intro a k hk; unfold fEnv at hk; exact ff _ _ (by omega) (by omega)
          · intro a k hk; unfold fBlame at hk; exact ff _ _ (by omega) (by omega)
          · intro a k hk; unfold fLaw at hk; exact ff _ _ (by omega) (by omega)
    · rw [if_neg g2]
      refine b_M_order_0 hW ?_
      rw [if_neg (by omega), if_neg (by omega)]
      exact ⟨rfl, h.fr (by omega) fun _ _ _ => rfl⟩
  · rw [if_pos g1]
    refine b_M_order_0 hW ?_
    rw [if_pos (by omega)]
    exact ⟨rfl, h.fr (by omega) fun _ _ _ => rfl⟩
end OR
