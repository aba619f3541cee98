-- TABLES: the first street in a hole, the calls
def aNxt (T : Nat → Nat → Int) (b m x z : Nat) : Prop := x ≤ z ∧ z < b ∧ T x z + aC T b (m - 1) (z + 1) = aC T b m x ∧ ∀ w, x ≤ w → w < z → ¬ T x w + aC T b (m - 1) (w + 1) = aC T b m x
def aWk (T : Nat → Nat → Int) (b : Nat) : Nat → Nat → Nat → Nat → Prop
  | 0, _, x, r => r = x
  | k + 1, m, x, r => ∃ z, aNxt T b m x z ∧ aWk T b k (m - 1) (z + 1) r
theorem aNxt_uniq {T : Nat → Nat → Int} {b m x z y : Nat} (h : aNxt T b m x z) (i : aNxt T b m x y) : z = y := by
  rcases Nat.lt_trichotomy z y with l | l | l
  · exact absurd h.2.2.1 (i.2.2.2 z h.1 l)
  · exact l
  · exact absurd i.2.2.1 (h.2.2.2 y i.1 l)
theorem aWk_uniq {T : Nat → Nat → Int} {b : Nat} : ∀ k m x r s, aWk T b k m x r → aWk T b k m x s → r = s
  | 0, m, x, r, s, h, i => by
    have h1 : r = x := h
    have i1 : s = x := i
    omega
  | k + 1, m, x, r, s, h, i => by
    obtain ⟨z, h1, h2⟩ := h
    obtain ⟨y, i1, i2⟩ := i
    have e := aNxt_uniq h1 i1
    subst e
    exact aWk_uniq k (m - 1) (z + 1) r s h2 i2
/-- m holes from street x on, none to spare -/
def aIv (T : Nat → Nat → Int) (b hs m x : Nat) : Prop := x ≤ b ∧ 1 ≤ m ∧ m ≤ hs ∧ aC T b m x < 1000000000 ∧ (2 ≤ m → ¬ aC T b (m - 1) x = aC T b m x)
theorem aC_more {T : Nat → Nat → Int} (hT : ∀ x y, x ≤ y → 0 ≤ T x y ∧ T x y ≤ 1000000000) {b m x : Nat} (hx : x ≤ b) : aC T b (m + 1) x ≤ aC T b m x ∧ aC T b (m + 1) x ≤ aP T b m x ∧ (aC T b (m + 1) x = aC T b m x ∨ aC T b (m + 1) x = aP T b m x) := by
  rw [aC_B hT _ _ hx, aC_B hT _ _ hx]
  have e : aB T b (m + 1) x = aMin (aB T b m x) (aP T b (0 + m) x) := rfl
  rw [Nat.zero_add] at e
  have l := aMin_le.mp (Int.le_of_eq e)
  refine ⟨l.1, l.2, ?_⟩
  rw [e]
  exact aMin_or
theorem aIv.p {T : Nat → Nat → Int} (hT : ∀ x y, x ≤ y → 0 ≤ T x y ∧ T x y ≤ 1000000000) {b hs m x : Nat} (h : aIv T b hs m x) : aP T b (m - 1) x = aC T b m x := by
  obtain ⟨h1, h2, h3, h4, h5⟩ := h
  obtain ⟨k, rfl⟩ : ∃ k, m = k + 1 := ⟨m - 1, by omega⟩
  have a := aC_more hT (m := k) h1
  rw [Nat.add_sub_cancel] at h5 ⊢
  rcases a.2.2 with e | e
  · cases k with
    | zero =>
      have z : aC T b 0 x = 1000000000 := if_neg (by omega)
      rw [z] at e
      omega
    | succ k => exact absurd e.symm (h5 (by omega))
  · exact e.symm
theorem aIv.some {T : Nat → Nat → Int} (hT : ∀ x y, x ≤ y → 0 ≤ T x y ∧ T x y ≤ 1000000000) {b hs m x : Nat} (h : aIv T b hs m x) (hm : 2 ≤ m) : ∃ e, x ≤ e ∧ e < b ∧ T x e + aC T b (m - 1) (e + 1) = aC T b m x := by
  obtain ⟨h1, h2, h3, h4, h5⟩ := h
  obtain ⟨k, rfl⟩ : ∃ k, m = k + 2 := ⟨m - 2, by omega⟩
  have e0 : aC T b (k + 2) x = aRun (fun e => aS (T x e) (aC T b (k + 1) (e + 1))) x (b + 1 - x) := if_neg (by omega)
  rcases aRun_or (f := fun e => aS (T x e) (aC T b (k + 1) (e + 1))) (a := x) (b + 1 - x) with g | ⟨e, g1, g2, g3⟩
  · rw [e0, g] at h4; omega
  · have g4 : aC T b (k + 2) x = aS (T x e) (aC T b (k + 1) (e + 1)) := by rw [e0, g3]
    have g5 := aS_or (x := T x e) (y := aC T b (k + 1) (e + 1))
    have g6 : T x e + aC T b (k + 1) (e + 1) = aC T b (k + 2) x := by omega
    refine ⟨e, g1, ?_, g6⟩
    by_cases y : e = b
    · exfalso
      rw [y, aC_gt (b := b) (a := b + 1) (by omega)] at g6
      have c1 := ((aC_le h1).mp (Int.le_refl (aC T b (k + 1) x))).2 b h1 (Nat.le_refl b)
      rw [aC_gt (b := b) (a := b + 1) (by omega)] at c1
      have c2 : aC T b (k + 2) x ≤ aC T b (k + 1) x := (aC_more hT (m := k + 1) h1).1
      have c3 : aC T b (k + 1) x ≤ T x b + 0 := c1
      have c4 : T x b + 0 = aC T b (k + 2) x := g6
      exact h5 (by omega) (by show aC T b (k + 1) x = aC T b (k + 2) x; omega)
    · omega
theorem aIv.next {T : Nat → Nat → Int} (hT : ∀ x y, x ≤ y → 0 ≤ T x y ∧ T x y ≤ 1000000000) {b hs m x z : Nat} (h : aIv T b hs m x) (hm : 2 ≤ m) (hz : x ≤ z ∧ z < b) (e : T x z + aC T b (m - 1) (z + 1) = aC T b m x) : aIv T b hs (m - 1) (z + 1) := by
  obtain ⟨h1, h2, h3, h4, h5⟩ := h
  have t := hT x z hz.1
  refine ⟨by omega, by omega, by omega, by omega, fun hm2 c => ?_⟩
  obtain ⟨k, rfl⟩ : ∃ k, m = k + 3 := ⟨m - 3, by omega⟩
  have c2 : aC T b (k + 1) (z + 1) = aC T b (k + 2) (z + 1) := c
  have e2 : T x z + aC T b (k + 2) (z + 1) = aC T b (k + 3) x := e
  have c3 : aC T b (k + 2) x ≤ T x z + aC T b (k + 1) (z + 1) := ((aC_le h1).mp (Int.le_refl (aC T b (k + 1 + 1) x))).2 z hz.1 (by omega)
  have c4 : aC T b (k + 3) x ≤ aC T b (k + 2) x := (aC_more hT (m := k + 2) h1).1
  exact h5 (by omega) (by show aC T b (k + 2) x = aC T b (k + 3) x; omega)
theorem aFw_many {T : Nat → Nat → Int} (hT : aTn T) {hs y b x : Nat} (hb : aFw (fun j => aL (aP T y j x)) hs b) (hx : x ≤ y) (hP : ∀ j, aF (aP T y j x)) (hfin : aC T y hs x < 1000000000) : (∀ m, 1 ≤ m → m ≤ b → ¬ aC T y m x = aC T y hs x) ∧ aC T y (b + 1) x = aC T y hs x := by
  have ho : ∀ i j, aL (aP T y i x) ≤ aL (aP T y j x) → aP T y i x ≤ aP T y j x := fun i j h => by
    have a := hP i
    have c := hP j
    unfold aF at a c
    unfold aL aMin at h
    split at h <;> split at h <;> omega
  have hl : ∀ i j, aL (aP T y i x) < aL (aP T y j x) → aP T y i x < aP T y j x := fun i j h => by
    unfold aL aMin at h
    split at h <;> split at h <;> omega
  have c : aC T y hs x = aP T y b x := by
    rw [aC_B hT.nn _ _ hx]
    refine aEq fun v => ?_
    rw [aB_le]
    constructor
    · intro h; exact h.2 b hb.1
    · intro h
      have a := hP b
      unfold aF at a
      exact ⟨by omega, fun j hj => Int.le_trans h (ho b j (hb.2.1 j hj))⟩
  refine ⟨fun m h1 h2 e => ?_, ?_⟩
  · rw [c, aC_B hT.nn _ _ hx] at e
    rcases aRun_or (f := fun j => aP T y j x) (a := 0) m with g | ⟨j, g1, g2, g3⟩
    · have e1 : aB T y m x = 1000000000 := g
      omega
    · have e1 : aB T y m x = aP T y j x := g3
      have := hl b j (hb.2.2 j (by omega))
      omega
  · rw [c, aC_B hT.nn _ _ hx]
    refine aEq fun v => ?_
    rw [aB_le]
    constructor
    · intro h; exact h.2 b (by omega)
    · intro h
      have a := hP b
      unfold aF at a
      exact ⟨by omega, fun j hj => Int.le_trans h (ho b j (hb.2.1 j (by have := hb.1; omega)))⟩
section TC
variable {d n t : Nat} {sh : ZS} {R : ZR} {B : ZI} {lw S : Nat} {H : List Int} {g : Int} {LA : Nat → Int} {hs : Nat} {T : Nat → Nat → Int}
theorem l_A_f39 {Q : Int → ZI → Prop} {a b k m hole x : Nat} {x4 : Int} {u1 : Option AV} {I : ZI} (hW : Wf sh R) (hR : rTab R) (hT : aTn T) (hC : ∀ m x, x ≤ b + 1 → aF (aC T b m x)) (hP : ∀ m x, x ≤ b → aF (aP T b m x)) (hb : a ≤ b ∧ b < 20) (hh : hs ≤ 9) (hK : aKn (R 61 4) T a b I) (hS : aSp T a b hs I) (hx : a ≤ x) (hm : 2 ≤ m) (hi : aIv T b hs m x) (hk : hole < 9) {e : Nat} (he : x ≤ e ∧ e < b ∧ T x e + aC T b (m - 1) (e + 1) = aC T b m x) (q : ∀ z x8 : Nat, aNxt T b m x z → XIs (d + 1) 80 22 [some (.inr 61), u1, some (.inl (b : Int)), some (.inl (k : Int)), some (.inl x4), some (.inl ((z + 1 : Nat) : Int)), some (.inl ((hole + 1 : Nat) : Int)), some (.inl (m : Int)), some (.inl (x8 : Int))] [] n sh R I Q) : ∀ c z : Nat, z + c = e → x ≤ z → (∀ w, x ≤ w → w < z → ¬ T x w + aC T b (m - 1) (w + 1) = aC T b m x) → XIs (d + 1) 80 39 [some (.inr 61), u1, some (.inl (b : Int)), some (.inl (k : Int)), some (.inl x4), some (.inl (x : Int)), some (.inl (hole : Int)), some (.inl (m : Int)), some (.inl (z : Int))] [] n sh R I Q := by
  intro c
  induction c with
  | zero =>
    intro z h hz hn
    obtain rfl : z = e := by omega
    have nx := q z z ⟨hz, he.2.1, he.2.2, hn⟩
    refine b_A_firstIn_39 hW (aTabs hW hR).1 ?_
    rw [show (z : Int) + 1 = ((z + 1 : Nat) : Int) by omega, show (hole : Int) + 1 = ((hole + 1 : Nat) : Int) by omega]
    refine ⟨by unfold zr; omega, ?_⟩
    by_cases g1 : (b : Int) - 1 ≤ (z : Int)
    · rw [if_pos g1]
      exact ⟨by unfold zr; omega, by unfold zr; omega, nx⟩
    · rw [if_neg g1]
      have e1 : ((m : Int) - 1).toNat = m - 1 := by omega
      have iv := hi.next hT.nn hm ⟨hz, he.2.1⟩ he.2.2
      have hm3 := hi.2.2.1
      have k1 : I (R 61 4 + 1 + x) z = aL (T x z) := hK x z hx hz (by omega)
      have s1 : I (64 + 1 + (m - 1)) (z + 1) = aL (aC T b (m - 1) (z + 1)) := by
        have := hS (m - 2) (z + 1) (by omega) (by omega) (by omega)
        rw [show m - 2 + 1 = m - 1 by omega] at this
        rw [this, ← iv.p hT.nn]; rfl
      have s2 : I (64 + 1 + m) x = aL (aC T b m x) := by
        have := hS (m - 1) x (by omega) hx (by omega)
        rw [show m - 1 + 1 = m by omega] at this
        rw [this, hi.p hT.nn]
      rw [e1, Int.toNat_natCast, Int.toNat_natCast, Int.toNat_natCast, Int.toNat_natCast, k1, s1, s2]
      have f1 := hC m x (by omega)
      have f2 := hC (m - 1) (z + 1) (by omega)
      have f3 := hT.1 x z hz
      have f4 := hi.2.2.2.1
      have f5 := he.2.2
      unfold aF at f1 f2 f3
      have l1 : aL (aC T b m x) = aC T b m x := if_neg (by omega)
      have l2 : aL (aC T b (m - 1) (z + 1)) = aC T b (m - 1) (z + 1) := if_neg (by omega)
      have l3 : aL (T x z) = T x z := if_neg (by omega)
      rw [l1, l2, l3, if_pos (by omega)]
      exact ⟨by omega, by omega, by unfold zr; omega, by omega, by unfold zr; omega, by omega, by unfold zr; omega, by omega, by omega, by unfold zr; omega, nx⟩
  | succ c ih =>
    intro z h hz hn
    refine b_A_firstIn_39 hW (aTabs hW hR).1 ?_
    rw [show (z : Int) + 1 = ((z + 1 : Nat) : Int) by omega, show (hole : Int) + 1 = ((hole + 1 : Nat) : Int) by omega]
    refine ⟨by unfold zr; omega, ?_⟩
    rw [if_neg (by omega)]
    have e1 : ((m : Int) - 1).toNat = m - 1 := by omega
    have hm3 := hi.2.2.1
    have k1 : I (R 61 4 + 1 + x) z = aL (T x z) := hK x z hx hz (by omega)
    have s1 : I (64 + 1 + (m - 1)) (z + 1) = aL (aP T b (m - 2) (z + 1)) := by
      have := hS (m - 2) (z + 1) (by omega) (by omega) (by omega)
      rw [show m - 2 + 1 = m - 1 by omega] at this
      exact this
    have s2 : I (64 + 1 + m) x = aL (aC T b m x) := by
      have := hS (m - 1) x (by omega) hx (by omega)
      rw [show m - 1 + 1 = m by omega] at this
      rw [this, hi.p hT.nn]
    rw [e1, Int.toNat_natCast, Int.toNat_natCast, Int.toNat_natCast, Int.toNat_natCast, k1, s1, s2]
    have f1 := hC m x (by omega)
    have f2 := hP (m - 2) (z + 1) (by omega)
    have f3 := hT.1 x z hz
    have f4 := hi.2.2.2.1
    have f6 := (aC_more hT.nn (m := m - 2) (b := b) (x := z + 1) (by omega)).2.1
    rw [show m - 2 + 1 = m - 1 by omega] at f6
    have f7 := ((aC_le (T := T) (v := aC T b (m - 1 + 1) x) (m := m - 1) (b := b) (show x ≤ b by omega)).mp (Int.le_refl _)).2 z hz (by omega)
    rw [show m - 1 + 1 = m by omega] at f7
    unfold aF at f1 f2 f3
    have l1 : aL (aC T b m x) = aC T b m x := if_neg (by omega)
    have b1 : 0 ≤ aL (T x z) ∧ aL (T x z) ≤ 1000000 := ⟨aL_le.mpr ⟨by omega, by omega⟩, (aL_le.mp (Int.le_refl _)).1⟩
    have b2 : 0 ≤ aL (aP T b (m - 2) (z + 1)) ∧ aL (aP T b (m - 2) (z + 1)) ≤ 1000000 := ⟨aL_le.mpr ⟨by omega, by omega⟩, (aL_le.mp (Int.le_refl _)).1⟩
    rw [l1]
    refine ⟨by omega, by omega, by unfold zr; omega, by omega, by unfold zr; omega, by omega, by unfold zr; omega, by omega, by omega, ?_⟩
    by_cases g1 : aL (T x z) + aL (aP T b (m - 2) (z + 1)) ≤ aC T b m x
    · rw [if_pos g1]
      have o1 : aL (T x z) = 1000000 ∨ aL (T x z) = T x z := aMin_or
      have o2 : aL (aP T b (m - 2) (z + 1)) = 1000000 ∨ aL (aP T b (m - 2) (z + 1)) = aP T b (m - 2) (z + 1) := aMin_or
      exact ⟨by unfold zr; omega, q z z ⟨hz, by omega, by omega, hn⟩⟩
    · rw [if_neg g1]
      refine ih (z + 1) (by omega) (by omega) fun w w1 w2 w3 => ?_
      by_cases x2 : w = z
      · rw [x2] at w3
        have iv := hi.next hT.nn hm ⟨hz, by omega⟩ w3
        have p := iv.p hT.nn
        rw [show m - 1 - 1 = m - 2 by omega] at p
        have l2 : aL (aP T b (m - 2) (z + 1)) ≤ aP T b (m - 2) (z + 1) := (aL_le.mp (Int.le_refl _)).2
        have l3 : aL (T x z) ≤ T x z := (aL_le.mp (Int.le_refl _)).2
        omega
      · exact hn w w1 (by omega) w3
theorem l_A_f22 {Q : Int → ZI → Prop} {a b k M : Nat} {u1 : Option AV} {I : ZI} (hW : Wf sh R) (hR : rTab R) (hT : aTn T) (hC : ∀ m x, x ≤ b + 1 → aF (aC T b m x)) (hP : ∀ m x, x ≤ b → aF (aP T b m x)) (hb : a ≤ b ∧ b < 20) (hh : hs ≤ 9) (hK : aKn (R 61 4) T a b I) (hS : aSp T a b hs I) (hk : k < M ∧ M ≤ hs) (Qr : Nat → Prop) (q : ∀ r : Nat, Qr r → Q (r : Int) I) : ∀ (c hole x : Nat) (u7 u8 : Option AV), hole + c = k → a ≤ x → aIv T b hs (M - hole) x → (∀ r, aWk T b c (M - hole) x r → Qr r) → XIs (d + 1) 80 22 [some (.inr 61), u1, some (.inl (b : Int)), some (.inl (k : Int)), some (.inl (M : Int)), some (.inl (x : Int)), some (.inl (hole : Int)), u7, u8] [] n sh R I Q
  | 0, hole, x, u7, u8, h, hx, hi, hr => b_A_firstIn_22 hW (by
    rw [if_pos (by omega)]
    exact q x (hr x rfl))
  | c + 1, hole, x, u7, u8, h, hx, hi, hr => b_A_firstIn_22 hW (by
    rw [if_neg (by omega), show (M : Int) - (hole : Int) = ((M - hole : Nat) : Int) by omega]
    obtain ⟨e, e1, e2, e3⟩ := hi.some hT.nn (by omega)
    refine ⟨by unfold zr; omega, l_A_f39 (a := a) hW hR hT hC hP hb hh hK hS hx (show 2 ≤ M - hole by omega) hi (by omega) ⟨e1, e2, e3⟩ (fun z x8 hz => ?_) (e - x) x (by omega) (Nat.le_refl x) fun w w1 w2 => absurd w2 (by omega)⟩
    have e4 : M - (hole + 1) = M - hole - 1 := by omega
    refine l_A_f22 hW hR hT hC hP hb hh hK hS hk Qr q c (hole + 1) (z + 1) _ _ (by omega) (by have := hz.1; omega) ?_ fun r hr2 => hr r ⟨z, hz, ?_⟩
    · rw [e4]; exact hi.next hT.nn (by omega) ⟨hz.1, hz.2.1⟩ hz.2.2.1
    · rw [← e4]; exact hr2)
theorem l_M_f143 {Q : Int → ZI → Prop} {b k m hole x D : Nat} {u1 u2 : Option AV} {x5 : Int} {I : ZI} (hW : Wf sh R) (hT : aTn T) (hC : ∀ m x, x ≤ b + 1 → aF (aC T b m x)) (hb : b < 20) (hh : hs ≤ 9) (hD : D + 1 ≤ 12) (hI : mTb T D b I) (hV : mCv hs T b I) (hm : 2 ≤ m) (hi : aIv T b hs m x) (hk : hole < 9) {e : Nat} (he : x ≤ e ∧ e < b ∧ T x e + aC T b (m - 1) (e + 1) = aC T b m x) (q : ∀ z x8 : Nat, aNxt T b m x z → XIs (d + 3) 219 125 [some (.inr 137), u1, u2, some (.inl ((D + 1 : Nat) : Int)), some (.inl (k : Int)), some (.inl x5), some (.inl ((z + 1 : Nat) : Int)), some (.inl ((hole + 1 : Nat) : Int)), some (.inl (m : Int)), some (.inl (x8 : Int))] [] n sh R I Q) : ∀ c z : Nat, z + c = e → x ≤ z → (∀ w, x ≤ w → w < z → ¬ T x w + aC T b (m - 1) (w + 1) = aC T b m x) → XIs (d + 3) 219 143 [some (.inr 137), u1, u2, some (.inl ((D + 1 : Nat) : Int)), some (.inl (k : Int)), some (.inl x5), some (.inl (x : Int)), some (.inl (hole : Int)), some (.inl (m : Int)), some (.inl (z : Int))] [] n sh R I Q := by
  intro c
  induction c with
  | zero =>
    intro z h hz hn
    obtain rfl : z = e := by omega
    have nx := q z z ⟨hz, he.2.1, he.2.2, hn⟩
    refine b_M_table_143 hW ?_
    have hm3 := hi.2.2.1
    have e1 : (((400 * (((D + 1 : Nat) : Int) - 1)) + (20 * (x : Int))) + (z : Int)).toNat = 400 * D + 20 * x + z := by omega
    have e2 : (((21 * ((m : Int) - 1)) + (z : Int)) + 1).toNat = 21 * (m - 1) + (z + 1) := by omega
    have e3 : ((21 * (m : Int)) + (x : Int)).toNat = 21 * m + x := by omega
    have t1 : I 168 (400 * D + 20 * x + z) = T x z := hI x z hz (by omega)
    have c1 : I 169 (21 * (m - 1) + (z + 1)) = aC T b (m - 1) (z + 1) := hV (m - 1) (z + 1) (by omega) (by omega)
    have c2 : I 169 (21 * m + x) = aC T b m x := hV m x hm3 (by omega)
    have f1 := hC m x (by omega)
    have f2 := hC (m - 1) (z + 1) (by omega)
    have f3 := hT.1 x z hz
    have f4 := hi.2.2.2.1
    have f5 := he.2.2
    unfold aF at f1 f2 f3
    rw [e1, e2, e3, t1, c1, c2, show (z : Int) + 1 = ((z + 1 : Nat) : Int) by omega, show (hole : Int) + 1 = ((hole + 1 : Nat) : Int) by omega, if_neg (by omega), if_pos (by omega), if_pos f5]
    exact ⟨by unfold zr; omega, by unfold zr; omega, by unfold zr; omega, by unfold zr; omega, by unfold zr; omega, by omega, by unfold zr; omega, by unfold zr; omega, by unfold zr; omega, by unfold zr; omega, by omega, by unfold zr; omega, by unfold zr; omega, by unfold zr; omega, by omega, by unfold zr; omega, by unfold zr; omega, nx⟩
  | succ c ih =>
    intro z h hz hn
    refine b_M_table_143 hW ?_
    have hm3 := hi.2.2.1
    have e1 : (((400 * (((D + 1 : Nat) : Int) - 1)) + (20 * (x : Int))) + (z : Int)).toNat = 400 * D + 20 * x + z := by omega
    have e2 : (((21 * ((m : Int) - 1)) + (z : Int)) + 1).toNat = 21 * (m - 1) + (z + 1) := by omega
    have e3 : ((21 * (m : Int)) + (x : Int)).toNat = 21 * m + x := by omega
    have t1 : I 168 (400 * D + 20 * x + z) = T x z := hI x z hz (by omega)
    have c1 : I 169 (21 * (m - 1) + (z + 1)) = aC T b (m - 1) (z + 1) := hV (m - 1) (z + 1) (by omega) (by omega)
    have c2 : I 169 (21 * m + x) = aC T b m x := hV m x hm3 (by omega)
    have f1 := hC m x (by omega)
    have f2 := hC (m - 1) (z + 1) (by omega)
    have f3 := hT.1 x z hz
    have f4 := hi.2.2.2.1
    unfold aF at f1 f2 f3
    rw [e1, e2, e3, t1, c1, c2, show (z : Int) + 1 = ((z + 1 : Nat) : Int) by omega, show (hole : Int) + 1 = ((hole + 1 : Nat) : Int) by omega]
    refine ⟨by unfold zr; omega, by unfold zr; omega, by unfold zr; omega, by unfold zr; omega, by unfold zr; omega, by omega, by unfold zr; omega, by unfold zr; omega, by unfold zr; omega, by unfold zr; omega, by omega, ?_⟩
    have go : ¬ T x z + aC T b (m - 1) (z + 1) = aC T b m x → (zr ((z + 1 : Nat) : Int)) ∧ XIs (d + 3) 219 143 [some (.inr 137), u1, u2, some (.inl ((D + 1 : Nat) : Int)), some (.inl (k : Int)), some (.inl x5), some (.inl (x : Int)), some (.inl (hole : Int)), some (.inl (m : Int)), some (.inl ((z + 1 : Nat) : Int))] [] n sh R I Q := fun w3 => ⟨by unfold zr; omega, ih (z + 1) (by omega) (by omega) fun w w1 w2 => by
      by_cases x2 : w = z
      · rw [x2]; exact w3
      · exact hn w w1 (by omega)⟩
    have w3 : (zr (21 * (m : Int))) ∧ (zr (21 * (m : Int) + (x : Int))) ∧ (0 ≤ 21 * (m : Int) + (x : Int) ∧ 21 * (m : Int) + (x : Int) < 210) := ⟨by unfold zr; omega, by unfold zr; omega, by omega⟩
    by_cases g1 : 1000000000 ≤ T x z
    · rw [if_pos g1, if_neg (by omega)]
      exact ⟨w3.1, w3.2.1, w3.2.2, go (by omega)⟩
    · rw [if_neg g1]
      by_cases g2 : aC T b (m - 1) (z + 1) < 1000000000
      · rw [if_pos g2]
        refine ⟨by unfold zr; omega, w3.1, w3.2.1, w3.2.2, ?_⟩
        by_cases g3 : T x z + aC T b (m - 1) (z + 1) = aC T b m x
        · rw [if_pos g3]
          exact ⟨by unfold zr; omega, by unfold zr; omega, q z z ⟨hz, by omega, g3, hn⟩⟩
        · rw [if_neg g3]; exact go g3
      · rw [if_neg g2, if_neg (by omega)]
        exact ⟨w3.1, w3.2.1, w3.2.2, go (by omega)⟩
theorem l_M_f125 {Q : Int → ZI → Prop} {b k M D : Nat} {u1 u2 : Option AV} {I : ZI} (hW : Wf sh R) (hT : aTn T) (hC : ∀ m x, x ≤ b + 1 → aF (aC T b m x)) (hb : b < 20) (hh : hs ≤ 9) (hD : D + 1 ≤ 12) (hI : mTb T D b I) (hV : mCv hs T b I) (hk : k < M ∧ M ≤ hs) (Qr : Nat → Prop) (q : ∀ r : Nat, Qr r → Q (r : Int) I) : ∀ (c hole x : Nat) (u8 u9 : Option AV), hole + c = k → aIv T b hs (M - hole) x → (∀ r, aWk T b c (M - hole) x r → Qr r) → XIs (d + 3) 219 125 [some (.inr 137), u1, u2, some (.inl ((D + 1 : Nat) : Int)), some (.inl (k : Int)), some (.inl (M : Int)), some (.inl (x : Int)), some (.inl (hole : Int)), u8, u9] [] n sh R I Q
  | 0, hole, x, u8, u9, h, hi, hr => b_M_table_125 hW (by
    rw [if_pos (by omega)]
    exact q x (hr x rfl))
  | c + 1, hole, x, u8, u9, h, hi, hr => b_M_table_125 hW (by
    rw [if_neg (by omega), show (M : Int) - (hole : Int) = ((M - hole : Nat) : Int) by omega]
    obtain ⟨e, e1, e2, e3⟩ := hi.some hT.nn (by omega)
    refine ⟨by unfold zr; omega, l_M_f143 hW hT hC hb hh hD hI hV (show 2 ≤ M - hole by omega) hi (by omega) ⟨e1, e2, e3⟩ (fun z x8 hz => ?_) (e - x) x (by omega) (Nat.le_refl x) fun w w1 w2 => absurd w2 (by omega)⟩
    have e4 : M - (hole + 1) = M - hole - 1 := by omega
    refine l_M_f125 hW hT hC hb hh hD hI hV hk Qr q c (hole + 1) (z + 1) _ _ (by omega) ?_ fun r hr2 => hr r ⟨z, hz, ?_⟩
    · rw [e4]; exact hi.next hT.nn (by omega) ⟨hz.1, hz.2.1⟩ hz.2.2.1
    · rw [← e4]; exact hr2)
theorem l_M_f71 {Q : Int → ZI → Prop} {a b k M D : Nat} {u2 : Option AV} {I : ZI} (hW : Wf sh R) (hb : a ≤ b ∧ b < 20) (hh : hs ≤ 9) (h3 : I 137 3 = (hs : Int)) (hV : mCv hs T b I) (hM : 1 ≤ M ∧ M ≤ hs) (hm : ∀ m, 1 ≤ m → m < M → ¬ aC T b m a = aC T b hs a) (hm2 : aC T b M a = aC T b hs a) (q2 : M ≤ k → Q (-2) I) (q : k < M → ∀ u8 u9 : Option AV, XIs (d + 3) 219 125 [some (.inr 137), some (.inl (a : Int)), u2, some (.inl ((D + 1 : Nat) : Int)), some (.inl (k : Int)), some (.inl (M : Int)), some (.inl (a : Int)), some (.inl 0), u8, u9] [] n sh R I Q) : ∀ (c m : Nat) (u6 u7 u8 u9 : Option AV), m + c = M → 1 ≤ m → XIs (d + 3) 219 71 [some (.inr 137), some (.inl (a : Int)), u2, some (.inl ((D + 1 : Nat) : Int)), some (.inl (k : Int)), some (.inl (m : Int)), u6, u7, u8, u9] [] n sh R I Q := by
  intro c
  have cell : ∀ m, m ≤ hs → I 169 ((21 * (m : Int)) + (a : Int)).toNat = aC T b m a := fun m h => by
    rw [show ((21 * (m : Int)) + (a : Int)).toNat = 21 * m + a by omega]; exact hV m a h (by omega)
  induction c with
  | zero =>
    intro m u6 u7 u8 u9 h h1
    refine b_M_table_71 hW ?_
    obtain rfl : m = M := by omega
    rw [h3, cell m (by omega), cell hs (Nat.le_refl hs), if_pos hm2]
    refine ⟨by unfold zr; omega, by unfold zr; omega, by omega, by unfold zr; omega, by unfold zr; omega, by omega, ?_⟩
    by_cases g1 : (k : Int) < (m : Int)
    · rw [if_pos g1]; exact q (by omega) _ _
    · rw [if_neg g1]; exact q2 (by omega)
  | succ c ih =>
    intro m u6 u7 u8 u9 h h1
    refine b_M_table_71 hW ?_
    rw [h3, cell m (by omega), cell hs (Nat.le_refl hs), if_neg (hm m h1 (by omega)), show (m : Int) + 1 = ((m + 1 : Nat) : Int) by omega]
    exact ⟨by unfold zr; omega, by unfold zr; omega, by omega, by unfold zr; omega, by unfold zr; omega, by omega, by unfold zr; omega, ih (m + 1) _ _ _ _ (by omega) (by omega)⟩
end TC
