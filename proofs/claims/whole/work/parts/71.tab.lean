-- TABLES in the class: what a span costs
def aPN (P N : Nat → Int) : Prop := (∀ k, P k ≤ P (k + 1)) ∧ (∀ k, N k ≤ N (k + 1) ∧ N (k + 1) - N k ≤ P (k + 1) - P k) ∧ (∀ k, 0 ≤ P k ∧ P k ≤ 32) ∧ ∀ k, 0 ≤ N k ∧ N k ≤ P k
def aA (N : Nat → Int) (a b : Nat) : Bool := decide (N (b + 1) - N a ≤ 1)
theorem aA_wide {P N : Nat → Int} (h : aPN P N) (a b : Nat) (x : aA N a (b + 1) = true) : aA N a b = true := by
  unfold aA at x ⊢
  rw [decide_eq_true_iff] at x ⊢
  have := (h.2.1 (b + 1)).1
  omega
def aX (hs : Nat) (P N : Nat → Int) (I : ZI) : Prop := I 15 0 = (hs : Int) ∧ ∀ k, k ≤ 20 → I 62 k = P k ∧ I 63 k = N k
theorem aX.fr {hs : Nat} {P N : Nat → Int} {I J : ZI} (h : aX hs P N I) (e : ∀ a b, a = 15 ∨ a = 62 ∨ a = 63 → J a b = I a b) : aX hs P N J :=
  ⟨by rw [e _ _ (by omega)]; exact h.1, fun k hk => by rw [e _ _ (by omega), e _ _ (by omega)]; exact h.2 k hk⟩
/-- known: what each span from a to b costs -/
def aKn (q : Nat) (T : Nat → Nat → Int) (a b : Nat) (I : ZI) : Prop := ∀ x z, a ≤ x → x ≤ z → z ≤ b → I (q + 1 + x) z = aL (T x z)
def aTn (T : Nat → Nat → Int) : Prop := (∀ x z, x ≤ z → aF (T x z)) ∧ ∀ x z, x ≤ z → T x z ≤ T x (z + 1)
theorem aL_le {v w : Int} : v ≤ aL w ↔ v ≤ 1000000 ∧ v ≤ w := aMin_le
theorem aTn.nn {T : Nat → Nat → Int} (h : aTn T) : ∀ x y, x ≤ y → 0 ≤ T x y ∧ T x y ≤ 1000000000 := fun x y hxy => by
  have := h.1 x y hxy
  unfold aF at this
  omega
theorem aTn.far {T : Nat → Nat → Int} (h : aTn T) {x z : Nat} (hz : x ≤ z) : ∀ c, T x z ≤ T x (z + c)
  | 0 => Int.le_refl _
  | c + 1 => by
    have h1 := aTn.far h hz c
    have h2 := h.2 x (z + c) (by omega)
    rw [show z + (c + 1) = z + c + 1 by omega]
    omega
theorem aP_nn {T : Nat → Nat → Int} (hT : ∀ x y, x ≤ y → 0 ≤ T x y ∧ T x y ≤ 1000000000) {y : Nat} : ∀ m x, x ≤ y → 0 ≤ aP T y m x ∧ aP T y m x ≤ 1000000000
  | 0, x, h => hT x y h
  | m + 1, x, h => by
    refine ⟨aP_le.mpr ⟨by omega, fun z h1 h2 => ?_⟩, (aP_le.mp (Int.le_refl _)).1⟩
    have h3 := hT x z h1
    have h4 := (aP_nn hT (y := y) m (z + 1) (by omega)).1
    omega
theorem aRun_cut {T : Nat → Nat → Int} (h : aTn T) {y m x c : Nat} (hc : x + c < y) (hf : 1000000 ≤ T x (x + c)) : aL (aRun (fun z => aS (T x z) (aP T y m (z + 1))) x c) = aL (aRun (fun z => aS (T x z) (aP T y m (z + 1))) x (y - x)) := aEq fun v => by
  rw [aL_le, aL_le, aRun_le, aRun_le]
  constructor
  · intro hv
    refine ⟨hv.1, hv.2.1, fun e h1 h2 => ?_⟩
    by_cases g : e < x + c
    · exact hv.2.2 e h1 g
    · obtain ⟨k, rfl⟩ : ∃ k, e = x + c + k := ⟨e - (x + c), by omega⟩
      have h3 := h.far (show x ≤ x + c by omega) k
      have h4 := (aP_nn h.nn (y := y) m (x + c + k + 1) (by omega)).1
      exact aS_le.mpr ⟨hv.2.1, by omega⟩
  · intro hv
    exact ⟨hv.1, hv.2.1, fun e h1 h2 => hv.2.2 e h1 (by omega)⟩
theorem aL_step {A t s : Int} (ht : 0 ≤ t) (hs : 0 ≤ s) : (if aL t + aL s < aL A then aL t + aL s else aL A) = aL (aMin A (aS t s)) := by
  refine aEq fun v => ?_
  rw [aL_le, aMin_le, aS_le]
  unfold aL aMin
  split <;> split <;> (try split) <;> (try split) <;> omega
section AC
variable {d n t : Nat} {sh : ZS} {R : ZR} {B : ZI} {lw S : Nat} {H : List Int} {g : Int} {LA : Nat → Int} {hs : Nat} {P N : Nat → Int} {T : Nat → Nat → Int}
theorem aTabs (hW : Wf sh R) (h : rTab R) : Kn sh R (R 61 4) 20 20 ∧ Kn sh R (R 61 5) 20 20 := by
  rcases h with ⟨a, b⟩ | ⟨a, b⟩ <;> rw [a, b]
  · exact ⟨Kn_75 hW, Kn_96 hW⟩
  · exact ⟨Kn_96 hW, Kn_75 hW⟩
/-- rows 1 to m of split for streets a to y -/
def aSp (T : Nat → Nat → Int) (a y m : Nat) (I : ZI) : Prop := ∀ j x, j < m → a ≤ x → x ≤ y → I (64 + 1 + (j + 1)) x = aL (aP T y j x)
theorem l_A_59 {Q : ZI → Prop} {a y m x : Nat} (hW : Wf sh R) (hR : rTab R) (hT : aTn T) (hy : y < 20) (hx : a ≤ x ∧ x ≤ y) (hm : m + 2 ≤ 9) {I : ZI} (hK : aKn (R 61 4) T a y I) (hS : aSp T a y (m + 1) I) (q : ∀ x5 x6 : Int, XVs d 77 45 [some (.inr 61), some (.inl (a : Int)), some (.inl (y : Int)), some (.inl ((m + 2 : Nat) : Int)), some (.inl ((x + 1 : Nat) : Int)), some (.inl x5), some (.inl x6)] [] n sh R (zup I (64 + 1 + (m + 2)) x (aL (aP T y (m + 1) x))) Q) : ∀ (c k : Nat), x + k + c = y → XVs d 77 59 [some (.inr 61), some (.inl (a : Int)), some (.inl (y : Int)), some (.inl ((m + 2 : Nat) : Int)), some (.inl (x : Int)), some (.inl (aL (aRun (fun z => aS (T x z) (aP T y m (z + 1))) x k))), some (.inl ((x + k : Nat) : Int))] [] n sh R I Q
  | 0, k, h => b_A_splitUpTo_59 hW (aTabs hW hR).1 (by
    rw [if_pos (by omega), Int.toNat_natCast, Int.toNat_natCast, show (x : Int) + 1 = ((x + 1 : Nat) : Int) by omega]
    have e : k = y - x := by omega
    have e2 : aP T y (m + 1) x = aRun (fun z => aS (T x z) (aP T y m (z + 1))) x (y - x) := rfl
    rw [e, ← e2]
    exact ⟨by omega, by omega, by unfold zr; omega, q _ _⟩)
  | c + 1, k, h => b_A_splitUpTo_59 hW (aTabs hW hR).1 (by
    have e1 : (((m + 2 : Nat) : Int) - 1).toNat = m + 1 := by omega
    have e2 : (((x + k : Nat) : Int) + 1).toNat = x + k + 1 := by omega
    have k1 : I (R 61 4 + 1 + x) (x + k) = aL (T x (x + k)) := hK x (x + k) hx.1 (by omega) (by omega)
    have s1 : I (64 + 1 + (m + 1)) (x + k + 1) = aL (aP T y m (x + k + 1)) := hS m (x + k + 1) (by omega) (by omega) (by omega)
    have t1 := hT.nn x (x + k) (by omega)
    have p1 := aP_nn hT.nn (y := y) m (x + k + 1) (by omega)
    rw [if_neg (by omega), e1, e2, Int.toNat_natCast, Int.toNat_natCast, Int.toNat_natCast, k1, s1, show ((x + k : Nat) : Int) + 1 = ((x + (k + 1) : Nat) : Int) by omega]
    refine ⟨by omega, by omega, ?_⟩
    by_cases g1 : 1000000 ≤ aL (T x (x + k))
    · rw [if_pos g1, show (x : Int) + 1 = ((x + 1 : Nat) : Int) by omega, aRun_cut hT (by omega) (aL_le.mp g1).2]
      exact ⟨by omega, by omega, by unfold zr; omega, q _ _⟩
    · rw [if_neg g1, aL_step t1.1 p1.1]
      have b1 : 0 ≤ aL (T x (x + k)) ∧ aL (T x (x + k)) ≤ 1000000 := ⟨aL_le.mpr ⟨by omega, t1.1⟩, (aL_le.mp (Int.le_refl _)).1⟩
      have b2 : 0 ≤ aL (aP T y m (x + k + 1)) ∧ aL (aP T y m (x + k + 1)) ≤ 1000000 := ⟨aL_le.mpr ⟨by omega, p1.1⟩, (aL_le.mp (Int.le_refl _)).1⟩
      exact ⟨by unfold zr; omega, by omega, by unfold zr; omega, by omega, by unfold zr; omega, l_A_59 hW hR hT hy hx hm hK hS q c (k + 1) (by omega)⟩)
theorem l_A_45 {Q : ZI → Prop} {a y m : Nat} (hW : Wf sh R) (hR : rTab R) (hT : aTn T) (hy : y < 20) (hm : m + 2 ≤ 9) {I0 : ZI} (hK : aKn (R 61 4) T a y I0) (q : ∀ (J : ZI) (u4 u5 u6 : Option AV), aSp T a y (m + 2) J → (∀ o b, ¬ (66 ≤ o ∧ o ≤ 74) → J o b = I0 o b) → XVs d 77 31 [some (.inr 61), some (.inl (a : Int)), some (.inl (y : Int)), some (.inl ((m + 3 : Nat) : Int)), u4, u5, u6] [] n sh R J Q) : ∀ (c x : Nat) (I : ZI) (u5 u6 : Option AV), x + c = y + 1 → a ≤ x → aSp T a y (m + 1) I → (∀ z, a ≤ z → z < x → I (64 + 1 + (m + 2)) z = aL (aP T y (m + 1) z)) → (∀ o b, ¬ (66 ≤ o ∧ o ≤ 74) → I o b = I0 o b) → XVs d 77 45 [some (.inr 61), some (.inl (a : Int)), some (.inl (y : Int)), some (.inl ((m + 2 : Nat) : Int)), some (.inl (x : Int)), u5, u6] [] n sh R I Q
  | 0, x, I, u5, u6, h, hx, hS, hn, hf => b_A_splitUpTo_45 hW (by
    rw [if_pos (by omega), show ((m + 2 : Nat) : Int) + 1 = ((m + 3 : Nat) : Int) by omega]
    refine ⟨by unfold zr; omega, q I _ _ _ (fun j z hj h1 h2 => ?_) hf⟩
    by_cases e : j = m + 1
    · rw [e]; exact hn z h1 (by omega)
    · exact hS j z (by omega) h1 h2)
  | c + 1, x, I, u5, u6, h, hx, hS, hn, hf => b_A_splitUpTo_45 hW (by
    rw [if_neg (by omega)]
    have hK2 : aKn (R 61 4) T a y I := fun x z h1 h2 h3 => by
      rw [hf _ _ (by unfold rTab at hR; omega)]; exact hK x z h1 h2 h3
    have e := l_A_59 (d := d) (n := n) hW hR hT hy (show a ≤ x ∧ x ≤ y by omega) hm hK2 hS (Q := Q) (fun x5 x6 => l_A_45 hW hR hT hy hm hK q c (x + 1) _ _ _ (by omega) (by omega) (fun j z hj h1 h2 => by rw [zup_ne (by omega)]; exact hS j z hj h1 h2) (fun z h1 h2 => ?_) fun o b ho => by rw [zup_ne (by omega)]; exact hf o b ho) (y - x) 0 (by omega)
    · exact e
    · by_cases g : z = x
      · rw [zup_eq ⟨rfl, g⟩, g]
      · rw [zup_ne (by omega)]; exact hn z h1 (by omega))
theorem l_A_31 {Q : ZI → Prop} {a y : Nat} (hW : Wf sh R) (hR : rTab R) (hT : aTn T) (hy : y < 20) (hh : 1 ≤ hs ∧ hs ≤ 9) (ha : a ≤ y) {I0 : ZI} (h15 : I0 15 0 = (hs : Int)) (hK : aKn (R 61 4) T a y I0) (q : ∀ J : ZI, aSp T a y hs J → (∀ o b, ¬ (66 ≤ o ∧ o ≤ 74) → J o b = I0 o b) → Q J) : ∀ (c m : Nat) (I : ZI) (u4 u5 u6 : Option AV), m + 1 + c = hs → aSp T a y (m + 1) I → (∀ o b, ¬ (66 ≤ o ∧ o ≤ 74) → I o b = I0 o b) → XVs d 77 31 [some (.inr 61), some (.inl (a : Int)), some (.inl (y : Int)), some (.inl ((m + 2 : Nat) : Int)), u4, u5, u6] [] n sh R I Q
  | 0, m, I, u4, u5, u6, h, hS, hf => b_A_splitUpTo_31 hW (by
    rw [hf 15 0 (by omega), h15, if_pos (by omega)]
    obtain rfl : m + 1 = hs := by omega
    exact q I hS hf)
  | c + 1, m, I, u4, u5, u6, h, hS, hf => b_A_splitUpTo_31 hW (by
    rw [hf 15 0 (by omega), h15, if_neg (by omega)]
    exact l_A_45 hW hR hT hy (by omega) hK (fun J u4 u5 u6 j1 j2 => l_A_31 hW hR hT hy hh ha h15 hK q c (m + 1) J u4 u5 u6 (by omega) j1 j2) (y + 1 - a) a I _ _ (by omega) (Nat.le_refl a) hS (fun z h1 h2 => absurd h2 (by omega)) hf)
theorem l_A_2 {Q : ZI → Prop} {a y : Nat} (hW : Wf sh R) (hR : rTab R) (hy : y < 20) {I0 : ZI} (hK : aKn (R 61 4) T a y I0) (q : ∀ (J : ZI) (u4 u5 u6 : Option AV), aSp T a y 1 J → (∀ o b, ¬ (66 ≤ o ∧ o ≤ 74) → J o b = I0 o b) → XVs d 77 31 [some (.inr 61), some (.inl (a : Int)), some (.inl (y : Int)), some (.inl 2), u4, u5, u6] [] n sh R J Q) : ∀ (c x : Nat) (I : ZI) (u4 u5 u6 : Option AV), x + c = y + 1 → a ≤ x → (∀ z, a ≤ z → z < x → I 66 z = aL (T z y)) → (∀ o b, ¬ (66 ≤ o ∧ o ≤ 74) → I o b = I0 o b) → XVs d 77 2 [some (.inr 61), some (.inl (a : Int)), some (.inl (y : Int)), some (.inl (x : Int)), u4, u5, u6] [] n sh R I Q
  | 0, x, I, u4, u5, u6, h, hx, hn, hf => b_A_splitUpTo_2 hW (aTabs hW hR).1 (by
    rw [if_pos (by omega)]
    refine q I _ _ _ (fun j z hj h1 h2 => ?_) hf
    obtain rfl : j = 0 := by omega
    exact hn z h1 (by omega))
  | c + 1, x, I, u4, u5, u6, h, hx, hn, hf => b_A_splitUpTo_2 hW (aTabs hW hR).1 (by
    have k1 : I (R 61 4 + 1 + x) y = aL (T x y) := by
      rw [hf _ _ (by unfold rTab at hR; omega)]; exact hK x y hx (by omega) (Nat.le_refl y)
    rw [if_neg (by omega), Int.toNat_natCast, Int.toNat_natCast, k1, show (x : Int) + 1 = ((x + 1 : Nat) : Int) by omega]
    refine ⟨by omega, by omega, by omega, by unfold zr; omega, l_A_2 hW hR hy hK q c (x + 1) _ _ _ _ (by omega) (by omega) (fun z h1 h2 => ?_) fun o b ho => by rw [zup_ne (by omega)]; exact hf o b ho⟩
    by_cases g : z = x
    · rw [zup_eq ⟨by omega, g⟩, g]
    · rw [zup_ne (by omega)]; exact hn z h1 (by omega))
theorem s_A_split {Q : ZI → Prop} {I : ZI} {a y : Nat} (hW : Wf sh R) (hR : rTab R) (hT : aTn T) (hy : a ≤ y ∧ y < 20) (hh : 1 ≤ hs ∧ hs ≤ 9) (h15 : I 15 0 = (hs : Int)) (hK : aKn (R 61 4) T a y I) (q : ∀ J : ZI, aSp T a y hs J → (∀ o b, ¬ (66 ≤ o ∧ o ≤ 74) → J o b = I o b) → Q J) : XV d 77 [.inr 61, .inl (a : Int), .inl (y : Int)] n sh R I Q :=
  b_A_splitUpTo_0 hW (l_A_2 hW hR hy.2 hK (fun J u4 u5 u6 j1 j2 => l_A_31 hW hR hT hy.2 hh hy.1 h15 hK q (hs - 1) 0 J u4 u5 u6 (by omega) j1 j2) (y + 1 - a) a I _ _ _ (by omega) (Nat.le_refl a) (fun z h1 h2 => absurd h2 (by omega)) fun _ _ _ => rfl)
/-- the least number of holes that costs least -/
def aFw (s : Nat → Int) (m b : Nat) : Prop := b < m ∧ (∀ j, j < m → s b ≤ s j) ∧ ∀ j, j < b → s b < s j
theorem l_A_fw {Q : Int → ZI → Prop} {x : Nat} {s : Nat → Int} {I : ZI} (hW : Wf sh R) (hx : x < 20) (hh : 1 ≤ hs ∧ hs ≤ 9) (h15 : I 15 0 = (hs : Int)) (hS : ∀ j, j < hs → I (64 + 1 + (j + 1)) x = s j) (q : ∀ b : Nat, aFw s hs b → Q ((b + 1 : Nat) : Int) I) : ∀ (c m b : Nat), m + 1 + c = hs → aFw s (m + 1) b → XIs d 78 4 [some (.inr 61), some (.inl (x : Int)), some (.inl ((b + 1 : Nat) : Int)), some (.inl ((m + 2 : Nat) : Int))] [] n sh R I Q
  | 0, m, b, h, hb => b_A_fewestHoles_4 hW (by
    rw [h15, if_pos (by omega)]
    obtain rfl : m + 1 = hs := by omega
    exact q b hb)
  | c + 1, m, b, h, hb => b_A_fewestHoles_4 hW (by
    have hb1 := hb.1
    rw [h15, if_neg (by omega), Int.toNat_natCast, Int.toNat_natCast, Int.toNat_natCast, hS b (by omega), hS (m + 1) (by omega), show ((m + 2 : Nat) : Int) + 1 = ((m + 1 + 2 : Nat) : Int) by omega]
    refine ⟨by omega, by omega, by omega, ?_⟩
    by_cases g1 : s b ≤ s (m + 1)
    · rw [if_pos g1]
      refine ⟨by unfold zr; omega, l_A_fw hW hx hh h15 hS q c (m + 1) b (by omega) ⟨by omega, fun j hj => ?_, hb.2.2⟩⟩
      by_cases e : j = m + 1
      · rw [e]; exact g1
      · exact hb.2.1 j (by omega)
    · rw [if_neg g1]
      refine ⟨by unfold zr; omega, l_A_fw hW hx hh h15 hS q c (m + 1) (m + 1) (by omega) ⟨by omega, fun j hj => ?_, fun j hj => ?_⟩⟩
      · by_cases e : j = m + 1
        · rw [e]; exact Int.le_refl _
        · have := hb.2.1 j (by omega); omega
      · have := hb.2.1 j (by omega); omega)
theorem s_A_fewestHoles {Q : Int → ZI → Prop} {x : Nat} {s : Nat → Int} {I : ZI} (hW : Wf sh R) (hx : x < 20) (hh : 1 ≤ hs ∧ hs ≤ 9) (h15 : I 15 0 = (hs : Int)) (hS : ∀ j, j < hs → I (64 + 1 + (j + 1)) x = s j) (q : ∀ b : Nat, aFw s hs b → Q ((b + 1 : Nat) : Int) I) : XI d 78 [.inr 61, .inl (x : Int)] n sh R I Q :=
  b_A_fewestHoles_0 hW (l_A_fw (hs := hs) (s := s) hW hx hh h15 hS q (hs - 1) 0 0 (by omega) ⟨by omega, fun j hj => (by rw [show j = 0 by omega]; exact Int.le_refl _), fun j hj => absurd hj (by omega)⟩)
theorem aFw_B {y x b : Nat} (hb : aFw (fun j => aL (aP T y j x)) hs b) (hT : ∀ x y, x ≤ y → 0 ≤ T x y ∧ T x y ≤ 1000000000) (hx : x ≤ y) : aL (aP T y b x) = aL (aC T y hs x) := aEq fun v => by
  rw [aC_B hT hs x hx]
  constructor
  · intro hv
    refine aL_le.mpr ⟨(aL_le.mp hv).1, aB_le.mpr ⟨by have := (aL_le.mp hv).1; omega, fun j hj => ?_⟩⟩
    have h1 : aL (aP T y b x) ≤ aL (aP T y j x) := hb.2.1 j hj
    exact (aL_le.mp (Int.le_trans hv h1)).2
  · intro hv
    have h1 := aL_le.mp hv
    exact aL_le.mpr ⟨h1.1, (aB_le.mp h1.2).2 b hb.1⟩
theorem s_A_throws {Q : Int → ZI → Prop} {a y x : Nat} {I : ZI} (hW : Wf sh R) (hP : aPN P N) (hT : aTn T) (hx : a ≤ x ∧ x ≤ y ∧ y < 20) (hh : 1 ≤ hs ∧ hs ≤ 9) (hX : aX hs P N I) (hS : aSp T a y hs I) (q : Q (aL (aS (P (y + 1) - P x) (aC T y hs x))) I) : XI (d + 1) 79 [.inr 61, .inl (x : Int), .inl (y : Int)] n sh R I Q :=
  b_A_throwsWith_0 hW (by
    have e2 : ((y : Int) + 1).toNat = y + 1 := by omega
    have p1 := (hX.2 (y + 1) (by omega)).1
    have p2 := (hX.2 x (by omega)).1
    have r1 := hP.2.2.1 (y + 1)
    have r2 := hP.2.2.1 x
    have r3 := aUp hP.1 (show x ≤ y + 1 by omega)
    rw [e2, Int.toNat_natCast, p1, p2]
    refine ⟨by unfold zr; omega, by omega, by omega, by unfold zr; omega, s_A_fewestHoles (s := fun j => aL (aP T y j x)) hW (by omega) hh hX.1 (fun j hj => hS j x hj hx.1 hx.2.1) fun b hb => ?_⟩
    have hb1 := hb.1
    have c1 := (aC_nn (fun x y h => (hT.nn x y h).1) (b := y) hs x)
    have e3 : I (64 + 1 + (b + 1)) x = aL (aC T y hs x) := by rw [hS b x hb1 hx.1 hx.2.1, aFw_B hb hT.nn hx.2.1]
    have c2 : 0 ≤ aL (aC T y hs x) ∧ aL (aC T y hs x) ≤ 1000000 := ⟨aL_le.mpr ⟨by omega, c1.1⟩, (aL_le.mp (Int.le_refl _)).1⟩
    rw [Int.toNat_natCast, e3]
    refine ⟨by omega, by unfold zr; omega, ?_⟩
    have e4 : (if P (y + 1) - P x + aL (aC T y hs x) < 1000000 then P (y + 1) - P x + aL (aC T y hs x) else 1000000) = aL (aS (P (y + 1) - P x) (aC T y hs x)) := aEq fun v => by
      rw [aL_le, aS_le]
      have h1 : aL (aC T y hs x) = 1000000 ∨ aL (aC T y hs x) = aC T y hs x := aMin_or
      have h2 := aL_le.mp (Int.le_refl (aL (aC T y hs x)))
      split <;> omega
    rw [e4]; exact q)
end AC
