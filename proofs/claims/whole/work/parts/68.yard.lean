-- the least row: the class settles it, the model searches it
def dL0 (pp : Int) : Nat → Int := fun h => if wPi pp h = true then 20 else -1
section YS
variable {d n t : Nat} {sh : ZS} {R : ZR} {B : ZI} {lw S : Nat} {H : List Int} {g : Int} {LA : Nat → Int} {hs m : Nat} {pp : Int} {K : Nat → Int}
theorem l_Y_set62 {Q : Int → ZI → Prop} {p cc : Nat} {L : Nat → Int} (hW : Wf sh R) (hh : 1 ≤ hs ∧ hs ≤ 9) (hm : m ≤ 10) (hK : ∀ q, q < m → 0 ≤ K q ∧ K q < 20) (hp : p + cc + 1 = m) {I0 : ZI}
    (yes : ∀ (h : Nat) (J : ZI) (u5 : Option AV), h < hs → dOk hs pp K cc p L h → (∀ j, j < h → ¬ dOk hs pp K cc p L j) → dY hs m pp K (dPut L h (K p)) J → J 120 p = (h : Int) → (∀ a b, ¬ a = 118 → ¬ (a = 120 ∧ b = p) → J a b = I0 a b) → XIs (d + 2 * cc + 3) 90 47 [some (.inr 117), some (.inr 14), some (.inl (m : Int)), some (.inl 1), some (.inl ((p + 1 : Nat) : Int)), u5] [] n sh R J Q)
    (no : ∀ (J : ZI) (u5 : Option AV), (∀ j, j < hs → ¬ dOk hs pp K cc p L j) → (∀ a b, ¬ a = 118 → ¬ (a = 120 ∧ b = p) → J a b = I0 a b) → XIs (d + 2 * cc + 3) 90 47 [some (.inr 117), some (.inr 14), some (.inl (m : Int)), some (.inl 0), some (.inl ((p + 1 : Nat) : Int)), u5] [] n sh R J Q) : ∀ (c j : Nat) (I : ZI), j + c = hs → dY hs m pp K L I → (∀ x, x < j → ¬ dOk hs pp K cc p L x) → (j = 0 ∨ I 120 p = (j : Int) - 1) → (∀ a b, ¬ (a = 120 ∧ b = p) → I a b = I0 a b) → XIs (d + 2 * cc + 3) 90 62 [some (.inr 117), some (.inr 14), some (.inl (m : Int)), some (.inl 0), some (.inl (p : Int)), some (.inl (j : Int))] [] n sh R I Q
  | 0, j, I, h, y, hn, h0, hf => b_Y_settle_62 hW (by
    obtain rfl : j = hs := by omega
    rw [y.1.1, if_pos (by omega), Int.toNat_natCast, show (p : Int) + 1 = ((p + 1 : Nat) : Int) by omega]
    exact ⟨by omega, by omega, by omega, by unfold zr; omega, no _ _ hn fun a b h1 h2 => by rw [zup_ne (by omega)]; exact hf a b h2⟩)
  | c + 1, j, I, h, y, hn, h0, hf => b_Y_settle_62 hW (by
    rw [y.1.1, if_neg (by omega), if_neg (by decide)]
    refine s_Y_into (d := d + 2 * cc) (c := cc) (m := m) (L := L) hW hh.2 (by omega) hK (by omega) (show j < hs by omega) y (fun M J P yM hP => s_Y_canPut hW hh.2 (by omega) hK cc (p + 1) M J P (by omega) yM hP) fun v hv => ?_
    rw [Int.toNat_natCast, show (j : Int) + 1 = ((j + 1 : Nat) : Int) by omega]
    refine ⟨by omega, by unfold zr; omega, ?_⟩
    rcases hv with ⟨rfl, hv⟩ | ⟨rfl, hv⟩
    · have e : XIs (d + 2 * cc + 3) 90 47 [some (.inr 117), some (.inr 14), some (.inl (m : Int)), some (.inl 1), some (.inl ((p + 1 : Nat) : Int)), some (.inl ((j + 1 : Nat) : Int))] [] n sh R (zup (zup I 120 p (j : Int)) 118 j (K p)) Q :=
        yes j _ _ (by omega) hv hn ((y.fr fun a b hab => zup_ne (by omega)).put (hK p (by omega))) (by rw [zup_ne (by omega), zup_eq ⟨rfl, rfl⟩]) fun a b h1 h2 => by rw [zup_ne (by omega), zup_ne (by omega)]; exact hf a b h2
      refine b_Y_settle_62 hW ?_
      have e0 : (zup I 120 p (j : Int)) 15 0 = (hs : Int) := by rw [zup_ne (by omega)]; exact y.1.1
      have e1 : (zup I 120 p (j : Int)) 120 p = (j : Int) := zup_eq ⟨rfl, rfl⟩
      have e2 : (zup I 120 p (j : Int)) 14 p = K p := by rw [zup_ne (by omega)]; exact y.2.1 p (by omega)
      rw [Int.toNat_natCast, e0, e1, e2, Int.toNat_natCast, show (p : Int) + 1 = ((p + 1 : Nat) : Int) by omega]
      by_cases g1 : (hs : Int) ≤ ((j + 1 : Nat) : Int)
      · rw [if_pos g1]; exact ⟨by omega, by omega, by omega, by unfold zr; omega, e⟩
      · rw [if_neg g1, if_pos (by decide)]; exact ⟨by omega, by omega, by omega, by unfold zr; omega, e⟩
    · refine l_Y_set62 hW hh hm hK hp yes no c (j + 1) _ (by omega) (y.fr fun a b hab => zup_ne (by omega)) (fun x hx => ?_) (.inr ?_) fun a b h1 => by rw [zup_ne (by omega)]; exact hf a b h1
      · by_cases a : x = j
        · rw [a]; exact hv
        · exact hn x (by omega)
      · rw [zup_eq ⟨rfl, rfl⟩]; omega)
theorem l_Y_set47 {Q : Int → ZI → Prop} (hW : Wf sh R) (hh : 1 ≤ hs ∧ hs ≤ 9) (hm : m ≤ 10) (hK : ∀ q, q < m → 0 ≤ K q ∧ K q < 20) : ∀ (c p : Nat) (L : Nat → Int) (I : ZI) (u5 : Option AV), p + c = m → dY hs m pp K L I → dFe hs pp K c p L → (∀ J : ZI, dLR hs pp K c p L (J 120) → (∀ a b, ¬ a = 118 → ¬ (a = 120 ∧ p ≤ b) → J a b = I a b) → Q 1 J) → XIs (d + 23) 90 47 [some (.inr 117), some (.inr 14), some (.inl (m : Int)), some (.inl 1), some (.inl (p : Int)), u5] [] n sh R I Q
  | 0, p, L, I, u5, h, y, hf, q => b_Y_settle_47 hW (by
    rw [if_pos (by omega)]
    exact ⟨.inr rfl, q I trivial fun _ _ _ _ => rfl⟩)
  | c + 1, p, L, I, u5, h, y, hf, q => b_Y_settle_47 hW (by
    rw [if_neg (by omega), if_neg (by decide)]
    have dd : d + 23 = (d + 20 - 2 * c) + 2 * c + 3 := by omega
    have dd2 : (d + 20 - 2 * c) + 2 * c + 3 = d + 23 := dd.symm
    rw [dd]
    refine l_Y_set62 (d := d + 20 - 2 * c) (cc := c) (L := L) (I0 := I) hW hh hm hK (by omega) (fun h J u5 h1 h2 h3 h4 h5 h6 => ?_) (fun J u5 h1 _ => ?_) hs 0 I (by omega) y (fun x hx => absurd hx (by omega)) (.inl rfl) fun _ _ _ => rfl
    · rw [dd2]
      refine l_Y_set47 hW hh hm hK c (p + 1) (dPut L h (K p)) J u5 (by omega) h4 h2.2 fun J2 j1 j2 => q J2 ⟨h, ?_, h1, h2, h3, j1⟩ fun a b g1 g2 => ?_
      · rw [j2 120 p (by omega) (by omega)]; exact h5
      · rw [j2 a b g1 (by omega)]; exact h6 a b g1 (by omega)
    · obtain ⟨h, a, b, x⟩ := hf
      exact absurd ⟨b, x⟩ (h1 h a))
theorem s_Y_settle {I : ZI} {Q : Int → ZI → Prop} (hW : Wf sh R) (hh : 1 ≤ hs ∧ hs ≤ 9) (hm : 1 ≤ m ∧ m ≤ 10) (hK : ∀ q, q < m → 0 ≤ K q ∧ K q < 20) (h0 : I 15 0 = (hs : Int)) (h1 : I 15 1 = pp) (h14 : ∀ q, q < m → I 14 q = K q) (q : ∀ (v : Int) (J : ZI), (v = 1 ∧ dFe hs pp K m 0 (dL0 pp) ∧ dLR hs pp K m 0 (dL0 pp) (J 120)) ∨ (v = 0 ∧ ¬ dFe hs pp K m 0 (dL0 pp)) → (∀ a b, ¬ a = 118 → ¬ a = 120 → J a b = I a b) → Q v J) : XI (d + 23) 90 [.inr 117, .inr 14, .inl (m : Int)] n sh R I Q := by
  -- the loop that empties the holes keeps all but 118: said once more with its frame
  have top : ∀ (c j : Nat) (J : ZI) (u4 u5 : Option AV), j + c = hs → (∀ h, h < j → J 118 h = dL0 pp h) → (∀ a b, ¬ a = 118 → J a b = I a b) → XIs (d + 23) 90 2 [some (.inr 117), some (.inr 14), some (.inl (m : Int)), some (.inl (j : Int)), u4, u5] [] n sh R J Q := by
    intro c
    induction c with
    | zero =>
      intro j J u4 u5 hj h8 hf
      refine b_Y_settle_2 hW ?_
      obtain rfl : j = hs := by omega
      rw [hf 15 0 (by omega), h0, if_pos (by omega)]
      have y : dY j m pp K (dL0 pp) J := ⟨⟨by rw [hf _ _ (by omega)]; exact h0, by rw [hf _ _ (by omega)]; exact h1⟩, fun x hx => by rw [hf _ _ (by omega)]; exact h14 x hx, fun x hx => ⟨h8 x hx, by unfold dL0; split <;> omega⟩⟩
      by_cases fe : dFe j pp K m 0 (dL0 pp)
      · refine l_Y_set47 hW hh hm.2 hK m 0 (dL0 pp) J u5 (by omega) y fe fun J2 k1 k2 => q 1 J2 (.inl ⟨rfl, fe, k1⟩) fun a b g1 g2 => ?_
        rw [k2 a b g1 (by omega)]; exact hf a b g1
      · refine b_Y_settle_47 hW ?_
        obtain ⟨c, rfl⟩ : ∃ c, m = c + 1 := ⟨m - 1, by omega⟩
        rw [if_neg (by omega), if_neg (by decide)]
        rw [show d + 23 = (d + 20 - 2 * c) + 2 * c + 3 by omega]
        refine l_Y_set62 (d := d + 20 - 2 * c) (cc := c) (p := 0) (L := dL0 pp) (I0 := J) hW hh hm.2 hK (by omega) (fun h J2 u5 g1 g2 g3 g4 g5 g6 => ?_) (fun J2 u5 g1 g2 => ?_) j 0 J (by omega) y (fun x hx => absurd hx (by omega)) (.inl rfl) fun _ _ _ => rfl
        · exact absurd ⟨h, g1, g2.1, g2.2⟩ fe
        · refine b_Y_settle_47 hW ?_
          have e : ((0 : Int) = 0 ∨ (0 : Int) = 1) ∧ Q 0 J2 := ⟨.inl rfl, q 0 J2 (.inr ⟨rfl, fe⟩) fun a b x1 x2 => by rw [g2 a b x1 (by omega)]; exact hf a b x1⟩
          split
          · exact e
          · rw [if_pos rfl]; exact e
    | succ c ih =>
      intro j J u4 u5 hj h8 hf
      refine b_Y_settle_2 hW ?_
      rw [hf 15 0 (by omega), h0, if_neg (by omega), if_neg (by omega), hf 15 1 (by omega), h1, Int.toNat_natCast, show (j : Int) + 1 = ((j + 1 : Nat) : Int) by omega]
      have nx : ∀ v : Int, v = dL0 pp j → XIs (d + 23) 90 2 [some (.inr 117), some (.inr 14), some (.inl (m : Int)), some (.inl ((j + 1 : Nat) : Int)), u4, u5] [] n sh R (zup J 118 j v) Q := fun v hv => by
        refine ih (j + 1) _ u4 u5 (by omega) (fun x hx => ?_) fun a b hab => by rw [zup_ne (by omega)]; exact hf a b hab
        by_cases a : x = j
        · rw [zup_eq ⟨rfl, a⟩, hv, a]
        · rw [zup_ne (by omega)]; exact h8 x (by omega)
      unfold dL0 at nx
      by_cases g1 : wPi pp j = true
      · rw [if_neg (fun c => wPi_0.mp c g1)]
        exact ⟨by omega, by unfold zr; omega, nx _ (by rw [if_pos g1])⟩
      · rw [if_pos (wPi_0.mpr g1)]
        exact ⟨by omega, by unfold zr; omega, nx _ (by rw [if_neg g1])⟩
  exact b_Y_settle_0 hW (top hs 0 I none none (by omega) (fun x hx => absurd hx (by omega)) fun _ _ _ => rfl)
end YS
