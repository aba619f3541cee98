-- WHICH CLAUSE HOLDS: the class's way and the model's
theorem lStep_congr {c : Int} {fa fb : Nat → Int} (h : ∀ k, k < 8 → fa k = fb k) (p : Nat) (s : List Int) : lStep c fa p s = lStep c fb p s := by
  unfold lStep
  dsimp only
  by_cases h0 : c / 1048576 = 0
  · rw [if_pos h0, if_pos h0]
  rw [if_neg h0, if_neg h0]
  by_cases h1 : c / 1048576 = 1
  · rw [if_pos h1, if_pos h1]
    by_cases g : c % 1048576 < 8
    · rw [if_pos g, if_pos g, h _ (by omega)]
    · rw [if_neg g, if_neg g]
  rw [if_neg h1, if_neg h1]
theorem lGo_congr {cd fa fb : Nat → Int} (h : ∀ k, k < 8 → fa k = fb k) (q : Nat) : ∀ (f p : Nat) (s : List Int), lGo cd fa q f p s = lGo cd fb q f p s
  | 0, p, s => rfl
  | f + 1, p, s => by
    unfold lGo
    rw [lStep_congr h p s]
    by_cases e : p = q
    · rw [if_pos e, if_pos e]
    rw [if_neg e, if_neg e]
    cases lStep (cd p) fb p s with
    | none => rfl
    | some w =>
      cases w with
      | none => rfl
      | some z =>
        obtain ⟨p2, s2⟩ := z
        dsimp only
        by_cases g : p < p2 ∧ p2 ≤ q
        · rw [if_pos g, if_pos g]; exact lGo_congr h q f p2 s2
        · rw [if_neg g, if_neg g]
theorem lVal_congr {cd fa fb : Nat → Int} (h : ∀ k, k < 8 → fa k = fb k) (p q : Nat) : lVal cd fa p q = lVal cd fb p q := by
  rw [lVal_eq, lVal_eq, lGo_congr h]
theorem IsE.ok {cd : Nat → Int} {p q : Nat} (h : IsE cd p q) (fa : Nat → Int) : lOk cd fa p q := h.2 fa []
theorem IsC.ok {cd : Nat → Int} {p q : Nat} (h : IsC cd p q) (fa : Nat → Int) : lOk cd fa p q ∧ (lVal cd fa p q = 0 ∨ lVal cd fa p q = 1) := by
  rw [lVal_eq]
  unfold lOk
  rcases h.2 fa [] with e | ⟨x, e, g⟩
  · rw [e]; exact ⟨.inl rfl, .inl rfl⟩
  · rw [e]; exact ⟨.inr ⟨x, rfl⟩, g⟩
/-- the first clause of a kind that holds, from c on -/
def lFirst (kind : Int) (B : ZI) (fa : Nat → Int) : Nat → Nat → Option Nat
  | 0, _ => none
  | n + 1, c => if B 152 c = kind ∧ lVal (B 151) fa (B 154 c).toNat (B 155 c).toNat = 1 then some c else lFirst kind B fa n (c + 1)
theorem lFirst_congr {kind : Int} {B : ZI} {fa fb : Nat → Int} (h : ∀ k, k < 8 → fa k = fb k) : ∀ n c : Nat, lFirst kind B fa n c = lFirst kind B fb n c
  | 0, _ => rfl
  | n + 1, c => by unfold lFirst; rw [lVal_congr h, lFirst_congr h n (c + 1)]
def lClamp (v high : Int) : Int := if v < 0 then 0 else if high < v then high else v
def lAmO (B : ZI) (fa : Nat → Int) (high : Int) : Option Nat → Int
  | none => 0
  | some c => lClamp (lVal (B 151) fa (B 153 c).toNat (B 154 c).toNat) high
def lAm (B : ZI) (fa : Nat → Int) (kind high : Int) : Int := lAmO B fa high (lFirst kind B fa (B 137 22).toNat 0)
def lOutO : Option Nat → Int
  | none => 0
  | some _ => 1
def lOut (B : ZI) (fa : Nat → Int) : Int := lOutO (lFirst 122 B fa (B 137 22).toNat 0)
theorem lAm_congr {B : ZI} {fa fb : Nat → Int} (h : ∀ k, k < 8 → fa k = fb k) (kind high : Int) : lAm B fa kind high = lAm B fb kind high := by
  unfold lAm
  rw [lFirst_congr h]
  cases lFirst kind B fb (B 137 22).toNat 0 with
  | none => rfl
  | some c => exact congrArg (fun v => lClamp v high) (lVal_congr h _ _)
theorem lOut_congr {B : ZI} {fa fb : Nat → Int} (h : ∀ k, k < 8 → fa k = fb k) : lOut B fa = lOut B fb := by
  unfold lOut; rw [lFirst_congr h]
theorem lOut_01 (B : ZI) (fa : Nat → Int) : lOut B fa = 0 ∨ lOut B fa = 1 := by
  unfold lOut
  cases lFirst 122 B fa (B 137 22).toNat 0 with
  | none => exact .inl rfl
  | some c => exact .inr rfl
theorem lClamp_range {v high : Int} (h : 0 ≤ high) : 0 ≤ lClamp v high ∧ lClamp v high ≤ high := by
  unfold lClamp
  by_cases g : v < 0
  · rw [if_pos g]; omega
  rw [if_neg g]
  by_cases g2 : high < v
  · rw [if_pos g2]; omega
  · rw [if_neg g2]; omega
theorem lAm_range {B : ZI} {fa : Nat → Int} {kind high : Int} (h : 0 ≤ high) : 0 ≤ lAm B fa kind high ∧ lAm B fa kind high ≤ high := by
  unfold lAm
  cases lFirst kind B fa (B 137 22).toNat 0 with
  | none => exact ⟨Int.le_refl 0, h⟩
  | some c => exact lClamp_range h
def bLaw (B : ZI) (S : Nat) : Prop := (0 ≤ B 137 22 ∧ B 137 22 ≤ 14 ∧ S ≤ 200) ∧ (∀ k, k < S → 0 ≤ B 151 k ∧ B 151 k / 1048576 ≤ 12) ∧ ∀ c : Nat, (c : Int) < B 137 22 → (0 ≤ B 153 c ∧ B 153 c ≤ B 154 c ∧ B 154 c ≤ B 155 c ∧ B 155 c ≤ (S : Int)) ∧ (¬ B 152 c = 122 → IsE (B 151) (B 153 c).toNat (B 154 c).toNat) ∧ IsC (B 151) (B 154 c).toNat (B 155 c).toNat
def cLaw (B I : ZI) (lw S : Nat) : Prop := I lw 7 = B 137 22 ∧ (∀ c : Nat, (c : Int) < B 137 22 → I (lw + 1) c = B 152 c ∧ I (lw + 2) c = B 153 c ∧ I (lw + 3) c = B 154 c ∧ I (lw + 4) c = B 155 c) ∧ cRow I lw (B 151) S
def mLaw (B I : ZI) : Prop := I 137 22 = B 137 22 ∧ I 151 = B 151 ∧ I 152 = B 152 ∧ I 153 = B 153 ∧ I 154 = B 154 ∧ I 155 = B 155
theorem cRow.fr {I J : ZI} {lw q : Nat} {CD : Nat → Int} (h : cRow I lw CD q) (e : ∀ a b, a = lw + 5 ∨ a = lw + 6 → J a b = I a b) : cRow J lw CD q := fun k hk => by
  rw [e _ _ (.inl rfl), e _ _ (.inr rfl)]; exact h k hk
theorem cLaw.fr {B I J : ZI} {lw S : Nat} (h : cLaw B I lw S) (e : ∀ a b, (a = lw ∧ b = 7) ∨ lw + 1 ≤ a ∧ a ≤ lw + 6 → J a b = I a b) : cLaw B J lw S := by
  refine ⟨?_, fun c hc => ?_, h.2.2.fr fun a b hab => e a b (by omega)⟩
  · rw [e _ _ (by omega)]; exact h.1
  · rw [e _ _ (by omega), e _ _ (by omega), e _ _ (by omega), e _ _ (by omega)]; exact h.2.1 c hc
theorem mLaw.fr {B I J : ZI} (h : mLaw B I) (e : ∀ a b, (a = 137 ∧ b = 22) ∨ 151 ≤ a ∧ a ≤ 155 → J a b = I a b) : mLaw B J := by
  have f : ∀ a, 151 ≤ a ∧ a ≤ 155 → J a = I a := fun a ha => funext fun b => e a b (.inr ha)
  unfold mLaw at h ⊢
  rw [f 151 (by omega), f 152 (by omega), f 153 (by omega), f 154 (by omega), f 155 (by omega), e _ _ (.inl ⟨rfl, rfl⟩)]; exact h
section CL
variable {d n t : Nat} {sh : ZS} {R : ZR} {B : ZI} {x1 x2 x3 x4 x5 : Int}
theorem l_W_leavesOut {Q : Int → ZI → Prop} (hW : Wf sh R) {lw S : Nat} (hw : Lw sh R lw) (hlw : lw = 5 ∨ lw = 45) (hB : bLaw B S) {FA : Nat → Int} : ∀ (cnt c : Nat) (I : ZI), ((c + cnt : Nat) : Int) = B 137 22 → cLaw B I lw S → (∀ k, k < 8 → I 43 k = FA k) → (∀ J : ZI, (∀ a b, ¬ a = lw + 7 → J a b = I a b) → Q (lOutO (lFirst 122 B FA cnt c)) J) → XIs (d + 2) 12 2 [some (.inr lw), some (.inr 43), some (.inl (c : Int))] [] n sh R I Q
  | 0, c, I, h, hI, hF, q => b_W_leavesOut_2 hW hw (by rw [hI.1, if_pos (by omega)]; exact q I fun _ _ _ => rfl)
  | cnt + 1, c, I, h, hI, hF, q => b_W_leavesOut_2 hW hw (by
    obtain ⟨i1, i2, i3⟩ := hI
    obtain ⟨r1, r2, r3, r4⟩ := i2 c (by omega)
    obtain ⟨⟨b1, b2, b3, b4⟩, b5, b6⟩ := hB.2.2 c (by omega)
    have m := hB.1
    obtain ⟨ho, hv⟩ := b6.ok FA
    rw [i1, if_neg (by omega), Int.toNat_natCast, r1, r3, r4]
    refine ⟨by omega, ?_⟩
    unfold lFirst at q
    by_cases g : B 152 c = 122
    · rw [if_neg (not_not_intro g)]
      obtain ⟨p, hp⟩ : ∃ p : Nat, B 154 c = p := ⟨(B 154 c).toNat, by omega⟩
      obtain ⟨e, he⟩ : ∃ e : Nat, B 155 c = e := ⟨(B 155 c).toNat, by omega⟩
      rw [hp, he]
      rw [hp, he, Int.toNat_natCast, Int.toNat_natCast] at ho hv q
      refine s_W_run hW hw hlw (by omega) (by omega) (fun k hk => hB.2.1 k (by omega)) (fun k hk => i3 k (by omega)) hF ho fun J hJ => ?_
      rcases hv with v | v
      · rw [v, if_pos rfl]
        rw [v, if_neg (by simp)] at q
        exact ⟨by unfold zr; omega, l_W_leavesOut hW hw hlw hB cnt (c + 1) J (by omega) (cLaw.fr ⟨i1, i2, i3⟩ fun a b hab => hJ a b (by omega)) (fun k hk => by rw [hJ _ _ (by omega)]; exact hF k hk) fun K hK => q K fun a b hab => by rw [hK a b hab, hJ a b hab]⟩
      · rw [v, if_neg (by decide)]
        rw [v, if_pos ⟨g, rfl⟩] at q
        exact q J hJ
    · rw [if_pos g]
      rw [if_neg (fun a => g a.1)] at q
      exact ⟨by unfold zr; omega, l_W_leavesOut hW hw hlw hB cnt (c + 1) I (by omega) ⟨i1, i2, i3⟩ hF q⟩)
theorem l_M_isLeftOut {Q : Int → ZI → Prop} (hW : Wf sh R) {S : Nat} (hB : bLaw B S) {FA : Nat → Int} {u : Option AV} : ∀ (cnt c : Nat) (I : ZI), ((c + cnt : Nat) : Int) = B 137 22 → mLaw B I → I 157 = FA → (∀ J : ZI, (∀ a b, ¬ a = 156 → J a b = I a b) → Q (lOutO (lFirst 122 B FA cnt c)) J) → XIs (d + 2) 179 7 [some (.inr 137), u, some (.inl (c : Int))] [] n sh R I Q
  | 0, c, I, h, hI, hF, q => b_M_isLeftOut_7 hW (by rw [hI.1, if_pos (by omega)]; exact q I fun _ _ _ => rfl)
  | cnt + 1, c, I, h, hI, hF, q => b_M_isLeftOut_7 hW (by
    obtain ⟨i1, i2, i3, i4, i5, i6⟩ := id hI
    obtain ⟨⟨b1, b2, b3, b4⟩, b5, b6⟩ := hB.2.2 c (by omega)
    have m := hB.1
    obtain ⟨ho, hv⟩ := b6.ok FA
    rw [i1, if_neg (by omega), Int.toNat_natCast, i3, i5, i6]
    refine ⟨by omega, ?_⟩
    unfold lFirst at q
    by_cases g : B 152 c = 122
    · rw [if_neg (not_not_intro g)]
      obtain ⟨p, hp⟩ : ∃ p : Nat, B 154 c = p := ⟨(B 154 c).toNat, by omega⟩
      obtain ⟨e, he⟩ : ∃ e : Nat, B 155 c = e := ⟨(B 155 c).toNat, by omega⟩
      rw [hp, he]
      rw [hp, he, Int.toNat_natCast, Int.toNat_natCast] at ho hv q
      refine s_M_comesTo hW (by omega) (by omega) (fun k hk => hB.2.1 k (by omega)) i2 hF ho fun J hJ => ?_
      rcases hv with v | v
      · rw [v, if_pos (by decide)]
        rw [v, if_neg (by simp)] at q
        exact ⟨by unfold zr; omega, l_M_isLeftOut hW hB cnt (c + 1) J (by omega) (hI.fr fun a b hab => hJ a b (by omega)) (by rw [← hF]; exact funext fun k => hJ _ _ (by omega)) fun K hK => q K fun a b hab => by rw [hK a b hab, hJ a b hab]⟩
      · rw [v, if_neg (by decide)]
        rw [v, if_pos ⟨g, rfl⟩] at q
        exact q J hJ
    · rw [if_pos g]
      rw [if_neg (fun a => g a.1)] at q
      exact ⟨by unfold zr; omega, l_M_isLeftOut hW hB cnt (c + 1) I (by omega) hI hF q⟩)
theorem l_W_amount {Q : Int → ZI → Prop} (hW : Wf sh R) {lw S : Nat} (hw : Lw sh R lw) (hlw : lw = 5 ∨ lw = 45) (hB : bLaw B S) {FA : Nat → Int} {kind high : Int} (hk : ¬ kind = 122) (hh : 0 ≤ high) : ∀ (cnt c : Nat) (I : ZI), ((c + cnt : Nat) : Int) = B 137 22 → cLaw B I lw S → (∀ k, k < 8 → I 43 k = FA k) → (∀ J : ZI, (∀ a b, ¬ a = lw + 7 → J a b = I a b) → Q (lAmO B FA high (lFirst kind B FA cnt c)) J) → XIs (d + 2) 13 3 [some (.inr lw), some (.inl kind), some (.inr 43), some (.inl high), some (.inl (c : Int))] [] n sh R I Q
  | 0, c, I, h, hI, hF, q => b_W_amount_3 hW hw (by rw [hI.1, if_pos (by omega)]; exact q I fun _ _ _ => rfl)
  | cnt + 1, c, I, h, hI, hF, q => b_W_amount_3 hW hw (by
    obtain ⟨i1, i2, i3⟩ := hI
    obtain ⟨r1, r2, r3, r4⟩ := i2 c (by omega)
    obtain ⟨⟨b1, b2, b3, b4⟩, b5, b6⟩ := hB.2.2 c (by omega)
    have m := hB.1
    obtain ⟨ho, hv⟩ := b6.ok FA
    rw [i1, if_neg (by omega), Int.toNat_natCast, r1, r3, r4]
    refine ⟨by omega, ?_⟩
    unfold lFirst at q
    by_cases g : B 152 c = kind
    · rw [if_neg (not_not_intro g)]
      obtain ⟨s, hs⟩ : ∃ s : Nat, B 153 c = s := ⟨(B 153 c).toNat, by omega⟩
      obtain ⟨p, hp⟩ : ∃ p : Nat, B 154 c = p := ⟨(B 154 c).toNat, by omega⟩
      obtain ⟨e, he⟩ : ∃ e : Nat, B 155 c = e := ⟨(B 155 c).toNat, by omega⟩
      have b5' := (b5 (by omega)).ok FA
      rw [hp, he]
      rw [hp, he, Int.toNat_natCast, Int.toNat_natCast] at ho hv q
      rw [hs, hp, Int.toNat_natCast, Int.toNat_natCast] at b5'
      refine s_W_run hW hw hlw (by omega) (by omega) (fun k hk => hB.2.1 k (by omega)) (fun k hk => i3 k (by omega)) hF ho fun J hJ => ?_
      have hJ3 := cLaw.fr (J := J) ⟨i1, i2, i3⟩ fun a b hab => hJ a b (by omega)
      have hJF : ∀ k, k < 8 → J 43 k = FA k := fun k hk => by rw [hJ _ _ (by omega)]; exact hF k hk
      rcases hv with v | v
      · rw [v, if_pos rfl]
        rw [v, if_neg (by simp)] at q
        exact ⟨by unfold zr; omega, l_W_amount hW hw hlw hB hk hh cnt (c + 1) J (by omega) hJ3 hJF fun K hK => q K fun a b hab => by rw [hK a b hab, hJ a b hab]⟩
      · rw [v, if_neg (by decide)]
        rw [v, if_pos ⟨g, rfl⟩] at q
        rw [(hJ3.2.1 c (by omega)).2.1, (hJ3.2.1 c (by omega)).2.2.1, hs, hp]
        refine s_W_run hW hw hlw (by omega) (by omega) (fun k hk => hB.2.1 k (by omega)) (fun k hk => hJ3.2.2 k (by omega)) hJF b5' fun K hK => ?_
        have q2 : Q (lClamp (lVal (B 151) FA (B 153 c).toNat (B 154 c).toNat) high) K := q K fun a b hab => by rw [hK a b hab, hJ a b hab]
        unfold lClamp at q2
        rw [hs, hp, Int.toNat_natCast, Int.toNat_natCast] at q2
        have fin : ∀ v : Int, Q (if v < 0 then 0 else if high < v then high else v) K → Q (if 0 < (if v < high then v else high) then (if v < high then v else high) else 0) K := fun v q3 => by
          by_cases g4 : v < high
          · rw [if_pos g4]
            by_cases g1 : v < 0
            · rw [if_pos g1] at q3
              rw [if_neg (show ¬ 0 < v by omega)]; exact q3
            rw [if_neg g1, if_neg (show ¬ high < v by omega)] at q3
            by_cases g3 : 0 < v
            · rw [if_pos g3]; exact q3
            · rw [if_neg g3, show (0 : Int) = v by omega]; exact q3
          · rw [if_neg g4]
            rw [if_neg (show ¬ v < 0 by omega)] at q3
            have q4 : Q high K := by
              by_cases g2 : high < v
              · rw [if_pos g2] at q3; exact q3
              · rw [if_neg g2] at q3; rw [show high = v by omega]; exact q3
            by_cases g3 : 0 < high
            · rw [if_pos g3]; exact q4
            · rw [if_neg g3, show (0 : Int) = high by omega]; exact q4
        exact fin _ q2
    · rw [if_pos g]
      rw [if_neg (fun a => g a.1)] at q
      exact ⟨by unfold zr; omega, l_W_amount hW hw hlw hB hk hh cnt (c + 1) I (by omega) ⟨i1, i2, i3⟩ hF q⟩)
theorem l_M_byLaw {Q : Int → ZI → Prop} (hW : Wf sh R) {S : Nat} (hB : bLaw B S) {FA : Nat → Int} {kind high : Int} (hk : ¬ kind = 122) : ∀ (cnt c : Nat) (I : ZI) (u : Option AV), ((c + cnt : Nat) : Int) = B 137 22 → mLaw B I → I 157 = FA → (∀ J : ZI, (∀ a b, ¬ a = 156 → J a b = I a b) → Q (lAmO B FA high (lFirst kind B FA cnt c)) J) → XIs (d + 2) 177 2 [some (.inr 137), some (.inl kind), some (.inl high), some (.inl (c : Int)), u] [] n sh R I Q
  | 0, c, I, u, h, hI, hF, q => b_M_byLaw_2 hW (by rw [hI.1, if_pos (by omega)]; exact q I fun _ _ _ => rfl)
  | cnt + 1, c, I, u, h, hI, hF, q => b_M_byLaw_2 hW (by
    obtain ⟨i1, i2, i3, i4, i5, i6⟩ := id hI
    obtain ⟨⟨b1, b2, b3, b4⟩, b5, b6⟩ := hB.2.2 c (by omega)
    have m := hB.1
    obtain ⟨ho, hv⟩ := b6.ok FA
    rw [i1, if_neg (by omega), Int.toNat_natCast, i3, i5, i6]
    refine ⟨by omega, ?_⟩
    unfold lFirst at q
    by_cases g : B 152 c = kind
    · rw [if_neg (not_not_intro g)]
      obtain ⟨s, hs⟩ : ∃ s : Nat, B 153 c = s := ⟨(B 153 c).toNat, by omega⟩
      obtain ⟨p, hp⟩ : ∃ p : Nat, B 154 c = p := ⟨(B 154 c).toNat, by omega⟩
      obtain ⟨e, he⟩ : ∃ e : Nat, B 155 c = e := ⟨(B 155 c).toNat, by omega⟩
      have b5' := (b5 (by omega)).ok FA
      rw [hp, he]
      rw [hp, he, Int.toNat_natCast, Int.toNat_natCast] at ho hv q
      rw [hs, hp, Int.toNat_natCast, Int.toNat_natCast] at b5'
      refine s_M_comesTo hW (by omega) (by omega) (fun k hk => hB.2.1 k (by omega)) i2 hF ho fun J hJ => ?_
      have hJ3 : mLaw B J := hI.fr fun a b hab => hJ a b (by omega)
      have hJF : J 157 = FA := by rw [← hF]; exact funext fun k => hJ _ _ (by omega)
      rcases hv with v | v
      · rw [v, if_neg (by decide)]
        rw [v, if_neg (by simp)] at q
        exact ⟨by unfold zr; omega, l_M_byLaw hW hB hk cnt (c + 1) J _ (by omega) hJ3 hJF fun K hK => q K fun a b hab => by rw [hK a b hab, hJ a b hab]⟩
      · rw [v, if_pos rfl]
        rw [v, if_pos ⟨g, rfl⟩] at q
        rw [hJ3.2.2.2.1, hJ3.2.2.2.2.1, hs, hp]
        refine s_M_comesTo hW (by omega) (by omega) (fun k hk => hB.2.1 k (by omega)) hJ3.2.1 hJF b5' fun K hK => ?_
        have q2 : Q (lClamp (lVal (B 151) FA (B 153 c).toNat (B 154 c).toNat) high) K := q K fun a b hab => by rw [hK a b hab, hJ a b hab]
        unfold lClamp at q2
        rw [hs, hp, Int.toNat_natCast, Int.toNat_natCast] at q2
        by_cases g1 : lVal (B 151) FA s p < 0
        · rw [if_pos g1] at q2
          rw [if_neg (by omega)]; exact q2
        rw [if_neg g1] at q2
        rw [if_pos (by omega)]
        by_cases g2 : high < lVal (B 151) FA s p
        · rw [if_pos g2] at q2
          rw [if_neg (by omega)]; exact q2
        · rw [if_neg g2] at q2
          rw [if_pos (by omega)]; exact q2
    · rw [if_pos g]
      rw [if_neg (fun a => g a.1)] at q
      exact ⟨by unfold zr; omega, l_M_byLaw hW hB hk cnt (c + 1) I _ (by omega) hI hF q⟩)
end CL
