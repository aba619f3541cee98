-- A LETTER MORE
section LE
variable {d n t : Nat} {sh : ZS} {R : ZR} {I : ZI} {x1 x2 x3 : Int}
/-- the cells that a letter more changes -/
def sAdd (I J : ZI) (o : Nat) (x1 x2 x3 : Int) : Prop :=
  (J o 5 = I o 5 + 1 ∧ J o 6 = (if x3 = 0 then I o 6 + 1 else I o 6)) ∧ (J (o + 1) (I o 5).toNat = x1 ∧ J (o + 2) (I o 5).toNat = x2 ∧ J (o + 3) (I o 5).toNat = x3 ∧ J (o + 4) (I o 5).toNat = 9) ∧ (x3 = 0 → J (o + 5) (I o 6).toNat = I o 5) ∧
  ∀ a k, ¬ (a = o ∧ 5 ≤ k ∧ k ≤ 6) → ¬ (o + 1 ≤ a ∧ a ≤ o + 4 ∧ k = (I o 5).toNat) → ¬ (x3 = 0 ∧ a = o + 5 ∧ k = (I o 6).toNat) → J a k = I a k
theorem s_S_add {Q : Int → ZI → Prop} (hW : Wf sh R) {o : Nat} (hO : St sh R o) (h5 : 0 ≤ I o 5 ∧ I o 5 < 32) (h6 : 0 ≤ I o 6 ∧ I o 6 < 32) (q : ∀ J, sAdd I J o x1 x2 x3 → Q (I o 5) J) : XI (d + 1) 63 [.inr o, .inl x1, .inl x2, .inl x3] n sh R I Q := by
  refine b_S_add_0 hW hO ?_
  rw [if_pos h5.2]
  refine ⟨h5, ?_⟩
  rw [zup_ne (by omega), zup_ne (by omega), zup_ne (by omega), zup_ne (by omega)]
  refine ⟨by unfold zr; omega, ?_⟩
  by_cases g : x3 = 0
  · rw [if_neg (not_not_intro g)]
    have e6 : (zup (zup (zup (zup (zup I (o + 1) (I o 5).toNat x1) (o + 2) (I o 5).toNat x2) (o + 3) (I o 5).toNat x3) (o + 4) (I o 5).toNat 9) o 5 (I o 5 + 1)) o 6 = I o 6 := by
      rw [zup_ne (by omega), zup_ne (by omega), zup_ne (by omega), zup_ne (by omega), zup_ne (by omega)]
    rw [e6]
    rw [if_neg (by omega)]
    refine ⟨h6, ?_⟩
    rw [zup_ne (by omega), e6]
    refine ⟨by unfold zr; omega, q _ ⟨⟨?_, ?_⟩, ⟨?_, ?_, ?_, ?_⟩, fun _ => ?_, fun a k h1 h2 h3 => ?_⟩⟩
    · rw [zup_ne (by omega), zup_ne (by omega), zup_eq (by omega)]
    · rw [zup_eq (by omega), if_pos g]
    · rw [zup_ne (by omega), zup_ne (by omega), zup_ne (by omega), zup_ne (by omega), zup_ne (by omega), zup_ne (by omega), zup_eq (by omega)]
    · rw [zup_ne (by omega), zup_ne (by omega), zup_ne (by omega), zup_ne (by omega), zup_ne (by omega), zup_eq (by omega)]
    · rw [zup_ne (by omega), zup_ne (by omega), zup_ne (by omega), zup_ne (by omega), zup_eq (by omega)]
    · rw [zup_ne (by omega), zup_ne (by omega), zup_ne (by omega), zup_eq (by omega)]
    · rw [zup_ne (by omega), zup_eq (by omega)]
    · rw [zup_ne (by omega), zup_ne (by omega), zup_ne (by omega), zup_ne (by omega), zup_ne (by omega), zup_ne (by omega), zup_ne (by omega)]
  · rw [if_pos g]
    refine q _ ⟨⟨?_, ?_⟩, ⟨?_, ?_, ?_, ?_⟩, fun c => absurd c g, fun a k h1 h2 h3 => ?_⟩
    · rw [zup_eq (by omega)]
    · rw [zup_ne (by omega), zup_ne (by omega), zup_ne (by omega), zup_ne (by omega), zup_ne (by omega), if_neg g]
    · rw [zup_ne (by omega), zup_ne (by omega), zup_ne (by omega), zup_ne (by omega), zup_eq (by omega)]
    · rw [zup_ne (by omega), zup_ne (by omega), zup_ne (by omega), zup_eq (by omega)]
    · rw [zup_ne (by omega), zup_ne (by omega), zup_eq (by omega)]
    · rw [zup_ne (by omega), zup_eq (by omega)]
    · rw [zup_ne (by omega), zup_ne (by omega), zup_ne (by omega), zup_ne (by omega), zup_ne (by omega)]
end LE
