-- THE TAPE
/-- the i-th byte of an int, from the highest -/
def pB (x : Int) (i : Nat) : Int := zand (zshr x ((24 - 8 * i : Nat) : Int)) 255
def pPut (T : Nat → Int) (s : Nat) (x : Int) : Nat → Int := fun k => if s ≤ k ∧ k < s + 4 then pB x (k - s) else T k
def pPutM (T : Nat → Int) (s : Nat) (x : Int) : Nat → Int := fun k => if s ≤ k ∧ k < s + 4 then zi2b (pB x (k - s)) else T k
def tAg (T TM : Nat → Int) : Prop := ∀ k, k < 220 → TM k = zi2b (T k) ∧ 0 ≤ T k ∧ T k < 256
theorem pB_range (x : Int) (i : Nat) : 0 ≤ pB x i ∧ pB x i < 256 := by
  unfold pB
  rw [zand_255]
  exact ⟨Int.emod_nonneg _ (by decide), Int.emod_lt_of_pos _ (by decide)⟩
theorem tAg.put {T TM : Nat → Int} (h : tAg T TM) (s : Nat) (x : Int) : tAg (pPut T s x) (pPutM TM s x) := fun k hk => by
  unfold pPut pPutM
  by_cases g : s ≤ k ∧ k < s + 4
  · rw [if_pos g, if_pos g]; exact ⟨rfl, pB_range _ _⟩
  · rw [if_neg g, if_neg g]; exact h k hk
theorem zi2b_2 (y : Int) : zi2b (zi2b y) = zi2b (zand y 255) := by
  rw [zi2b_eq, zi2b_eq, zi2b_eq, zand_255]; omega
section TA
variable {d n t : Nat} {sh : ZS} {R : ZR} {I : ZI} {x1 x2 x3 x4 x5 : Int}
theorem s_T_append {Q : ZI → Prop} (hW : Wf sh R) (h : 0 ≤ I 2 1 ∧ I 2 1 + 4 ≤ 220) (q : ∀ J, J 3 = pPut (I 3) (I 2 1).toNat x1 → J 2 1 = I 2 1 + 4 → (∀ a k, ¬ a = 3 → ¬ (a = 2 ∧ k = 1) → J a k = I a k) → Q J) : XV d 83 [.inr 2, .inl x1] n sh R I Q := by
  obtain ⟨s, hs⟩ : ∃ s : Nat, I 2 1 = s := ⟨(I 2 1).toNat, by omega⟩
  refine b_T_append_0 hW (b_T_append_3 hW ?_)
  rw [if_neg (by omega), if_neg (by omega)]
  refine ⟨by omega, by unfold zr; omega, by unfold zr; omega, b_T_append_3 hW ?_⟩
  rw [zup_eq (o := 2) (k := 1) (by omega)]
  rw [if_neg (by omega), if_neg (by omega)]
  refine ⟨by omega, by unfold zr; omega, by unfold zr; omega, b_T_append_3 hW ?_⟩
  rw [zup_eq (o := 2) (k := 1) (by omega)]
  rw [if_neg (by omega), if_neg (by omega)]
  refine ⟨by omega, by unfold zr; omega, by unfold zr; omega, b_T_append_3 hW ?_⟩
  rw [zup_eq (o := 2) (k := 1) (by omega)]
  rw [if_neg (by omega), if_neg (by omega)]
  refine ⟨by omega, by unfold zr; omega, by unfold zr; omega, b_T_append_3 hW ?_⟩
  rw [if_pos (by omega)]
  refine q _ ?_ ?_ ?_
  · funext k
    rw [hs]
    unfold pPut
    by_cases g : s ≤ k ∧ k < s + 4
    · rw [if_pos (by omega)]
      by_cases e0 : k = s
      · rw [zup_ne (by omega), zup_ne (by omega), zup_ne (by omega), zup_ne (by omega), zup_ne (by omega), zup_ne (by omega), zup_ne (by omega), zup_eq (by omega)]
        rw [show k - (s : Int).toNat = 0 by omega]; rfl
      by_cases e1 : k = s + 1
      · rw [zup_ne (by omega), zup_ne (by omega), zup_ne (by omega), zup_ne (by omega), zup_ne (by omega), zup_eq (by omega)]
        rw [show k - (s : Int).toNat = 1 by omega]; rfl
      by_cases e2 : k = s + 2
      · rw [zup_ne (by omega), zup_ne (by omega), zup_ne (by omega), zup_eq (by omega)]
        rw [show k - (s : Int).toNat = 2 by omega]; rfl
      · rw [zup_ne (by omega), zup_eq (by omega)]
        rw [show k - (s : Int).toNat = 3 by omega]; rfl
    · rw [if_neg (by omega)]
      repeat rw [zup_ne (by omega)]
  · rw [zup_eq (by omega)]; omega
  · intro a k h1 h2
    repeat rw [zup_ne (by omega)]
theorem s_M_types {Q : ZI → Prop} (hW : Wf sh R) (h : 0 ≤ I 137 13 ∧ I 137 13 + 4 ≤ 220) (q : ∀ J, J 144 = pPutM (I 144) (I 137 13).toNat x1 → J 137 13 = I 137 13 + 4 → (∀ a k, ¬ a = 144 → ¬ (a = 137 ∧ k = 13) → J a k = I a k) → Q J) : XV d 152 [.inr 137, .inl x1] n sh R I Q := by
  obtain ⟨s, hs⟩ : ∃ s : Nat, I 137 13 = s := ⟨(I 137 13).toNat, by omega⟩
  refine b_M_types_0 hW (b_M_types_2 hW ?_)
  rw [if_neg (by omega)]
  refine ⟨by unfold zr; omega, by omega, by unfold zr; omega, by unfold zr; omega, b_M_types_2 hW ?_⟩
  rw [zup_eq (o := 137) (k := 13) (by omega)]
  rw [if_neg (by omega)]
  refine ⟨by unfold zr; omega, by omega, by unfold zr; omega, by unfold zr; omega, b_M_types_2 hW ?_⟩
  rw [zup_eq (o := 137) (k := 13) (by omega)]
  rw [if_neg (by omega)]
  refine ⟨by unfold zr; omega, by omega, by unfold zr; omega, by unfold zr; omega, b_M_types_2 hW ?_⟩
  rw [zup_eq (o := 137) (k := 13) (by omega)]
  rw [if_neg (by omega)]
  refine ⟨by unfold zr; omega, by omega, by unfold zr; omega, by unfold zr; omega, b_M_types_2 hW ?_⟩
  rw [if_pos (by omega)]
  refine q _ ?_ ?_ ?_
  · funext k
    rw [hs]
    unfold pPutM
    by_cases g : s ≤ k ∧ k < s + 4
    · rw [if_pos (by omega)]
      by_cases e0 : k = s
      · rw [zup_ne (by omega), zup_ne (by omega), zup_ne (by omega), zup_ne (by omega), zup_ne (by omega), zup_ne (by omega), zup_ne (by omega), zup_eq (by omega)]
        rw [show k - (s : Int).toNat = 0 by omega, zi2b_2]; rfl
      by_cases e1 : k = s + 1
      · rw [zup_ne (by omega), zup_ne (by omega), zup_ne (by omega), zup_ne (by omega), zup_ne (by omega), zup_eq (by omega)]
        rw [show k - (s : Int).toNat = 1 by omega, zi2b_2]; rfl
      by_cases e2 : k = s + 2
      · rw [zup_ne (by omega), zup_ne (by omega), zup_ne (by omega), zup_eq (by omega)]
        rw [show k - (s : Int).toNat = 2 by omega, zi2b_2]; rfl
      · rw [zup_ne (by omega), zup_eq (by omega)]
        rw [show k - (s : Int).toNat = 3 by omega, zi2b_2]; rfl
    · rw [if_neg (by omega)]
      repeat rw [zup_ne (by omega)]
  · rw [zup_eq (by omega)]; omega
  · intro a k h1 h2
    repeat rw [zup_ne (by omega)]
end TA
