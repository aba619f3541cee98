-- SMALL CALLS
theorem zshl_1 {x : Int} (h0 : 0 ≤ x) (h9 : x ≤ 30) : zshl 1 x = 2 ^ x.toNat := by
  have e : x = (x.toNat : Int) := by omega
  rw [e, zshl_eq 1 (by omega), Int.one_mul, Int.toNat_natCast]
  have h1 : (2 : Int) ^ x.toNat ≤ 2 ^ 30 := by
    have := Nat.pow_le_pow_right (n := 2) (by decide) (show x.toNat ≤ 30 by omega)
    have e2 : ((2 ^ x.toNat : Nat) : Int) ≤ ((2 ^ 30 : Nat) : Int) := Int.ofNat_le.mpr this
    simpa using e2
  have h2 : (0 : Int) < 2 ^ x.toNat := Int.pow_pos (by decide)
  exact zw_id (by unfold zr; omega)
section SM
variable {d n t : Nat} {sh : ZS} {R : ZR} {I : ZI} {x1 x2 x3 : Int}
theorem c_rack (hW : Wf sh R) (h : Rel t I R) : XI d 98 [.inr 1, .inl x1, .inl x2] n sh R I (fun v J => XI (d + 1) 150 [.inr 137, .inl x1, .inl x2] n sh R J (fun v2 K => v2 = v ∧ Rel (t + 1) K R)) := by
  refine b_N_rack_0 hW ?_
  by_cases g : 1 ≤ x1 ∧ x1 ≤ 9 ∧ 0 ≤ x2 ∧ x2 < zshl 1 x1
  · rw [if_neg (by omega), if_neg (by omega), if_neg (by omega), if_pos (by omega)]
    refine b_M_rack_0 hW ?_
    rw [if_neg (by omega), if_neg (by omega), if_neg (by omega), if_pos (by omega)]
    refine ⟨rfl, h.up (by omega) (.inr ?_) (.inr ?_) (.inl ?_) (.inr ?_) (.inr ?_) (.inr ?_)⟩
    · intro a k hk; unfold fNow at hk; rw [zup_ne (by omega), zup_ne (by omega), zup_ne (by omega), zup_ne (by omega)]
    · intro a k hk; unfold fKept at hk; rw [zup_ne (by omega), zup_ne (by omega), zup_ne (by omega), zup_ne (by omega)]
    · have e := h.2.2.1
      refine ⟨⟨rfl, g.1, g.2.1⟩, ⟨rfl, g.2.2.1, ?_⟩, e.2.2⟩
      show x2 < 2 ^ x1.toNat
      rw [← zshl_1 (by omega) (by omega)]
      exact g.2.2.2
    · intro a k hk; unfold fTape at hk; rw [zup_ne (by omega), zup_ne (by omega), zup_ne (by omega), zup_ne (by omega)]
    · intro a k hk; unfold fBlame at hk; rw [zup_ne (by omega), zup_ne (by omega), zup_ne (by omega), zup_ne (by omega)]
    · intro a k hk; unfold fLaw at hk; rw [zup_ne (by omega), zup_ne (by omega), zup_ne (by omega), zup_ne (by omega)]
  · (repeat' split) <;> first | (exfalso; omega) | skip
    all_goals
      refine b_M_rack_0 hW ?_
      (repeat' split) <;> first | (exfalso; omega) | exact ⟨rfl, h.fr (by omega) fun _ _ _ => rfl⟩
end SM
