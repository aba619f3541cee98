-- CALLS that ask or set little
theorem Rel.up {t t2 : Nat} {I J : ZI} {R : ZR} (h : Rel t I R) (ht : t ≤ t2) (e1 : rNow J ∨ ∀ a k, fNow a k → J a k = I a k) (e2 : rKept J ∨ ∀ a k, fKept a k → J a k = I a k) (e3 : rEnv J ∨ ∀ a k, fEnv a k → J a k = I a k) (e4 : rTape J ∨ ∀ a k, fTape a k → J a k = I a k) (e5 : rBlame t2 J ∨ ∀ a k, fBlame a k → J a k = I a k) (e6 : rLaw J R ∨ ∀ a k, fLaw a k → J a k = I a k) : Rel t2 J R :=
  ⟨e1.elim id h.1.fr, e2.elim id h.2.1.fr, e3.elim id h.2.2.1.fr, e4.elim id h.2.2.2.1.fr, e5.elim id (fun e => (h.2.2.2.2.1.fr e).le ht), e6.elim id h.2.2.2.2.2.1.fr, h.2.2.2.2.2.2⟩
theorem zup_eq {I : ZI} {o k : Nat} {v : Int} {a b : Nat} (h : a = o ∧ b = k) : zup I o k v a b = v := if_pos h
theorem zup_ne {I : ZI} {o k : Nat} {v : Int} {a b : Nat} (h : ¬ (a = o ∧ b = k)) : zup I o k v a b = I a b := if_neg h
section CC
variable {d n t : Nat} {sh : ZS} {R : ZR} {I : ZI} {x1 x2 x3 x4 x5 : Int}
theorem c_rank (hW : Wf sh R) (h : Rel t I R) : XI (d + 1) 97 [.inr 1, .inl x1, .inl x2] n sh R I (fun v J => XI (d + 1) 149 [.inr 137, .inl x1, .inl x2] n sh R J (fun v2 K => v2 = v ∧ Rel (t + 1) K R)) := by
  refine b_N_rank_0 hW ?_
  by_cases g : 0 ≤ x1 ∧ x1 < 20 ∧ 0 ≤ x2 ∧ x2 < 20
  · rw [if_neg (by omega), if_neg (by omega), if_neg (by omega), if_neg (by omega)]
    refine ⟨by omega, b_M_rank_0 hW ?_⟩
    rw [if_neg (by omega), if_neg (by omega), if_neg (by omega), if_neg (by omega)]
    refine ⟨by omega, rfl, ?_⟩
    refine h.up (by omega) (.inr ?_) (.inr ?_) (.inl ?_) (.inr ?_) (.inr ?_) (.inr ?_)
    · intro a k hk; unfold fNow at hk; rw [zup_ne (by omega), zup_ne (by omega)]
    · intro a k hk; unfold fKept at hk; rw [zup_ne (by omega), zup_ne (by omega)]
    · have e := h.2.2.1
      refine ⟨?_, ?_, fun k hk => ?_⟩
      · exact e.1
      · exact e.2.1
      · have := e.2.2 k hk
        by_cases q : k = x1.toNat
        · rw [zup_ne (by omega), zup_eq (by omega), zup_eq (by omega)]; omega
        · rw [zup_ne (by omega), zup_ne (by omega), zup_ne (by omega), zup_ne (by omega)]; exact this
    · intro a k hk; unfold fTape at hk; rw [zup_ne (by omega), zup_ne (by omega)]
    · intro a k hk; unfold fBlame at hk; rw [zup_ne (by omega), zup_ne (by omega)]
    · intro a k hk; unfold fLaw at hk; rw [zup_ne (by omega), zup_ne (by omega)]
  · (repeat' split) <;> first | (exfalso; omega) | skip
    all_goals
      refine b_M_rank_0 hW ?_
      (repeat' split) <;> first | (exfalso; omega) | exact ⟨rfl, h.fr (by omega) fun _ _ _ => rfl⟩
theorem c_at (hW : Wf sh R) (h : Rel t I R) : XI d 103 [.inr 1, .inl x1] n sh R I (fun v J => XI d 194 [.inr 137, .inl x1] n sh R J (fun v2 K => v2 = v ∧ Rel (t + 1) K R)) := by
  have e := h.1.1.2.1
  have m := h.1.2.m0
  have od := h.1.1.2.2.2.2
  refine b_N_at_0 hW ?_
  by_cases g : 0 ≤ x1 ∧ x1 < I 18 6
  · rw [if_neg (by omega), if_neg (by omega)]
    refine ⟨by omega, b_M_at_0 hW ?_⟩
    rw [if_neg (by omega), if_neg (by omega)]
    exact ⟨by omega, (od x1.toNat (by omega)).2.2.2.2.symm, h.fr (by omega) fun _ _ _ => rfl⟩
  · (repeat' split) <;> first | (exfalso; omega) | skip
    all_goals
      refine b_M_at_0 hW ?_
      (repeat' split) <;> first | (exfalso; omega) | exact ⟨rfl, h.fr (by omega) fun _ _ _ => rfl⟩
theorem c_seed (hW : Wf sh R) (h : Rel t I R) : XI d 122 [.inr 1, .inl x1] n sh R I (fun v J => XI (d + 1) 241 [.inr 137, .inl x1] n sh R J (fun v2 K => v2 = v ∧ Rel (t + 1) K R)) := by
  refine b_N_seed_0 hW ?_
  by_cases g : 0 ≤ x1 ∧ x1 ≤ 65535
  · rw [if_neg (by omega), if_pos (by omega)]
    refine b_M_seed_0 hW ?_
    rw [if_neg (by omega), if_neg (by omega)]
    refine ⟨rfl, ?_⟩
    refine h.up (by omega) (.inl ?_) (.inr ?_) (.inr ?_) (.inr ?_) (.inr ?_) (.inr ?_)
    · obtain ⟨⟨a1, a2, a3, a4, a5⟩, b1, b2⟩ := h.1
      exact ⟨⟨a1, a2, a3, rfl, a5⟩, ⟨b1.1, b1.2.1, b1.2.2.1, b1.2.2.2.1, g.1, g.2⟩, b2⟩
    · intro a k hk; unfold fKept at hk; rw [zup_ne (by omega), zup_ne (by omega)]
    · intro a k hk; unfold fEnv at hk; rw [zup_ne (by omega), zup_ne (by omega)]
    · intro a k hk; unfold fTape at hk; rw [zup_ne (by omega), zup_ne (by omega)]
    · intro a k hk; unfold fBlame at hk; rw [zup_ne (by omega), zup_ne (by omega)]
    · intro a k hk; unfold fLaw at hk; rw [zup_ne (by omega), zup_ne (by omega)]
  · (repeat' split) <;> first | (exfalso; omega) | skip
    all_goals
      refine b_M_seed_0 hW ?_
      (repeat' split) <;> first | (exfalso; omega) | exact ⟨rfl, h.fr (by omega) fun _ _ _ => rfl⟩
end CC
