-- A LETTER MORE
section LE
variable {d n t : Nat} {sh : ZS} {R : ZR} {I : ZI} {x1 x2 x3 : Int}
/-- the cells that a letter more changes -/
def sAdd (I J : ZI) (o : Nat) (x1 x2 x3 : Int) : Prop :=
  (J o 5 = I o 5 + 1 ∧ J o 6 = (if x3 = 0 then I o 6 + 1 else I o 6)) ∧ (J (o + 1) (I o 5).toNat = x1 ∧ J (o + 2) (I o 5).toNat = x2 ∧ J (o + 3) (I o 5).toNat = x3 ∧ J (o + 4) (I o 5).toNat = 9) ∧ (x3 = 0 → J (o + 5) (I o 6).toNat = I o 5) ∧
  ∀ a k, ¬ (a = o ∧ 5 ≤ k ∧ k ≤ 6) → ¬ (o + 1 ≤ a ∧ a ≤ o + 4 ∧ k = (I o 5).toNat) → ¬ (x3 = 0 ∧ a = o + 5 ∧ k = (I o 6).toNat) → J a k = I a k
theorem s_S_add {Q : Int → ZI → Prop} (hW : Wf sh R) {o : Nat} (hO : St sh R o) (h5 : 0 ≤ I o 5 ∧ I o 5 < 32) (h6 : 0 ≤ I o 6 ∧ I o 6 < 32) (q : ∀ J, sAdd I J o x1 x2 x3 → Q (I o 5) J) : XI (d + 1) 63 [.inr o, .inl x1, .inl x2, .inl x3] n sh R I Q := by
  refine b_S_add_0 hW hO ?_
  rw [if_pos h5.2]
  refine ⟨h5, ?_⟩
  rw [zup_ne (by omega), zup_ne (by omega), zup_ne (by omega), zup_ne (by omega)]
  refine ⟨by unfold zr; omega, ?_⟩
  by_cases g : x3 = 0
  · rw [if_neg (not_not_intro g)]
    have e6 : (zup (zup (zup (zup (zup I (o + 1) (I o 5).toNat x1) (o + 2) (I o 5).toNat x2) (o + 3) (I o 5).toNat x3) (o + 4) (I o 5).toNat 9) o 5 (I o 5 + 1)) o 6 = I o 6 := by
      rw [zup_ne (by omega), zup_ne (by omega), zup_ne (by omega), zup_ne (by omega), zup_ne (by omega)]
    rw [e6]
    rw [if_neg (by omega)]
    refine ⟨h6, ?_⟩
    rw [zup_ne (by omega), e6]
    refine ⟨by unfold zr; omega, q _ ⟨⟨?_, ?_⟩, ⟨?_, ?_, ?_, ?_⟩, fun _ => ?_, fun a k h1 h2 h3 => ?_⟩⟩
    · rw [zup_ne (by omega), zup_ne (by omega), zup_eq (by omega)]
    · rw [zup_eq (by omega), if_pos g]
    · rw [zup_ne (by omega), zup_ne (by omega), zup_ne (by omega), zup_ne (by omega), zup_ne (by omega), zup_ne (by omega), zup_eq (by omega)]
    · rw [zup_ne (by omega), zup_ne (by omega), zup_ne (by omega), zup_ne (by omega), zup_ne (by omega), zup_eq (by omega)]
    · rw [zup_ne (by omega), zup_ne (by omega), zup_ne (by omega), zup_ne (by omega), zup_eq (by omega)]
    · rw [zup_ne (by omega), zup_ne (by omega), zup_ne (by omega), zup_eq (by omega)]
    · rw [zup_ne (by omega), zup_eq (by omega)]
    · rw [zup_ne (by omega), zup_ne (by omega), zup_ne (by omega), zup_ne (by omega), zup_ne (by omega), zup_ne (by omega), zup_ne (by omega)]
  · rw [if_pos g]
    refine q _ ⟨⟨?_, ?_⟩, ⟨?_, ?_, ?_, ?_⟩, fun c => absurd c g, fun a k h1 h2 h3 => ?_⟩
    · rw [zup_eq (by omega)]
    · rw [zup_ne (by omega), zup_ne (by omega), zup_ne (by omega), zup_ne (by omega), zup_ne (by omega), if_neg g]
    · rw [zup_ne (by omega), zup_ne (by omega), zup_ne (by omega), zup_ne (by omega), zup_eq (by omega)]
    · rw [zup_ne (by omega), zup_ne (by omega), zup_ne (by omega), zup_eq (by omega)]
    · rw [zup_ne (by omega), zup_ne (by omega), zup_eq (by omega)]
    · rw [zup_ne (by omega), zup_eq (by omega)]
    · rw [zup_ne (by omega), zup_ne (by omega), zup_ne (by omega), zup_ne (by omega), zup_ne (by omega)]
/-- a letter more keeps the heap as it may be -/
theorem SInv.add {L m g x : Int} {st we co la od st2 we2 co2 la2 od2 : Nat → Int} (h : SInv L m g x st we co la od) (hL : L < 32) (h1 : 0 ≤ x1 ∧ x1 < 20) (h2 : 0 ≤ x2 ∧ x2 ≤ 99) (h3 : 0 ≤ x3 ∧ x3 ≤ 12) (hg : x3 ≤ 0 ∨ g < x3)
    (e : ∀ k, ¬ k = L.toNat → st2 k = st k ∧ we2 k = we k ∧ co2 k = co k ∧ la2 k = la k) (eL : st2 L.toNat = x1 ∧ we2 L.toNat = x2 ∧ co2 L.toNat = x3 ∧ la2 L.toNat = 9) (eo : ∀ k : Nat, ¬ (x3 = 0 ∧ (k : Int) = m) → od2 k = od k) (em : x3 = 0 → od2 m.toNat = L) :
    SInv (L + 1) (if x3 = 0 then m + 1 else m) g x st2 we2 co2 la2 od2 := by
  have m0 := h.m0
  obtain ⟨⟨a1, a2, a3, a4, a5, a6⟩, b, c, f, i, l⟩ := h
  have eN : (L + 1).toNat = L.toNat + 1 := by omega
  refine ⟨⟨by omega, by omega, a3, a4, a5, a6⟩, ?_, fun k hk => ?_, fun k hk => ?_, fun j k hj hk => ?_, fun k hk => ?_⟩
  · rw [eN]
    unfold pCount
    rw [pCount_congr (q := fun k => decide (co k ≤ g)) L.toNat (fun k hk => by rw [(e k (by omega)).2.2.1]), eL.2.2.1]
    by_cases g3 : x3 = 0
    · rw [if_pos g3, if_pos (decide_eq_true (by omega))]; omega
    · rw [if_neg g3, if_neg (by simp; omega)]; omega
  · by_cases q : k = L.toNat
    · rw [q, eL.1, eL.2.1, eL.2.2.1, eL.2.2.2]; omega
    · rw [(e k q).1, (e k q).2.1, (e k q).2.2.1, (e k q).2.2.2]; exact c k (by omega)
  · by_cases q : x3 = 0 ∧ (k : Int) = m
    · have : k = m.toNat := by omega
      rw [this, em q.1]; omega
    · rw [eo k q]
      have := f k (by split at hk <;> omega)
      omega
  · by_cases q : x3 = 0 ∧ (k : Int) = m
    · have e1 : k = m.toNat := by omega
      rw [e1, em q.1, eo j (by omega)]
      have := f j (by omega)
      omega
    · rw [eo k q, eo j (by split at hk <;> omega)]
      exact i j k hj (by split at hk <;> omega)
  · by_cases q : x3 = 0 ∧ (k : Int) = m
    · have e1 : k = m.toNat := by omega
      rw [e1, em q.1, eL.2.2.1]; omega
    · rw [eo k q]
      have := f k (by split at hk <;> omega)
      rw [(e (od k).toNat (by omega)).2.2.1]
      exact l k (by split at hk <;> omega)
end LE
section LM
variable {d n t : Nat} {sh : ZS} {R : ZR} {I : ZI} {x1 x2 x3 : Int}
def mAdd (I J : ZI) (x1 x2 x3 : Int) : Prop :=
  (J 137 0 = I 137 0 + 1 ∧ J 137 1 = (if x3 = 0 then I 137 1 + 1 else I 137 1)) ∧ (J 138 (I 137 0).toNat = x1 ∧ J 139 (I 137 0).toNat = x2 ∧ J 140 (I 137 0).toNat = x3 ∧ J 141 (I 137 0).toNat = 9) ∧ (x3 = 0 → J 142 (I 137 1).toNat = I 137 0) ∧
  ∀ a k, ¬ (a = 137 ∧ k ≤ 1) → ¬ (138 ≤ a ∧ a ≤ 141 ∧ k = (I 137 0).toNat) → ¬ (x3 = 0 ∧ a = 142 ∧ k = (I 137 1).toNat) → J a k = I a k
theorem s_M_letter {Q : Int → ZI → Prop} (hW : Wf sh R) (h5 : 0 ≤ I 137 0 ∧ I 137 0 < 32) (h6 : 0 ≤ I 137 1 ∧ I 137 1 < 32) (h1 : 0 ≤ x1 ∧ x1 < 20) (h2 : 0 ≤ x2 ∧ x2 ≤ 99) (h3 : 0 ≤ x3 ∧ x3 ≤ 12) (hg : x3 ≤ 0 ∨ I 137 2 < x3) (q : ∀ J, mAdd I J x1 x2 x3 → Q (I 137 0) J) : XI (d + 1) 148 [.inr 137, .inl x1, .inl x2, .inl x3] n sh R I Q := by
  have ee : I 137 0 + 1 - 1 = I 137 0 := by omega
  refine b_M_letter_0 hW ?_
  rw [if_neg (by omega), if_neg (by omega), if_neg (by omega), if_neg (by omega), if_neg (by omega), if_neg (by omega)]
  by_cases g : x3 = 0
  · rw [if_pos (by omega), if_pos (by omega)]
    refine ⟨h5, ?_⟩
    rw [if_neg (not_not_intro g)]
    refine ⟨h6, by unfold zr; omega, by unfold zr; omega, by unfold zr; omega, ?_⟩
    rw [ee]
    refine q _ ⟨⟨?_, ?_⟩, ⟨?_, ?_, ?_, ?_⟩, fun _ => ?_, fun a k h1 h2 h3 => ?_⟩
    · rw [zup_eq (by omega)]
    · rw [zup_ne (by omega), zup_eq (by omega), if_pos g]
    · rw [zup_ne (by omega), zup_ne (by omega), zup_ne (by omega), zup_ne (by omega), zup_ne (by omega), zup_ne (by omega), zup_eq (by omega)]
    · rw [zup_ne (by omega), zup_ne (by omega), zup_ne (by omega), zup_ne (by omega), zup_ne (by omega), zup_eq (by omega)]
    · rw [zup_ne (by omega), zup_ne (by omega), zup_ne (by omega), zup_ne (by omega), zup_eq (by omega)]
    · rw [zup_ne (by omega), zup_ne (by omega), zup_ne (by omega), zup_eq (by omega)]
    · rw [zup_ne (by omega), zup_ne (by omega), zup_eq (by omega)]
    · rw [zup_ne (by omega), zup_ne (by omega), zup_ne (by omega), zup_ne (by omega), zup_ne (by omega), zup_ne (by omega), zup_ne (by omega)]
  · rw [if_neg (by omega), if_neg (by omega), if_pos (by omega)]
    refine ⟨h5, ?_⟩
    rw [if_pos g]
    refine ⟨by unfold zr; omega, by unfold zr; omega, ?_⟩
    rw [ee]
    refine q _ ⟨⟨?_, ?_⟩, ⟨?_, ?_, ?_, ?_⟩, fun c => absurd c g, fun a k h1 h2 h3 => ?_⟩
    · rw [zup_eq (by omega)]
    · rw [zup_ne (by omega), zup_ne (by omega), zup_ne (by omega), zup_ne (by omega), zup_ne (by omega), if_neg g]
    · rw [zup_ne (by omega), zup_ne (by omega), zup_ne (by omega), zup_ne (by omega), zup_eq (by omega)]
    · rw [zup_ne (by omega), zup_ne (by omega), zup_ne (by omega), zup_eq (by omega)]
    · rw [zup_ne (by omega), zup_ne (by omega), zup_eq (by omega)]
    · rw [zup_ne (by omega), zup_eq (by omega)]
    · rw [zup_ne (by omega), zup_ne (by omega), zup_ne (by omega), zup_ne (by omega), zup_ne (by omega)]
end LM
section LC
variable {d n t : Nat} {sh : ZS} {R : ZR} {I : ZI} {x1 x2 x3 : Int}
theorem c_letter (hW : Wf sh R) (h : Rel t I R) : XI (d + 2) 96 [.inr 1, .inl x1, .inl x2, .inl x3] n sh R I (fun v J => XI (d + 1) 148 [.inr 137, .inl x1, .inl x2, .inl x3] n sh R J (fun v2 K => v2 = v ∧ Rel (t + 1) K R)) := by
  obtain ⟨⟨n1, n2, n3, n4, n5⟩, n6⟩ := h.1
  have m0 := n6.m0
  have l0 := n6.1
  refine b_N_letter_0 hW ?_
  by_cases g : (0 ≤ x1 ∧ x1 < 20) ∧ (0 ≤ x2 ∧ x2 ≤ 99) ∧ (0 ≤ x3 ∧ x3 ≤ 12) ∧ (x3 ≤ 0 ∨ I 18 7 < x3)
  · rw [if_neg (by omega), if_neg (by omega), if_neg (by omega), if_neg (by omega), if_neg (by omega), if_neg (by omega)]
    by_cases gL : I 18 5 < 32
    · have key : XI (d + 1) 63 [.inr 18, .inl x1, .inl x2, .inl x3] n sh R I (fun v J => XI (d + 1) 148 [.inr 137, .inl x1, .inl x2, .inl x3] n sh R J (fun v2 K => v2 = v ∧ Rel (t + 1) K R)) := by
        refine s_S_add hW (St_18 hW) ⟨l0.1, gL⟩ (by omega) fun J hJ => ?_
        obtain ⟨⟨a1, a2⟩, ⟨a3, a4, a5, a6⟩, a7, a8⟩ := hJ
        have j0 : J 137 0 = I 137 0 := a8 _ _ (by omega) (by omega) (by omega)
        have j1 : J 137 1 = I 137 1 := a8 _ _ (by omega) (by omega) (by omega)
        have j2 : J 137 2 = I 137 2 := a8 _ _ (by omega) (by omega) (by omega)
        refine s_M_letter hW (by omega) (by omega) g.1 g.2.1 g.2.2.1 (by omega) fun K hK => ?_
        obtain ⟨⟨b1, b2⟩, ⟨b3, b4, b5, b6⟩, b7, b8⟩ := hK
        rw [j0] at b1 b3 b4 b5 b6 b7 b8
        rw [j1] at b2 b7 b8
        have fr : ∀ a k, ¬ (a = 18 ∧ 5 ≤ k ∧ k ≤ 6) → ¬ (19 ≤ a ∧ a ≤ 23) → ¬ (a = 137 ∧ k ≤ 1) → ¬ (138 ≤ a ∧ a ≤ 142) → K a k = I a k := fun a k h1 h2 h3 h4 => by
          rw [b8 a k (by omega) (by omega) (by omega), a8 a k (by omega) (by omega) (by omega)]
        have k1 : ∀ a k, a ≤ 23 → K a k = J a k := fun a k ha => b8 a k (by omega) (by omega) (by omega)
        have k2 : ∀ a k, 138 ≤ a → J a k = I a k := fun a k ha => a8 a k (by omega) (by omega) (by omega)
        refine ⟨by rw [j0]; exact n1.symm, h.up (by omega) (.inl ⟨⟨?_, ?_, ?_, ?_, fun k hk => ⟨?_, ?_, ?_, ?_, ?_⟩⟩, ?_⟩) (.inr fun a k hk => ?_) (.inr fun a k hk => ?_) (.inr fun a k hk => ?_) (.inr fun a k hk => ?_) (.inr fun a k hk => ?_)⟩
        · rw [k1 _ _ (by omega), a1, b1, n1]
        · rw [k1 _ _ (by omega), a2, b2, n2]
        · rw [fr _ _ (by omega) (by omega) (by omega) (by omega), fr _ _ (by omega) (by omega) (by omega) (by omega)]; exact n3
        · rw [fr _ _ (by omega) (by omega) (by omega) (by omega), fr _ _ (by omega) (by omega) (by omega) (by omega)]; exact n4
        · show K 19 k = K 138 k
          rw [k1 19 k (by omega)]
          by_cases q : k = (I 137 0).toNat
          · rw [q, b3]; exact (by rw [← n1]; exact a3)
          · rw [b8 _ _ (by omega) (by omega) (by omega), a8 _ _ (by omega) (by rw [n1]; omega) (by omega), k2 _ _ (by omega)]; exact (n5 k hk).1
        · show K 20 k = K 139 k
          rw [k1 20 k (by omega)]
          by_cases q : k = (I 137 0).toNat
          · rw [q, b4]; exact (by rw [← n1]; exact a4)
          · rw [b8 _ _ (by omega) (by omega) (by omega), a8 _ _ (by omega) (by rw [n1]; omega) (by omega), k2 _ _ (by omega)]; exact (n5 k hk).2.1
        · show K 21 k = K 140 k
          rw [k1 21 k (by omega)]
          by_cases q : k = (I 137 0).toNat
          · rw [q, b5]; exact (by rw [← n1]; exact a5)
          · rw [b8 _ _ (by omega) (by omega) (by omega), a8 _ _ (by omega) (by rw [n1]; omega) (by omega), k2 _ _ (by omega)]; exact (n5 k hk).2.2.1
        · show K 22 k = K 141 k
          rw [k1 22 k (by omega)]
          by_cases q : k = (I 137 0).toNat
          · rw [q, b6]; exact (by rw [← n1]; exact a6)
          · rw [b8 _ _ (by omega) (by omega) (by omega), a8 _ _ (by omega) (by rw [n1]; omega) (by omega), k2 _ _ (by omega)]; exact (n5 k hk).2.2.2.1
        · show K 23 k = K 142 k
          rw [k1 23 k (by omega)]
          by_cases q : x3 = 0 ∧ k = (I 137 1).toNat
          · rw [q.2, b7 q.1, ← n2, a7 q.1]; exact n1
          · rw [b8 _ _ (by omega) (by omega) (by omega), a8 _ _ (by omega) (by omega) (by rw [n2]; omega), k2 _ _ (by omega)]; exact (n5 k hk).2.2.2.2
        · rw [k1 18 5 (by omega), k1 18 6 (by omega), a1, a2, fr 18 7 (by omega) (by omega) (by omega) (by omega), fr 18 8 (by omega) (by omega) (by omega) (by omega)]
          refine n6.add gL g.1 g.2.1 g.2.2.1 g.2.2.2 (fun k hk => ⟨?_, ?_, ?_, ?_⟩) ⟨?_, ?_, ?_, ?_⟩ (fun k hk => ?_) (fun hx => ?_)
          · rw [k1 _ _ (by omega), a8 _ _ (by omega) (by omega) (by omega)]
          · rw [k1 _ _ (by omega), a8 _ _ (by omega) (by omega) (by omega)]
          · rw [k1 _ _ (by omega), a8 _ _ (by omega) (by omega) (by omega)]
          · rw [k1 _ _ (by omega), a8 _ _ (by omega) (by omega) (by omega)]
          · rw [k1 _ _ (by omega)]; exact a3
          · rw [k1 _ _ (by omega)]; exact a4
          · rw [k1 _ _ (by omega)]; exact a5
          · rw [k1 _ _ (by omega)]; exact a6
          · rw [k1 _ _ (by omega), a8 _ _ (by omega) (by omega) (by omega)]
          · rw [k1 _ _ (by omega)]; exact a7 hx
        · unfold fKept at hk; exact fr _ _ (by omega) (by omega) (by omega) (by omega)
        · unfold fEnv at hk; exact fr _ _ (by omega) (by omega) (by omega) (by omega)
        · unfold fTape at hk; exact fr _ _ (by omega) (by omega) (by omega) (by omega)
        · unfold fBlame at hk; exact fr _ _ (by omega) (by omega) (by omega) (by omega)
        · unfold fLaw at hk; exact fr _ _ (by omega) (by omega) (by omega) (by omega)
      split
      · exact key
      · rw [if_pos (by omega)]; exact key
    · have key : XI (d + 1) 63 [.inr 18, .inl x1, .inl x2, .inl x3] n sh R I (fun v J => XI (d + 1) 148 [.inr 137, .inl x1, .inl x2, .inl x3] n sh R J (fun v2 K => v2 = v ∧ Rel (t + 1) K R)) := by
        refine b_S_add_0 hW (St_18 hW) ?_
        rw [if_neg gL]
        refine b_M_letter_0 hW ?_
        rw [if_neg (by omega), if_neg (by omega), if_neg (by omega), if_neg (by omega), if_neg (by omega), if_neg (by omega)]
        by_cases g3 : x3 ≤ 0
        · rw [if_pos g3, if_neg (by omega)]
          exact ⟨rfl, h.fr (by omega) fun _ _ _ => rfl⟩
        · rw [if_neg g3, if_neg (by omega), if_neg (by omega)]
          exact ⟨rfl, h.fr (by omega) fun _ _ _ => rfl⟩
      split
      · exact key
      · rw [if_pos (by omega)]; exact key
  · (repeat' split) <;> first | (exfalso; omega) | skip
    all_goals
      refine b_M_letter_0 hW ?_
      (repeat' split) <;> first | (exfalso; omega) | exact ⟨rfl, h.fr (by omega) fun _ _ _ => rfl⟩
end LC
