-- THE CLASS'S RUN; THE MODEL'S; which clause holds
theorem lSign_bin {op : Int} (h : 2 ≤ op ∧ op ≤ 9) : ¬ lSign op = 35 ∧ ¬ lSign op = 120 ∧ ¬ lSign op = 33 ∧ ¬ lSign op = 38 ∧ ¬ lSign op = 124 ∧ (lSign op = 47 ↔ op = 5) ∧ (lSign op = 37 ↔ op = 6) := by
  have : op = 2 ∨ op = 3 ∨ op = 4 ∨ op = 5 ∨ op = 6 ∨ op = 7 ∨ op = 8 ∨ op = 9 := by omega
  rcases this with h | h | h | h | h | h | h | h <;> subst h <;> decide
section RU
variable {d n t : Nat} {sh : ZS} {R : ZR} {x1 x2 x3 x4 x5 : Int}
/-- the codes of the class's law at lw are those of CD, up to q -/
def cRow (I : ZI) (lw : Nat) (CD : Nat → Int) (q : Nat) : Prop := ∀ k, k < q → I (lw + 5) k = lSign (CD k / 1048576) ∧ I (lw + 6) k = (if CD k / 1048576 = 11 ∨ CD k / 1048576 = 12 then CD k % 1048576 - k - 1 else CD k % 1048576)
theorem l_W_run {Q : Int → ZI → Prop} (hW : Wf sh R) {lw : Nat} (hw : Lw sh R lw) (hlw : lw = 5 ∨ lw = 45) {CD FA : Nat → Int} {q : Nat} (hq : q ≤ 200) (hcd : ∀ k, k < q → 0 ≤ CD k ∧ CD k / 1048576 ≤ 12) : ∀ (f p : Nat) (s : List Int) (I : ZI) (u1 u6 u7 : Option AV), cRow I lw CD q → (∀ k, k < 8 → I 43 k = FA k) → sStk (I (lw + 7)) s → s.length ≤ p → p ≤ q → (lGo CD FA q f p s = some none ∨ ∃ x, lGo CD FA q f p s = some (some [x])) → (∀ J : ZI, (∀ a b, ¬ a = lw + 7 → J a b = I a b) → Q (lRes (lGo CD FA q f p s)) J) →
    XIs (d + 1) 14 6 [some (.inr lw), u1, some (.inl (q : Int)), some (.inr 43), some (.inl (s.length : Int)), some (.inl (p : Int)), u6, u7] [] n sh R I Q := by
  intro f
  induction f with
  | zero =>
    intro p s I u1 u6 u7 hC hF hs hl hp hg k
    have hpq : p = q := by
      by_cases e : p = q
      · exact e
      · unfold lGo at hg; rw [if_neg e] at hg; rcases hg with h | ⟨x, h⟩ <;> cases h
    refine b_W_run_6 hW hw ?_
    rw [if_pos (by omega)]
    have e : lGo CD FA q 0 p s = some (some s) := by unfold lGo; rw [if_pos hpq]
    rw [e] at hg k
    rcases hg with h | ⟨x, h⟩
    · cases h
    · have es : s = [x] := Option.some.inj (Option.some.inj h)
      subst es
      have := k I (fun _ _ _ => rfl)
      rw [if_neg (by simp), show I (lw + 7) 0 = x from hs.1]
      exact this
  | succ f ih =>
    intro p s I u1 u6 u7 hC hF hs hl hp hg k
    by_cases hpq : p = q
    · refine b_W_run_6 hW hw ?_
      rw [if_pos (by omega)]
      have e : lGo CD FA q (f + 1) p s = some (some s) := by unfold lGo; rw [if_pos hpq]
      rw [e] at hg k
      rcases hg with h | ⟨x, h⟩
      · cases h
      · have es : s = [x] := Option.some.inj (Option.some.inj h)
        subst es
        have := k I (fun _ _ _ => rfl)
        rw [if_neg (by simp), show I (lw + 7) 0 = x from hs.1]
        exact this
    obtain ⟨r, hr, hr2⟩ : ∃ r, lGo CD FA q (f + 1) p s = some r ∧ (r = none ∨ ∃ x, r = some [x]) := by
      rcases hg with h | ⟨x, h⟩
      · exact ⟨none, h, .inl rfl⟩
      · exact ⟨some [x], h, .inr ⟨x, rfl⟩⟩
    rw [hr] at k
    have hc := hcd p (by omega)
    have hrow := hC p (by omega)
    have zv : 0 ≤ CD p % 1048576 ∧ CD p % 1048576 < 1048576 := by omega
    have z1 : zr ((p : Int) + 1) := by unfold zr; omega
    refine b_W_run_6 hW hw ?_
    rw [if_neg (by omega), Int.toNat_natCast, hrow.1, hrow.2]
    refine ⟨by omega, ?_⟩
    -- the two operands of a step
    rcases lGo_some hr hpq with ⟨h1, h2⟩ | ⟨p2, s2, h1, h3, h4, h5⟩
    · -- refused
      rcases lStep_some h1 with ⟨_, h⟩ | ⟨_, _, h⟩ | ⟨_, x, t, _, _, h⟩ | ⟨_, x, t, _, h⟩ | ⟨_, x, t, _, h⟩ | ⟨b2, b9, y, x, t, es, h⟩
      · cases h
      · cases h
      · cases h
      · cases h
      · cases h
      · by_cases g : (CD p / 1048576 = 5 ∨ CD p / 1048576 = 6) ∧ y = 0
        · subst es
          obtain ⟨g1, g2, g3, g4, g5, g6, g7⟩ := lSign_bin ⟨b2, b9⟩
          have e0 : (((y :: x :: t).length : Nat) : Int) = (t.length : Int) + 2 := by simp; omega
          have e1 : (t.length : Int) + 2 + (-1) = ((t.length + 1 : Nat) : Int) := by omega
          have hy : I (lw + 7) (t.length + 1) = y := hs.1
          have hl2 : t.length + 2 ≤ p := hl
          have := k I (fun _ _ _ => rfl)
          rw [h2] at this
          rw [if_neg g1, if_pos g2, if_pos g3]
          refine b_W_isLeap_0 hW ?_
          rw [if_neg g4, if_pos g5, if_pos rfl, e0, if_neg (by omega), e1]
          refine ⟨by unfold zr; omega, by omega, ?_⟩
          rw [Int.toNat_natCast, hy, if_neg (not_not_intro g.2)]
          by_cases q5 : CD p / 1048576 = 5
          · rw [if_pos (g6.mpr q5)]; exact this
          · rw [if_neg (fun a => q5 (g6.mp a)), if_neg (not_not_intro (g7.mpr (by omega)))]; exact this
        · rw [if_neg g] at h; cases h
    · -- a step
      have go : ∀ (J : ZI) (u7 u8 u9 : Option AV), (∀ a b, ¬ a = lw + 7 → J a b = I a b) → sStk (J (lw + 7)) s2 → s2.length ≤ p2 → XIs (d + 1) 14 6 [some (.inr lw), u7, some (.inl (q : Int)), some (.inr 43), some (.inl (s2.length : Int)), some (.inl (p2 : Int)), u8, u9] [] n sh R J Q := fun J u7 u8 u9 hJ hJs hJl => by
        refine ih p2 s2 J _ _ _ (fun k hk => ?_) (fun k hk => ?_) hJs hJl h4 ?_ ?_
        · rw [hJ _ _ (by omega), hJ _ _ (by omega)]; exact hC k hk
        · rw [hJ _ _ (by omega)]; exact hF k hk
        · rw [h5]; rcases hr2 with e | ⟨x, e⟩ <;> rw [e]
          · exact .inl rfl
          · exact .inr ⟨x, rfl⟩
        · intro K hK
          rw [h5]
          exact k K fun a b hab => by rw [hK a b hab, hJ a b hab]
      rcases lStep_some h1 with ⟨b0, h⟩ | ⟨b1, bv, h⟩ | ⟨b10, x, t, es, bx, h⟩ | ⟨b11, x, t, es, h⟩ | ⟨b12, x, t, es, h⟩ | ⟨b2, b9, y, x, t, es, h⟩
      · cases h
        rw [b0, if_neg (show ¬ ((0 : Int) = 11 ∨ (0 : Int) = 12) by decide), if_pos (show lSign 0 = 35 by decide), if_pos (show ¬ lSign 0 = 120 by decide)]
        refine ⟨by omega, by unfold zr; omega, z1, ?_⟩
        rw [Int.toNat_natCast]
        exact go _ _ _ _ (fun a b hab => zup_ne (by omega)) (hs.push _) (by simp; omega)
      · cases h
        rw [b1, if_neg (show ¬ ((1 : Int) = 11 ∨ (1 : Int) = 12) by decide), if_neg (show ¬ lSign 1 = 35 by decide), if_neg (show ¬ ¬ lSign 1 = 120 by decide)]
        refine ⟨by omega, by omega, by unfold zr; omega, z1, ?_⟩
        rw [Int.toNat_natCast, hF _ (by omega)]
        exact go _ _ _ _ (fun a b hab => zup_ne (by omega)) (hs.push _) (by simp; omega)
      · cases h
        subst es
        have e0 : (((x :: t).length : Nat) : Int) = (t.length : Int) + 1 := by simp
        have e1 : (t.length : Int) + 1 - 1 = (t.length : Int) := by omega
        have hx : I (lw + 7) t.length = x := hs.1
        have hl2 : t.length + 1 ≤ p := hl
        rw [b10, if_neg (show ¬ lSign 10 = 35 by decide), if_pos (show ¬ lSign 10 = 120 by decide), if_neg (show ¬ ¬ lSign 10 = 33 by decide), e0, if_neg (by omega), e1]
        rw [Int.toNat_natCast, hx]
        refine ⟨by unfold zr; omega, by omega, by unfold zr; omega, z1, ?_⟩
        have := go (zup I (lw + 7) t.length (1 - x)) u1 (some (.inl (lSign 10))) u7 (fun a b hab => zup_ne (by omega)) (sStk.push hs.2 _) (by simp; omega)
        rw [show (((1 - x) :: t).length : Int) = (t.length : Int) + 1 by simp] at this
        exact this
      · subst es
        have e0 : (((x :: t).length : Nat) : Int) = (t.length : Int) + 1 := by simp
        have e1 : (t.length : Int) + 1 - 1 = (t.length : Int) := by omega
        have e2 : (t.length : Int) + 1 + (-1) = (t.length : Int) := by omega
        have hx : I (lw + 7) t.length = x := hs.1
        have hl2 : t.length + 1 ≤ p := hl
        rw [b11, if_pos (show ((11 : Int) = 11 ∨ (11 : Int) = 12) by decide), if_neg (show ¬ lSign 11 = 35 by decide), if_pos (show ¬ lSign 11 = 120 by decide), if_pos (show ¬ lSign 11 = 33 by decide)]
        refine b_W_isLeap_0 hW ?_
        rw [if_pos (show lSign 11 = 38 by decide), if_neg (show ¬ (1 : Int) = 0 by decide), e0, if_neg (by omega), e1, e2]
        refine ⟨by unfold zr; omega, by omega, ?_⟩
        rw [if_pos (show ¬ lSign 11 = 124 by decide), Int.toNat_natCast, hx]
        by_cases g : x = 0
        · rw [if_pos g] at h; cases h
          rw [if_neg (not_not_intro g)]
          rw [hrow.2, b11, if_pos (show ((11 : Int) = 11 ∨ (11 : Int) = 12) by decide)]
          refine ⟨by unfold zr; omega, by unfold zr; omega, ?_⟩
          have ez : (p : Int) + (CD p % 1048576 - p - 1) + 1 = ((CD p % 1048576).toNat : Int) := by omega
          rw [ez]
          have := go I u1 (some (.inl (lSign 11))) u7 (fun _ _ _ => rfl) hs (by simp; omega)
          rw [e0] at this
          exact this
        · rw [if_neg g] at h; cases h
          rw [if_pos g]
          exact ⟨by unfold zr; omega, z1, go I _ _ _ (fun _ _ _ => rfl) hs.2 (by omega)⟩
      · subst es
        have e0 : (((x :: t).length : Nat) : Int) = (t.length : Int) + 1 := by simp
        have e1 : (t.length : Int) + 1 - 1 = (t.length : Int) := by omega
        have e2 : (t.length : Int) + 1 + (-1) = (t.length : Int) := by omega
        have hx : I (lw + 7) t.length = x := hs.1
        have hl2 : t.length + 1 ≤ p := hl
        rw [b12, if_pos (show ((12 : Int) = 11 ∨ (12 : Int) = 12) by decide), if_neg (show ¬ lSign 12 = 35 by decide), if_pos (show ¬ lSign 12 = 120 by decide), if_pos (show ¬ lSign 12 = 33 by decide)]
        refine b_W_isLeap_0 hW ?_
        rw [if_neg (show ¬ lSign 12 = 38 by decide), if_neg (show ¬ ¬ lSign 12 = 124 by decide), if_neg (show ¬ (1 : Int) = 0 by decide), e0, if_neg (by omega), e1, e2]
        refine ⟨by unfold zr; omega, by omega, ?_⟩
        rw [if_neg (show ¬ ¬ lSign 12 = 124 by decide), Int.toNat_natCast, hx]
        by_cases g : x = 1
        · rw [if_pos g] at h; cases h
          rw [if_neg (not_not_intro g)]
          rw [hrow.2, b12, if_pos (show ((12 : Int) = 11 ∨ (12 : Int) = 12) by decide)]
          refine ⟨by unfold zr; omega, by unfold zr; omega, ?_⟩
          have ez : (p : Int) + (CD p % 1048576 - p - 1) + 1 = ((CD p % 1048576).toNat : Int) := by omega
          rw [ez]
          have := go I u1 (some (.inl (lSign 12))) u7 (fun _ _ _ => rfl) hs (by simp; omega)
          rw [e0] at this
          exact this
        · rw [if_neg g] at h; cases h
          rw [if_pos g]
          exact ⟨by unfold zr; omega, z1, go I _ _ _ (fun _ _ _ => rfl) hs.2 (by omega)⟩
      · by_cases g : (CD p / 1048576 = 5 ∨ CD p / 1048576 = 6) ∧ y = 0
        · rw [if_pos g] at h; cases h
        rw [if_neg g] at h; cases h
        subst es
        obtain ⟨g1, g2, g3, g4, g5, g6, g7⟩ := lSign_bin ⟨b2, b9⟩
        have e0 : (((y :: x :: t).length : Nat) : Int) = (t.length : Int) + 2 := by simp; omega
        have e1 : (t.length : Int) + 2 + (-1) = ((t.length + 1 : Nat) : Int) := by omega
        have e2 : ((t.length + 1 : Nat) : Int) - 1 = (t.length : Int) := by omega
        have hy : I (lw + 7) (t.length + 1) = y := hs.1
        have hx : I (lw + 7) t.length = x := hs.2.1
        have hl2 : t.length + 2 ≤ p := hl
        have fin : XIs (d + 1) 14 6 [some (.inr lw), u1, some (.inl (q : Int)), some (.inr 43), some (.inl ((t.length + 1 : Nat) : Int)), some (.inl ((p : Int) + 1)), some (.inl (lSign (CD p / 1048576))), some (.inl y)] [] n sh R (zup I (lw + 7) t.length (lRk (CD p / 1048576) x y)) Q :=
          go _ _ _ _ (fun a b hab => zup_ne (by omega)) (sStk.push hs.2.2 _) (by simp; omega)
        rw [if_neg g1, if_pos g2, if_pos g3]
        refine b_W_isLeap_0 hW ?_
        rw [if_neg g4, if_pos g5, if_pos rfl, e0, if_neg (by omega), e1]
        refine ⟨by unfold zr; omega, by omega, ?_⟩
        rw [e2, Int.toNat_natCast, Int.toNat_natCast, hy, hx]
        by_cases gy : y = 0
        · rw [if_neg (not_not_intro gy), if_neg (fun a => g ⟨.inl (g6.mp a), gy⟩), if_pos (fun a => g ⟨.inr (g7.mp a), gy⟩)]
          exact ⟨by unfold zr; omega, by omega, s_W_reckon hW ⟨b2, b9⟩ g ⟨z1, fin⟩⟩
        · rw [if_pos gy]
          exact ⟨by unfold zr; omega, by omega, s_W_reckon hW ⟨b2, b9⟩ g ⟨z1, fin⟩⟩
/-- a run that comes to a value or is refused -/
def lOk (CD FA : Nat → Int) (p q : Nat) : Prop := lGo CD FA q (q - p) p [] = some none ∨ ∃ x, lGo CD FA q (q - p) p [] = some (some [x])
theorem lVal_eq (CD FA : Nat → Int) (p q : Nat) : lVal CD FA p q = lRes (lGo CD FA q (q - p) p []) := by
  unfold lVal lRes
  rcases lGo CD FA q (q - p) p [] with _ | _ | _ | ⟨x, t⟩ <;> rfl
theorem s_W_run {I : ZI} {Q : Int → ZI → Prop} (hW : Wf sh R) {lw : Nat} (hw : Lw sh R lw) (hlw : lw = 5 ∨ lw = 45) {CD FA : Nat → Int} {p q : Nat} (hpq : p ≤ q) (hq : q ≤ 200) (hcd : ∀ k, k < q → 0 ≤ CD k ∧ CD k / 1048576 ≤ 12) (hC : cRow I lw CD q) (hF : ∀ k, k < 8 → I 43 k = FA k) (ho : lOk CD FA p q) (k : ∀ J : ZI, (∀ a b, ¬ a = lw + 7 → J a b = I a b) → Q (lVal CD FA p q) J) : XI (d + 1) 14 [.inr lw, .inl (p : Int), .inl (q : Int), .inr 43] n sh R I Q :=
  b_W_run_0 hW hw (l_W_run hW hw hlw hq hcd (q - p) p [] I _ _ _ hC hF trivial (Nat.zero_le _) hpq ho (by rw [← lVal_eq]; exact k))
theorem s_M_comesTo {I : ZI} {Q : Int → ZI → Prop} (hW : Wf sh R) {CD FA : Nat → Int} {p q : Nat} (hpq : p ≤ q) (hq : q ≤ 200) (hcd : ∀ k, k < q → 0 ≤ CD k ∧ CD k / 1048576 ≤ 12) (hC : I 151 = CD) (hF : I 157 = FA) (ho : lOk CD FA p q) (k : ∀ J : ZI, (∀ a b, ¬ a = 156 → J a b = I a b) → Q (lVal CD FA p q) J) : XI (d + 1) 176 [.inr 137, .inl (p : Int), .inl (q : Int)] n sh R I Q := by
  refine b_M_comesTo_0 hW ⟨by omega, by unfold zr; omega, ?_⟩
  have e : (220 : Int) * ((p : Int) / 220) = 0 := by omega
  rw [e]
  exact l_M_comesTo hW hq hcd (q - p) p [] I _ _ _ hC hF trivial (Nat.zero_le _) hpq ho (by rw [← lVal_eq]; exact k)
end RU
