-- THE LAW'S VALUE, by the class's run and by the model's
def sStk (f : Nat → Int) : List Int → Prop
  | [] => True
  | x :: t => f t.length = x ∧ sStk f t
theorem sStk.fr {f g : Nat → Int} : ∀ {s : List Int}, sStk f s → (∀ i, i < s.length → g i = f i) → sStk g s
  | [], _, _ => trivial
  | _ :: t, h, e => ⟨by rw [e t.length (by simp)]; exact h.1, sStk.fr h.2 fun i hi => e i (by simp; omega)⟩
/-- a value is put on the stack of row a -/
theorem sStk.push {I : ZI} {a : Nat} {s : List Int} (h : sStk (I a) s) (x : Int) : sStk ((zup I a s.length x) a) (x :: s) :=
  ⟨zup_eq (by omega), h.fr fun i hi => zup_ne (by omega)⟩
def lRes : Option (Option (List Int)) → Int
  | some (some (x :: _)) => x
  | _ => 0
theorem lGo_some {CD FA : Nat → Int} {q f p : Nat} {s : List Int} {r : Option (List Int)} (h : lGo CD FA q (f + 1) p s = some r) (hp : ¬ p = q) : (lStep (CD p) FA p s = some none ∧ r = none) ∨ ∃ p2 s2, lStep (CD p) FA p s = some (some (p2, s2)) ∧ p < p2 ∧ p2 ≤ q ∧ lGo CD FA q f p2 s2 = some r := by
  unfold lGo at h
  rw [if_neg hp] at h
  cases e : lStep (CD p) FA p s with
  | none => rw [e] at h; cases h
  | some w =>
    cases w with
    | none => rw [e] at h; exact .inl ⟨rfl, (Option.some.inj h).symm⟩
    | some z =>
      obtain ⟨p2, s2⟩ := z
      rw [e] at h
      dsimp only at h
      by_cases g : p < p2 ∧ p2 ≤ q
      · rw [if_pos g] at h; exact .inr ⟨p2, s2, rfl, g.1, g.2, h⟩
      · rw [if_neg g] at h; cases h
theorem lStep_some {c : Int} {fa : Nat → Int} {p : Nat} {s : List Int} {r : Option (Nat × List Int)} (h : lStep c fa p s = some r) :
    (c / 1048576 = 0 ∧ r = some (p + 1, c % 1048576 :: s)) ∨ (c / 1048576 = 1 ∧ c % 1048576 < 8 ∧ r = some (p + 1, fa (c % 1048576).toNat :: s)) ∨
    (c / 1048576 = 10 ∧ ∃ x t, s = x :: t ∧ (x = 0 ∨ x = 1) ∧ r = some (p + 1, (1 - x) :: t)) ∨
    (c / 1048576 = 11 ∧ ∃ x t, s = x :: t ∧ r = some (if x = 0 then ((c % 1048576).toNat, s) else (p + 1, t))) ∨
    (c / 1048576 = 12 ∧ ∃ x t, s = x :: t ∧ r = some (if x = 1 then ((c % 1048576).toNat, s) else (p + 1, t))) ∨
    (2 ≤ c / 1048576 ∧ c / 1048576 ≤ 9 ∧ ∃ y x t, s = y :: x :: t ∧ r = if (c / 1048576 = 5 ∨ c / 1048576 = 6) ∧ y = 0 then none else some (p + 1, lRk (c / 1048576) x y :: t)) := by
  unfold lStep at h
  dsimp only at h
  by_cases h0 : c / 1048576 = 0
  · rw [if_pos h0] at h; exact .inl ⟨h0, (Option.some.inj h).symm⟩
  rw [if_neg h0] at h
  by_cases h1 : c / 1048576 = 1
  · rw [if_pos h1] at h
    by_cases g : c % 1048576 < 8
    · rw [if_pos g] at h; exact .inr (.inl ⟨h1, g, (Option.some.inj h).symm⟩)
    · rw [if_neg g] at h; cases h
  rw [if_neg h1] at h
  by_cases h2 : c / 1048576 = 10
  · rw [if_pos h2] at h
    cases s with
    | nil => cases h
    | cons x t =>
      dsimp only at h
      by_cases g : x = 0 ∨ x = 1
      · rw [if_pos g] at h; exact .inr (.inr (.inl ⟨h2, x, t, rfl, g, (Option.some.inj h).symm⟩))
      · rw [if_neg g] at h; cases h
  rw [if_neg h2] at h
  by_cases h3 : c / 1048576 = 11
  · rw [if_pos (.inl h3)] at h
    cases s with
    | nil => cases h
    | cons x t =>
      dsimp only at h
      rw [if_neg (show ¬ c / 1048576 = 12 by omega)] at h
      exact .inr (.inr (.inr (.inl ⟨h3, x, t, rfl, (Option.some.inj h).symm⟩)))
  by_cases h4 : c / 1048576 = 12
  · rw [if_pos (.inr h4)] at h
    cases s with
    | nil => cases h
    | cons x t =>
      dsimp only at h
      rw [if_pos h4] at h
      exact .inr (.inr (.inr (.inr (.inl ⟨h4, x, t, rfl, (Option.some.inj h).symm⟩))))
  rw [if_neg (by omega)] at h
  by_cases h5 : 2 ≤ c / 1048576 ∧ c / 1048576 ≤ 9
  · rw [if_pos h5] at h
    cases s with
    | nil => cases h
    | cons y s2 =>
      cases s2 with
      | nil => cases h
      | cons x t => exact .inr (.inr (.inr (.inr (.inr ⟨h5.1, h5.2, y, x, t, rfl, (Option.some.inj h).symm⟩))))
  · rw [if_neg h5] at h; cases h
section EV
variable {d n t : Nat} {sh : ZS} {R : ZR} {x1 x2 x3 x4 x5 : Int}
theorem s_M_reckon {I : ZI} {Q : Int → ZI → Prop} (hW : Wf sh R) {op : Int} (h2 : 2 ≤ op ∧ op ≤ 9) (hz : ¬ ((op = 5 ∨ op = 6) ∧ x2 = 0)) (q : Q (lRk op x1 x2) I) : XI d 175 [.inl op, .inl x1, .inl x2] n sh R I Q := by
  refine b_M_reckon_0 hW ?_
  unfold lRk at q
  by_cases g2 : op = 2
  · rw [if_pos g2]; rw [if_pos g2] at q; exact q
  rw [if_neg g2]; rw [if_neg g2] at q
  by_cases g3 : op = 3
  · rw [if_pos g3]; rw [if_pos g3] at q; exact q
  rw [if_neg g3]; rw [if_neg g3] at q
  by_cases g4 : op = 4
  · rw [if_pos g4]; rw [if_pos g4] at q; exact q
  rw [if_neg g4]; rw [if_neg g4] at q
  by_cases g5 : op = 5
  · rw [if_pos g5]; rw [if_pos g5] at q; exact ⟨by omega, q⟩
  rw [if_neg g5]; rw [if_neg g5] at q
  by_cases g6 : op = 6
  · rw [if_pos g6]; rw [if_pos g6] at q; exact ⟨by omega, q⟩
  rw [if_neg g6]; rw [if_neg g6] at q
  by_cases g7 : op = 7
  · rw [if_pos g7]; rw [if_pos g7] at q
    by_cases e : x1 < x2
    · rw [if_neg (by omega)]; rw [if_pos e] at q; exact q
    · rw [if_pos (by omega)]; rw [if_neg e] at q; exact q
  rw [if_neg g7]; rw [if_neg g7] at q
  by_cases g8 : op = 8
  · rw [if_pos g8]; rw [if_pos g8] at q
    by_cases e : x2 < x1
    · rw [if_neg (by omega)]; rw [if_pos e] at q; exact q
    · rw [if_pos (by omega)]; rw [if_neg e] at q; exact q
  rw [if_neg g8]; rw [if_neg g8] at q
  by_cases e : x1 = x2
  · rw [if_neg (not_not_intro e)]; rw [if_pos e] at q; exact q
  · rw [if_pos e]; rw [if_neg e] at q; exact q
theorem s_W_reckon {I : ZI} {Q : Int → ZI → Prop} (hW : Wf sh R) {op : Int} (h2 : 2 ≤ op ∧ op ≤ 9) (hz : ¬ ((op = 5 ∨ op = 6) ∧ x2 = 0)) (q : Q (lRk op x1 x2) I) : XI d 16 [.inl (lSign op), .inl x1, .inl x2] n sh R I Q := by
  refine b_W_reckon_0 hW ?_
  unfold lRk at q
  by_cases g2 : op = 2
  · rw [if_pos g2] at q; subst g2; exact q
  rw [if_neg g2] at q
  by_cases g3 : op = 3
  · rw [if_pos g3] at q; subst g3; exact q
  rw [if_neg g3] at q
  by_cases g4 : op = 4
  · rw [if_pos g4] at q; subst g4; exact q
  rw [if_neg g4] at q
  by_cases g5 : op = 5
  · rw [if_pos g5] at q; subst g5
    show if ¬ x2 = 0 then _ else _
    rw [if_pos (by omega)]; exact ⟨by omega, q⟩
  rw [if_neg g5] at q
  by_cases g6 : op = 6
  · rw [if_pos g6] at q; subst g6
    show if ¬ x2 = 0 then _ else _
    rw [if_pos (by omega)]; exact ⟨by omega, q⟩
  rw [if_neg g6] at q
  by_cases g7 : op = 7
  · rw [if_pos g7] at q; subst g7
    show if x2 ≤ x1 then _ else _
    by_cases e : x1 < x2
    · rw [if_neg (by omega)]; rw [if_pos e] at q; exact q
    · rw [if_pos (by omega)]; rw [if_neg e] at q; exact q
  rw [if_neg g7] at q
  by_cases g8 : op = 8
  · rw [if_pos g8] at q; subst g8
    show if x1 ≤ x2 then _ else _
    by_cases e : x2 < x1
    · rw [if_neg (by omega)]; rw [if_pos e] at q; exact q
    · rw [if_pos (by omega)]; rw [if_neg e] at q; exact q
  rw [if_neg g8] at q
  have g9 : op = 9 := by omega
  subst g9
  show if ¬ x1 = x2 then _ else _
  by_cases e : x1 = x2
  · rw [if_neg (not_not_intro e)]; rw [if_pos e] at q; exact q
  · rw [if_pos e]; rw [if_neg e] at q; exact q
end EV
section EM
variable {d n t : Nat} {sh : ZS} {R : ZR} {x1 x2 x3 x4 x5 : Int}
theorem l_M_comesTo {Q : Int → ZI → Prop} (hW : Wf sh R) {CD FA : Nat → Int} {q : Nat} (hq : q ≤ 200) (hcd : ∀ k, k < q → 0 ≤ CD k ∧ CD k / 1048576 ≤ 12) : ∀ (f p : Nat) (s : List Int) (I : ZI) (u1 u6 u7 : Option AV), I 151 = CD → I 157 = FA → sStk (I 156) s → s.length ≤ p → p ≤ q → (lGo CD FA q f p s = some none ∨ ∃ x, lGo CD FA q f p s = some (some [x])) → (∀ J : ZI, (∀ a b, ¬ a = 156 → J a b = I a b) → Q (lRes (lGo CD FA q f p s)) J) →
    XIs (d + 1) 176 16 [some (.inr 137), u1, some (.inl (q : Int)), some (.inl (s.length : Int)), some (.inl 0), some (.inl (p : Int)), u6, u7] [] n sh R I Q := by
  intro f
  induction f with
  | zero =>
    intro p s I u1 u6 u7 hC hF hs hl hp hg k
    have hpq : p = q := by
      by_cases e : p = q
      · exact e
      · unfold lGo at hg; rw [if_neg e] at hg; rcases hg with h | ⟨x, h⟩ <;> cases h
    refine b_M_comesTo_16 hW ?_
    rw [if_pos (by omega)]
    have e : lGo CD FA q 0 p s = some (some s) := by unfold lGo; rw [if_pos hpq]
    rw [e] at hg k
    rcases hg with h | ⟨x, h⟩
    · cases h
    · have es : s = [x] := Option.some.inj (Option.some.inj h)
      subst es
      have := k I (fun _ _ _ => rfl)
      rw [show I 156 0 = x from hs.1]
      exact this
  | succ f ih =>
    intro p s I u1 u6 u7 hC hF hs hl hp hg k
    by_cases hpq : p = q
    · refine b_M_comesTo_16 hW ?_
      rw [if_pos (by omega)]
      have e : lGo CD FA q (f + 1) p s = some (some s) := by unfold lGo; rw [if_pos hpq]
      rw [e] at hg k
      rcases hg with h | ⟨x, h⟩
      · cases h
      · have es : s = [x] := Option.some.inj (Option.some.inj h)
        subst es
        have := k I (fun _ _ _ => rfl)
        rw [show I 156 0 = x from hs.1]
        exact this
    obtain ⟨r, hr, hr2⟩ : ∃ r, lGo CD FA q (f + 1) p s = some r ∧ (r = none ∨ ∃ x, r = some [x]) := by
      rcases hg with h | ⟨x, h⟩
      · exact ⟨none, h, .inl rfl⟩
      · exact ⟨some [x], h, .inr ⟨x, rfl⟩⟩
    rw [hr] at k
    have hc := hcd p (by omega)
    have zv : 0 ≤ CD p % 1048576 ∧ CD p % 1048576 < 1048576 := by omega
    have z1 : zr ((p : Int) + 1) := by unfold zr; omega
    refine b_M_comesTo_16 hW ?_
    rw [if_neg (by omega), Int.toNat_natCast, hC, hF]
    refine ⟨by omega, by omega, by omega, z1, ?_⟩
    rcases lGo_some hr hpq with ⟨h1, h2⟩ | ⟨p2, s2, h1, h3, h4, h5⟩
    · -- refused
      rcases lStep_some h1 with ⟨_, h⟩ | ⟨_, _, h⟩ | ⟨_, x, t, _, _, h⟩ | ⟨_, x, t, _, h⟩ | ⟨_, x, t, _, h⟩ | ⟨b2, b9, y, x, t, es, h⟩
      · cases h
      · cases h
      · cases h
      · cases h
      · cases h
      · by_cases g : (CD p / 1048576 = 5 ∨ CD p / 1048576 = 6) ∧ y = 0
        · subst es
          have e1 : (((y :: x :: t).length : Nat) : Int) - 1 = ((t.length + 1 : Nat) : Int) := by simp
          have hy : I 156 (t.length + 1) = y := hs.1
          have hl2 : t.length + 2 ≤ p := hl
          have := k I (fun _ _ _ => rfl)
          rw [h2] at this
          rw [if_neg (by omega), if_pos (by omega), if_pos (by omega), if_neg (by omega), if_pos (by omega), e1]
          refine ⟨by unfold zr; omega, ?_⟩
          rw [Int.toNat_natCast, hy]
          rcases g.1 with g5 | g6
          · rw [if_pos g5]
            refine ⟨by omega, ?_⟩
            rw [if_neg (by omega)]; exact this
          · rw [if_neg (by omega), if_neg (by omega)]
            refine ⟨by omega, ?_⟩
            rw [if_neg (by omega)]; exact this
        · rw [if_neg g] at h; cases h
    · -- a step
      have go : ∀ (J : ZI) (u7 u8 u9 : Option AV), (∀ a b, ¬ a = 156 → J a b = I a b) → sStk (J 156) s2 → s2.length ≤ p2 → XIs (d + 1) 176 16 [some (.inr 137), u7, some (.inl (q : Int)), some (.inl (s2.length : Int)), some (.inl 0), some (.inl (p2 : Int)), u8, u9] [] n sh R J Q := fun J u7 u8 u9 hJ hJs hJl => by
        refine ih p2 s2 J _ _ _ (by rw [← hC]; exact funext fun b => hJ _ _ (by omega)) (by rw [← hF]; exact funext fun b => hJ _ _ (by omega)) hJs hJl h4 ?_ ?_
        · rw [h5]; rcases hr2 with e | ⟨x, e⟩ <;> rw [e]
          · exact .inl rfl
          · exact .inr ⟨x, rfl⟩
        · intro K hK
          rw [h5]
          exact k K fun a b hab => by rw [hK a b hab, hJ a b hab]
      rcases lStep_some h1 with ⟨b0, h⟩ | ⟨b1, bv, h⟩ | ⟨b10, x, t, es, bx, h⟩ | ⟨b11, x, t, es, h⟩ | ⟨b12, x, t, es, h⟩ | ⟨b2, b9, y, x, t, es, h⟩
      · cases h
        rw [if_pos b0, if_neg (by omega)]
        refine ⟨by omega, by unfold zr; omega, ?_⟩
        rw [Int.toNat_natCast]
        exact go _ _ _ _ (fun a b hab => zup_ne (by omega)) (hs.push _) (by simp; omega)
      · cases h
        rw [if_neg (by omega), if_neg (by omega), if_pos (by omega)]
        refine ⟨by omega, by omega, by unfold zr; omega, ?_⟩
        rw [Int.toNat_natCast]
        exact go _ _ _ _ (fun a b hab => zup_ne (by omega)) (hs.push _) (by simp; omega)
      · cases h
        subst es
        have e1 : (((x :: t).length : Nat) : Int) - 1 = (t.length : Int) := by simp
        have hx : I 156 t.length = x := hs.1
        have hl2 : t.length + 1 ≤ p := hl
        rw [if_neg (by omega), if_pos (by omega), if_neg (by omega), e1]
        rw [Int.toNat_natCast, hx]
        refine ⟨by unfold zr; omega, by omega, by unfold zr; omega, ?_⟩
        exact go _ _ _ _ (fun a b hab => zup_ne (by omega)) (sStk.push hs.2 _) (by simp; omega)
      · subst es
        have e1 : (((x :: t).length : Nat) : Int) - 1 = (t.length : Int) := by simp
        have hx : I 156 t.length = x := hs.1
        have hl2 : t.length + 1 ≤ p := hl
        rw [if_neg (by omega), if_pos (by omega), if_pos (by omega), if_pos b11, e1]
        rw [Int.toNat_natCast, hx]
        refine ⟨by unfold zr; omega, by omega, ?_⟩
        rw [if_pos (by omega)]
        by_cases g : x = 0
        · rw [if_pos g] at h; cases h
          rw [if_neg (not_not_intro g)]
          refine ⟨by unfold zr; omega, ?_⟩
          have ez : (0 : Int) + CD p % 1048576 = ((CD p % 1048576).toNat : Int) := by omega
          rw [ez]
          exact go I _ _ _ (fun _ _ _ => rfl) hs (by simp; omega)
        · rw [if_neg g] at h; cases h
          rw [if_pos g]
          exact go I _ _ _ (fun _ _ _ => rfl) hs.2 (by omega)
      · subst es
        have e1 : (((x :: t).length : Nat) : Int) - 1 = (t.length : Int) := by simp
        have hx : I 156 t.length = x := hs.1
        have hl2 : t.length + 1 ≤ p := hl
        rw [if_neg (by omega), if_pos (by omega), if_pos (by omega), if_neg (by omega), if_neg (by omega), e1]
        rw [Int.toNat_natCast, hx]
        refine ⟨by unfold zr; omega, by omega, ?_⟩
        rw [if_neg (by omega)]
        by_cases g : x = 1
        · rw [if_pos g] at h; cases h
          rw [if_neg (not_not_intro g)]
          refine ⟨by unfold zr; omega, ?_⟩
          have ez : (0 : Int) + CD p % 1048576 = ((CD p % 1048576).toNat : Int) := by omega
          rw [ez]
          exact go I _ _ _ (fun _ _ _ => rfl) hs (by simp; omega)
        · rw [if_neg g] at h; cases h
          rw [if_pos g]
          exact go I _ _ _ (fun _ _ _ => rfl) hs.2 (by omega)
      · by_cases g : (CD p / 1048576 = 5 ∨ CD p / 1048576 = 6) ∧ y = 0
        · rw [if_pos g] at h; cases h
        rw [if_neg g] at h; cases h
        subst es
        have e1 : (((y :: x :: t).length : Nat) : Int) - 1 = ((t.length + 1 : Nat) : Int) := by simp
        have e2 : ((t.length + 1 : Nat) : Int) - 1 = (t.length : Int) := by omega
        have hy : I 156 (t.length + 1) = y := hs.1
        have hx : I 156 t.length = x := hs.2.1
        have hl2 : t.length + 2 ≤ p := hl
        have fin : XIs (d + 1) 176 16 [some (.inr 137), u1, some (.inl (q : Int)), some (.inl ((t.length + 1 : Nat) : Int)), some (.inl 0), some (.inl ((p : Int) + 1)), some (.inl (CD p / 1048576)), some (.inl (CD p % 1048576))] [] n sh R (zup I 156 t.length (lRk (CD p / 1048576) x y)) Q :=
          go _ _ _ _ (fun a b hab => zup_ne (by omega)) (sStk.push hs.2.2 _) (by simp; omega)
        rw [if_neg (by omega), if_pos (by omega), if_pos (by omega), if_neg (by omega), if_pos (by omega), e1]
        refine ⟨by unfold zr; omega, ?_⟩
        rw [e2, Int.toNat_natCast, Int.toNat_natCast, hy, hx]
        by_cases g5 : CD p / 1048576 = 5
        · rw [if_pos g5]
          refine ⟨by omega, ?_⟩
          rw [if_pos (by omega)]
          exact ⟨by unfold zr; omega, by omega, s_M_reckon hW ⟨b2, b9⟩ g fin⟩
        rw [if_neg g5]
        by_cases g6 : CD p / 1048576 = 6
        · rw [if_neg (by omega)]
          refine ⟨by omega, ?_⟩
          rw [if_pos (by omega)]
          exact ⟨by unfold zr; omega, by omega, s_M_reckon hW ⟨b2, b9⟩ g fin⟩
        rw [if_pos g6]
        exact ⟨by unfold zr; omega, by omega, by omega, s_M_reckon hW ⟨b2, b9⟩ g fin⟩
end EM
