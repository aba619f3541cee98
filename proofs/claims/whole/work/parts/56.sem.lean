-- WHAT IS READ runs as it should
section SE
variable {cd fa : Nat → Int}
def lRun (cd fa : Nat → Int) (q p : Nat) (s : List Int) (r : Option (List Int)) : Prop := ∃ f, lGo cd fa q f p s = some r
theorem lGo_succ {q f p : Nat} {s : List Int} : lGo cd fa q (f + 1) p s = if p = q then some (some s) else match lStep (cd p) fa p s with
    | none => none
    | some none => some none
    | some (some (p2, s2)) => if p < p2 ∧ p2 ≤ q then lGo cd fa q f p2 s2 else none := rfl
theorem lRun.at {q : Nat} {s : List Int} : lRun cd fa q q s (some s) := ⟨0, if_pos rfl⟩
theorem lRun.step {q p p2 : Nat} {s s2 : List Int} {r : Option (List Int)} (h : lStep (cd p) fa p s = some (some (p2, s2))) (h1 : p < p2) (h2 : p2 ≤ q) (k : lRun cd fa q p2 s2 r) : lRun cd fa q p s r := by
  obtain ⟨f, hf⟩ := k
  refine ⟨f + 1, ?_⟩
  rw [lGo_succ, if_neg (by omega), h]
  dsimp only
  rw [if_pos ⟨h1, h2⟩]
  exact hf
theorem lRun.no {q p : Nat} {s : List Int} (h : lStep (cd p) fa p s = some none) (h1 : p < q) : lRun cd fa q p s none := by
  refine ⟨1, ?_⟩
  rw [lGo_succ, if_neg (by omega), h]
theorem lRun.seq {q1 q : Nat} (hq : q1 ≤ q) : ∀ (f p : Nat) {s : List Int} {o : Option (List Int)} {r : Option (List Int)}, p ≤ q1 → lGo cd fa q1 f p s = some o → (o = none → r = none) → (∀ s1, o = some s1 → lRun cd fa q q1 s1 r) → lRun cd fa q p s r := by
  intro f
  induction f with
  | zero =>
    intro p s o r hp h h1 h2
    have h9 : (if p = q1 then some (some s) else none) = some o := h
    by_cases g : p = q1
    · rw [if_pos g] at h9
      subst g
      exact h2 s (Option.some.inj h9).symm
    · rw [if_neg g] at h9; cases h9
  | succ f ih =>
    intro p s o r hp h h1 h2
    rw [lGo_succ] at h
    by_cases g : p = q1
    · rw [if_pos g] at h
      subst g
      exact h2 s (Option.some.inj h).symm
    · rw [if_neg g] at h
      split at h
      · cases h
      · rename_i e
        obtain rfl := Option.some.inj h
        rw [h1 rfl]
        exact lRun.no e (by omega)
      · rename_i p2 s2 e
        split at h
        · rename_i g2
          exact lRun.step e g2.1 (by omega) (ih p2 g2.2 h h1 h2)
        · cases h
theorem lRun.then {q1 q p : Nat} {s s1 : List Int} {r : Option (List Int)} (hp : p ≤ q1) (hq : q1 ≤ q) (h : lRun cd fa q1 p s (some s1)) (k : lRun cd fa q q1 s1 r) : lRun cd fa q p s r := by
  obtain ⟨f, hf⟩ := h
  exact lRun.seq hq f p hp hf (fun c => by cases c) fun s2 e => by cases e; exact k
theorem lRun.then0 {q1 q p : Nat} {s : List Int} (hp : p ≤ q1) (hq : q1 ≤ q) (h : lRun cd fa q1 p s none) : lRun cd fa q p s none := by
  obtain ⟨f, hf⟩ := h
  exact lRun.seq hq f p hp hf (fun _ => rfl) fun s2 e => by cases e
theorem lGo_more {q : Nat} {r : Option (List Int)} : ∀ (f p : Nat) (s : List Int) (c : Nat), lGo cd fa q f p s = some r → lGo cd fa q (f + c) p s = some r := by
  intro f
  induction f with
  | zero =>
    intro p s c h
    have h : (if p = q then some (some s) else none) = some r := h
    by_cases g : p = q
    · rw [if_pos g] at h
      rw [Nat.zero_add]
      cases c with
      | zero => show (if p = q then some (some s) else none) = _; rw [if_pos g]; exact h
      | succ c => rw [lGo_succ, if_pos g]; exact h
    · rw [if_neg g] at h; cases h
  | succ f ih =>
    intro p s c h
    rw [show f + 1 + c = (f + c) + 1 by omega, lGo_succ]
    rw [lGo_succ] at h
    by_cases g : p = q
    · rw [if_pos g] at h ⊢; exact h
    · rw [if_neg g] at h ⊢
      split at h
      · cases h
      · exact h
      · split at h
        · rename_i g2
          rw [if_pos g2]
          exact ih _ _ c h
        · cases h
theorem lRun.fuel {q : Nat} {r : Option (List Int)} : ∀ (f p : Nat) (s : List Int), p ≤ q → lGo cd fa q f p s = some r → lGo cd fa q (q - p) p s = some r := by
  intro f
  induction f with
  | zero =>
    intro p s hp h
    have := lGo_more (q := q) 0 p s (q - p) h
    rw [Nat.zero_add] at this
    exact this
  | succ f ih =>
    intro p s hp h
    rw [lGo_succ] at h
    by_cases g : p = q
    · rw [if_pos g] at h
      subst g
      rw [Nat.sub_self]
      show (if p = p then some (some s) else none) = some r
      rw [if_pos rfl]; exact h
    · rw [if_neg g] at h
      rw [show q - p = (q - p - 1) + 1 by omega, lGo_succ, if_neg g]
      split at h
      · cases h
      · exact h
      · rename_i p2 s2 e
        split at h
        · rename_i g2
          rw [if_pos g2]
          have := lGo_more (q - p2) p2 s2 (p2 - p - 1) (ih p2 s2 g2.2 h)
          rw [show q - p2 + (p2 - p - 1) = q - p - 1 by omega] at this
          exact this
        · cases h
end SE
/-- a piece of code that pushes a value, or is refused; one that goes on from a value -/
def sE (cd : Nat → Int) (i j : Nat) : Prop := i ≤ j ∧ ∀ fa s, lRun cd fa j i s none ∨ ∃ x, lRun cd fa j i s (some (x :: s))
def sC (cd : Nat → Int) (i j : Nat) : Prop := i ≤ j ∧ ∀ fa s, lRun cd fa j i s none ∨ ∃ x, lRun cd fa j i s (some (x :: s)) ∧ (x = 0 ∨ x = 1)
def sF (cd : Nat → Int) (i j : Nat) : Prop := i ≤ j ∧ ∀ fa x s, lRun cd fa j i (x :: s) none ∨ ∃ y, lRun cd fa j i (x :: s) (some (y :: s))
def sD (cd : Nat → Int) (i j : Nat) : Prop := i ≤ j ∧ ∀ fa x s, (x = 0 ∨ x = 1) → lRun cd fa j i (x :: s) none ∨ ∃ y, lRun cd fa j i (x :: s) (some (y :: s)) ∧ (y = 0 ∨ y = 1)
theorem sE.is {cd : Nat → Int} {i j : Nat} (h : sE cd i j) : IsE cd i j := ⟨h.1, fun fa s => by
  rcases h.2 fa s with ⟨f, a⟩ | ⟨x, f, a⟩
  · exact .inl (lRun.fuel f i s h.1 a)
  · exact .inr ⟨x, lRun.fuel f i s h.1 a⟩⟩
theorem sC.is {cd : Nat → Int} {i j : Nat} (h : sC cd i j) : IsC cd i j := ⟨h.1, fun fa s => by
  rcases h.2 fa s with ⟨f, a⟩ | ⟨x, ⟨f, a⟩, b⟩
  · exact .inl (lRun.fuel f i s h.1 a)
  · exact .inr ⟨x, lRun.fuel f i s h.1 a, b⟩⟩
def sAg (cd : Nat → Int) (i : Nat) (l : List Int) : Prop := ∀ j, j < l.length → cd (i + j) = l.getD j 0
theorem sAg.app {cd : Nat → Int} {i : Nat} {l l2 : List Int} (h : sAg cd i (l ++ l2)) : sAg cd i l ∧ sAg cd (i + l.length) l2 := by
  refine ⟨fun j hj => ?_, fun j hj => ?_⟩
  · have := h j (by rw [List.length_append]; omega)
    rw [gd_l hj] at this; exact this
  · have := h (l.length + j) (by rw [List.length_append]; omega)
    rw [gd_r, ← Nat.add_assoc] at this; exact this
theorem sAg.one {cd : Nat → Int} {i : Nat} {x : Int} (h : sAg cd i [x]) : cd i = x := h 0 (by show 0 < 1; omega)
theorem sE.seq {cd : Nat → Int} {i j m : Nat} (h : sE cd i j) (h2 : sF cd j m) : sE cd i m := ⟨Nat.le_trans h.1 h2.1, fun fa s => by
  rcases h.2 fa s with a | ⟨x, a⟩
  · exact .inl (a.then0 h.1 h2.1)
  · rcases h2.2 fa x s with b | ⟨y, b⟩
    · exact .inl (a.then h.1 h2.1 b)
    · exact .inr ⟨y, a.then h.1 h2.1 b⟩⟩
theorem sC.seq {cd : Nat → Int} {i j m : Nat} (h : sC cd i j) (h2 : sD cd j m) : sC cd i m := ⟨Nat.le_trans h.1 h2.1, fun fa s => by
  rcases h.2 fa s with a | ⟨x, a, hx⟩
  · exact .inl (a.then0 h.1 h2.1)
  · rcases h2.2 fa x s hx with b | ⟨y, b, hy⟩
    · exact .inl (a.then h.1 h2.1 b)
    · exact .inr ⟨y, a.then h.1 h2.1 b, hy⟩⟩
/-- a step of two values -/
theorem lStep_bin {op : Int} {fa : Nat → Int} {p : Nat} {x y : Int} {s : List Int} (h : 2 ≤ op ∧ op ≤ 9) : lStep (1048576 * op) fa p (y :: x :: s) = some none ∨ lStep (1048576 * op) fa p (y :: x :: s) = some (some (p + 1, lRk op x y :: s)) := by
  unfold lStep
  have e1 : 1048576 * op / 1048576 = op := by omega
  dsimp only
  rw [e1, if_neg (by omega), if_neg (by omega), if_neg (by omega), if_neg (by omega), if_pos h]
  by_cases g : (op = 5 ∨ op = 6) ∧ y = 0
  · rw [if_pos g]; exact .inl rfl
  · rw [if_neg g]; exact .inr rfl
theorem lStep_0 {v : Int} {fa : Nat → Int} {p : Nat} {s : List Int} (h : 0 ≤ v ∧ v < 1048576) : lStep v fa p s = some (some (p + 1, v :: s)) := by
  unfold lStep
  have e1 : v / 1048576 = 0 := by omega
  have e2 : v % 1048576 = v := by omega
  dsimp only
  rw [e1, e2, if_pos rfl]
theorem lStep_1 {v : Int} {fa : Nat → Int} {p : Nat} {s : List Int} (h : 0 ≤ v ∧ v < 8) : lStep (1048576 + v) fa p s = some (some (p + 1, fa v.toNat :: s)) := by
  unfold lStep
  have e1 : (1048576 + v) / 1048576 = 1 := by omega
  have e2 : (1048576 + v) % 1048576 = v := by omega
  dsimp only
  rw [e1, e2, if_neg (by omega), if_pos rfl, if_pos h.2]
theorem lStep_not {x : Int} {fa : Nat → Int} {p : Nat} {s : List Int} (h : x = 0 ∨ x = 1) : lStep 10485760 fa p (x :: s) = some (some (p + 1, (1 - x) :: s)) := by
  unfold lStep
  have e1 : (10485760 : Int) / 1048576 = 10 := by omega
  dsimp only
  rw [e1, if_neg (by omega), if_neg (by omega), if_pos rfl, if_pos h]
theorem lStep_leap {op v x : Int} {fa : Nat → Int} {p : Nat} {s : List Int} (h : op = 11 ∨ op = 12) (hv : 0 ≤ v ∧ v < 1048576) : lStep (1048576 * op + v) fa p (x :: s) = some (some (v.toNat, x :: s)) ∨ lStep (1048576 * op + v) fa p (x :: s) = some (some (p + 1, s)) := by
  unfold lStep
  have e1 : (1048576 * op + v) / 1048576 = op := by omega
  have e2 : (1048576 * op + v) % 1048576 = v := by omega
  dsimp only
  rw [e1, e2, if_neg (by omega), if_neg (by omega), if_neg (by omega), if_pos h]
  by_cases g : x = (if op = 12 then 1 else 0)
  · rw [if_pos g]; exact .inl rfl
  · rw [if_neg g]; exact .inr rfl
section SM2
variable {T : Nat → Int} {n : Nat} {cd : Nat → Int}
def sIs (cd : Nat → Int) (t i j : Nat) : Prop := if t ≤ 2 then sE cd i j else if t ≤ 6 then sC cd i j else if t ≤ 12 then sF cd i j else sD cd i j
theorem rNum_val : ∀ (m p : Nat) (v : Int) (q : Nat) (l : List Int) (b : Int), 0 ≤ v → v ≤ b → rNum T n m p v = .inr (q, l) → ∃ y, l = [y] ∧ 0 ≤ y ∧ y ≤ (b + 1) * 10 ^ m - 1
  | 0, p, v, q, l, b, h0, hb, h => by
    unfold rNum at h
    split at h
    · cases h
    · cases h
      refine ⟨v, rfl, h0, ?_⟩
      rw [Int.pow_zero]
      omega
  | m + 1, p, v, q, l, b, h0, hb, h => by
    have pp : 1 ≤ (10 : Int) ^ m := Int.le_of_lt_add_one (by have := Int.pow_pos (n := 10) (by omega : (0 : Int) < 10) (m := m); omega)
    unfold rNum at h
    split at h
    · rename_i g
      have := of_decide_eq_true g
      obtain ⟨y, h1, h2, h3⟩ := rNum_val m (p + 1) _ q l (10 * b + 9) (by omega) (by omega) h
      refine ⟨y, h1, h2, ?_⟩
      rw [Int.pow_succ]
      have e : (b + 1) * (10 ^ m * 10) = (10 * b + 9 + 1) * 10 ^ m := by
        rw [show 10 * b + 9 + 1 = (b + 1) * 10 by omega, Int.mul_assoc, Int.mul_comm (10 ^ m) 10]
      rw [e]; exact h3
    · cases h
      refine ⟨v, rfl, h0, ?_⟩
      have : (b + 1) * 1 ≤ (b + 1) * 10 ^ (m + 1) := Int.mul_le_mul_of_nonneg_left (by rw [Int.pow_succ]; omega) (by omega)
      omega
theorem rNum_5 {p q : Nat} {l : List Int} (h : rNum T n 5 p 0 = .inr (q, l)) : ∃ y, l = [y] ∧ 0 ≤ y ∧ y < 1048576 := by
  obtain ⟨y, h1, h2, h3⟩ := rNum_val 5 p 0 q l 0 (by omega) (by omega) h
  exact ⟨y, h1, h2, by have : ((0 : Int) + 1) * 10 ^ 5 - 1 = 99999 := by decide
                       omega⟩
theorem rd_sem : ∀ (f t k p i q : Nat) (l : List Int), n ≤ 1000 → p ≤ n → i ≤ p → rd T n f t k p i = some (.inr (q, l)) → sAg cd i l → sIs cd t i (i + l.length) := by
  intro f
  induction f with
  | zero => intro t k p i q l hn hp hip h; cases h
  | succ f ih =>
    intro t k p i q l hn hp hip h ag
    have seq : ∀ (t1 r : Nat), t1 < 10 → rSeq (rd T n f t1) (rd T n f r) k p i = some (.inr (q, l)) → ∃ m, sIs cd t1 i m ∧ sIs cd r m (i + l.length) := fun t1 r ht h => by
      obtain ⟨q1, l1, e1, e2⟩ := rB_inr h
      obtain ⟨q2, l2, e3, e4⟩ := rPre_inr e2
      cases e4
      have a := rd_len _ _ _ _ _ _ _ hp e1
      unfold rGood at a
      rw [if_pos ht] at a
      have ag2 := ag.app
      refine ⟨i + l1.length, ih _ _ _ _ _ _ hn hp hip e1 ag2.1, ?_⟩
      rw [List.length_append, ← Nat.add_assoc]
      exact ih _ _ _ _ _ _ hn a.2.1 (by omega) e3 ag2.2
    have ops : ∀ (op : Int → Int) (t1 r : Nat), t1 ≤ 2 → 7 ≤ r → r ≤ 12 → (∀ c, op c = -1 ∨ 2 ≤ op c ∧ op c ≤ 9) → (∀ c, 0 ≤ op c → 0 ≤ c) → rOps T n op (rd T n f t1) (rd T n f r) k p i = some (.inr (q, l)) → sF cd i (i + l.length) := fun op t1 r ht r1 r2 ho hop h => by
      unfold rOps at h
      by_cases g : op (nx T n p) < 0
      · rw [if_pos g] at h
        cases h
        exact ⟨by omega, fun fa x s => .inr ⟨x, lRun.at⟩⟩
      · rw [if_neg g] at h
        have lt := nx_lt (T := T) (n := n) (p := p) rfl (hop (nx T n p) (by omega))
        obtain ⟨q1, l1, e1, e2⟩ := rB_inr h
        obtain ⟨q2, l2, e3, e4⟩ := rPre_inr e2
        cases e4
        have a := rd_len _ _ _ _ _ _ _ (by omega) e1
        unfold rGood at a
        rw [if_pos (by omega)] at a
        have ag2 := ag.app
        have ag3 := ag2.1.app
        have s1 := ih _ _ _ _ _ _ hn (by omega) (by omega) e1 ag3.1
        have e5 : (l1 ++ [1048576 * op (nx T n p)]).length = l1.length + 1 := by rw [List.length_append]; rfl
        have s2 := ih _ _ _ _ _ _ hn a.2.1 (by omega) e3 (by have := ag2.2; rw [e5] at this; exact this)
        unfold sIs at s1 s2
        rw [if_pos ht] at s1
        rw [if_neg (by omega), if_neg (by omega), if_pos r2] at s2
        rw [List.length_append, e5, show i + (l1.length + 1 + l2.length) = i + l1.length + 1 + l2.length by omega]
        have cc := ag3.2.one
        refine ⟨by omega, fun fa x s => ?_⟩
        rcases s1.2 fa (x :: s) with b | ⟨y, b⟩
        · exact .inl (b.then0 s1.1 (by omega))
        · rcases lStep_bin (fa := fa) (p := i + l1.length) (x := x) (y := y) (s := s) (by have := ho (nx T n p); omega : 2 ≤ op (nx T n p) ∧ op (nx T n p) ≤ 9) with st | st
          · exact .inl (b.then s1.1 (by omega) (lRun.no (by rw [cc]; exact st) (by omega)))
          · rcases s2.2 fa (lRk (op (nx T n p)) x y) s with z | ⟨w, z⟩
            · exact .inl (b.then s1.1 (by omega) (lRun.step (by rw [cc]; exact st) (by omega) (by omega) z))
            · exact .inr ⟨w, b.then s1.1 (by omega) (lRun.step (by rw [cc]; exact st) (by omega) (by omega) z)⟩
    have leap : ∀ (c o : Int) (t1 r : Nat), 3 ≤ t1 → t1 ≤ 6 → 13 ≤ r → 0 ≤ c → (o = 11 ∨ o = 12) → rLeap T n c o (rd T n f t1) (rd T n f r) k p i = some (.inr (q, l)) → sD cd i (i + l.length) := fun c o t1 r ht1 ht2 hr hc ho h => by
      unfold rLeap at h
      by_cases g : nx T n p = c
      · rw [if_pos g] at h
        have lt := nx_lt g hc
        obtain ⟨q1, l1, e1, e2⟩ := rB_inr h
        obtain ⟨q2, l2, e3, e4⟩ := rPre_inr e2
        cases e4
        have a := rd_len _ _ _ _ _ _ _ (by omega) e1
        unfold rGood at a
        rw [if_pos (by omega)] at a
        have ag1 : sAg cd i ([1048576 * o + ((i + 1 + l1.length : Nat) : Int)] ++ (l1 ++ l2)) := ag
        have ag2 := ag1.app
        have ag3 := ag2.2.app
        have e0 : [1048576 * o + ((i + 1 + l1.length : Nat) : Int)].length = 1 := rfl
        rw [e0] at ag3
        have s1 := ih _ _ _ _ _ _ hn (by omega) (by omega) e1 ag3.1
        have s2 := ih _ _ _ _ _ _ hn a.2.1 (by omega) e3 ag3.2
        unfold sIs at s1 s2
        rw [if_neg (by omega), if_pos ht2] at s1
        rw [if_neg (by omega), if_neg (by omega), if_neg (by omega)] at s2
        have cc := ag2.1.one
        show sD cd i (i + ((l1 ++ l2).length + 1))
        rw [List.length_append, show i + (l1.length + l2.length + 1) = i + 1 + l1.length + l2.length by omega]
        refine ⟨by omega, fun fa x s hx => ?_⟩
        have fin : ∀ y, (y = 0 ∨ y = 1) → ∀ st : List Int, (∀ r, lRun cd fa (i + 1 + l1.length + l2.length) (i + 1 + l1.length) (y :: s) r → lRun cd fa (i + 1 + l1.length + l2.length) i (x :: s) r) → lRun cd fa (i + 1 + l1.length + l2.length) i (x :: s) none ∨ ∃ y, lRun cd fa (i + 1 + l1.length + l2.length) i (x :: s) (some (y :: s)) ∧ (y = 0 ∨ y = 1) := fun y hy _ k => by
          rcases s2.2 fa y s hy with b | ⟨w, b, hw⟩
          · exact .inl (k _ b)
          · exact .inr ⟨w, k _ b, hw⟩
        rcases lStep_leap (fa := fa) (p := i) (x := x) (s := s) ho (v := ((i + 1 + l1.length : Nat) : Int)) (by omega) with st | st
        · rw [Int.toNat_natCast] at st
          exact fin x hx [] fun r k => lRun.step (by rw [cc]; exact st) (by omega) (by omega) k
        · rcases s1.2 fa s with b | ⟨y, b, hy⟩
          · exact .inl (lRun.step (by rw [cc]; exact st) (by omega) (by omega) (b.then0 s1.1 (by omega)))
          · exact fin y hy [] fun r k => lRun.step (by rw [cc]; exact st) (by omega) (by omega) (b.then s1.1 (by omega) k)
      · rw [if_neg g] at h
        cases h
        exact ⟨by omega, fun fa x s hx => .inr ⟨x, lRun.at, hx⟩⟩
    match t, h with
    | 0, h =>
      show sE cd i (i + l.length)
      have h : rFac T n (rd T n f 2) k p i = some (.inr (q, l)) := h
      unfold rFac at h
      by_cases g : rDg (nx T n p) = true
      · rw [if_pos g] at h
        obtain ⟨y, rfl, y1, y2⟩ := rNum_5 (Option.some.inj h)
        exact ⟨by omega, fun fa s => .inr ⟨y, lRun.step (by rw [ag.one]; exact lStep_0 ⟨y1, y2⟩) (show i < i + 1 by omega) (Nat.le_refl (i + 1)) lRun.at⟩⟩
      rw [if_neg g] at h
      by_cases g2 : nx T n p = 91
      · rw [if_pos g2] at h
        have lt := nx_lt g2 (by omega)
        by_cases g3 : 6 ≤ k
        · rw [if_pos g3] at h; cases h
        rw [if_neg g3] at h
        obtain ⟨q1, l1, e1, e2⟩ := rB_inr h
        by_cases g4 : nx T n q1 = 93
        · rw [if_pos g4] at e2
          cases e2
          exact ih 2 _ _ _ _ _ hn (by omega) (by omega) e1 ag
        · rw [if_neg g4] at e2; cases e2
      rw [if_neg g2] at h
      by_cases g3 : zIdx (nx T n p) < 0
      · rw [if_pos g3] at h; cases h
      · rw [if_neg g3] at h
        cases h
        have zr := zIdx_range (c := nx T n p)
        exact ⟨by omega, fun fa s => .inr ⟨_, lRun.step (by rw [ag.one]; exact lStep_1 ⟨by omega, zr.2.1⟩) (show i < i + 1 by omega) (Nat.le_refl (i + 1)) lRun.at⟩⟩
    | 1, h =>
      obtain ⟨m, a, b⟩ := seq 0 11 (by omega) h
      exact sE.seq a b
    | 2, h =>
      obtain ⟨m, a, b⟩ := seq 1 12 (by omega) h
      exact sE.seq a b
    | 5, h =>
      obtain ⟨m, a, b⟩ := seq 4 15 (by omega) h
      exact sC.seq a b
    | 6, h =>
      obtain ⟨m, a, b⟩ := seq 5 16 (by omega) h
      exact sC.seq a b
    | 11, h => exact ops rMul 0 11 (by omega) (by omega) (by omega) (fun c => by have := (rMul_range (c := c)).1; omega) (fun c => rMul_range.2) h
    | 12, h => exact ops rAdd 1 12 (by omega) (by omega) (by omega) (fun c => by have := (rAdd_range (c := c)).1; omega) (fun c => rAdd_range.2) h
    | 15, h => exact leap 38 11 4 15 (by omega) (by omega) (by omega) (by omega) (.inl rfl) h
    | 16, h => exact leap 124 12 5 16 (by omega) (by omega) (by omega) (by omega) (.inr rfl) h
    | 3, h =>
      show sC cd i (i + l.length)
      have h : rComp T n (rd T n f 2) k p i = some (.inr (q, l)) := h
      obtain ⟨q1, l1, e1, e2⟩ := rB_inr h
      have a := rd_len _ _ _ _ _ _ _ hp e1
      unfold rGood at a
      rw [if_pos (by omega)] at a
      by_cases g : rCmp (nx T n q1) < 0
      · rw [if_pos g] at e2; cases e2
      · rw [if_neg g] at e2
        have rr := rCmp_range (c := nx T n q1)
        have lt := nx_lt (T := T) (n := n) (p := q1) rfl (rr.2 (by omega))
        obtain ⟨q2, l2, e3, e4⟩ := rB_inr e2
        cases e4
        have ag2 := ag.app
        have ag3 := ag2.1.app
        have s1 : sE cd i (i + l1.length) := ih 2 _ _ _ _ _ hn hp hip e1 ag3.1
        have s2 : sE cd (i + l1.length) (i + l1.length + l2.length) := ih 2 _ _ _ _ _ hn (by omega) (by omega) e3 ag3.2
        have cc := ag2.2.one
        rw [List.length_append] at cc
        rw [List.length_append, List.length_append, show i + (l1.length + l2.length + [1048576 * rCmp (nx T n q1)].length) = i + l1.length + l2.length + 1 from by rw [← Nat.add_assoc, ← Nat.add_assoc]; rfl]
        rw [← Nat.add_assoc] at cc
        refine ⟨by omega, fun fa s => ?_⟩
        rcases s1.2 fa s with b | ⟨x, b⟩
        · exact .inl (b.then0 s1.1 (by omega))
        rcases s2.2 fa (x :: s) with b2 | ⟨y, b2⟩
        · exact .inl (b.then s1.1 (by omega) (b2.then0 s2.1 (by omega)))
        rcases lStep_bin (fa := fa) (p := i + l1.length + l2.length) (x := x) (y := y) (s := s) (by omega : 2 ≤ rCmp (nx T n q1) ∧ rCmp (nx T n q1) ≤ 9) with st | st
        · exact .inl (b.then s1.1 (by omega) (b2.then s2.1 (by omega) (lRun.no (by rw [cc]; exact st) (by omega))))
        · refine .inr ⟨_, b.then s1.1 (by omega) (b2.then s2.1 (by omega) (lRun.step (by rw [cc]; exact st) (by omega) (by omega) lRun.at)), ?_⟩
          unfold lRk
          rw [if_neg (by omega), if_neg (by omega), if_neg (by omega), if_neg (by omega), if_neg (by omega)]
          split
          · split <;> omega
          · split
            · split <;> omega
            · split <;> omega
    | 4, h =>
      show sC cd i (i + l.length)
      have h : rPiece T n (rd T n f 4) (rd T n f 6) (rd T n f 3) k p i = some (.inr (q, l)) := h
      unfold rPiece at h
      by_cases g : nx T n p = 33
      · rw [if_pos g] at h
        have lt := nx_lt g (by omega)
        by_cases g3 : 6 ≤ k
        · rw [if_pos g3] at h; cases h
        rw [if_neg g3] at h
        obtain ⟨q1, l1, e1, e2⟩ := rB_inr h
        cases e2
        have ag2 := ag.app
        have s1 : sC cd i (i + l1.length) := ih 4 _ _ _ _ _ hn (by omega) (by omega) e1 ag2.1
        have cc := ag2.2.one
        rw [List.length_append, show i + (l1.length + [(10485760 : Int)].length) = i + l1.length + 1 from by rw [← Nat.add_assoc]; rfl]
        refine ⟨by omega, fun fa s => ?_⟩
        rcases s1.2 fa s with b | ⟨x, b, hx⟩
        · exact .inl (b.then0 s1.1 (by omega))
        · exact .inr ⟨1 - x, b.then s1.1 (by omega) (lRun.step (by rw [cc]; exact lStep_not hx) (by omega) (by omega) lRun.at), by omega⟩
      rw [if_neg g] at h
      by_cases g2 : nx T n p = 40
      · rw [if_pos g2] at h
        have lt := nx_lt g2 (by omega)
        by_cases g3 : 6 ≤ k
        · rw [if_pos g3] at h; cases h
        rw [if_neg g3] at h
        obtain ⟨q1, l1, e1, e2⟩ := rB_inr h
        by_cases g4 : nx T n q1 = 41
        · rw [if_pos g4] at e2
          cases e2
          exact ih 6 _ _ _ _ _ hn (by omega) (by omega) e1 ag
        · rw [if_neg g4] at e2; cases e2
      rw [if_neg g2] at h
      exact ih 3 _ _ _ _ _ hn hp hip h ag
    | 7, h => cases h
    | 8, h => cases h
    | 9, h => cases h
    | 10, h => cases h
    | 13, h => cases h
    | 14, h => cases h
    | t + 17, h => cases h
end SM2
