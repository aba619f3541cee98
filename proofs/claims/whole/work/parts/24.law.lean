-- THE LAW AS A MACHINE over the model's codes
def lRk (op x y : Int) : Int := if op = 2 then zw (x + y) else if op = 3 then zw (x - y) else if op = 4 then zw (x * y) else if op = 5 then zw (x.tdiv y) else if op = 6 then x.tmod y else if op = 7 then (if x < y then 1 else 0) else if op = 8 then (if y < x then 1 else 0) else (if x = y then 1 else 0)
/-- a step: nothing where it can't be, nothing in it where it is refused -/
def lStep (c : Int) (fa : Nat → Int) (p : Nat) (s : List Int) : Option (Option (Nat × List Int)) :=
  let op := c / 1048576
  let v := c % 1048576
  if op = 0 then some (some (p + 1, v :: s)) else
  if op = 1 then if v < 8 then some (some (p + 1, fa v.toNat :: s)) else none else
  if op = 10 then match s with
    | x :: t => if x = 0 ∨ x = 1 then some (some (p + 1, (1 - x) :: t)) else none
    | _ => none else
  if op = 11 ∨ op = 12 then match s with
    | x :: t => some (some (if x = (if op = 12 then 1 else 0) then (v.toNat, s) else (p + 1, t)))
    | _ => none else
  if 2 ≤ op ∧ op ≤ 9 then match s with
    | y :: x :: t => some (if (op = 5 ∨ op = 6) ∧ y = 0 then none else some (p + 1, lRk op x y :: t))
    | _ => none else none
def lGo (cd fa : Nat → Int) (q : Nat) : Nat → Nat → List Int → Option (Option (List Int))
  | 0, p, s => if p = q then some (some s) else none
  | f + 1, p, s => if p = q then some (some s) else match lStep (cd p) fa p s with
    | none => none
    | some none => some none
    | some (some (p2, s2)) => if p < p2 ∧ p2 ≤ q then lGo cd fa q f p2 s2 else none
def IsE (cd : Nat → Int) (p q : Nat) : Prop := p ≤ q ∧ ∀ fa s, lGo cd fa q (q - p) p s = some none ∨ ∃ x, lGo cd fa q (q - p) p s = some (some (x :: s))
def IsC (cd : Nat → Int) (p q : Nat) : Prop := p ≤ q ∧ ∀ fa s, lGo cd fa q (q - p) p s = some none ∨ ∃ x, lGo cd fa q (q - p) p s = some (some (x :: s)) ∧ (x = 0 ∨ x = 1)
/-- what the run from p to q comes to -/
def lVal (cd fa : Nat → Int) (p q : Nat) : Int := match lGo cd fa q (q - p) p [] with
  | some (some (x :: _)) => x
  | _ => 0
/-- the class's sign for a step -/
def lSign (op : Int) : Int := if op = 0 then 35 else if op = 1 then 120 else if op = 2 then 43 else if op = 3 then 45 else if op = 4 then 42 else if op = 5 then 47 else if op = 6 then 37 else if op = 7 then 60 else if op = 8 then 62 else if op = 9 then 61 else if op = 10 then 33 else if op = 11 then 38 else 124
def cAg (I : ZI) (lw a p : Nat) : Prop :=
  0 ≤ I a p ∧ I a p / 1048576 ≤ 12 ∧ I (lw + 5) p = lSign (I a p / 1048576) ∧ I (lw + 6) p = (if I a p / 1048576 = 11 ∨ I a p / 1048576 = 12 then I a p % 1048576 - p - 1 else I a p % 1048576) ∧ (I a p / 1048576 = 1 → I a p % 1048576 < 8 ∧ (I lw 9).toNat.testBit (I a p % 1048576).toNat = true)
def rLw (I : ZI) (lw : Nat) : Prop :=
  (I lw 7 = I 137 22 ∧ 0 ≤ I lw 7 ∧ I lw 7 ≤ 14 ∧ 0 ≤ I lw 8 ∧ I lw 8 ≤ 200 ∧ 0 ≤ I lw 9 ∧ I lw 9 < 256) ∧ (∀ p : Nat, (p : Int) < I lw 8 → cAg I lw 151 p) ∧
  ∀ c : Nat, (c : Int) < I lw 7 → (I (lw + 1) c = I 152 c ∧ I (lw + 2) c = I 153 c ∧ I (lw + 3) c = I 154 c ∧ I (lw + 4) c = I 155 c) ∧ (I 152 c = 104 ∨ I 152 c = 116 ∨ I 152 c = 122) ∧ (0 ≤ I 153 c ∧ I 153 c ≤ I 154 c ∧ I 154 c ≤ I 155 c ∧ I 155 c ≤ I lw 8) ∧ (¬ I 152 c = 122 → IsE (I 151) (I 153 c).toNat (I 154 c).toNat) ∧ IsC (I 151) (I 154 c).toNat (I 155 c).toNat
def fLw (lw a k : Nat) : Prop := a = lw ∧ 7 ≤ k ∧ k ≤ 9 ∨ lw + 1 ≤ a ∧ a ≤ lw + 6 ∨ a = 137 ∧ k = 22 ∨ 151 ≤ a ∧ a ≤ 155
theorem rLw.fr {lw : Nat} {I J : ZI} (h : rLw I lw) (e : ∀ a k, fLw lw a k → J a k = I a k) : rLw J lw := by
  have e1 : ∀ a, lw + 1 ≤ a ∧ a ≤ lw + 6 ∨ 151 ≤ a ∧ a ≤ 155 → J a = I a := fun a ha => funext fun k => e a k (by unfold fLw; omega)
  have e2 : ∀ k, 7 ≤ k ∧ k ≤ 9 → J lw k = I lw k := fun k hk => e lw k (by unfold fLw; omega)
  unfold rLw cAg at h ⊢
  rw [e1 151 (by omega), e1 152 (by omega), e1 153 (by omega), e1 154 (by omega), e1 155 (by omega), e1 (lw + 1) (by omega), e1 (lw + 2) (by omega), e1 (lw + 3) (by omega), e1 (lw + 4) (by omega), e1 (lw + 5) (by omega), e1 (lw + 6) (by omega), e2 7 (by omega), e2 8 (by omega), e2 9 (by omega), e 137 22 (by unfold fLw; omega)]
  exact h
def rLaw (I : ZI) (R : ZR) : Prop := ∃ lw md, (lw = 5 ∧ md = 45 ∨ lw = 45 ∧ md = 5) ∧ R 42 4 = lw ∧ R 4 1 = md ∧ rLw I lw
def fLaw (a k : Nat) : Prop := (a = 5 ∨ a = 45) ∧ 7 ≤ k ∧ k ≤ 9 ∨ 6 ≤ a ∧ a ≤ 11 ∨ 46 ≤ a ∧ a ≤ 51 ∨ a = 137 ∧ k = 22 ∨ 151 ≤ a ∧ a ≤ 155
theorem rLaw.fr {I J : ZI} {R : ZR} (h : rLaw I R) (e : ∀ a k, fLaw a k → J a k = I a k) : rLaw J R := by
  obtain ⟨lw, md, h1, h2, h3, h4⟩ := h
  refine ⟨lw, md, h1, h2, h3, h4.fr fun a k hk => e a k ?_⟩
  unfold fLw at hk
  unfold fLaw
  omega
def rTab (R : ZR) : Prop := R 61 4 = 75 ∧ R 61 5 = 96 ∨ R 61 4 = 96 ∧ R 61 5 = 75
def Rel (t : Nat) (I : ZI) (R : ZR) : Prop := rNow I ∧ rKept I ∧ rEnv I ∧ rTape I ∧ rBlame t I ∧ rLaw I R ∧ rTab R
/-- a cell that lives on from call to call -/
def fAll (a k : Nat) : Prop := fNow a k ∨ fKept a k ∨ fEnv a k ∨ fTape a k ∨ fBlame a k ∨ fLaw a k
theorem rBlame.le {t t2 : Nat} {I : ZI} (h : rBlame t I) (_ : t ≤ t2) : rBlame t2 I := h
theorem Rel.fr {t t2 : Nat} {I J : ZI} {R : ZR} (h : Rel t I R) (ht : t ≤ t2) (e : ∀ a k, fAll a k → J a k = I a k) : Rel t2 J R :=
  ⟨h.1.fr fun a k hk => e a k (.inl hk), h.2.1.fr fun a k hk => e a k (.inr (.inl hk)), h.2.2.1.fr fun a k hk => e a k (.inr (.inr (.inl hk))), h.2.2.2.1.fr fun a k hk => e a k (.inr (.inr (.inr (.inl hk)))), (h.2.2.2.2.1.fr fun a k hk => e a k (.inr (.inr (.inr (.inr (.inl hk)))))).le ht, h.2.2.2.2.2.1.fr fun a k hk => e a k (.inr (.inr (.inr (.inr (.inr hk))))), h.2.2.2.2.2.2⟩
