-- CLASS AND MODEL, side by side: what holds between two calls
def pCount (p : Nat → Bool) : Nat → Nat
  | 0 => 0
  | n + 1 => pCount p n + if p n then 1 else 0
theorem pCount_le {p : Nat → Bool} : ∀ n, pCount p n ≤ n
  | 0 => Nat.le_refl 0
  | n + 1 => by
    have := pCount_le (p := p) n
    unfold pCount; split <;> omega
theorem pCount_full {p : Nat → Bool} : ∀ n, pCount p n = n → ∀ k, k < n → p k = true
  | 0, _, k, hk => absurd hk (Nat.not_lt_zero k)
  | n + 1, h, k, hk => by
    have h1 := pCount_le (p := p) n
    unfold pCount at h
    split at h
    · rename_i hn
      by_cases e : k = n
      · rw [e]; exact hn
      · exact pCount_full n (by omega) k (by omega)
    · omega
theorem pCount_congr {p q : Nat → Bool} : ∀ n, (∀ k, k < n → p k = q k) → pCount p n = pCount q n
  | 0, _ => rfl
  | n + 1, h => by unfold pCount; rw [h n (by omega), pCount_congr n (fun k hk => h k (by omega))]
/-- a heap of letters as it may be: letters, how many lie there, the go, the seed; street, weight, coming, last hole; the order -/
def SInv (L m g x : Int) (st we co la od : Nat → Int) : Prop :=
  (0 ≤ L ∧ L ≤ 32 ∧ 0 ≤ g ∧ g ≤ 12 ∧ 0 ≤ x ∧ x ≤ 65535) ∧ m = (pCount (fun k => decide (co k ≤ g)) L.toNat : Nat) ∧ (∀ k : Nat, (k : Int) < L → 0 ≤ st k ∧ st k < 20 ∧ 0 ≤ we k ∧ we k ≤ 99 ∧ 0 ≤ co k ∧ co k ≤ 12 ∧ 0 ≤ la k ∧ la k ≤ 9) ∧ (∀ k : Nat, (k : Int) < m → 0 ≤ od k ∧ od k < L) ∧ (∀ j k : Nat, j < k → (k : Int) < m → ¬ od j = od k) ∧ ∀ k : Nat, (k : Int) < m → co (od k).toNat ≤ g
theorem SInv.m0 {L m g x : Int} {st we co la od : Nat → Int} (h : SInv L m g x st we co la od) : 0 ≤ m ∧ m ≤ L ∧ m ≤ 32 := by
  have := pCount_le (p := fun k => decide (co k ≤ g)) L.toNat
  have h1 := h.1
  have h2 := h.2.1
  omega
/-- the class's letters at o and the model's that begin at a -/
def SAg (I : ZI) (o : Nat) (L m g x : Int) (a : Nat) : Prop := I o 5 = L ∧ I o 6 = m ∧ I o 7 = g ∧ I o 8 = x ∧ ∀ k, k < 32 → I (o + 1) k = I a k ∧ I (o + 2) k = I (a + 1) k ∧ I (o + 3) k = I (a + 2) k ∧ I (o + 4) k = I (a + 3) k ∧ I (o + 5) k = I (a + 4) k
def rNow (I : ZI) : Prop := SAg I 18 (I 137 0) (I 137 1) (I 137 2) (I 137 5) 138 ∧ SInv (I 18 5) (I 18 6) (I 18 7) (I 18 8) (I 19) (I 20) (I 21) (I 22) (I 23)
def fNow (a k : Nat) : Prop := a = 18 ∧ 5 ≤ k ∧ k ≤ 8 ∨ 19 ≤ a ∧ a ≤ 23 ∨ a = 137 ∧ (k = 0 ∨ k = 1 ∨ k = 2 ∨ k = 5) ∨ 138 ≤ a ∧ a ≤ 142
def rKept (I : ZI) : Prop := (I 1 15 = 1 → SAg I 24 (I 137 68) (I 137 69) (I 137 70) (I 137 71) 180) ∧ (I 1 15 = 1 → SInv (I 24 5) (I 24 6) (I 24 7) (I 24 8) (I 25) (I 26) (I 27) (I 28) (I 29)) ∧ I 1 15 = I 137 67 ∧ (I 1 15 = 0 ∨ I 1 15 = 1)
def fKept (a k : Nat) : Prop := a = 24 ∧ 5 ≤ k ∧ k ≤ 8 ∨ 25 ≤ a ∧ a ≤ 29 ∨ a = 137 ∧ 67 ≤ k ∧ k ≤ 71 ∨ 180 ≤ a ∧ a ≤ 184 ∨ a = 1 ∧ k = 15
def rEnv (I : ZI) : Prop := (I 15 0 = I 137 3 ∧ 1 ≤ I 15 0 ∧ I 15 0 ≤ 9) ∧ (I 15 1 = I 137 4 ∧ 0 ≤ I 15 1 ∧ I 15 1 < 2 ^ (I 15 0).toNat) ∧ ∀ k, k < 20 → I 13 k = I 143 k ∧ 0 ≤ I 13 k ∧ I 13 k < 20
def fEnv (a k : Nat) : Prop := a = 15 ∧ k ≤ 1 ∨ a = 13 ∨ a = 143 ∨ a = 137 ∧ 3 ≤ k ∧ k ≤ 4
def rTape (I : ZI) : Prop := (I 2 1 = I 137 13 ∧ 0 ≤ I 2 1 ∧ I 2 1 ≤ 220) ∧ ∀ k, k < 220 → I 144 k = zi2b (I 3 k) ∧ 0 ≤ I 3 k ∧ I 3 k < 256
def fTape (a k : Nat) : Prop := a = 2 ∧ k = 1 ∨ a = 3 ∨ a = 137 ∧ k = 13 ∨ a = 144
/-- what the search for blunders leaves is not read again; the streets below street 0 are none -/
def rBlame (_t : Nat) (I : ZI) : Prop := I 63 0 = 0
def fBlame (a k : Nat) : Prop := a = 63 ∧ k = 0
theorem rNow.fr {I J : ZI} (h : rNow I) (e : ∀ a k, fNow a k → J a k = I a k) : rNow J := by
  have e1 : ∀ a, 19 ≤ a ∧ a ≤ 23 ∨ 138 ≤ a ∧ a ≤ 142 → J a = I a := fun a ha => funext fun k => e a k (by unfold fNow; omega)
  have e2 : ∀ k, 5 ≤ k ∧ k ≤ 8 → J 18 k = I 18 k := fun k hk => e 18 k (by unfold fNow; omega)
  have e3 : ∀ k, k = 0 ∨ k = 1 ∨ k = 2 ∨ k = 5 → J 137 k = I 137 k := fun k hk => e 137 k (by unfold fNow; omega)
  unfold rNow SAg at h ⊢
  rw [e1 19 (by omega), e1 20 (by omega), e1 21 (by omega), e1 22 (by omega), e1 23 (by omega), e2 5 (by omega), e2 6 (by omega), e2 7 (by omega), e2 8 (by omega), e3 0 (by omega), e3 1 (by omega), e3 2 (by omega), e3 5 (by omega)]
  refine ⟨⟨h.1.1, h.1.2.1, h.1.2.2.1, h.1.2.2.2.1, fun k hk => ?_⟩, h.2⟩
  rw [e1 138 (by omega), e1 (138 + 1) (by omega), e1 (138 + 2) (by omega), e1 (138 + 3) (by omega), e1 (138 + 4) (by omega)]
  exact h.1.2.2.2.2 k hk
theorem rKept.fr {I J : ZI} (h : rKept I) (e : ∀ a k, fKept a k → J a k = I a k) : rKept J := by
  have e1 : ∀ a, 25 ≤ a ∧ a ≤ 29 ∨ 180 ≤ a ∧ a ≤ 184 → J a = I a := fun a ha => funext fun k => e a k (by unfold fKept; omega)
  have e2 : ∀ k, 5 ≤ k ∧ k ≤ 8 → J 24 k = I 24 k := fun k hk => e 24 k (by unfold fKept; omega)
  have e3 : ∀ k, 67 ≤ k ∧ k ≤ 71 → J 137 k = I 137 k := fun k hk => e 137 k (by unfold fKept; omega)
  have e4 : J 1 15 = I 1 15 := e 1 15 (by unfold fKept; omega)
  unfold rKept SAg at h ⊢
  rw [e1 25 (by omega), e1 26 (by omega), e1 27 (by omega), e1 28 (by omega), e1 29 (by omega), e2 5 (by omega), e2 6 (by omega), e2 7 (by omega), e2 8 (by omega), e3 67 (by omega), e3 68 (by omega), e3 69 (by omega), e3 70 (by omega), e3 71 (by omega), e4]
  refine ⟨fun hk1 => ⟨(h.1 hk1).1, (h.1 hk1).2.1, (h.1 hk1).2.2.1, (h.1 hk1).2.2.2.1, fun k hk => ?_⟩, h.2⟩
  rw [e1 180 (by omega), e1 (180 + 1) (by omega), e1 (180 + 2) (by omega), e1 (180 + 3) (by omega), e1 (180 + 4) (by omega)]
  exact (h.1 hk1).2.2.2.2 k hk
theorem rEnv.fr {I J : ZI} (h : rEnv I) (e : ∀ a k, fEnv a k → J a k = I a k) : rEnv J := by
  have e1 : J 13 = I 13 := funext fun k => e 13 k (by unfold fEnv; omega)
  have e2 : J 143 = I 143 := funext fun k => e 143 k (by unfold fEnv; omega)
  unfold rEnv at h ⊢
  rw [e1, e2, e 15 0 (by unfold fEnv; omega), e 15 1 (by unfold fEnv; omega), e 137 3 (by unfold fEnv; omega), e 137 4 (by unfold fEnv; omega)]
  exact h
theorem rTape.fr {I J : ZI} (h : rTape I) (e : ∀ a k, fTape a k → J a k = I a k) : rTape J := by
  have e1 : J 3 = I 3 := funext fun k => e 3 k (by unfold fTape; omega)
  have e2 : J 144 = I 144 := funext fun k => e 144 k (by unfold fTape; omega)
  unfold rTape at h ⊢
  rw [e1, e2, e 2 1 (by unfold fTape; omega), e 137 13 (by unfold fTape; omega)]
  exact h
theorem rBlame.fr {t : Nat} {I J : ZI} (h : rBlame t I) (e : ∀ a k, fBlame a k → J a k = I a k) : rBlame t J := by
  unfold rBlame at h ⊢
  rw [e 63 0 (by unfold fBlame; omega)]
  exact h
