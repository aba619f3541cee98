-- TABLES: the least throws for a span of streets
def aMin (x y : Int) : Int := if x ≤ y then x else y
def aS (x y : Int) : Int := aMin 1000000000 (x + y)
/-- the least of FAR and f a .. f (a + c - 1) -/
def aRun (f : Nat → Int) (a : Nat) : Nat → Int
  | 0 => 1000000000
  | c + 1 => aMin (aRun f a c) (f (a + c))
theorem aMin_le {v x y : Int} : v ≤ aMin x y ↔ v ≤ x ∧ v ≤ y := by
  unfold aMin; split <;> omega
theorem aS_le {v x y : Int} : v ≤ aS x y ↔ v ≤ 1000000000 ∧ v ≤ x + y := aMin_le
theorem aRun_le {v : Int} {f : Nat → Int} {a : Nat} : ∀ c, v ≤ aRun f a c ↔ v ≤ 1000000000 ∧ ∀ e, a ≤ e → e < a + c → v ≤ f e
  | 0 => ⟨fun h => ⟨h, fun e h1 h2 => absurd h2 (by omega)⟩, fun h => h.1⟩
  | c + 1 => by
    show v ≤ aMin (aRun f a c) (f (a + c)) ↔ _
    rw [aMin_le, aRun_le c]
    constructor
    · intro h
      refine ⟨h.1.1, fun e h1 h2 => ?_⟩
      by_cases x : e = a + c
      · rw [x]; exact h.2
      · exact h.1.2 e h1 (by omega)
    · intro h
      exact ⟨⟨h.1, fun e h1 h2 => h.2 e h1 (by omega)⟩, h.2 (a + c) (by omega) (by omega)⟩
theorem aRun_congr {f k : Nat → Int} {a : Nat} : ∀ c, (∀ e, a ≤ e → e < a + c → f e = k e) → aRun f a c = aRun k a c
  | 0, _ => rfl
  | c + 1, h => by
    show aMin (aRun f a c) (f (a + c)) = aMin (aRun k a c) (k (a + c))
    rw [aRun_congr c fun e h1 h2 => h e h1 (by omega), h (a + c) (by omega) (by omega)]
def aC (T : Nat → Nat → Int) (b : Nat) : Nat → Nat → Int
  | 0, a => if b < a then 0 else 1000000000
  | m + 1, a => if b < a then 0 else aRun (fun e => aS (T a e) (aC T b m (e + 1))) a (b + 1 - a)
def aT (P : Nat → Int) (A : Nat → Nat → Bool) (hs : Nat) : Nat → Nat → Nat → Int
  | 0, a, b => if A a b = true then 0 else 1000000000
  | g + 1, a, b => if A a b = true then 0 else aS (P (b + 1) - P a) (aC (aT P A hs g) b hs a)
/-- split[m + 1] for streets to y -/
def aP (T : Nat → Nat → Int) (y : Nat) : Nat → Nat → Int
  | 0, x => T x y
  | m + 1, x => aRun (fun z => aS (T x z) (aP T y m (z + 1))) x (y - x)
def aB (T : Nat → Nat → Int) (y m x : Nat) : Int := aRun (fun j => aP T y j x) 0 m
theorem aC_gt {T : Nat → Nat → Int} {b m a : Nat} (h : b < a) : aC T b m a = 0 := by
  cases m <;> exact if_pos h
theorem aC_le {T : Nat → Nat → Int} {b m a : Nat} {v : Int} (h : a ≤ b) : v ≤ aC T b (m + 1) a ↔ v ≤ 1000000000 ∧ ∀ e, a ≤ e → e ≤ b → v ≤ T a e + aC T b m (e + 1) := by
  have e : aC T b (m + 1) a = aRun (fun e => aS (T a e) (aC T b m (e + 1))) a (b + 1 - a) := if_neg (by omega)
  rw [e, aRun_le]
  constructor
  · intro h; exact ⟨h.1, fun e h1 h2 => (aS_le.mp (h.2 e h1 (by omega))).2⟩
  · intro h; exact ⟨h.1, fun e h1 h2 => aS_le.mpr ⟨h.1, h.2 e h1 (by omega)⟩⟩
theorem aP_le {T : Nat → Nat → Int} {y m x : Nat} {v : Int} : v ≤ aP T y (m + 1) x ↔ v ≤ 1000000000 ∧ ∀ z, x ≤ z → z < y → v ≤ T x z + aP T y m (z + 1) := by
  show v ≤ aRun (fun z => aS (T x z) (aP T y m (z + 1))) x (y - x) ↔ _
  rw [aRun_le]
  constructor
  · intro h; exact ⟨h.1, fun e h1 h2 => (aS_le.mp (h.2 e h1 (by omega))).2⟩
  · intro h; exact ⟨h.1, fun e h1 h2 => aS_le.mpr ⟨h.1, h.2 e h1 (by omega)⟩⟩
theorem aB_le {T : Nat → Nat → Int} {y m x : Nat} {v : Int} : v ≤ aB T y m x ↔ v ≤ 1000000000 ∧ ∀ j, j < m → v ≤ aP T y j x := by
  unfold aB
  rw [aRun_le]
  exact ⟨fun h => ⟨h.1, fun j hj => h.2 j (by omega) (by omega)⟩, fun h => ⟨h.1, fun j _ hj => h.2 j (by omega)⟩⟩
theorem aEq {x y : Int} (h : ∀ v : Int, v ≤ x ↔ v ≤ y) : x = y := by
  have h1 := (h x).mp (Int.le_refl x)
  have h2 := (h y).mpr (Int.le_refl y)
  omega
theorem aC_B {T : Nat → Nat → Int} (hT : ∀ x y, x ≤ y → 0 ≤ T x y ∧ T x y ≤ 1000000000) {b : Nat} : ∀ m a, a ≤ b → aC T b m a = aB T b m a
  | 0, a, h => if_neg (by omega)
  | m + 1, a, h => aEq fun v => by
    rw [aC_le h, aB_le]
    constructor
    · intro hv
      refine ⟨hv.1, fun j hj => ?_⟩
      cases j with
      | zero =>
        have h1 := hv.2 b h (Nat.le_refl b)
        rw [aC_gt (by omega)] at h1
        show v ≤ T a b
        omega
      | succ j =>
        refine aP_le.mpr ⟨hv.1, fun z h1 h2 => ?_⟩
        have h3 := hv.2 z h1 (by omega)
        rw [aC_B hT m (z + 1) (by omega)] at h3
        have h4 := (aB_le.mp (show v - T a z ≤ aB T b m (z + 1) by omega)).2 j (by omega)
        omega
    · intro hv
      refine ⟨hv.1, fun e h1 h2 => ?_⟩
      by_cases x : e = b
      · rw [x, aC_gt (by omega)]
        have h3 : v ≤ T a b := hv.2 0 (by omega)
        omega
      · rw [aC_B hT m (e + 1) (by omega)]
        have t := hT a e h1
        have h3 : v - T a e ≤ aB T b m (e + 1) := aB_le.mpr ⟨by omega, fun j hj => by
          have h4 := (aP_le.mp (hv.2 (j + 1) (by omega))).2 e h1 (by omega)
          omega⟩
        omega
theorem aC_mono {T U : Nat → Nat → Int} {a0 b : Nat} (h : ∀ x e, a0 ≤ x → x ≤ e → e ≤ b → T x e ≤ U x e) : ∀ m a, a0 ≤ a → aC T b m a ≤ aC U b m a
  | 0, a, _ => Int.le_refl _
  | m + 1, a, h0 => by
    by_cases x : b < a
    · rw [aC_gt x, aC_gt x]; exact Int.le_refl 0
    · refine (aC_le (by omega)).mpr ⟨((aC_le (by omega)).mp (Int.le_refl (aC T b (m + 1) a))).1, fun e h1 h2 => ?_⟩
      have h3 := ((aC_le (by omega)).mp (Int.le_refl (aC T b (m + 1) a))).2 e h1 h2
      have h4 := aC_mono h m (e + 1) (by omega)
      have h5 := h a e h0 h1 h2
      omega
theorem aC_nn {T : Nat → Nat → Int} (hT : ∀ x y, x ≤ y → 0 ≤ T x y) {b : Nat} : ∀ m a, 0 ≤ aC T b m a ∧ aC T b m a ≤ 1000000000
  | 0, a => by
    show 0 ≤ (if b < a then (0 : Int) else 1000000000) ∧ (if b < a then (0 : Int) else 1000000000) ≤ 1000000000
    split <;> omega
  | m + 1, a => by
    by_cases x : b < a
    · rw [aC_gt x]; omega
    · refine ⟨(aC_le (by omega)).mpr ⟨by omega, fun e h1 h2 => ?_⟩, ((aC_le (by omega)).mp (Int.le_refl (aC T b (m + 1) a))).1⟩
      have h3 := hT a e h1
      have h4 := (aC_nn hT (b := b) m (e + 1)).1
      omega
theorem aC_wide {T : Nat → Nat → Int} (hT : ∀ x y, x ≤ y → 0 ≤ T x y) (hM : ∀ x y, x ≤ y → T x y ≤ T x (y + 1)) {b : Nat} : ∀ m a, aC T b m a ≤ aC T (b + 1) m a
  | 0, a => by
    show (if b < a then (0 : Int) else 1000000000) ≤ (if b + 1 < a then (0 : Int) else 1000000000)
    by_cases x : b + 1 < a
    · rw [if_pos (by omega), if_pos x]; omega
    · rw [if_neg x]; split <;> omega
  | m + 1, a => by
    by_cases x : b < a
    · rw [aC_gt x]; exact (aC_nn hT _ _).1
    · refine (aC_le (by omega)).mpr ⟨(aC_nn hT _ _).2, fun e h1 h2 => ?_⟩
      have h3 := ((aC_le (by omega)).mp (Int.le_refl (aC T b (m + 1) a))).2
      by_cases y : e = b + 1
      · have h4 := h3 b (by omega) (by omega)
        rw [aC_gt (b := b) (a := b + 1) (by omega)] at h4
        have h5 := hM a b (by omega)
        rw [y, aC_gt (b := b + 1) (a := b + 1 + 1) (by omega)]
        omega
      · have h4 := h3 e h1 (by omega)
        have h5 := aC_wide hT hM (b := b) m (e + 1)
        omega
section AT
variable {P : Nat → Int} {A : Nat → Nat → Bool} {hs : Nat}
theorem aT_nn (hP : ∀ k, P k ≤ P (k + 1)) : ∀ g a b, a ≤ b → 0 ≤ aT P A hs g a b ∧ aT P A hs g a b ≤ 1000000000
  | 0, a, b, h => by
    show 0 ≤ (if A a b = true then (0 : Int) else 1000000000) ∧ (if A a b = true then (0 : Int) else 1000000000) ≤ 1000000000
    split <;> omega
  | g + 1, a, b, h => by
    have e : aT P A hs (g + 1) a b = if A a b = true then 0 else aS (P (b + 1) - P a) (aC (aT P A hs g) b hs a) := rfl
    rw [e]
    split
    · omega
    · have h1 := (aC_nn (fun x y hxy => (aT_nn hP g x y hxy).1) (b := b) hs a).1
      have h2 : ∀ c, P a ≤ P (a + c) := fun c => by
        induction c with
        | zero => exact Int.le_refl _
        | succ c ih => have := hP (a + c); rw [show a + (c + 1) = a + c + 1 by omega]; omega
      have h3 := h2 (b + 1 - a)
      rw [show a + (b + 1 - a) = b + 1 by omega] at h3
      exact ⟨aS_le.mpr ⟨by omega, by omega⟩, (aS_le.mp (Int.le_refl _)).1⟩
theorem aT_wide (hP : ∀ k, P k ≤ P (k + 1)) (hA : ∀ a b, A a (b + 1) = true → A a b = true) : ∀ g a b, a ≤ b → aT P A hs g a b ≤ aT P A hs g a (b + 1)
  | 0, a, b, h => by
    show (if A a b = true then (0 : Int) else 1000000000) ≤ (if A a (b + 1) = true then (0 : Int) else 1000000000)
    by_cases x : A a (b + 1) = true
    · rw [if_pos x, if_pos (hA a b x)]; exact Int.le_refl 0
    · rw [if_neg x]; split <;> omega
  | g + 1, a, b, h => by
    have e : ∀ b, aT P A hs (g + 1) a b = if A a b = true then 0 else aS (P (b + 1) - P a) (aC (aT P A hs g) b hs a) := fun _ => rfl
    rw [e (b + 1)]
    by_cases x : A a (b + 1) = true
    · rw [if_pos x, e, if_pos (hA a b x)]; exact Int.le_refl 0
    · rw [if_neg x]
      have u := aT_nn (A := A) (hs := hs) hP (g + 1) a b h
      refine aS_le.mpr ⟨u.2, ?_⟩
      have h1 := aC_wide (fun x y hxy => (aT_nn (A := A) (hs := hs) hP g x y hxy).1) (aT_wide hP hA g) (b := b) hs a
      have h2 := (aC_nn (fun x y hxy => (aT_nn (A := A) (hs := hs) hP g x y hxy).1) (b := b + 1) hs a).1
      have h3 := hP (b + 1)
      rw [e b] at u ⊢
      by_cases y : A a b = true
      · rw [if_pos y]
        have h5 : ∀ c, P a ≤ P (a + c) := fun c => by
          induction c with
          | zero => exact Int.le_refl _
          | succ c ih => have := hP (a + c); rw [show a + (c + 1) = a + c + 1 by omega]; omega
        have h6 := h5 (b + 1 + 1 - a)
        rw [show a + (b + 1 + 1 - a) = b + 1 + 1 by omega] at h6
        omega
      · rw [if_neg y]
        have h5 := (aS_le.mp (Int.le_refl (aS (P (b + 1) - P a) (aC (aT P A hs g) b hs a)))).2
        omega
theorem aT_down : ∀ g a b, a ≤ b → (∀ k, P k ≤ P (k + 1)) → aT P A hs (g + 1) a b ≤ aT P A hs g a b
  | 0, a, b, h, hP => by
    have u := aT_nn (A := A) (hs := hs) hP 1 a b h
    have e : aT P A hs 1 a b = if A a b = true then 0 else aS (P (b + 1) - P a) (aC (aT P A hs 0) b hs a) := rfl
    show _ ≤ (if A a b = true then (0 : Int) else 1000000000)
    by_cases x : A a b = true
    · rw [e, if_pos x, if_pos x]; exact Int.le_refl 0
    · rw [if_neg x]; exact u.2
  | g + 1, a, b, h, hP => by
    have e : ∀ g, aT P A hs (g + 1) a b = if A a b = true then 0 else aS (P (b + 1) - P a) (aC (aT P A hs g) b hs a) := fun _ => rfl
    rw [e (g + 1), e g]
    split
    · exact Int.le_refl 0
    · have h1 := aC_mono (a0 := a) (b := b) (T := aT P A hs (g + 1)) (U := aT P A hs g) (fun x e _ h2 _ => aT_down g x e h2 hP) hs a (Nat.le_refl a)
      have h2 := aS_le.mp (Int.le_refl (aS (P (b + 1) - P a) (aC (aT P A hs (g + 1)) b hs a)))
      exact aS_le.mpr ⟨h2.1, by omega⟩
theorem aT_still {g a0 b0 : Nat} (h : ∀ x y, a0 ≤ x → x ≤ y → y ≤ b0 → aT P A hs (g + 1) x y = aT P A hs g x y) : ∀ k x y, a0 ≤ x → x ≤ y → y ≤ b0 → aT P A hs (g + k) x y = aT P A hs g x y
  | 0, _, _, _, _, _ => rfl
  | k + 1, x, y, h1, h2, h3 => by
    have ih := aT_still h k
    rw [← h x y h1 h2 h3]
    have e : ∀ g, aT P A hs (g + 1) x y = if A x y = true then 0 else aS (P (y + 1) - P x) (aC (aT P A hs g) y hs x) := fun _ => rfl
    rw [show g + (k + 1) = (g + k) + 1 by omega, e (g + k), e g]
    have c1 := aC_mono (a0 := x) (b := y) (T := aT P A hs (g + k)) (U := aT P A hs g) (fun a e g1 g2 g3 => Int.le_of_eq (ih a e (by omega) g2 (by omega))) hs x (Nat.le_refl x)
    have c2 := aC_mono (a0 := x) (b := y) (T := aT P A hs g) (U := aT P A hs (g + k)) (fun a e g1 g2 g3 => Int.le_of_eq (ih a e (by omega) g2 (by omega)).symm) hs x (Nat.le_refl x)
    rw [show aC (aT P A hs (g + k)) y hs x = aC (aT P A hs g) y hs x by omega]
end AT
/-- FAR, or not more than W from a to b -/
def aOk (W : Nat → Int) (a b : Nat) (v : Int) : Prop := v = 1000000000 ∨ (0 ≤ v ∧ v ≤ W b - W a)
def aW (P : Nat → Int) : Nat → Nat → Int
  | 0, _ => 0
  | g + 1, k => aW P g k + P k
theorem aMin_or {x y : Int} : aMin x y = x ∨ aMin x y = y := by
  unfold aMin; split <;> simp
theorem aRun_or {f : Nat → Int} {a : Nat} : ∀ c, aRun f a c = 1000000000 ∨ ∃ e, a ≤ e ∧ e < a + c ∧ aRun f a c = f e
  | 0 => .inl rfl
  | c + 1 => by
    rcases aMin_or (x := aRun f a c) (y := f (a + c)) with h | h
    · rcases aRun_or (f := f) (a := a) c with g | ⟨e, g1, g2, g3⟩
      · exact .inl (h.trans g)
      · exact .inr ⟨e, g1, by omega, h.trans g3⟩
    · exact .inr ⟨a + c, by omega, by omega, h⟩
theorem aS_or {x y : Int} : aS x y = 1000000000 ∨ aS x y = x + y := aMin_or
theorem aW_up {P : Nat → Int} (hP : ∀ k, P k ≤ P (k + 1)) : ∀ g k, aW P g k ≤ aW P g (k + 1)
  | 0, _ => Int.le_refl 0
  | g + 1, k => by
    have h1 := aW_up hP g k
    have h2 := hP k
    show aW P g k + P k ≤ aW P g (k + 1) + P (k + 1)
    omega
theorem aUp {W : Nat → Int} (hW : ∀ k, W k ≤ W (k + 1)) {a b : Nat} (h : a ≤ b) : W a ≤ W b := by
  obtain ⟨c, rfl⟩ : ∃ c, b = a + c := ⟨b - a, by omega⟩
  induction c with
  | zero => exact Int.le_refl _
  | succ c ih => have := hW (a + c); have := ih (by omega); rw [show a + (c + 1) = a + c + 1 by omega]; omega
theorem aC_ok {T : Nat → Nat → Int} {W : Nat → Int} (hW : ∀ k, W k ≤ W (k + 1)) (hT : ∀ x y, x ≤ y → aOk W x (y + 1) (T x y)) {b : Nat} : ∀ m a, a ≤ b + 1 → aOk W a (b + 1) (aC T b m a)
  | 0, a, h => by
    show aOk W a (b + 1) (if b < a then 0 else 1000000000)
    have := aUp hW h
    split
    · exact .inr ⟨by omega, by omega⟩
    · exact .inl rfl
  | m + 1, a, h => by
    by_cases x : b < a
    · rw [aC_gt x]
      have := aUp hW h
      exact .inr ⟨by omega, by omega⟩
    · have e : aC T b (m + 1) a = aRun (fun e => aS (T a e) (aC T b m (e + 1))) a (b + 1 - a) := if_neg x
      rw [e]
      rcases aRun_or (f := fun e => aS (T a e) (aC T b m (e + 1))) (a := a) (b + 1 - a) with g | ⟨e, g1, g2, g3⟩
      · exact .inl g
      · rw [g3]
        show aOk W a (b + 1) (aS (T a e) (aC T b m (e + 1)))
        have h1 := hT a e g1
        have h2 := aC_ok hW hT (b := b) m (e + 1) (by omega)
        have h3 := aS_le.mp (Int.le_refl (aS (T a e) (aC T b m (e + 1))))
        have h4 := aS_or (x := T a e) (y := aC T b m (e + 1))
        unfold aOk at h1 h2 ⊢
        omega
theorem aP_ok {T : Nat → Nat → Int} {W : Nat → Int} (hT : ∀ x y, x ≤ y → aOk W x (y + 1) (T x y)) {y : Nat} : ∀ m x, x ≤ y → aOk W x (y + 1) (aP T y m x)
  | 0, x, h => hT x y h
  | m + 1, x, h => by
    show aOk W x (y + 1) (aRun (fun z => aS (T x z) (aP T y m (z + 1))) x (y - x))
    rcases aRun_or (f := fun z => aS (T x z) (aP T y m (z + 1))) (a := x) (y - x) with g | ⟨e, g1, g2, g3⟩
    · exact .inl g
    · rw [g3]
      show aOk W x (y + 1) (aS (T x e) (aP T y m (e + 1)))
      have h1 := hT x e g1
      have h2 := aP_ok hT (y := y) m (e + 1) (by omega)
      have h3 := aS_le.mp (Int.le_refl (aS (T x e) (aP T y m (e + 1))))
      have h4 := aS_or (x := T x e) (y := aP T y m (e + 1))
      unfold aOk at h1 h2 ⊢
      omega
theorem aT_ok {P : Nat → Int} {A : Nat → Nat → Bool} {hs : Nat} (hP : ∀ k, P k ≤ P (k + 1)) : ∀ g a b, a ≤ b → aOk (aW P g) a (b + 1) (aT P A hs g a b)
  | 0, a, b, h => by
    show aOk (aW P 0) a (b + 1) (if A a b = true then 0 else 1000000000)
    split
    · exact .inr ⟨Int.le_refl 0, Int.le_refl 0⟩
    · exact .inl rfl
  | g + 1, a, b, h => by
    have e : aT P A hs (g + 1) a b = if A a b = true then 0 else aS (P (b + 1) - P a) (aC (aT P A hs g) b hs a) := rfl
    have w : ∀ k, aW P (g + 1) k = aW P g k + P k := fun _ => rfl
    have u1 := aUp (aW_up hP g) (show a ≤ b + 1 by omega)
    have u2 := aUp hP (show a ≤ b + 1 by omega)
    unfold aOk
    rw [e, w, w]
    split
    · exact .inr ⟨by omega, by omega⟩
    · have h1 := aC_ok (T := aT P A hs g) (aW_up hP g) (aT_ok hP g) (b := b) hs a (by omega)
      have h3 := aS_le.mp (Int.le_refl (aS (P (b + 1) - P a) (aC (aT P A hs g) b hs a)))
      have h4 := aS_or (x := P (b + 1) - P a) (y := aC (aT P A hs g) b hs a)
      unfold aOk at h1
      omega
theorem aW_le {P : Nat → Int} (hP : ∀ k, 0 ≤ P k ∧ P k ≤ 32) : ∀ g k, 0 ≤ aW P g k ∧ aW P g k ≤ 32 * g
  | 0, k => by show 0 ≤ (0 : Int) ∧ (0 : Int) ≤ 32 * ((0 : Nat) : Int); omega
  | g + 1, k => by
    have := aW_le hP g k
    have := hP k
    show 0 ≤ aW P g k + P k ∧ aW P g k + P k ≤ 32 * ((g + 1 : Nat) : Int)
    omega
/-- a value as the class keeps it -/
def aL (v : Int) : Int := aMin 1000000 v
def aF (v : Int) : Prop := v = 1000000000 ∨ (0 ≤ v ∧ v ≤ 384)
theorem aOk.f {P : Nat → Int} (hP : ∀ k, 0 ≤ P k ∧ P k ≤ 32) {g a b : Nat} {v : Int} (hg : g ≤ 12) (h : aOk (aW P g) a b v) : aF v := by
  have h1 := aW_le hP g a
  have h2 := aW_le hP g b
  unfold aOk at h
  unfold aF
  omega
theorem aL_inj {v w : Int} (hv : aF v) (hw : aF w) (h : aL v = aL w) : v = w := by
  unfold aF at hv hw
  unfold aL aMin at h
  split at h <;> split at h <;> omega
