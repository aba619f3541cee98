-- THE CLASS'S READING
theorem zi2c_fin : ∀ v : Fin 256, zi2c (v.val : Int) = v.val := by decide +kernel
theorem zi2c_id {v : Int} (h : 0 ≤ v ∧ v < 256) : zi2c v = v := by
  have := zi2c_fin ⟨v.toNat, by omega⟩
  rw [show ((⟨v.toNat, by omega⟩ : Fin 256).val : Int) = v from by show (v.toNat : Int) = v; omega] at this
  exact this
theorem rB_cases {x : Option RR} {g : Nat → List Int → Option RR} {r : RR} (h : rB x g = some r) : (∃ a, x = some (.inl a) ∧ r = .inl a) ∨ ∃ q l, x = some (.inr (q, l)) ∧ g q l = some r := by
  unfold rB at h
  split at h
  · cases h
  · rename_i a
    exact .inl ⟨a, rfl, (Option.some.inj h).symm⟩
  · rename_i z
    exact .inr ⟨z.1, z.2, rfl, h⟩
/-- a step of the law that is read, as the class keeps it -/
def cOk (J : ZI) (md j : Nat) (x : Int) : Prop := 0 ≤ x ∧ x / 1048576 ≤ 12 ∧ J (md + 5) j = lSign (x / 1048576) ∧ J (md + 6) j = (if x / 1048576 = 11 ∨ x / 1048576 = 12 then x % 1048576 - j - 1 else x % 1048576) ∧ (x / 1048576 = 1 → x % 1048576 < 8 ∧ (J md 9).toNat.testBit (x % 1048576).toNat = true)
def cSt (md : Nat) (T : Nat → Int) (N : Nat) (J : ZI) (p : Nat) (C : List Int) : Prop := (J 4 2 = (N : Int) ∧ J 4 3 = (p : Int) ∧ J md 8 = (C.length : Int) ∧ 0 ≤ J md 9 ∧ J md 9 < 256) ∧ (∀ j, j < N → J 3 j = T j) ∧ ∀ j, j < C.length → cOk J md j (C.getD j 0)
def fL (md a b : Nat) : Prop := a = 4 ∧ 3 ≤ b ∧ b ≤ 4 ∨ a = md ∧ 8 ≤ b ∧ b ≤ 9 ∨ a = md + 5 ∨ a = md + 6
/-- what is to hold behind a reading that comes to r -/
def cK (md : Nat) (T : Nat → Int) (N : Nat) (C : List Int) (I : ZI) (Q : Int → ZI → Prop) : RR → Prop
  | .inl a => ∀ J : ZI, J 4 4 = a → (0 ≤ J md 8 ∧ J md 8 ≤ 200) → (∀ a b, ¬ fL md a b → J a b = I a b) → Q 0 J
  | .inr y => ∀ J : ZI, cSt md T N J y.1 (C ++ y.2) → (∀ a b, ¬ fL md a b → J a b = I a b) → Q 1 J
theorem lSign_ne {op : Int} (h : 0 ≤ op ∧ op ≤ 12) : (lSign op = 120 ↔ op = 1) := by
  unfold lSign
  repeat' split
  all_goals omega
theorem lSign_mul {c : Int} (h : 0 ≤ rMul c) : lSign (rMul c) = c ∧ (c = 42 ∨ c = 47 ∨ c = 37) := by
  unfold rMul at h ⊢
  by_cases g : c = 42
  · rw [if_pos g]; subst g; decide
  rw [if_neg g] at h ⊢
  by_cases g : c = 47
  · rw [if_pos g]; subst g; decide
  rw [if_neg g] at h ⊢
  by_cases g : c = 37
  · rw [if_pos g]; subst g; decide
  · rw [if_neg g] at h; omega
theorem rMul_neg {c : Int} (h : rMul c < 0) : ¬ c = 42 ∧ ¬ c = 47 ∧ ¬ c = 37 := by
  unfold rMul at h
  repeat' split at h
  all_goals omega
theorem lSign_add {c : Int} (h : 0 ≤ rAdd c) : lSign (rAdd c) = c ∧ (c = 43 ∨ c = 45) := by
  unfold rAdd at h ⊢
  by_cases g : c = 43
  · rw [if_pos g]; subst g; decide
  rw [if_neg g] at h ⊢
  by_cases g : c = 45
  · rw [if_pos g]; subst g; decide
  · rw [if_neg g] at h; omega
theorem rAdd_neg {c : Int} (h : rAdd c < 0) : ¬ c = 43 ∧ ¬ c = 45 := by
  unfold rAdd at h
  repeat' split at h
  all_goals omega
theorem lSign_cmp {c : Int} (h : 0 ≤ rCmp c) : lSign (rCmp c) = c ∧ (c = 60 ∨ c = 62 ∨ c = 61) := by
  unfold rCmp at h ⊢
  by_cases g : c = 60
  · rw [if_pos g]; subst g; decide
  rw [if_neg g] at h ⊢
  by_cases g : c = 62
  · rw [if_pos g]; subst g; decide
  rw [if_neg g] at h ⊢
  by_cases g : c = 61
  · rw [if_pos g]; subst g; decide
  · rw [if_neg g] at h; omega
theorem rCmp_neg {c : Int} (h : rCmp c < 0) : ¬ c = 60 ∧ ¬ c = 62 ∧ ¬ c = 61 := by
  unfold rCmp at h
  repeat' split at h
  all_goals omega
theorem cK.tail {md : Nat} {T : Nat → Int} {N : Nat} {C l : List Int} {I J : ZI} {Q : Int → ZI → Prop} {r : RR} {x : Option RR} (h : cK md T N C I Q r) (e : rPre l x = some r) (hf : ∀ a b, ¬ fL md a b → J a b = I a b) : ∃ r2, x = some r2 ∧ cK md T N (C ++ l) J Q r2 := by
  rcases rB_cases e with ⟨a, e1, e2⟩ | ⟨q, l2, e1, e2⟩
  · subst e2
    exact ⟨_, e1, fun M m1 m2 m3 => h M m1 m2 fun a b hab => by rw [m3 a b hab, hf a b hab]⟩
  · cases e2
    refine ⟨_, e1, fun M m1 m2 => h M ?_ fun a b hab => by rw [m2 a b hab, hf a b hab]⟩
    rw [← List.append_assoc]; exact m1
section LR
variable {n : Nat} {sh : ZS} {R : ZR} {md : Nat} {T : Nat → Int} {N : Nat}
theorem cSt.fr {I J : ZI} {p : Nat} {C : List Int} (h : cSt md T N I p C) (e : ∀ a b, a = 3 ∨ a = 4 ∧ (b = 2 ∨ b = 3) ∨ a = md ∧ (b = 8 ∨ b = 9) ∨ a = md + 5 ∨ a = md + 6 → J a b = I a b) : cSt md T N J p C := by
  obtain ⟨⟨h1, h2, h3, h4⟩, h5, h6⟩ := h
  refine ⟨⟨by rw [e 4 2 (by omega)]; exact h1, by rw [e 4 3 (by omega)]; exact h2, by rw [e md 8 (by omega)]; exact h3, by rw [e md 9 (by omega)]; exact h4⟩, fun j hj => by rw [e 3 j (by omega)]; exact h5 j hj, fun j hj => ?_⟩
  unfold cOk
  rw [e _ _ (by omega), e _ _ (by omega), e md 9 (by omega)]
  exact h6 j hj
theorem s_L_next {d : Nat} {I : ZI} {Q : Int → ZI → Prop} {p : Nat} {C : List Int} (hW : Wf sh R) (hN : N ≤ 200) (h : cSt md T N I p C) (q : Q (nx T N p) I) : XI d 30 [.inr 4] n sh R I Q := by
  refine b_L_next_0 hW ?_
  rw [h.1.1, h.1.2.1, Int.toNat_natCast]
  unfold nx at q
  by_cases g : p < N
  · rw [if_pos g] at q
    rw [if_neg (by omega), h.2.1 p g]
    exact ⟨by omega, q⟩
  · rw [if_neg g] at q
    rw [if_pos (by omega)]
    exact q
theorem cSt.go {I : ZI} {p : Nat} {C : List Int} (hl : md = 5 ∨ md = 45) (h : cSt md T N I p C) : cSt md T N (zup I 4 3 (I 4 3 + 1)) (p + 1) C := by
  obtain ⟨⟨h1, h2, h3, h4⟩, h5, h6⟩ := h
  refine ⟨⟨by rw [zup_ne (by omega)]; exact h1, by rw [zup_eq ⟨rfl, rfl⟩]; omega, by rw [zup_ne (by omega)]; exact h3, by rw [zup_ne (by omega)]; exact h4⟩, fun j hj => by rw [zup_ne (by omega)]; exact h5 j hj, fun j hj => ?_⟩
  unfold cOk
  rw [zup_ne (by omega), zup_ne (by omega), zup_ne (by omega)]
  exact h6 j hj
theorem s_L_take {d : Nat} {I : ZI} {Q : Int → ZI → Prop} {p : Nat} {c : Int} {C : List Int} (hW : Wf sh R) (hl : md = 5 ∨ md = 45) (hN : N ≤ 200) (hd : 1 ≤ d) (h : cSt md T N I p C) (hp : p ≤ N) (q1 : nx T N p = c → ∀ J : ZI, cSt md T N J (p + 1) C → (∀ a b, ¬ fL md a b → J a b = I a b) → Q 1 J) (q0 : ¬ nx T N p = c → ∀ J : ZI, J 4 4 = -1000 - (p : Int) → (∀ a b, ¬ (a = 4 ∧ b = 4) → J a b = I a b) → Q 0 J) : XI d 31 [.inr 4, .inl c] n sh R I Q := by
  obtain ⟨e, rfl⟩ : ∃ e, d = e + 1 := ⟨d - 1, by omega⟩
  refine b_L_take_0 hW (s_L_next hW hN h ?_)
  have h3 := h.1.2.1
  by_cases g : nx T N p = c
  · rw [if_pos g]
    exact ⟨by unfold zr; omega, q1 g _ (h.go hl) fun a b hab => zup_ne (by unfold fL at hab; omega)⟩
  · rw [if_neg g]
    exact ⟨by unfold zr; omega, by unfold zr; omega, q0 g _ (by rw [zup_eq ⟨rfl, rfl⟩]; omega) fun a b hab => zup_ne hab⟩
theorem s_L_isDigit {d : Nat} {I : ZI} {Q : Int → ZI → Prop} {c : Int} (hW : Wf sh R) (q : Q (if rDg c = true then 1 else 0) I) : XI d 33 [.inl c] n sh R I Q := by
  refine b_L_isDigit_0 hW ?_
  unfold rDg at q
  simp only [decide_eq_true_iff] at q
  by_cases g : c < 48
  · rw [if_pos g]; rw [if_neg (by omega)] at q; exact q
  rw [if_neg g]
  by_cases g2 : 57 < c
  · rw [if_pos g2]; rw [if_neg (by omega)] at q; exact q
  · rw [if_neg g2]; rw [if_pos (by omega)] at q; exact q
theorem cSt.emit {I J : ZI} {p : Nat} {x : Int} {C : List Int} (h : cSt md T N I p C) (hx : 0 ≤ x ∧ x / 1048576 ≤ 12) (f2 : J 4 2 = I 4 2) (f3 : J 4 3 = I 4 3) (f8 : J md 8 = (C.length : Int) + 1) (f9 : 0 ≤ J md 9 ∧ J md 9 < 256) (fb : ∀ b, (I md 9).toNat.testBit b = true → (J md 9).toNat.testBit b = true) (ft : ∀ j, J 3 j = I 3 j) (f5 : ∀ j, ¬ j = C.length → J (md + 5) j = I (md + 5) j) (f6 : ∀ j, ¬ j = C.length → J (md + 6) j = I (md + 6) j) (g5 : J (md + 5) C.length = lSign (x / 1048576)) (g6 : J (md + 6) C.length = if x / 1048576 = 11 ∨ x / 1048576 = 12 then x % 1048576 - (C.length : Int) - 1 else x % 1048576) (gb : x / 1048576 = 1 → x % 1048576 < 8 ∧ (J md 9).toNat.testBit (x % 1048576).toNat = true) : cSt md T N J p (C ++ [x]) := by
  obtain ⟨⟨k1, k2, k3, k4, k5⟩, k6, k7⟩ := h
  have gl : (C ++ [x]).length = C.length + 1 := by rw [List.length_append]; rfl
  refine ⟨⟨by rw [f2]; exact k1, by rw [f3]; exact k2, by rw [gl]; omega, f9.1, f9.2⟩, fun j hj => by rw [ft]; exact k6 j hj, fun j hj => ?_⟩
  rw [gl] at hj
  unfold cOk
  by_cases e : j = C.length
  · subst e
    rw [gd_last]
    exact ⟨hx.1, hx.2, g5, g6, gb⟩
  · rw [gd_l (by omega), f5 j e, f6 j e]
    have z := k7 j (by omega)
    exact ⟨z.1, z.2.1, z.2.2.1, z.2.2.2.1, fun g2 => ⟨(z.2.2.2.2 g2).1, fb _ (z.2.2.2.2 g2).2⟩⟩
/-- a step more -/
theorem s_W_emit {d : Nat} {I : ZI} {Q : Int → ZI → Prop} {p : Nat} {c v x : Int} {C : List Int} (hW : Wf sh R) (hl : md = 5 ∨ md = 45) (hM : Lw sh R md) (h : cSt md T N I p C) (hC : C.length < 200) (hx : 0 ≤ x ∧ x / 1048576 ≤ 12) (hc : c = lSign (x / 1048576)) (hv : v = if x / 1048576 = 11 ∨ x / 1048576 = 12 then x % 1048576 - (C.length : Int) - 1 else x % 1048576) (h1 : x / 1048576 = 1 → x % 1048576 < 8) (q : ∀ J : ZI, cSt md T N J p (C ++ [x]) → (∀ a b, ¬ fL md a b → J a b = I a b) → Q (C.length : Int) J) : XI d 8 [.inr md, .inl c, .inl v] n sh R I Q := by
  refine b_W_emit_0 hW hM ?_
  have k3 := h.1.2.2.1
  have k4 := h.1.2.2.2.1
  have k5 := h.1.2.2.2.2
  rw [k3, if_neg (by omega), Int.toNat_natCast]
  have ne := lSign_ne (op := x / 1048576) (by omega)
  have e8 : (zup (zup I (md + 5) C.length c) (md + 6) C.length v) md 8 = (C.length : Int) := by rw [zup_ne (by omega), zup_ne (by omega)]; exact k3
  rw [e8]
  refine ⟨by omega, by unfold zr; omega, ?_⟩
  by_cases g : x / 1048576 = 1
  · rw [if_neg (by rw [hc]; exact not_not_intro (ne.mpr g))]
    have e9 : (zup (zup (zup I (md + 5) C.length c) (md + 6) C.length v) md 8 ((C.length : Int) + 1)) md 9 = I md 9 := by rw [zup_ne (by omega), zup_ne (by omega), zup_ne (by omega)]
    rw [e9]
    have hv2 : v = x % 1048576 := by rw [hv, if_neg (by omega)]
    have lt8 := h1 g
    obtain ⟨w, hw⟩ : ∃ w : Nat, v = w := ⟨v.toNat, by omega⟩
    obtain ⟨m, hm⟩ : ∃ m : Nat, I md 9 = m := ⟨(I md 9).toNat, by omega⟩
    have p7 : 2 ^ w < 256 := Nat.lt_of_lt_of_le (Nat.pow_lt_pow_right (by decide) (show w < 8 by omega)) (by decide)
    have or1 : m ||| 2 ^ w < 256 := Nat.or_lt_two_pow (n := 8) (by omega) (by omega)
    have ez : zor (I md 9) (zshl 1 v) = ((m ||| 2 ^ w : Nat) : Int) := by rw [hm, hw, zshl_n (by omega), zor_nn (by omega) (by omega)]
    rw [ez]
    refine q _ (h.emit hx ?_ ?_ ?_ ?_ (fun b hb => ?_) (fun j => ?_) (fun j hj => ?_) (fun j hj => ?_) ?_ ?_ fun _ => ⟨lt8, ?_⟩) fun a b hab => ?_
    · rw [zup_ne (by omega), zup_ne (by omega), zup_ne (by omega), zup_ne (by omega)]
    · rw [zup_ne (by omega), zup_ne (by omega), zup_ne (by omega), zup_ne (by omega)]
    · rw [zup_ne (by omega), zup_eq ⟨rfl, rfl⟩]
    · rw [zup_eq ⟨rfl, rfl⟩]; omega
    · rw [zup_eq ⟨rfl, rfl⟩, Int.toNat_natCast, set_bit]
      rw [hm, Int.toNat_natCast] at hb
      rw [hb]; rfl
    · rw [zup_ne (by omega), zup_ne (by omega), zup_ne (by omega), zup_ne (by omega)]
    · rw [zup_ne (by omega), zup_ne (by omega), zup_ne (by omega), zup_ne (by omega)]
    · rw [zup_ne (by omega), zup_ne (by omega), zup_ne (by omega), zup_ne (by omega)]
    · rw [zup_ne (by omega), zup_ne (by omega), zup_ne (by omega), zup_eq ⟨rfl, rfl⟩]; exact hc
    · rw [zup_ne (by omega), zup_ne (by omega), zup_eq ⟨rfl, rfl⟩]; exact hv
    · rw [zup_eq ⟨rfl, rfl⟩, Int.toNat_natCast, ← hv2, hw, Int.toNat_natCast, set_bit]
      simp
    · unfold fL at hab
      rw [zup_ne (by omega), zup_ne (by omega), zup_ne (by omega), zup_ne (by omega)]
  · rw [if_pos (by rw [hc]; exact fun c => g (ne.mp c))]
    refine q _ (h.emit hx ?_ ?_ ?_ ?_ (fun b hb => ?_) (fun j => ?_) (fun j hj => ?_) (fun j hj => ?_) ?_ ?_ fun c => absurd c g) fun a b hab => ?_
    · rw [zup_ne (by omega), zup_ne (by omega), zup_ne (by omega)]
    · rw [zup_ne (by omega), zup_ne (by omega), zup_ne (by omega)]
    · rw [zup_eq ⟨rfl, rfl⟩]
    · rw [zup_ne (by omega), zup_ne (by omega), zup_ne (by omega)]; exact ⟨k4, k5⟩
    · rw [zup_ne (by omega), zup_ne (by omega), zup_ne (by omega)]; exact hb
    · rw [zup_ne (by omega), zup_ne (by omega), zup_ne (by omega)]
    · rw [zup_ne (by omega), zup_ne (by omega), zup_ne (by omega)]
    · rw [zup_ne (by omega), zup_ne (by omega), zup_ne (by omega)]
    · rw [zup_ne (by omega), zup_ne (by omega), zup_eq ⟨rfl, rfl⟩]; exact hc
    · rw [zup_ne (by omega), zup_eq ⟨rfl, rfl⟩]; exact hv
    · unfold fL at hab
      rw [zup_ne (by omega), zup_ne (by omega), zup_ne (by omega)]
/-- a step more behind what was refused -/
theorem s_W_emit0 {d : Nat} {I : ZI} {Q : Int → ZI → Prop} {c v : Int} (hW : Wf sh R) (hl : md = 5 ∨ md = 45) (hM : Lw sh R md) (h : 0 ≤ I md 8 ∧ I md 8 ≤ 200) (q : ∀ (J : ZI) (z : Int), (0 ≤ J md 8 ∧ J md 8 ≤ 200) → (∀ a b, ¬ (a = md ∧ 8 ≤ b ∧ b ≤ 9) → ¬ a = md + 5 → ¬ a = md + 6 → J a b = I a b) → Q z J) : XI d 8 [.inr md, .inl c, .inl v] n sh R I Q := by
  refine b_W_emit_0 hW hM ?_
  by_cases g : 200 ≤ I md 8
  · rw [if_pos g]
    by_cases g2 : c = 120
    · rw [if_neg (not_not_intro g2)]
      exact q _ _ (by rw [zup_ne (by omega)]; exact h) fun a b h1 h2 h3 => zup_ne (by omega)
    · rw [if_pos g2]
      exact q _ _ h fun _ _ _ _ _ => rfl
  · rw [if_neg g]
    have e8 : (zup (zup I (md + 5) (I md 8).toNat c) (md + 6) (I md 8).toNat v) md 8 = I md 8 := by rw [zup_ne (by omega), zup_ne (by omega)]
    rw [e8]
    refine ⟨by omega, by unfold zr; omega, ?_⟩
    by_cases g2 : c = 120
    · rw [if_neg (not_not_intro g2)]
      exact q _ _ (by rw [zup_ne (by omega), zup_eq ⟨rfl, rfl⟩]; omega) fun a b h1 h2 h3 => by rw [zup_ne (by omega), zup_ne (by omega), zup_ne (by omega), zup_ne (by omega)]
    · rw [if_pos g2]
      exact q _ _ (by rw [zup_eq ⟨rfl, rfl⟩]; omega) fun a b h1 h2 h3 => by rw [zup_ne (by omega), zup_ne (by omega), zup_ne (by omega)]
theorem s_L_num {Q : Int → ZI → Prop} {C : List Int} (hW : Wf sh R) (hl : md = 5 ∨ md = 45) (hR : R 4 1 = md) (hM : Lw sh R md) (hN : N ≤ 200) (hT : ∀ j, j < N → 0 ≤ T j ∧ T j < 256) : ∀ (m p : Nat) (v : Int) (I : ZI) (d : Nat), m ≤ 5 → cSt md T N I p C → p ≤ N → C.length < 200 → 0 ≤ v → (v + 1) * 10 ^ m ≤ 100000 → cK md T N C I Q (rNum T N m p v) → XIs (d + 1) 28 4 [some (.inr 4), some (.inl v), some (.inl ((5 : Int) - m))] [] n sh R I Q := by
  have em : ∀ (p : Nat) (v : Int) (I : ZI) (d : Nat), cSt md T N I p C → C.length < 200 → 0 ≤ v ∧ v < 100000 → (∀ J : ZI, cSt md T N J p (C ++ [v]) → (∀ a b, ¬ fL md a b → J a b = I a b) → Q 1 J) → XI d 8 [.inr (R 4 1), .inl 35, .inl v] n sh R I (fun _ J => Q 1 J) := fun p v I d h hC hv q => by
    have e0 : v / 1048576 = 0 := by omega
    have e1 : v % 1048576 = v := by omega
    rw [hR]
    refine s_W_emit hW hl hM h hC (x := v) ⟨hv.1, by omega⟩ (by rw [e0]; rfl) (by rw [e0, e1, if_neg (by omega)]) (fun c => by omega) q
  intro m
  induction m with
  | zero =>
    intro p v I d hm h hp hC h0 hv k
    have h3 := h.1.2.1
    rw [Int.pow_zero] at hv
    refine b_L_number_4 hW (by rw [hR]; exact hM) ?_
    rw [if_pos (by omega)]
    refine s_L_next hW hN h (s_L_isDigit hW ?_)
    unfold rNum at k
    by_cases g : rDg (nx T N p) = true
    · rw [if_pos g] at k
      rw [if_pos g, if_neg (by decide)]
      refine ⟨by unfold zr; omega, by unfold zr; omega, k _ ?_ ?_ fun a b hab => zup_ne (by unfold fL at hab; omega)⟩
      · rw [zup_eq ⟨rfl, rfl⟩]; omega
      · have := h.1.2.2.1; rw [zup_ne (by omega)]; omega
    · rw [if_neg g] at k
      rw [if_neg g, if_pos rfl]
      exact em p v I d h hC ⟨h0, by omega⟩ k
  | succ m ih =>
    intro p v I d hm h hp hC h0 hv k
    have h3 := h.1.2.1
    have pp : 1 ≤ (10 : Int) ^ m := Int.le_of_lt_add_one (by have := Int.pow_pos (n := 10) (by omega : (0 : Int) < 10) (m := m); omega)
    rw [Int.pow_succ] at hv
    have v5 : v < 100000 := by
      have : (v + 1) * 1 ≤ (v + 1) * (10 ^ m * 10) := Int.mul_le_mul_of_nonneg_left (by omega) (by omega)
      omega
    refine b_L_number_4 hW (by rw [hR]; exact hM) ?_
    rw [if_neg (by omega)]
    refine s_L_next hW hN h (s_L_isDigit hW ?_)
    have k2 : cK md T N C I Q (if rDg (nx T N p) = true then rNum T N m (p + 1) (10 * v + nx T N p - 48) else .inr (p, [v])) := k
    by_cases g : rDg (nx T N p) = true
    · have dg := of_decide_eq_true g
      have lt := nx_lt (T := T) (n := N) (p := p) rfl (by omega)
      rw [if_pos g] at k2
      rw [if_pos g, if_neg (by decide)]
      refine ⟨by unfold zr; omega, s_L_next hW hN h ?_⟩
      refine ⟨by unfold zr; omega, by unfold zr; omega, by unfold zr; omega, by unfold zr; omega, ?_⟩
      rw [show (5 : Int) - ((m + 1 : Nat) : Int) + 1 = 5 - (m : Int) by omega]
      refine ih (p + 1) _ _ d (by omega) (h.go hl) (by omega) hC (by omega) ?_ ?_
      · have : (10 * v + nx T N p - 48 + 1) * 10 ^ m ≤ ((v + 1) * 10) * 10 ^ m := Int.mul_le_mul_of_nonneg_right (by omega) (by omega)
        have e : (v + 1) * (10 ^ m * 10) = (v + 1) * 10 * 10 ^ m := by rw [Int.mul_assoc, Int.mul_comm (10 ^ m) 10]
        omega
      · cases hr : rNum T N m (p + 1) (10 * v + nx T N p - 48) with
        | inl a =>
          rw [hr] at k2
          exact fun J j1 j2 j3 => k2 J j1 j2 fun a b hab => by rw [j3 a b hab, zup_ne (by unfold fL at hab; omega)]
        | inr y =>
          rw [hr] at k2
          exact fun J j1 j3 => k2 J j1 fun a b hab => by rw [j3 a b hab, zup_ne (by unfold fL at hab; omega)]
    · rw [if_neg g] at k2
      rw [if_neg g, if_pos rfl]
      refine s_L_next hW hN h (s_L_isDigit hW ?_)
      rw [if_neg g, if_pos rfl]
      exact em p v I d h hC ⟨h0, v5⟩ k2
def cG (n : Nat) (sh : ZS) (R : ZR) (t d k p : Nat) (I : ZI) (Q : Int → ZI → Prop) : Prop := match t with
  | 0 => XI d 27 [.inr 4, .inl (k : Int)] n sh R I Q
  | 1 => XI d 26 [.inr 4, .inl (k : Int)] n sh R I Q
  | 11 => ∀ (x3 : Int) (u4 : Option AV), 0 ≤ x3 ∧ x3 ≤ (p : Int) → XIs d 26 11 [some (.inr 4), some (.inl (k : Int)), some (.inl 1), some (.inl x3), u4] [] n sh R I Q
  | 2 => XI d 25 [.inr 4, .inl (k : Int)] n sh R I Q
  | 12 => ∀ (x3 : Int) (u4 : Option AV), 0 ≤ x3 ∧ x3 ≤ (p : Int) → XIs d 25 11 [some (.inr 4), some (.inl (k : Int)), some (.inl 1), some (.inl x3), u4] [] n sh R I Q
  | 3 => XI d 24 [.inr 4, .inl (k : Int)] n sh R I Q
  | 4 => XI d 23 [.inr 4, .inl (k : Int)] n sh R I Q
  | 5 => XI d 22 [.inr 4, .inl (k : Int)] n sh R I Q
  | 15 => ∀ (x3 : Int) (u4 : Option AV), 0 ≤ x3 ∧ x3 ≤ (p : Int) → XIs d 22 11 [some (.inr 4), some (.inl (k : Int)), some (.inl 1), some (.inl x3), u4] [] n sh R I Q
  | 6 => XI d 21 [.inr 4, .inl (k : Int)] n sh R I Q
  | 16 => ∀ (x3 : Int) (u4 : Option AV), 0 ≤ x3 ∧ x3 ≤ (p : Int) → XIs d 21 11 [some (.inr 4), some (.inl (k : Int)), some (.inl 1), some (.inl x3), u4] [] n sh R I Q
  | _ => True
def cDp (t : Nat) : Nat := match t with
  | 0 => 0
  | 1 => 1
  | 11 => 1
  | 2 => 2
  | 12 => 2
  | 3 => 3
  | 4 => 4
  | 5 => 5
  | 15 => 5
  | _ => 6
/-- the class's reading comes to what is read -/
def cH (n : Nat) (sh : ZS) (R : ZR) (md : Nat) (T : Nat → Int) (N f : Nat) : Prop := ∀ (t k p : Nat) (C : List Int) (I : ZI) (Q : Int → ZI → Prop) (r : RR) (d : Nat), k ≤ 6 → p ≤ N → C.length ≤ p → cSt md T N I p C → rd T N f t k p C.length = some r → cK md T N C I Q r → 8 * (7 - k) + cDp t ≤ d → cG n sh R t d k p I Q
theorem s_W_bridge {d : Nat} {I : ZI} {Q : ZI → Prop} {p i : Nat} {op : Int} {C l : List Int} (hW : Wf sh R) (hl : md = 5 ∨ md = 45) (hM : Lw sh R md) (ho : op = 11 ∨ op = 12) (hi : i = C.length) (hC : C.length + 1 + l.length ≤ 200) (h : cSt md T N I p (C ++ (1048576 * op + ((i : Int) + 1)) :: l)) (q : ∀ J : ZI, cSt md T N J p (C ++ (1048576 * op + ((i + 1 + l.length : Nat) : Int)) :: l) → (∀ a b, ¬ a = md + 6 → J a b = I a b) → Q J) : XV d 9 [.inr md, .inl (i : Int)] n sh R I Q := by
  subst hi
  obtain ⟨⟨k1, k2, k3, k4, k5⟩, k6, k7⟩ := h
  have gl : ∀ z : Int, (C ++ z :: l).length = C.length + 1 + l.length := fun z => by rw [List.length_append, List.length_cons]; omega
  rw [gl] at k3 k7
  refine b_W_bridge_0 hW hM ?_
  rw [k3, if_neg (by omega), if_neg (by omega), Int.toNat_natCast]
  refine ⟨by unfold zr; omega, by unfold zr; omega, by omega, q _ ⟨⟨?_, ?_, ?_, ?_, ?_⟩, fun j hj => ?_, fun j hj => ?_⟩ fun a b hab => zup_ne (by omega)⟩
  · rw [zup_ne (by omega)]; exact k1
  · rw [zup_ne (by omega)]; exact k2
  · rw [zup_ne (by omega), gl]; exact k3
  · rw [zup_ne (by omega)]; exact k4
  · rw [zup_ne (by omega)]; exact k5
  · rw [zup_ne (by omega)]; exact k6 j hj
  · rw [gl] at hj
    have z := k7 j hj
    unfold cOk at z ⊢
    rw [zup_ne (by omega), zup_ne (a := md) (b := 9) (by omega)]
    by_cases e : j = C.length
    · subst e
      have g1 : ∀ w : Int, (C ++ w :: l).getD C.length 0 = w := fun w => gd_r (l := C) (t := w :: l) 0
      rw [g1] at z ⊢
      have d1 : (1048576 * op + ((C.length : Int) + 1)) / 1048576 = op := by omega
      have d2 : (1048576 * op + ((C.length + 1 + l.length : Nat) : Int)) / 1048576 = op := by omega
      have d3 : (1048576 * op + ((C.length + 1 + l.length : Nat) : Int)) % 1048576 = ((C.length + 1 + l.length : Nat) : Int) := by omega
      rw [d1] at z
      rw [d2, d3, zup_eq ⟨rfl, rfl⟩, if_pos ho]
      exact ⟨by omega, by omega, z.2.2.1, by omega, fun c => by omega⟩
    · have g1 : ∀ w : Int, (C ++ w :: l).getD j 0 = if j < C.length then C.getD j 0 else l.getD (j - C.length - 1) 0 := fun w => by
        by_cases g : j < C.length
        · rw [if_pos g, gd_l g]
        · rw [if_neg g]
          have := gd_r (l := C) (t := w :: l) (j - C.length)
          rw [show C.length + (j - C.length) = j by omega] at this
          rw [this, show j - C.length = (j - C.length - 1) + 1 by omega]
          rfl
      rw [g1] at z ⊢
      rw [zup_ne (by omega)]
      exact z
/-- a bridge behind what was refused -/
theorem s_W_bridge0 {d : Nat} {I : ZI} {Q : ZI → Prop} {i : Nat} (hW : Wf sh R) (hM : Lw sh R md) (hi : i < 200) (h : 0 ≤ I md 8 ∧ I md 8 ≤ 200) (q : ∀ J : ZI, (∀ a b, ¬ a = md + 6 → J a b = I a b) → Q J) : XV d 9 [.inr md, .inl (i : Int)] n sh R I Q := by
  refine b_W_bridge_0 hW hM ?_
  rw [if_neg (by omega)]
  by_cases g : I md 8 ≤ (i : Int)
  · rw [if_pos g]; exact q I fun _ _ _ => rfl
  · rw [if_neg g]
    exact ⟨by unfold zr; omega, by unfold zr; omega, by omega, q _ fun a b hab => zup_ne (by omega)⟩
theorem h_term (hW : Wf sh R) (hl : md = 5 ∨ md = 45) (hR : R 4 1 = md) (hM : Lw sh R md) (hN : N ≤ 200) (hT : ∀ j, j < N → 0 ≤ T j ∧ T j < 256) {f : Nat} (ih : cH n sh R md T N f) {k p : Nat} {C : List Int} {I : ZI} {Q : Int → ZI → Prop} {r : RR} {d : Nat} (hk : k ≤ 6) (hp : p ≤ N) (hC : C.length ≤ p) (hst : cSt md T N I p C) (hr : rSeq (rd T N f 0) (rd T N f 11) k p C.length = some r) (hK : cK md T N C I Q r) (hd : 8 * (7 - k) + 1 ≤ d) : XI d 26 [.inr 4, .inl (k : Int)] n sh R I Q := by
  obtain ⟨e, rfl⟩ : ∃ e, d = e + 1 := ⟨d - 1, by omega⟩
  refine b_L_term_0 hW ?_
  rcases rB_cases hr with ⟨a, e1, e2⟩ | ⟨q, l, e1, e2⟩
  · subst e2
    refine ih 0 k p C I _ _ e hk hp hC hst e1 (fun J j1 j2 j3 => b_L_term_11 hW (by rw [hR]; exact hM) ?_) (by show _ + 0 ≤ _; omega)
    split
    · exact ⟨.inl rfl, hK J j1 j2 j3⟩
    · rw [if_pos rfl]; exact ⟨.inl rfl, hK J j1 j2 j3⟩
  · have a := rd_len _ _ _ _ _ _ _ hp e1
    have a1 : p + 1 ≤ q ∧ q ≤ N ∧ l.length + p ≤ q := a
    refine ih 0 k p C I _ _ e hk hp hC hst e1 (fun J j1 j3 => ?_) (by show _ + 0 ≤ _; omega)
    obtain ⟨r2, e3, k2⟩ := hK.tail (J := J) e2 j3
    have z := ih 11 k q (C ++ l) J Q r2 (e + 1) hk a1.2.1 (by rw [List.length_append]; omega) j1 (by rw [List.length_append]; exact e3) k2 (by show _ + 1 ≤ _; omega)
    rw [j1.1.2.1]
    exact z (q : Int) none ⟨by omega, Int.le_refl _⟩
theorem h_sum (hW : Wf sh R) (hl : md = 5 ∨ md = 45) (hR : R 4 1 = md) (hM : Lw sh R md) (hN : N ≤ 200) (hT : ∀ j, j < N → 0 ≤ T j ∧ T j < 256) {f : Nat} (ih : cH n sh R md T N f) {k p : Nat} {C : List Int} {I : ZI} {Q : Int → ZI → Prop} {r : RR} {d : Nat} (hk : k ≤ 6) (hp : p ≤ N) (hC : C.length ≤ p) (hst : cSt md T N I p C) (hr : rSeq (rd T N f 1) (rd T N f 12) k p C.length = some r) (hK : cK md T N C I Q r) (hd : 8 * (7 - k) + 2 ≤ d) : XI d 25 [.inr 4, .inl (k : Int)] n sh R I Q := by
  obtain ⟨e, rfl⟩ : ∃ e, d = e + 1 := ⟨d - 1, by omega⟩
  refine b_L_sum_0 hW ?_
  rcases rB_cases hr with ⟨a, e1, e2⟩ | ⟨q, l, e1, e2⟩
  · subst e2
    refine ih 1 k p C I _ _ e hk hp hC hst e1 (fun J j1 j2 j3 => b_L_sum_11 hW (by rw [hR]; exact hM) ?_) (by show _ + 1 ≤ _; omega)
    split
    · exact ⟨.inl rfl, hK J j1 j2 j3⟩
    · rw [if_pos rfl]; exact ⟨.inl rfl, hK J j1 j2 j3⟩
  · have a := rd_len _ _ _ _ _ _ _ hp e1
    have a1 : p + 1 ≤ q ∧ q ≤ N ∧ l.length + p ≤ q := a
    refine ih 1 k p C I _ _ e hk hp hC hst e1 (fun J j1 j3 => ?_) (by show _ + 1 ≤ _; omega)
    obtain ⟨r2, e3, k2⟩ := hK.tail (J := J) e2 j3
    have z := ih 12 k q (C ++ l) J Q r2 (e + 1) hk a1.2.1 (by rw [List.length_append]; omega) j1 (by rw [List.length_append]; exact e3) k2 (by show _ + 2 ≤ _; omega)
    rw [j1.1.2.1]
    exact z (q : Int) none ⟨by omega, Int.le_refl _⟩
theorem h_part (hW : Wf sh R) (hl : md = 5 ∨ md = 45) (hR : R 4 1 = md) (hM : Lw sh R md) (hN : N ≤ 200) (hT : ∀ j, j < N → 0 ≤ T j ∧ T j < 256) {f : Nat} (ih : cH n sh R md T N f) {k p : Nat} {C : List Int} {I : ZI} {Q : Int → ZI → Prop} {r : RR} {d : Nat} (hk : k ≤ 6) (hp : p ≤ N) (hC : C.length ≤ p) (hst : cSt md T N I p C) (hr : rSeq (rd T N f 4) (rd T N f 15) k p C.length = some r) (hK : cK md T N C I Q r) (hd : 8 * (7 - k) + 5 ≤ d) : XI d 22 [.inr 4, .inl (k : Int)] n sh R I Q := by
  obtain ⟨e, rfl⟩ : ∃ e, d = e + 1 := ⟨d - 1, by omega⟩
  refine b_L_part_0 hW ?_
  rcases rB_cases hr with ⟨a, e1, e2⟩ | ⟨q, l, e1, e2⟩
  · subst e2
    refine ih 4 k p C I _ _ e hk hp hC hst e1 (fun J j1 j2 j3 => b_L_part_11 hW (by rw [hR]; exact hM) ?_) (by show _ + 4 ≤ _; omega)
    split
    · exact ⟨.inl rfl, hK J j1 j2 j3⟩
    · rw [if_pos rfl]; exact ⟨.inl rfl, hK J j1 j2 j3⟩
  · have a := rd_len _ _ _ _ _ _ _ hp e1
    have a1 : p + 1 ≤ q ∧ q ≤ N ∧ l.length + p ≤ q := a
    refine ih 4 k p C I _ _ e hk hp hC hst e1 (fun J j1 j3 => ?_) (by show _ + 4 ≤ _; omega)
    obtain ⟨r2, e3, k2⟩ := hK.tail (J := J) e2 j3
    have z := ih 15 k q (C ++ l) J Q r2 (e + 1) hk a1.2.1 (by rw [List.length_append]; omega) j1 (by rw [List.length_append]; exact e3) k2 (by show _ + 5 ≤ _; omega)
    rw [j1.1.2.1]
    exact z (q : Int) none ⟨by omega, Int.le_refl _⟩
theorem h_condition (hW : Wf sh R) (hl : md = 5 ∨ md = 45) (hR : R 4 1 = md) (hM : Lw sh R md) (hN : N ≤ 200) (hT : ∀ j, j < N → 0 ≤ T j ∧ T j < 256) {f : Nat} (ih : cH n sh R md T N f) {k p : Nat} {C : List Int} {I : ZI} {Q : Int → ZI → Prop} {r : RR} {d : Nat} (hk : k ≤ 6) (hp : p ≤ N) (hC : C.length ≤ p) (hst : cSt md T N I p C) (hr : rSeq (rd T N f 5) (rd T N f 16) k p C.length = some r) (hK : cK md T N C I Q r) (hd : 8 * (7 - k) + 6 ≤ d) : XI d 21 [.inr 4, .inl (k : Int)] n sh R I Q := by
  obtain ⟨e, rfl⟩ : ∃ e, d = e + 1 := ⟨d - 1, by omega⟩
  refine b_L_condition_0 hW ?_
  rcases rB_cases hr with ⟨a, e1, e2⟩ | ⟨q, l, e1, e2⟩
  · subst e2
    refine ih 5 k p C I _ _ e hk hp hC hst e1 (fun J j1 j2 j3 => b_L_condition_11 hW (by rw [hR]; exact hM) ?_) (by show _ + 5 ≤ _; omega)
    split
    · exact ⟨.inl rfl, hK J j1 j2 j3⟩
    · rw [if_pos rfl]; exact ⟨.inl rfl, hK J j1 j2 j3⟩
  · have a := rd_len _ _ _ _ _ _ _ hp e1
    have a1 : p + 1 ≤ q ∧ q ≤ N ∧ l.length + p ≤ q := a
    refine ih 5 k p C I _ _ e hk hp hC hst e1 (fun J j1 j3 => ?_) (by show _ + 5 ≤ _; omega)
    obtain ⟨r2, e3, k2⟩ := hK.tail (J := J) e2 j3
    have z := ih 16 k q (C ++ l) J Q r2 (e + 1) hk a1.2.1 (by rw [List.length_append]; omega) j1 (by rw [List.length_append]; exact e3) k2 (by show _ + 6 ≤ _; omega)
    rw [j1.1.2.1]
    exact z (q : Int) none ⟨by omega, Int.le_refl _⟩
theorem h_termR (hW : Wf sh R) (hl : md = 5 ∨ md = 45) (hR : R 4 1 = md) (hM : Lw sh R md) (hN : N ≤ 200) (hT : ∀ j, j < N → 0 ≤ T j ∧ T j < 256) {f : Nat} (ih : cH n sh R md T N f) {k p : Nat} {C : List Int} {I : ZI} {Q : Int → ZI → Prop} {r : RR} {d : Nat} (hk : k ≤ 6) (hp : p ≤ N) (hC : C.length ≤ p) (hst : cSt md T N I p C) (hr : rOps T N rMul (rd T N f 0) (rd T N f 11) k p C.length = some r) (hK : cK md T N C I Q r) (hd : 8 * (7 - k) + 1 ≤ d) (x3 : Int) (u4 : Option AV) (h3 : 0 ≤ x3 ∧ x3 ≤ (p : Int)) : XIs d 26 11 [some (.inr 4), some (.inl (k : Int)), some (.inl 1), some (.inl x3), u4] [] n sh R I Q := by
  obtain ⟨e, rfl⟩ : ∃ e, d = e + 1 := ⟨d - 1, by omega⟩
  have hr : (if rMul (nx T N p) < 0 then some (.inr (p, [])) else rB (rd T N f 0 k (p + 1) C.length) fun q l => rPre (l ++ [1048576 * rMul (nx T N p)]) (rd T N f 11 k q (C.length + l.length + 1))) = some r := hr
  refine b_L_term_11 hW (by rw [hR]; exact hM) ?_
  have stop : rMul (nx T N p) < 0 → Q 1 I := fun g => by
    rw [if_pos g] at hr
    cases hr
    exact hK I (by rw [List.append_nil]; exact hst) fun _ _ _ => rfl
  rw [hst.1.1]
  by_cases gN : (N : Int) ≤ x3
  · rw [if_pos gN]
    exact ⟨.inr rfl, stop (by unfold nx; rw [if_neg (by omega)]; decide)⟩
  rw [if_neg gN, if_neg (by decide)]
  refine s_L_next hW hN hst ?_
  have go : 0 ≤ rMul (nx T N p) → XI e 30 [.inr 4] n sh R I (fun v5 I6 => (zr (I6 4 3 + 1)) ∧ XI e 27 [.inr 4, .inl (k : Int)] n sh R (zup I6 4 3 (I6 4 3 + 1)) (fun v8 I9 => XI e 8 [.inr (R 4 1), .inl v5, .inl 0] n sh R I9 (fun _ I11 => (zr (x3 + 1)) ∧ XIs (e + 1) 26 11 [some (.inr 4), some (.inl (k : Int)), some (.inl v8), some (.inl (x3 + 1)), some (.inl v5)] [] n sh R I11 Q))) := fun g => by
    have sg := lSign_mul g
    have og := rMul_range (c := nx T N p)
    have lt := nx_lt (T := T) (n := N) (p := p) rfl (og.2 g)
    have i3 := hst.1.2.1
    rw [if_neg (by omega)] at hr
    refine s_L_next hW hN hst ⟨by unfold zr; omega, ?_⟩
    rw [hR]
    have fr0 : ∀ a b, ¬ fL md a b → (zup I 4 3 (I 4 3 + 1)) a b = I a b := fun a b hab => zup_ne (by unfold fL at hab; omega)
    rcases rB_cases hr with ⟨a, e1, e2⟩ | ⟨q, l, e1, e2⟩
    · subst e2
      refine ih 0 k (p + 1) C _ _ _ e hk (by omega) (by omega) (hst.go hl) e1 (fun J j1 j2 j3 => s_W_emit0 hW hl hM j2 fun M _ m1 m2 => ⟨by unfold zr; omega, b_L_term_11 hW (by rw [hR]; exact hM) ?_⟩) (by show _ + 0 ≤ _; omega)
      have fin : Q 0 M := hK M (by rw [m2 4 4 (by omega) (by omega) (by omega)]; exact j1) m1 fun a b hab => by
        have hab2 := hab
        unfold fL at hab2
        rw [m2 a b (by omega) (by omega) (by omega), j3 a b hab, fr0 a b hab]
      split
      · exact ⟨.inl rfl, fin⟩
      · rw [if_pos rfl]; exact ⟨.inl rfl, fin⟩
    · have a := rd_len _ _ _ _ _ _ _ (by omega) e1
      have a1 : p + 1 + 1 ≤ q ∧ q ≤ N ∧ l.length + (p + 1) ≤ q := a
      refine ih 0 k (p + 1) C _ _ _ e hk (by omega) (by omega) (hst.go hl) e1 (fun J j1 j3 => ?_) (by show _ + 0 ≤ _; omega)
      have j1 : cSt md T N J q (C ++ l) := j1
      have d1 : 1048576 * rMul (nx T N p) / 1048576 = rMul (nx T N p) := by omega
      have d2 : 1048576 * rMul (nx T N p) % 1048576 = 0 := by omega
      refine s_W_emit hW hl hM j1 (by rw [List.length_append]; omega) (x := 1048576 * rMul (nx T N p)) ⟨by omega, by omega⟩ (by rw [d1]; exact sg.1.symm) (by rw [d1, d2, if_neg (by omega)]) (fun c => by omega) fun M m1 m2 => ⟨by unfold zr; omega, ?_⟩
      obtain ⟨r2, e3, k2⟩ := hK.tail (J := M) e2 fun a b hab => by rw [m2 a b hab, j3 a b hab, fr0 a b hab]
      have cl : (C ++ (l ++ [1048576 * rMul (nx T N p)])).length = C.length + l.length + 1 := by rw [List.length_append, List.length_append, ← Nat.add_assoc]; rfl
      rw [List.append_assoc] at m1
      exact ih 11 k q _ M Q r2 (e + 1) hk a1.2.1 (by rw [cl]; omega) m1 (by rw [cl]; exact e3) k2 (by show _ + 1 ≤ _; omega) (x3 + 1) _ ⟨by omega, by omega⟩
  by_cases g1 : nx T N p = 42
  · rw [if_pos g1]; exact go (by rw [g1]; decide)
  rw [if_neg g1]
  refine s_L_next hW hN hst ?_
  by_cases g2 : nx T N p = 47
  · rw [if_pos g2]; exact go (by rw [g2]; decide)
  rw [if_neg g2]
  refine s_L_next hW hN hst ?_
  by_cases g3 : nx T N p = 37
  · rw [if_neg (not_not_intro g3)]; exact go (by rw [g3]; decide)
  · rw [if_pos g3]
    exact ⟨.inr rfl, stop (by unfold rMul; rw [if_neg g1, if_neg g2, if_neg g3]; decide)⟩
theorem h_sumR (hW : Wf sh R) (hl : md = 5 ∨ md = 45) (hR : R 4 1 = md) (hM : Lw sh R md) (hN : N ≤ 200) (hT : ∀ j, j < N → 0 ≤ T j ∧ T j < 256) {f : Nat} (ih : cH n sh R md T N f) {k p : Nat} {C : List Int} {I : ZI} {Q : Int → ZI → Prop} {r : RR} {d : Nat} (hk : k ≤ 6) (hp : p ≤ N) (hC : C.length ≤ p) (hst : cSt md T N I p C) (hr : rOps T N rAdd (rd T N f 1) (rd T N f 12) k p C.length = some r) (hK : cK md T N C I Q r) (hd : 8 * (7 - k) + 2 ≤ d) (x3 : Int) (u4 : Option AV) (h3 : 0 ≤ x3 ∧ x3 ≤ (p : Int)) : XIs d 25 11 [some (.inr 4), some (.inl (k : Int)), some (.inl 1), some (.inl x3), u4] [] n sh R I Q := by
  obtain ⟨e, rfl⟩ : ∃ e, d = e + 1 := ⟨d - 1, by omega⟩
  have hr : (if rAdd (nx T N p) < 0 then some (.inr (p, [])) else rB (rd T N f 1 k (p + 1) C.length) fun q l => rPre (l ++ [1048576 * rAdd (nx T N p)]) (rd T N f 12 k q (C.length + l.length + 1))) = some r := hr
  refine b_L_sum_11 hW (by rw [hR]; exact hM) ?_
  have stop : rAdd (nx T N p) < 0 → Q 1 I := fun g => by
    rw [if_pos g] at hr
    cases hr
    exact hK I (by rw [List.append_nil]; exact hst) fun _ _ _ => rfl
  rw [hst.1.1]
  by_cases gN : (N : Int) ≤ x3
  · rw [if_pos gN]
    exact ⟨.inr rfl, stop (by unfold nx; rw [if_neg (by omega)]; decide)⟩
  rw [if_neg gN, if_neg (by decide)]
  refine s_L_next hW hN hst ?_
  have go : 0 ≤ rAdd (nx T N p) → XI e 30 [.inr 4] n sh R I (fun v5 I6 => (zr (I6 4 3 + 1)) ∧ XI e 26 [.inr 4, .inl (k : Int)] n sh R (zup I6 4 3 (I6 4 3 + 1)) (fun v8 I9 => XI e 8 [.inr (R 4 1), .inl v5, .inl 0] n sh R I9 (fun _ I11 => (zr (x3 + 1)) ∧ XIs (e + 1) 25 11 [some (.inr 4), some (.inl (k : Int)), some (.inl v8), some (.inl (x3 + 1)), some (.inl v5)] [] n sh R I11 Q))) := fun g => by
    have sg := lSign_add g
    have og := rAdd_range (c := nx T N p)
    have lt := nx_lt (T := T) (n := N) (p := p) rfl (og.2 g)
    have i3 := hst.1.2.1
    rw [if_neg (by omega)] at hr
    refine s_L_next hW hN hst ⟨by unfold zr; omega, ?_⟩
    rw [hR]
    have fr0 : ∀ a b, ¬ fL md a b → (zup I 4 3 (I 4 3 + 1)) a b = I a b := fun a b hab => zup_ne (by unfold fL at hab; omega)
    rcases rB_cases hr with ⟨a, e1, e2⟩ | ⟨q, l, e1, e2⟩
    · subst e2
      refine ih 1 k (p + 1) C _ _ _ e hk (by omega) (by omega) (hst.go hl) e1 (fun J j1 j2 j3 => s_W_emit0 hW hl hM j2 fun M _ m1 m2 => ⟨by unfold zr; omega, b_L_sum_11 hW (by rw [hR]; exact hM) ?_⟩) (by show _ + 1 ≤ _; omega)
      have fin : Q 0 M := hK M (by rw [m2 4 4 (by omega) (by omega) (by omega)]; exact j1) m1 fun a b hab => by
        have hab2 := hab
        unfold fL at hab2
        rw [m2 a b (by omega) (by omega) (by omega), j3 a b hab, fr0 a b hab]
      split
      · exact ⟨.inl rfl, fin⟩
      · rw [if_pos rfl]; exact ⟨.inl rfl, fin⟩
    · have a := rd_len _ _ _ _ _ _ _ (by omega) e1
      have a1 : p + 1 + 1 ≤ q ∧ q ≤ N ∧ l.length + (p + 1) ≤ q := a
      refine ih 1 k (p + 1) C _ _ _ e hk (by omega) (by omega) (hst.go hl) e1 (fun J j1 j3 => ?_) (by show _ + 1 ≤ _; omega)
      have j1 : cSt md T N J q (C ++ l) := j1
      have d1 : 1048576 * rAdd (nx T N p) / 1048576 = rAdd (nx T N p) := by omega
      have d2 : 1048576 * rAdd (nx T N p) % 1048576 = 0 := by omega
      refine s_W_emit hW hl hM j1 (by rw [List.length_append]; omega) (x := 1048576 * rAdd (nx T N p)) ⟨by omega, by omega⟩ (by rw [d1]; exact sg.1.symm) (by rw [d1, d2, if_neg (by omega)]) (fun c => by omega) fun M m1 m2 => ⟨by unfold zr; omega, ?_⟩
      obtain ⟨r2, e3, k2⟩ := hK.tail (J := M) e2 fun a b hab => by rw [m2 a b hab, j3 a b hab, fr0 a b hab]
      have cl : (C ++ (l ++ [1048576 * rAdd (nx T N p)])).length = C.length + l.length + 1 := by rw [List.length_append, List.length_append, ← Nat.add_assoc]; rfl
      rw [List.append_assoc] at m1
      exact ih 12 k q _ M Q r2 (e + 1) hk a1.2.1 (by rw [cl]; omega) m1 (by rw [cl]; exact e3) k2 (by show _ + 2 ≤ _; omega) (x3 + 1) _ ⟨by omega, by omega⟩
  by_cases g1 : nx T N p = 43
  · rw [if_pos g1]; exact go (by rw [g1]; decide)
  rw [if_neg g1]
  refine s_L_next hW hN hst ?_
  by_cases g3 : nx T N p = 45
  · rw [if_neg (not_not_intro g3)]; exact go (by rw [g3]; decide)
  · rw [if_pos g3]
    exact ⟨.inr rfl, stop (by unfold rAdd; rw [if_neg g1, if_neg g3]; decide)⟩
theorem h_partR (hW : Wf sh R) (hl : md = 5 ∨ md = 45) (hR : R 4 1 = md) (hM : Lw sh R md) (hN : N ≤ 200) (hT : ∀ j, j < N → 0 ≤ T j ∧ T j < 256) {f : Nat} (ih : cH n sh R md T N f) {k p : Nat} {C : List Int} {I : ZI} {Q : Int → ZI → Prop} {r : RR} {d : Nat} (hk : k ≤ 6) (hp : p ≤ N) (hC : C.length ≤ p) (hst : cSt md T N I p C) (hr : rLeap T N 38 11 (rd T N f 4) (rd T N f 15) k p C.length = some r) (hK : cK md T N C I Q r) (hd : 8 * (7 - k) + 5 ≤ d) (x3 : Int) (u4 : Option AV) (h3 : 0 ≤ x3 ∧ x3 ≤ (p : Int)) : XIs d 22 11 [some (.inr 4), some (.inl (k : Int)), some (.inl 1), some (.inl x3), u4] [] n sh R I Q := by
  obtain ⟨e, rfl⟩ : ∃ e, d = e + 1 + 1 := ⟨d - 2, by omega⟩
  have hr : (if nx T N p = 38 then rB (rd T N f 4 k (p + 1) (C.length + 1)) fun q l => rPre ((1048576 * 11 + ((C.length + 1 + l.length : Nat) : Int)) :: l) (rd T N f 15 k q (C.length + 1 + l.length)) else some (.inr (p, []))) = some r := hr
  refine b_L_part_11 hW (by rw [hR]; exact hM) ?_
  have stop : ¬ nx T N p = 38 → Q 1 I := fun g => by
    rw [if_neg g] at hr
    cases hr
    exact hK I (by rw [List.append_nil]; exact hst) fun _ _ _ => rfl
  rw [hst.1.1]
  by_cases gN : (N : Int) ≤ x3
  · rw [if_pos gN]
    exact ⟨.inr rfl, stop (by unfold nx; rw [if_neg (by omega)]; decide)⟩
  rw [if_neg gN, if_neg (by decide)]
  refine s_L_next hW hN hst ?_
  by_cases g : nx T N p = 38
  · rw [if_neg (not_not_intro g)]
    rw [if_pos g] at hr
    have lt := nx_lt g (by omega)
    have i3 := hst.1.2.1
    refine b_L_operator_0 hW (by rw [hR]; exact hM) ⟨by unfold zr; omega, ?_⟩
    rw [hR]
    have fr0 : ∀ a b, ¬ fL md a b → (zup I 4 3 (I 4 3 + 1)) a b = I a b := fun a b hab => zup_ne (by unfold fL at hab; omega)
    have d1 : (1048576 * 11 + ((C.length : Int) + 1)) / 1048576 = 11 := by omega
    have d2 : (1048576 * 11 + ((C.length : Int) + 1)) % 1048576 = (C.length : Int) + 1 := by omega
    refine s_W_emit hW hl hM (hst.go hl) (by omega) (x := 1048576 * 11 + ((C.length : Int) + 1)) ⟨by omega, by omega⟩ (by rw [d1]; decide) (by rw [d1, d2, if_pos (by decide)]; omega) (fun c => by omega) fun M m1 m2 => ?_
    have cl1 : (C ++ [1048576 * 11 + ((C.length : Int) + 1)]).length = C.length + 1 := by rw [List.length_append]; rfl
    rcases rB_cases hr with ⟨a, e1, e2⟩ | ⟨q, l, e1, e2⟩
    · subst e2
      refine ih 4 k (p + 1) _ M _ (.inl a) (e + 1) hk (by omega) (by rw [cl1]; omega) m1 (by rw [cl1]; exact e1) (fun J j1 j2 j3 => s_W_bridge0 hW hM (by omega) j2 fun K k1 => ⟨by unfold zr; omega, b_L_part_11 hW (by rw [hR]; exact hM) ?_⟩) (by show _ + 4 ≤ _; omega)
      have fin : Q 0 K := hK K (by rw [k1 4 4 (by omega)]; exact j1) (by rw [k1 md 8 (by omega)]; exact j2) fun a b hab => by
        have hab2 := hab
        unfold fL at hab2
        rw [k1 a b (by omega), j3 a b hab, m2 a b hab, fr0 a b hab]
      split
      · exact ⟨.inl rfl, fin⟩
      · rw [if_pos rfl]; exact ⟨.inl rfl, fin⟩
    · have a := rd_len _ _ _ _ _ _ _ (by omega) e1
      have a1 : p + 1 + 1 ≤ q ∧ q ≤ N ∧ l.length + (p + 1) ≤ q := a
      refine ih 4 k (p + 1) _ M _ (.inr (q, l)) (e + 1) hk (by omega) (by rw [cl1]; omega) m1 (by rw [cl1]; exact e1) (fun J j1 j3 => ?_) (by show _ + 4 ≤ _; omega)
      have j1 : cSt md T N J q ((C ++ [1048576 * 11 + ((C.length : Int) + 1)]) ++ l) := j1
      rw [List.append_assoc] at j1
      refine s_W_bridge (op := 11) (C := C) (l := l) hW hl hM (by omega) rfl (by omega) j1 fun K k1 k2 => ⟨by unfold zr; omega, ?_⟩
      obtain ⟨r2, e3, kk2⟩ := hK.tail (J := K) e2 fun a b hab => by
        have hab2 := hab
        unfold fL at hab2
        rw [k2 a b (by omega), j3 a b hab, m2 a b hab, fr0 a b hab]
      have cl : (C ++ (1048576 * 11 + ((C.length + 1 + l.length : Nat) : Int)) :: l).length = C.length + 1 + l.length := by rw [List.length_append, List.length_cons]; omega
      exact ih 15 k q _ K Q r2 (e + 1 + 1) hk a1.2.1 (by rw [cl]; omega) k1 (by rw [cl]; exact e3) kk2 (by show _ + 5 ≤ _; omega) (x3 + 1) _ ⟨by omega, by omega⟩
  · rw [if_pos g]
    exact ⟨.inr rfl, stop g⟩
theorem h_conditionR (hW : Wf sh R) (hl : md = 5 ∨ md = 45) (hR : R 4 1 = md) (hM : Lw sh R md) (hN : N ≤ 200) (hT : ∀ j, j < N → 0 ≤ T j ∧ T j < 256) {f : Nat} (ih : cH n sh R md T N f) {k p : Nat} {C : List Int} {I : ZI} {Q : Int → ZI → Prop} {r : RR} {d : Nat} (hk : k ≤ 6) (hp : p ≤ N) (hC : C.length ≤ p) (hst : cSt md T N I p C) (hr : rLeap T N 124 12 (rd T N f 5) (rd T N f 16) k p C.length = some r) (hK : cK md T N C I Q r) (hd : 8 * (7 - k) + 6 ≤ d) (x3 : Int) (u4 : Option AV) (h3 : 0 ≤ x3 ∧ x3 ≤ (p : Int)) : XIs d 21 11 [some (.inr 4), some (.inl (k : Int)), some (.inl 1), some (.inl x3), u4] [] n sh R I Q := by
  obtain ⟨e, rfl⟩ : ∃ e, d = e + 1 + 1 := ⟨d - 2, by omega⟩
  have hr : (if nx T N p = 124 then rB (rd T N f 5 k (p + 1) (C.length + 1)) fun q l => rPre ((1048576 * 12 + ((C.length + 1 + l.length : Nat) : Int)) :: l) (rd T N f 16 k q (C.length + 1 + l.length)) else some (.inr (p, []))) = some r := hr
  refine b_L_condition_11 hW (by rw [hR]; exact hM) ?_
  have stop : ¬ nx T N p = 124 → Q 1 I := fun g => by
    rw [if_neg g] at hr
    cases hr
    exact hK I (by rw [List.append_nil]; exact hst) fun _ _ _ => rfl
  rw [hst.1.1]
  by_cases gN : (N : Int) ≤ x3
  · rw [if_pos gN]
    exact ⟨.inr rfl, stop (by unfold nx; rw [if_neg (by omega)]; decide)⟩
  rw [if_neg gN, if_neg (by decide)]
  refine s_L_next hW hN hst ?_
  by_cases g : nx T N p = 124
  · rw [if_neg (not_not_intro g)]
    rw [if_pos g] at hr
    have lt := nx_lt g (by omega)
    have i3 := hst.1.2.1
    refine b_L_operator_0 hW (by rw [hR]; exact hM) ⟨by unfold zr; omega, ?_⟩
    rw [hR]
    have fr0 : ∀ a b, ¬ fL md a b → (zup I 4 3 (I 4 3 + 1)) a b = I a b := fun a b hab => zup_ne (by unfold fL at hab; omega)
    have d1 : (1048576 * 12 + ((C.length : Int) + 1)) / 1048576 = 12 := by omega
    have d2 : (1048576 * 12 + ((C.length : Int) + 1)) % 1048576 = (C.length : Int) + 1 := by omega
    refine s_W_emit hW hl hM (hst.go hl) (by omega) (x := 1048576 * 12 + ((C.length : Int) + 1)) ⟨by omega, by omega⟩ (by rw [d1]; decide) (by rw [d1, d2, if_pos (by decide)]; omega) (fun c => by omega) fun M m1 m2 => ?_
    have cl1 : (C ++ [1048576 * 12 + ((C.length : Int) + 1)]).length = C.length + 1 := by rw [List.length_append]; rfl
    rcases rB_cases hr with ⟨a, e1, e2⟩ | ⟨q, l, e1, e2⟩
    · subst e2
      refine ih 5 k (p + 1) _ M _ (.inl a) (e + 1) hk (by omega) (by rw [cl1]; omega) m1 (by rw [cl1]; exact e1) (fun J j1 j2 j3 => s_W_bridge0 hW hM (by omega) j2 fun K k1 => ⟨by unfold zr; omega, b_L_condition_11 hW (by rw [hR]; exact hM) ?_⟩) (by show _ + 5 ≤ _; omega)
      have fin : Q 0 K := hK K (by rw [k1 4 4 (by omega)]; exact j1) (by rw [k1 md 8 (by omega)]; exact j2) fun a b hab => by
        have hab2 := hab
        unfold fL at hab2
        rw [k1 a b (by omega), j3 a b hab, m2 a b hab, fr0 a b hab]
      split
      · exact ⟨.inl rfl, fin⟩
      · rw [if_pos rfl]; exact ⟨.inl rfl, fin⟩
    · have a := rd_len _ _ _ _ _ _ _ (by omega) e1
      have a1 : p + 1 + 1 ≤ q ∧ q ≤ N ∧ l.length + (p + 1) ≤ q := a
      refine ih 5 k (p + 1) _ M _ (.inr (q, l)) (e + 1) hk (by omega) (by rw [cl1]; omega) m1 (by rw [cl1]; exact e1) (fun J j1 j3 => ?_) (by show _ + 5 ≤ _; omega)
      have j1 : cSt md T N J q ((C ++ [1048576 * 12 + ((C.length : Int) + 1)]) ++ l) := j1
      rw [List.append_assoc] at j1
      refine s_W_bridge (op := 12) (C := C) (l := l) hW hl hM (by omega) rfl (by omega) j1 fun K k1 k2 => ⟨by unfold zr; omega, ?_⟩
      obtain ⟨r2, e3, kk2⟩ := hK.tail (J := K) e2 fun a b hab => by
        have hab2 := hab
        unfold fL at hab2
        rw [k2 a b (by omega), j3 a b hab, m2 a b hab, fr0 a b hab]
      have cl : (C ++ (1048576 * 12 + ((C.length + 1 + l.length : Nat) : Int)) :: l).length = C.length + 1 + l.length := by rw [List.length_append, List.length_cons]; omega
      exact ih 16 k q _ K Q r2 (e + 1 + 1) hk a1.2.1 (by rw [cl]; omega) k1 (by rw [cl]; exact e3) kk2 (by show _ + 6 ≤ _; omega) (x3 + 1) _ ⟨by omega, by omega⟩
  · rw [if_pos g]
    exact ⟨.inr rfl, stop g⟩
/-- a refusal -/
theorem cK.no {C : List Int} {I : ZI} {Q : Int → ZI → Prop} {p : Nat} {z w : Int} (h : cK md T N C I Q (.inl z)) (hl : md = 5 ∨ md = 45) (hst : cSt md T N I p C) (hC : C.length ≤ 200) (hw : w = z) : Q 0 (zup I 4 4 w) := h _ (by rw [zup_eq ⟨rfl, rfl⟩]; exact hw) (by have := hst.1.2.2.1; rw [zup_ne (by omega)]; omega) fun a b hab => zup_ne (by unfold fL at hab; omega)
theorem h_comparison (hW : Wf sh R) (hl : md = 5 ∨ md = 45) (hR : R 4 1 = md) (hM : Lw sh R md) (hN : N ≤ 200) (hT : ∀ j, j < N → 0 ≤ T j ∧ T j < 256) {f : Nat} (ih : cH n sh R md T N f) {k p : Nat} {C : List Int} {I : ZI} {Q : Int → ZI → Prop} {r : RR} {d : Nat} (hk : k ≤ 6) (hp : p ≤ N) (hC : C.length ≤ p) (hst : cSt md T N I p C) (hr : rComp T N (rd T N f 2) k p C.length = some r) (hK : cK md T N C I Q r) (hd : 8 * (7 - k) + 3 ≤ d) : XI d 24 [.inr 4, .inl (k : Int)] n sh R I Q := by
  obtain ⟨e, rfl⟩ : ∃ e, d = e + 1 := ⟨d - 1, by omega⟩
  refine b_L_comparison_0 hW (by rw [hR]; exact hM) ?_
  rcases rB_cases hr with ⟨a, e1, e2⟩ | ⟨q, l, e1, e2⟩
  · subst e2
    refine ih 2 k p C I _ _ e hk hp hC hst e1 (fun J j1 j2 j3 => ?_) (by show _ + 2 ≤ _; omega)
    rw [if_neg (by decide)]
    exact hK J j1 j2 j3
  have a := rd_len _ _ _ _ _ _ _ hp e1
  have a1 : p + 1 ≤ q ∧ q ≤ N ∧ l.length + p ≤ q := a
  refine ih 2 k p C I _ _ e hk hp hC hst e1 (fun J j1 j3 => ?_) (by show _ + 2 ≤ _; omega)
  have j1 : cSt md T N J q (C ++ l) := j1
  have i3 := j1.1.2.1
  rw [if_pos (by decide)]
  refine s_L_next hW hN j1 ?_
  have go : 0 ≤ rCmp (nx T N q) → (zr (J 4 3 + 1)) ∧ XI e 25 [.inr 4, .inl (k : Int)] n sh R (zup J 4 3 (J 4 3 + 1)) (fun v6 I7 => (if ¬ v6 = 0 then XI e 8 [.inr (R 4 1), .inl (nx T N q), .inl 0] n sh R I7 (fun v8 I9 => Q 1 I9) else Q 0 I7)) := fun g => by
    have sg := lSign_cmp g
    have og := rCmp_range (c := nx T N q)
    have lt := nx_lt (T := T) (n := N) (p := q) rfl (og.2 g)
    rw [if_neg (by omega)] at e2
    refine ⟨by unfold zr; omega, ?_⟩
    rw [hR]
    have fr0 : ∀ a b, ¬ fL md a b → (zup J 4 3 (J 4 3 + 1)) a b = I a b := fun a b hab => by rw [zup_ne (by unfold fL at hab; omega), j3 a b hab]
    have cl : (C ++ l).length = C.length + l.length := List.length_append
    rcases rB_cases e2 with ⟨a, e3, e4⟩ | ⟨q2, l2, e3, e4⟩
    · subst e4
      refine ih 2 k (q + 1) (C ++ l) _ _ (.inl a) e hk (by omega) (by rw [cl]; omega) (j1.go hl) (by rw [cl]; exact e3) (fun M m1 m2 m3 => ?_) (by show _ + 2 ≤ _; omega)
      rw [if_neg (by decide)]
      exact hK M m1 m2 fun a b hab => by rw [m3 a b hab, fr0 a b hab]
    · cases e4
      have b := rd_len _ _ _ _ _ _ _ (by omega) e3
      have b1 : q + 1 + 1 ≤ q2 ∧ q2 ≤ N ∧ l2.length + (q + 1) ≤ q2 := b
      refine ih 2 k (q + 1) (C ++ l) _ _ (.inr (q2, l2)) e hk (by omega) (by rw [cl]; omega) (j1.go hl) (by rw [cl]; exact e3) (fun M m1 m3 => ?_) (by show _ + 2 ≤ _; omega)
      have m1 : cSt md T N M q2 (C ++ l ++ l2) := m1
      rw [if_pos (by decide)]
      have d1 : 1048576 * rCmp (nx T N q) / 1048576 = rCmp (nx T N q) := by omega
      have d2 : 1048576 * rCmp (nx T N q) % 1048576 = 0 := by omega
      refine s_W_emit hW hl hM m1 (by rw [List.length_append, cl]; omega) (x := 1048576 * rCmp (nx T N q)) ⟨by omega, by omega⟩ (by rw [d1]; exact sg.1.symm) (by rw [d1, d2, if_neg (by omega)]) (fun c => by omega) fun K k1 k2 => hK K ?_ fun a b hab => by rw [k2 a b hab, m3 a b hab, fr0 a b hab]
      rw [List.append_assoc, List.append_assoc] at k1
      show cSt md T N K q2 (C ++ (l ++ l2 ++ [1048576 * rCmp (nx T N q)]))
      rw [List.append_assoc]
      exact k1
  by_cases g1 : nx T N q = 60
  · rw [if_pos g1]
    have z := go (by rw [g1]; decide)
    rw [g1] at z ⊢
    exact z
  rw [if_neg g1]
  by_cases g2 : nx T N q = 62
  · rw [if_pos g2]
    have z := go (by rw [g2]; decide)
    rw [g2] at z ⊢
    exact z
  rw [if_neg g2]
  by_cases g3 : nx T N q = 61
  · rw [if_pos g3]
    have z := go (by rw [g3]; decide)
    rw [g3] at z ⊢
    exact z
  rw [if_neg g3]
  rw [if_pos (by unfold rCmp; rw [if_neg g1, if_neg g2, if_neg g3]; decide)] at e2
  cases e2
  exact ⟨by unfold zr; omega, by unfold zr; omega, hK _ (by rw [zup_eq ⟨rfl, rfl⟩]; omega) (by have := j1.1.2.2.1; rw [List.length_append] at this; rw [zup_ne (by omega)]; omega) fun a b hab => by rw [zup_ne (by unfold fL at hab; omega), j3 a b hab]⟩
theorem h_piece (hW : Wf sh R) (hl : md = 5 ∨ md = 45) (hR : R 4 1 = md) (hM : Lw sh R md) (hN : N ≤ 200) (hT : ∀ j, j < N → 0 ≤ T j ∧ T j < 256) {f : Nat} (ih : cH n sh R md T N f) {k p : Nat} {C : List Int} {I : ZI} {Q : Int → ZI → Prop} {r : RR} {d : Nat} (hk : k ≤ 6) (hp : p ≤ N) (hC : C.length ≤ p) (hst : cSt md T N I p C) (hr : rPiece T N (rd T N f 4) (rd T N f 6) (rd T N f 3) k p C.length = some r) (hK : cK md T N C I Q r) (hd : 8 * (7 - k) + 4 ≤ d) : XI d 23 [.inr 4, .inl (k : Int)] n sh R I Q := by
  obtain ⟨e, rfl⟩ : ∃ e, d = e + 1 := ⟨d - 1, by omega⟩
  have i3 := hst.1.2.1
  unfold rPiece at hr
  refine b_L_piece_0 hW (by rw [hR]; exact hM) (s_L_next hW hN hst ?_)
  have fr0 : ∀ a b, ¬ fL md a b → (zup I 4 3 (I 4 3 + 1)) a b = I a b := fun a b hab => zup_ne (by unfold fL at hab; omega)
  by_cases g1 : nx T N p = 33
  · rw [if_pos g1] at hr
    have lt := nx_lt g1 (by omega)
    rw [g1, if_pos rfl]
    by_cases g6 : 6 ≤ k
    · rw [if_pos g6] at hr
      cases hr
      rw [if_neg (by omega)]
      exact ⟨by unfold zr; omega, by unfold zr; omega, hK.no hl hst (by omega) (by omega)⟩
    rw [if_neg g6] at hr
    rw [if_pos (by omega)]
    refine ⟨by unfold zr; omega, ?_⟩
    rw [if_pos (by decide), hR]
    refine ⟨by unfold zr; omega, ?_⟩
    rw [show (k : Int) + 1 = ((k + 1 : Nat) : Int) by omega]
    rcases rB_cases hr with ⟨a, e1, e2⟩ | ⟨q, l, e1, e2⟩
    · subst e2
      refine ih 4 (k + 1) (p + 1) C _ _ _ e (by omega) (by omega) (by omega) (hst.go hl) e1 (fun J j1 j2 j3 => ?_) (by show _ + 4 ≤ _; omega)
      rw [if_neg (by decide)]
      exact hK J j1 j2 fun a b hab => by rw [j3 a b hab, fr0 a b hab]
    · cases e2
      have a := rd_len _ _ _ _ _ _ _ (by omega) e1
      have a1 : p + 1 + 1 ≤ q ∧ q ≤ N ∧ l.length + (p + 1) ≤ q := a
      refine ih 4 (k + 1) (p + 1) C _ _ _ e (by omega) (by omega) (by omega) (hst.go hl) e1 (fun J j1 j3 => ?_) (by show _ + 4 ≤ _; omega)
      rw [if_pos (by decide)]
      refine s_W_emit hW hl hM j1 (by show (C ++ l).length < 200; rw [List.length_append]; omega) (x := 10485760) ⟨by omega, by omega⟩ (by decide) (by rw [if_neg (by decide)]; decide) (fun c => by omega) fun M m1 m2 => hK M ?_ fun a b hab => by rw [m2 a b hab, j3 a b hab, fr0 a b hab]
      rw [List.append_assoc] at m1
      exact m1
  rw [if_neg g1] at hr ⊢
  by_cases g2 : nx T N p = 40
  · rw [if_pos g2] at hr
    have lt := nx_lt g2 (by omega)
    rw [g2, if_pos rfl]
    by_cases g6 : 6 ≤ k
    · rw [if_pos g6] at hr
      cases hr
      rw [if_neg (by omega)]
      exact ⟨by unfold zr; omega, by unfold zr; omega, hK.no hl hst (by omega) (by omega)⟩
    rw [if_neg g6] at hr
    rw [if_pos (by omega)]
    refine ⟨by unfold zr; omega, ?_⟩
    rw [if_neg (not_not_intro rfl)]
    refine ⟨by unfold zr; omega, ?_⟩
    rw [show (k : Int) + 1 = ((k + 1 : Nat) : Int) by omega]
    rcases rB_cases hr with ⟨a, e1, e2⟩ | ⟨q, l, e1, e2⟩
    · subst e2
      refine ih 6 (k + 1) (p + 1) C _ _ _ e (by omega) (by omega) (by omega) (hst.go hl) e1 (fun J j1 j2 j3 => ?_) (by show _ + 6 ≤ _; omega)
      rw [if_pos rfl]
      exact hK J j1 j2 fun a b hab => by rw [j3 a b hab, fr0 a b hab]
    · have a := rd_len _ _ _ _ _ _ _ (by omega) e1
      have a1 : p + 1 + 1 ≤ q ∧ q ≤ N ∧ l.length + (p + 1) ≤ q := a
      refine ih 6 (k + 1) (p + 1) C _ _ _ e (by omega) (by omega) (by omega) (hst.go hl) e1 (fun J j1 j3 => ?_) (by show _ + 6 ≤ _; omega)
      rw [if_neg (by decide)]
      refine s_L_take hW hl hN (by omega) j1 a1.2.1 (fun g J2 o1 o2 => ?_) (fun g J2 o1 o2 => ?_)
      · rw [if_neg (by decide)]
        rw [if_pos g] at e2
        cases e2
        exact hK J2 o1 fun a b hab => by rw [o2 a b hab, j3 a b hab, fr0 a b hab]
      · rw [if_pos rfl]
        rw [if_neg g] at e2
        cases e2
        exact hK J2 o1 (by have := j1.1.2.2.1; rw [o2 md 8 (by omega)]; rw [show (C ++ (q, l).2).length = C.length + l.length from List.length_append] at this; omega) fun a b hab => by rw [o2 a b (by unfold fL at hab; omega), j3 a b hab, fr0 a b hab]
  rw [if_neg g2] at hr ⊢
  refine ih 3 k p C I _ r e hk hp hC hst hr ?_ (by show _ + 3 ≤ _; omega)
  cases r with
  | inl a => exact fun J j1 j2 j3 => ⟨.inl rfl, hK J j1 j2 j3⟩
  | inr y => exact fun J j1 j3 => ⟨.inr rfl, hK J j1 j3⟩
theorem h_factor (hW : Wf sh R) (hl : md = 5 ∨ md = 45) (hR : R 4 1 = md) (hM : Lw sh R md) (hN : N ≤ 200) (hT : ∀ j, j < N → 0 ≤ T j ∧ T j < 256) {f : Nat} (ih : cH n sh R md T N f) {k p : Nat} {C : List Int} {I : ZI} {Q : Int → ZI → Prop} {r : RR} {d : Nat} (hk : k ≤ 6) (hp : p ≤ N) (hC : C.length ≤ p) (hst : cSt md T N I p C) (hr : rFac T N (rd T N f 2) k p C.length = some r) (hK : cK md T N C I Q r) (hd : 8 * (7 - k) + 0 ≤ d) : XI d 27 [.inr 4, .inl (k : Int)] n sh R I Q := by
  obtain ⟨e, rfl⟩ : ∃ e, d = e + 1 + 1 := ⟨d - 2, by omega⟩
  have i3 := hst.1.2.1
  unfold rFac at hr
  refine b_L_factor_0 hW (by rw [hR]; exact hM) (s_L_next hW hN hst (s_L_isDigit hW ?_))
  have fr0 : ∀ a b, ¬ fL md a b → (zup I 4 3 (I 4 3 + 1)) a b = I a b := fun a b hab => zup_ne (by unfold fL at hab; omega)
  by_cases gd : rDg (nx T N p) = true
  · rw [if_pos gd] at hr
    have dg := of_decide_eq_true gd
    have lt := nx_lt (T := T) (n := N) (p := p) rfl (by omega)
    rw [if_pos gd, if_neg (by decide)]
    have hr := Option.some.inj hr
    refine b_L_number_0 hW ?_
    have z := s_L_num (n := n) (Q := fun v J => (v = 0 ∨ v = 1) ∧ Q v J) (C := C) hW hl hR hM hN hT 5 p 0 I e (by omega) hst hp (by omega) (by omega) (by decide) ?_
    · exact z
    · rw [hr]
      cases r with
      | inl a => exact fun J j1 j2 j3 => ⟨.inl rfl, hK J j1 j2 j3⟩
      | inr y => exact fun J j1 j3 => ⟨.inr rfl, hK J j1 j3⟩
  rw [if_neg gd] at hr ⊢
  rw [if_pos rfl]
  by_cases g2 : nx T N p = 91
  · rw [if_pos g2] at hr
    have lt := nx_lt g2 (by omega)
    rw [if_neg (not_not_intro g2)]
    by_cases g6 : 6 ≤ k
    · rw [if_pos g6] at hr
      cases hr
      rw [if_neg (by omega)]
      exact ⟨by unfold zr; omega, by unfold zr; omega, hK.no hl hst (by omega) (by omega)⟩
    rw [if_neg g6] at hr
    rw [if_pos (by omega)]
    refine ⟨by unfold zr; omega, by unfold zr; omega, ?_⟩
    rw [show (k : Int) + 1 = ((k + 1 : Nat) : Int) by omega]
    rcases rB_cases hr with ⟨a, e1, e2⟩ | ⟨q, l, e1, e2⟩
    · subst e2
      refine ih 2 (k + 1) (p + 1) C _ _ _ (e + 1) (by omega) (by omega) (by omega) (hst.go hl) e1 (fun J j1 j2 j3 => ?_) (by show _ + 2 ≤ _; omega)
      rw [if_pos rfl]
      exact hK J j1 j2 fun a b hab => by rw [j3 a b hab, fr0 a b hab]
    · have a := rd_len _ _ _ _ _ _ _ (by omega) e1
      have a1 : p + 1 + 1 ≤ q ∧ q ≤ N ∧ l.length + (p + 1) ≤ q := a
      refine ih 2 (k + 1) (p + 1) C _ _ _ (e + 1) (by omega) (by omega) (by omega) (hst.go hl) e1 (fun J j1 j3 => ?_) (by show _ + 2 ≤ _; omega)
      rw [if_neg (by decide)]
      refine s_L_take hW hl hN (by omega) j1 a1.2.1 (fun g J2 o1 o2 => ?_) (fun g J2 o1 o2 => ?_)
      · rw [if_neg (by decide)]
        rw [if_pos g] at e2
        cases e2
        exact hK J2 o1 fun a b hab => by rw [o2 a b hab, j3 a b hab, fr0 a b hab]
      · rw [if_pos rfl]
        rw [if_neg g] at e2
        cases e2
        exact hK J2 o1 (by have := j1.1.2.2.1; rw [o2 md 8 (by omega)]; rw [show (C ++ (q, l).2).length = C.length + l.length from List.length_append] at this; omega) fun a b hab => by rw [o2 a b (by unfold fL at hab; omega), j3 a b hab, fr0 a b hab]
  rw [if_neg g2] at hr
  rw [if_pos g2]
  have zr2 := zIdx_range (c := nx T N p)
  by_cases g3 : nx T N p = -1
  · rw [if_neg (not_not_intro g3)]
    rw [if_pos (by rw [g3]; decide)] at hr
    cases hr
    exact ⟨by unfold zr; omega, by unfold zr; omega, hK.no hl hst (by omega) (by omega)⟩
  rw [if_pos g3]
  have lt : p < N := by
    unfold nx at g3
    by_cases g : p < N
    · exact g
    · rw [if_neg g] at g3; exact absurd rfl g3
  have tb := hT p lt
  have en : nx T N p = T p := if_pos lt
  rw [zi2c_id (by omega)]
  by_cases g4 : zIdx (nx T N p) < 0
  · rw [if_pos g4] at hr
    cases hr
    rw [if_neg (by omega)]
    exact ⟨by unfold zr; omega, by unfold zr; omega, hK.no hl hst (by omega) (by omega)⟩
  · rw [if_neg g4] at hr
    cases hr
    rw [if_pos (by omega), hR]
    refine ⟨by unfold zr; omega, ?_⟩
    have d1 : (1048576 + zIdx (nx T N p)) / 1048576 = 1 := by omega
    have d2 : (1048576 + zIdx (nx T N p)) % 1048576 = zIdx (nx T N p) := by omega
    refine s_W_emit hW hl hM (hst.go hl) (by omega) (x := 1048576 + zIdx (nx T N p)) ⟨by omega, by omega⟩ (by rw [d1]; rfl) (by rw [d1, d2, if_neg (by decide)]) (fun _ => by rw [d2]; exact zr2.2.1) fun M m1 m2 => hK M m1 fun a b hab => by rw [m2 a b hab, fr0 a b hab]
theorem h_all (hW : Wf sh R) (hl : md = 5 ∨ md = 45) (hR : R 4 1 = md) (hM : Lw sh R md) (hN : N ≤ 200) (hT : ∀ j, j < N → 0 ≤ T j ∧ T j < 256) : ∀ f, cH n sh R md T N f := by
  intro f
  induction f with
  | zero => intro t k p C I Q r d _ _ _ _ h; cases h
  | succ f ih =>
    intro t k p C I Q r d hk hp hC hst hr hK hd
    match t, hr, hd with
    | 0, hr, hd => exact h_factor hW hl hR hM hN hT ih hk hp hC hst hr hK hd
    | 1, hr, hd => exact h_term hW hl hR hM hN hT ih hk hp hC hst hr hK hd
    | 2, hr, hd => exact h_sum hW hl hR hM hN hT ih hk hp hC hst hr hK hd
    | 3, hr, hd => exact h_comparison hW hl hR hM hN hT ih hk hp hC hst hr hK hd
    | 4, hr, hd => exact h_piece hW hl hR hM hN hT ih hk hp hC hst hr hK hd
    | 5, hr, hd => exact h_part hW hl hR hM hN hT ih hk hp hC hst hr hK hd
    | 6, hr, hd => exact h_condition hW hl hR hM hN hT ih hk hp hC hst hr hK hd
    | 11, hr, hd => exact fun x3 u4 h3 => h_termR hW hl hR hM hN hT ih hk hp hC hst hr hK hd x3 u4 h3
    | 12, hr, hd => exact fun x3 u4 h3 => h_sumR hW hl hR hM hN hT ih hk hp hC hst hr hK hd x3 u4 h3
    | 15, hr, hd => exact fun x3 u4 h3 => h_partR hW hl hR hM hN hT ih hk hp hC hst hr hK hd x3 u4 h3
    | 16, hr, hd => exact fun x3 u4 h3 => h_conditionR hW hl hR hM hN hT ih hk hp hC hst hr hK hd x3 u4 h3
    | 7, hr, hd => cases hr
    | 8, hr, hd => cases hr
    | 9, hr, hd => cases hr
    | 10, hr, hd => cases hr
    | 13, hr, hd => cases hr
    | 14, hr, hd => cases hr
    | t + 17, hr, hd => cases hr
end LR
