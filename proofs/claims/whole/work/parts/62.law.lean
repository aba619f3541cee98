-- CLAUSES: what is read of them
abbrev CL : Type := Int × Nat × Nat × Nat
def rCl (T : Nat → Int) (N f m p i : Nat) : Option (Int ⊕ (Nat × List Int × Int × Nat)) :=
  if ¬ nx T N p = 104 ∧ ¬ nx T N p = 116 ∧ ¬ nx T N p = 122 then some (.inl (-1000 - p)) else
  if m = 14 then some (.inl (-4000 - p)) else
  if nx T N p = 122 then (match rPar T N f (p + 1) i with
    | none => none
    | some (.inl a) => some (.inl a)
    | some (.inr y) => some (.inr (y.1, y.2, nx T N p, 0))) else
  match rd T N f 2 0 (p + 1) i with
    | none => none
    | some (.inl a) => some (.inl a)
    | some (.inr y) => match rPar T N f y.1 (i + y.2.length) with
      | none => none
      | some (.inl a) => some (.inl a)
      | some (.inr z) => some (.inr (z.1, y.2 ++ z.2, nx T N p, y.2.length))
def rLs (T : Nat → Int) (N f : Nat) : Nat → List Int → List CL → Nat → Option (Int ⊕ (List Int × List CL))
  | 0, _, _, _ => none
  | c + 1, C, D, p => if N ≤ p then some (.inr (C, D)) else if nx T N p = 59 then (match rCl T N f D.length (p + 1) C.length with
    | none => none
    | some (.inl a) => some (.inl a)
    | some (.inr y) => rLs T N f c (C ++ y.2.1) (D ++ [(y.2.2.1, C.length, C.length + y.2.2.2, C.length + y.2.1.length)]) y.1) else some (.inl (-1000 - p))
section CW
variable {T : Nat → Int} {N f : Nat}
theorem rB_inl {x : Option RR} {g : Nat → List Int → Option RR} {a : Int} (h : rB x g = some (.inl a)) : x = some (.inl a) ∨ ∃ q l, x = some (.inr (q, l)) ∧ g q l = some (.inl a) := by
  rcases rB_cases h with ⟨b, h1, h2⟩ | h2
  · cases h2; exact .inl h1
  · exact .inr h2
theorem rPre_inl {x : Option RR} {l : List Int} {a : Int} (h : rPre l x = some (.inl a)) : x = some (.inl a) := by
  rcases rB_inl h with h | ⟨q, l2, h1, h2⟩
  · exact h
  · cases h2
theorem rNum_neg : ∀ (m p : Nat) (v a : Int), rNum T N m p v = .inl a → a < 0
  | 0, p, v, a, h => by
    unfold rNum at h
    split at h
    · cases h; omega
    · cases h
  | m + 1, p, v, a, h => by
    unfold rNum at h
    split at h
    · exact rNum_neg m _ _ a h
    · cases h
theorem rd_neg : ∀ (f t k p i : Nat) (a : Int), rd T N f t k p i = some (.inl a) → a < 0 := by
  intro f
  induction f with
  | zero => intro t k p i a h; cases h
  | succ f ih =>
    intro t k p i a h
    have seq : ∀ t1 r, rSeq (rd T N f t1) (rd T N f r) k p i = some (.inl a) → a < 0 := fun t1 r h => by
      rcases rB_inl h with h | ⟨q, l, _, h2⟩
      · exact ih _ _ _ _ _ h
      · exact ih _ _ _ _ _ (rPre_inl h2)
    have ops : ∀ op t1 r, rOps T N op (rd T N f t1) (rd T N f r) k p i = some (.inl a) → a < 0 := fun op t1 r h => by
      unfold rOps at h
      split at h
      · cases h
      · rcases rB_inl h with h | ⟨q, l, _, h2⟩
        · exact ih _ _ _ _ _ h
        · exact ih _ _ _ _ _ (rPre_inl h2)
    have leap : ∀ c o t1 r, rLeap T N c o (rd T N f t1) (rd T N f r) k p i = some (.inl a) → a < 0 := fun c o t1 r h => by
      unfold rLeap at h
      split at h
      · rcases rB_inl h with h | ⟨q, l, _, h2⟩
        · exact ih _ _ _ _ _ h
        · exact ih _ _ _ _ _ (rPre_inl h2)
      · cases h
    match t, h with
    | 0, h =>
      have h : rFac T N (rd T N f 2) k p i = some (.inl a) := h
      unfold rFac at h
      split at h
      · exact rNum_neg _ _ _ _ (Option.some.inj h)
      split at h
      · split at h
        · cases h; omega
        · rcases rB_inl h with h | ⟨q, l, _, h2⟩
          · exact ih _ _ _ _ _ h
          · split at h2
            · cases h2
            · cases h2; omega
      split at h
      · cases h; omega
      · cases h
    | 1, h => exact seq 0 11 h
    | 2, h => exact seq 1 12 h
    | 5, h => exact seq 4 15 h
    | 6, h => exact seq 5 16 h
    | 11, h => exact ops rMul 0 11 h
    | 12, h => exact ops rAdd 1 12 h
    | 15, h => exact leap 38 11 4 15 h
    | 16, h => exact leap 124 12 5 16 h
    | 3, h =>
      have h : rComp T N (rd T N f 2) k p i = some (.inl a) := h
      rcases rB_inl h with h | ⟨q, l, _, h2⟩
      · exact ih _ _ _ _ _ h
      · split at h2
        · cases h2; omega
        · rcases rB_inl h2 with h | ⟨q, l, _, h3⟩
          · exact ih _ _ _ _ _ h
          · cases h3
    | 4, h =>
      have h : rPiece T N (rd T N f 4) (rd T N f 6) (rd T N f 3) k p i = some (.inl a) := h
      unfold rPiece at h
      split at h
      · split at h
        · cases h; omega
        · rcases rB_inl h with h | ⟨q, l, _, h2⟩
          · exact ih _ _ _ _ _ h
          · cases h2
      split at h
      · split at h
        · cases h; omega
        · rcases rB_inl h with h | ⟨q, l, _, h2⟩
          · exact ih _ _ _ _ _ h
          · split at h2
            · cases h2
            · cases h2; omega
      exact ih _ _ _ _ _ h
    | 7, h => cases h
    | 8, h => cases h
    | 9, h => cases h
    | 10, h => cases h
    | 13, h => cases h
    | 14, h => cases h
    | t + 17, h => cases h
theorem rPar_neg {p i : Nat} {a : Int} (h : rPar T N f p i = some (.inl a)) : a < 0 := by
  unfold rPar at h
  split at h
  · rcases rB_inl h with h | ⟨q, l, _, h2⟩
    · exact rd_neg _ _ _ _ _ _ h
    · split at h2
      · cases h2
      · cases h2; omega
  · cases h; omega
theorem rPar_good {p i q : Nat} {l : List Int} (h : rPar T N f p i = some (.inr (q, l))) : p + 1 ≤ q ∧ q ≤ N ∧ l.length + p ≤ q ∧ ∃ q1, rd T N f 6 1 (p + 1) i = some (.inr (q1, l)) ∧ p < N := by
  unfold rPar at h
  split at h
  · rename_i g
    have lt := nx_lt g (by omega)
    obtain ⟨q1, l1, e1, e2⟩ := rB_inr h
    have a := rd_len _ _ _ _ _ _ _ (by omega) e1
    have a1 : p + 1 + 1 ≤ q1 ∧ q1 ≤ N ∧ l1.length + (p + 1) ≤ q1 := a
    split at e2
    · rename_i g4
      have lt4 := nx_lt g4 (by omega)
      cases e2
      exact ⟨by omega, by omega, by omega, q1, e1, lt⟩
    · cases e2
  · cases h
theorem rPar_tot {p i : Nat} (hf : 8 * N + 8 < f) : ¬ rPar T N f p i = none := by
  unfold rPar
  split
  · rename_i g
    have lt := nx_lt g (by omega)
    refine rB_some (rd_tot _ _ _ _ _ (.inl (by omega)) (by omega) (by have : rRk 6 = 7 := rfl; omega)) fun q l e => ?_
    split <;> (intro c; cases c)
  · intro c; cases c
theorem rCl_tot {m p i : Nat} (hf : 8 * N + 8 < f) : ¬ rCl T N f m p i = none := by
  unfold rCl
  by_cases g1 : ¬ nx T N p = 104 ∧ ¬ nx T N p = 116 ∧ ¬ nx T N p = 122
  · rw [if_pos g1]; intro c; cases c
  rw [if_neg g1]
  have lt : p < N := by
    rcases Classical.em (p < N) with g | g
    · exact g
    · exfalso
      have : nx T N p = -1 := if_neg g
      omega
  split
  · intro c; cases c
  split
  · split
    · rename_i e; exact absurd e (rPar_tot hf)
    · intro c; cases c
    · intro c; cases c
  · split
    · rename_i e; exact absurd e (rd_tot _ _ _ _ _ (.inl (by omega)) (by omega) (by have : rRk 2 = 3 := rfl; omega))
    · intro c; cases c
    · split
      · rename_i e; exact absurd e (rPar_tot hf)
      · intro c; cases c
      · intro c; cases c
/-- what a clause that is read is -/
theorem rCl_good {m p i : Nat} {y : Nat × List Int × Int × Nat} (hN : N ≤ 1000) (hi : i ≤ p) (hp : p ≤ N) (h : rCl T N f m p i = some (.inr y)) : (p + 1 ≤ y.1 ∧ y.1 ≤ N ∧ y.2.1.length + p ≤ y.1) ∧ ¬ m = 14 ∧ (y.2.2.1 = 104 ∨ y.2.2.1 = 116 ∨ y.2.2.1 = 122) ∧ y.2.2.2 ≤ y.2.1.length ∧ ∀ cd, sAg cd i y.2.1 → (¬ y.2.2.1 = 122 → sE cd i (i + y.2.2.2)) ∧ sC cd (i + y.2.2.2) (i + y.2.1.length) := by
  unfold rCl at h
  by_cases g1 : ¬ nx T N p = 104 ∧ ¬ nx T N p = 116 ∧ ¬ nx T N p = 122
  · rw [if_pos g1] at h; cases h
  rw [if_neg g1] at h
  have lt : p < N := by
    rcases Classical.em (p < N) with g | g
    · exact g
    · exfalso
      have : nx T N p = -1 := if_neg g
      omega
  by_cases g2 : m = 14
  · rw [if_pos g2] at h; cases h
  rw [if_neg g2] at h
  by_cases g3 : nx T N p = 122
  · rw [if_pos g3] at h
    split at h
    · cases h
    · cases h
    · rename_i z e
      cases h
      obtain ⟨a1, a2, a3, q1, e1, e2⟩ := rPar_good (q := z.1) (l := z.2) e
      refine ⟨⟨by show p + 1 ≤ z.1; omega, a2, by show z.2.length + p ≤ z.1; omega⟩, g2, .inr (.inr g3), Nat.zero_le _, fun cd ag => ⟨fun c => absurd g3 c, ?_⟩⟩
      have ag : sAg cd i z.2 := ag
      exact rd_sem f 6 1 (p + 1 + 1) i q1 z.2 hN (by omega) (by omega) e1 ag
  · rw [if_neg g3] at h
    split at h
    · cases h
    · cases h
    · rename_i y1 e
      have b := rd_len _ _ _ _ _ _ _ (by omega) e
      have b1 : p + 1 + 1 ≤ y1.1 ∧ y1.1 ≤ N ∧ y1.2.length + (p + 1) ≤ y1.1 := b
      split at h
      · cases h
      · cases h
      · rename_i z e3
        cases h
        obtain ⟨a1, a2, a3, q1, e1, e2⟩ := rPar_good (q := z.1) (l := z.2) e3
        have la : (y1.2 ++ z.2).length = y1.2.length + z.2.length := List.length_append
        refine ⟨⟨by show p + 1 ≤ z.1; omega, a2, by show (y1.2 ++ z.2).length + p ≤ z.1; omega⟩, g2, by show nx T N p = 104 ∨ nx T N p = 116 ∨ nx T N p = 122; omega, by show y1.2.length ≤ (y1.2 ++ z.2).length; omega, fun cd ag => ?_⟩
        have ag2 := ag.app
        refine ⟨fun _ => rd_sem _ 2 _ _ _ _ _ hN (by omega) (by omega) e ag2.1, ?_⟩
        have z2 : sC cd (i + y1.2.length) (i + y1.2.length + z.2.length) := rd_sem _ 6 _ _ _ _ _ hN (by omega) (by omega) e1 ag2.2
        show sC cd (i + y1.2.length) (i + (y1.2 ++ z.2).length)
        rw [la, ← Nat.add_assoc]
        exact z2
theorem rCl_neg {m p i : Nat} {a : Int} (h : rCl T N f m p i = some (.inl a)) : a < 0 := by
  unfold rCl at h
  split at h
  · cases h; omega
  split at h
  · cases h; omega
  split at h
  · split at h
    · cases h
    · rename_i e; cases h; exact rPar_neg e
    · cases h
  · split at h
    · cases h
    · rename_i e; cases h; exact rd_neg _ _ _ _ _ _ e
    · split at h
      · cases h
      · rename_i e; cases h; exact rPar_neg e
      · cases h
theorem rLs_tot (hf : 8 * N + 8 < f) (hN : N ≤ 1000) : ∀ (c : Nat) (C : List Int) (D : List CL) (p : Nat), D.length + c = 15 → D.length ≤ 14 → C.length ≤ p → p ≤ N → ¬ rLs T N f c C D p = none
  | 0, C, D, p, h1, h2, _, _ => by omega
  | c + 1, C, D, p, h1, h2, hC, hp => by
    unfold rLs
    split
    · intro c; cases c
    split
    · rename_i g59
      have lt := nx_lt g59 (by omega)
      split
      · rename_i e; exact absurd e (rCl_tot hf)
      · intro c; cases c
      · rename_i y e
        obtain ⟨a1, a2, a3, a4, a5⟩ := rCl_good hN (by omega) (by omega) e
        have l1 : (D ++ [(y.2.2.1, C.length, C.length + y.2.2.2, C.length + y.2.1.length)]).length = D.length + 1 := by rw [List.length_append]; rfl
        have l2 : (C ++ y.2.1).length = C.length + y.2.1.length := List.length_append
        exact rLs_tot hf hN c _ _ y.1 (by omega) (by omega) (by omega) a1.2.1
    · intro c; cases c
/-- a law's codes and clauses as they may be -/
def okD (C : List Int) (D : List CL) : Prop := ∀ x, x ∈ D → (x.1 = 104 ∨ x.1 = 116 ∨ x.1 = 122) ∧ (x.2.1 ≤ x.2.2.1 ∧ x.2.2.1 ≤ x.2.2.2 ∧ x.2.2.2 ≤ C.length) ∧ ∀ cd, sAg cd 0 C → (¬ x.1 = 122 → sE cd x.2.1 x.2.2.1) ∧ sC cd x.2.2.1 x.2.2.2
theorem okD.more {C l : List Int} {D : List CL} (h : okD C D) : okD (C ++ l) D := fun x hx => by
  obtain ⟨h1, h2, h3⟩ := h x hx
  refine ⟨h1, ⟨h2.1, h2.2.1, by rw [List.length_append]; omega⟩, fun cd ag => h3 cd ag.app.1⟩
theorem okD.add {C : List Int} {D : List CL} {m p : Nat} {y : Nat × List Int × Int × Nat} (h : okD C D) (hN : N ≤ 1000) (hC : C.length ≤ p) (hp : p ≤ N) (e : rCl T N f m p C.length = some (.inr y)) : okD (C ++ y.2.1) (D ++ [(y.2.2.1, C.length, C.length + y.2.2.2, C.length + y.2.1.length)]) := fun x hx => by
  rcases List.mem_append.mp hx with hx | hx
  · exact h.more x hx
  · rw [List.mem_singleton] at hx
    subst hx
    obtain ⟨a1, a2, a3, a4, a5⟩ := rCl_good hN hC hp e
    refine ⟨a3, ⟨by show C.length ≤ C.length + y.2.2.2; omega, by show C.length + y.2.2.2 ≤ C.length + y.2.1.length; omega, by show C.length + y.2.1.length ≤ (C ++ y.2.1).length; rw [List.length_append]; omega⟩, fun cd ag => ?_⟩
    have ag2 := ag.app.2
    rw [Nat.zero_add] at ag2
    exact a5 cd ag2
theorem rLs_ok (hN : N ≤ 1000) : ∀ (c : Nat) (C : List Int) (D : List CL) (p : Nat) (C2 : List Int) (D2 : List CL), D.length ≤ 14 → 1 ≤ D.length → C.length ≤ p → p ≤ N → okD C D → rLs T N f c C D p = some (.inr (C2, D2)) → okD C2 D2 ∧ C2.length ≤ N ∧ 1 ≤ D2.length ∧ D2.length ≤ 14
  | 0, _, _, _, _, _, _, _, _, _, _, h => by cases h
  | c + 1, C, D, p, C2, D2, h14, h1, hC, hp, ok, h => by
    unfold rLs at h
    split at h
    · cases h; exact ⟨ok, by omega, h1, h14⟩
    split at h
    · rename_i g59
      have lt := nx_lt g59 (by omega)
      split at h
      · cases h
      · cases h
      · rename_i y e
        obtain ⟨a1, a2, a3, a4, a5⟩ := rCl_good hN (by omega) (by omega) e
        have l1 : (D ++ [(y.2.2.1, C.length, C.length + y.2.2.2, C.length + y.2.1.length)]).length = D.length + 1 := by rw [List.length_append]; rfl
        have l2 : (C ++ y.2.1).length = C.length + y.2.1.length := List.length_append
        exact rLs_ok hN c _ _ y.1 C2 D2 (by omega) (by omega) (by omega) a1.2.1 (ok.add hN (by omega) (by omega) e) h
    · cases h
theorem rLs_neg : ∀ (c : Nat) (C : List Int) (D : List CL) (p : Nat) (a : Int), rLs T N f c C D p = some (.inl a) → a < 0
  | 0, _, _, _, _, h => by cases h
  | c + 1, C, D, p, a, h => by
    unfold rLs at h
    split at h
    · cases h
    split at h
    · split at h
      · cases h
      · rename_i e; cases h; exact rCl_neg e
      · exact rLs_neg c _ _ _ a h
    · cases h; omega
end CW
