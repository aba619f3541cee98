-- PURE LOOPS, and the methods that are such loops
def pFind (p : Nat → Bool) : Nat → Nat → Int
  | _, 0 => -1
  | j, c + 1 => if p j then (j : Int) else pFind p (j + 1) c
theorem pFind_congr {p q : Nat → Bool} : ∀ (c j : Nat), (∀ k, j ≤ k → k < j + c → p k = q k) → pFind p j c = pFind q j c
  | 0, _, _ => rfl
  | c + 1, j, h => by
    unfold pFind
    rw [h j (by omega) (by omega), pFind_congr c (j + 1) (fun k h1 h2 => h k (by omega) (by omega))]
theorem pFind_range {p : Nat → Bool} : ∀ (c j : Nat), pFind p j c = -1 ∧ (∀ k, j ≤ k → k < j + c → p k = false) ∨ ∃ k : Nat, pFind p j c = (k : Int) ∧ j ≤ k ∧ k < j + c ∧ p k = true ∧ ∀ i, j ≤ i → i < k → p i = false
  | 0, j => .inl ⟨rfl, fun k h1 h2 => by omega⟩
  | c + 1, j => by
    unfold pFind
    by_cases h : p j = true
    · rw [if_pos h]; exact .inr ⟨j, rfl, by omega, by omega, h, fun i h1 h2 => by omega⟩
    · rw [if_neg h]
      have h' : p j = false := by simpa using h
      rcases pFind_range (p := p) c (j + 1) with ⟨e, g⟩ | ⟨k, e, h1, h2, h3, h4⟩
      · refine .inl ⟨e, fun k h1 h2 => ?_⟩
        by_cases hk : k = j
        · rw [hk]; exact h'
        · exact g k (by omega) (by omega)
      · refine .inr ⟨k, e, by omega, by omega, h3, fun i g1 g2 => ?_⟩
        by_cases hk : i = j
        · rw [hk]; exact h'
        · exact h4 i (by omega) g2
/-- the place of a letter in a heap -/
def pPlace (o : Nat → Int) (m x : Int) : Int := pFind (fun k => decide (o k = x)) 0 m.toNat
theorem l_S_placeOf {d n : Nat} {sh : ZS} {R : ZR} {I : ZI} {Q : Int → ZI → Prop} (hW : Wf sh R) {o : Nat} (hO : St sh R o) {x1 : Int} (h9 : I o 6 ≤ 32) : ∀ (c j : Nat), ((j + c : Nat) : Int) = I o 6 → Q (pFind (fun k => decide (I (o + 5) k = x1)) j c) I → XIs d 66 2 [some (.inr o), some (.inl x1), some (.inl (j : Int))] [] n sh R I Q
  | 0, j, h, q => b_S_placeOf_2 hW hO (by rw [if_pos (by omega)]; exact q)
  | c + 1, j, h, q => b_S_placeOf_2 hW hO (by
    rw [if_neg (by omega)]
    refine ⟨by omega, ?_⟩
    rw [Int.toNat_natCast]
    unfold pFind at q
    by_cases e : I (o + 5) j = x1
    · rw [if_neg (not_not_intro e)]; rw [if_pos (decide_eq_true e)] at q; exact q
    · rw [if_pos e]; rw [if_neg (by simpa using e)] at q
      exact ⟨by unfold zr; omega, l_S_placeOf hW hO h9 c (j + 1) (by omega) q⟩)
theorem s_S_placeOf {d n : Nat} {sh : ZS} {R : ZR} {I : ZI} {Q : Int → ZI → Prop} (hW : Wf sh R) {o : Nat} (hO : St sh R o) {x1 : Int} (h0 : 0 ≤ I o 6) (h9 : I o 6 ≤ 32) (q : Q (pPlace (I (o + 5)) (I o 6) x1) I) : XI d 66 [.inr o, .inl x1] n sh R I Q :=
  b_S_placeOf_0 hW hO (l_S_placeOf hW hO h9 _ 0 (by omega) q)
theorem l_M_placeOf {d n : Nat} {sh : ZS} {R : ZR} {I : ZI} {Q : Int → ZI → Prop} (hW : Wf sh R) {x1 : Int} (h9 : I 137 1 ≤ 32) : ∀ (c j : Nat), ((j + c : Nat) : Int) = I 137 1 → Q (pFind (fun k => decide (I 142 k = x1)) j c) I → XIs d 151 2 [some (.inr 137), some (.inl x1), some (.inl (j : Int))] [] n sh R I Q
  | 0, j, h, q => b_M_placeOf_2 hW (by rw [if_pos (by omega)]; exact q)
  | c + 1, j, h, q => b_M_placeOf_2 hW (by
    rw [if_neg (by omega)]
    refine ⟨by omega, ?_⟩
    rw [Int.toNat_natCast]
    unfold pFind at q
    by_cases e : I 142 j = x1
    · rw [if_neg (not_not_intro e)]; rw [if_pos (decide_eq_true e)] at q; exact q
    · rw [if_pos e]; rw [if_neg (by simpa using e)] at q
      exact ⟨by unfold zr; omega, l_M_placeOf hW h9 c (j + 1) (by omega) q⟩)
theorem s_M_placeOf {d n : Nat} {sh : ZS} {R : ZR} {I : ZI} {Q : Int → ZI → Prop} (hW : Wf sh R) {x1 : Int} (h0 : 0 ≤ I 137 1) (h9 : I 137 1 ≤ 32) (q : Q (pPlace (I 142) (I 137 1) x1) I) : XI d 151 [.inr 137, .inl x1] n sh R I Q :=
  b_M_placeOf_0 hW (l_M_placeOf hW h9 _ 0 (by omega) q)
