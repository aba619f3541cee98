-- READING A LAW: what its text comes to, place by place
abbrev RR : Type := Int ⊕ (Nat × List Int)
/-- the byte at a place, -1 behind the end -/
def nx (T : Nat → Int) (n p : Nat) : Int := if p < n then T p else -1
def rB (x : Option RR) (g : Nat → List Int → Option RR) : Option RR := match x with
  | none => none
  | some (.inl a) => some (.inl a)
  | some (.inr y) => g y.1 y.2
def rPre (l : List Int) (x : Option RR) : Option RR := rB x (fun q l2 => some (.inr (q, l ++ l2)))
def rDg (c : Int) : Bool := decide (48 ≤ c ∧ c ≤ 57)
def rMul (c : Int) : Int := if c = 42 then 4 else if c = 47 then 5 else if c = 37 then 6 else -1
def rAdd (c : Int) : Int := if c = 43 then 2 else if c = 45 then 3 else -1
def rCmp (c : Int) : Int := if c = 60 then 7 else if c = 62 then 8 else if c = 61 then 9 else -1
def rNum (T : Nat → Int) (n : Nat) : Nat → Nat → Int → RR
  | 0, p, v => if rDg (nx T n p) = true then .inl (-2000 - p) else .inr (p, [v])
  | m + 1, p, v => if rDg (nx T n p) = true then rNum T n m (p + 1) (10 * v + nx T n p - 48) else .inr (p, [v])
def rFac (T : Nat → Int) (n : Nat) (sum : Nat → Nat → Nat → Option RR) (k p i : Nat) : Option RR :=
  if rDg (nx T n p) = true then some (rNum T n 5 p 0) else
  if nx T n p = 91 then (if 6 ≤ k then some (.inl (-5000 - p)) else rB (sum (k + 1) (p + 1) i) fun q l => if nx T n q = 93 then some (.inr (q + 1, l)) else some (.inl (-1000 - q))) else
  if zIdx (nx T n p) < 0 then some (.inl (-1000 - p)) else some (.inr (p + 1, [1048576 + zIdx (nx T n p)]))
def rSeq (one rest : Nat → Nat → Nat → Option RR) (k p i : Nat) : Option RR := rB (one k p i) fun q l => rPre l (rest k q (i + l.length))
def rOps (T : Nat → Int) (n : Nat) (op : Int → Int) (one rest : Nat → Nat → Nat → Option RR) (k p i : Nat) : Option RR :=
  if op (nx T n p) < 0 then some (.inr (p, [])) else rB (one k (p + 1) i) fun q l => rPre (l ++ [1048576 * op (nx T n p)]) (rest k q (i + l.length + 1))
def rComp (T : Nat → Int) (n : Nat) (sum : Nat → Nat → Nat → Option RR) (k p i : Nat) : Option RR :=
  rB (sum k p i) fun q l => if rCmp (nx T n q) < 0 then some (.inl (-1000 - q)) else rB (sum k (q + 1) (i + l.length)) fun q2 l2 => some (.inr (q2, l ++ l2 ++ [1048576 * rCmp (nx T n q)]))
def rPiece (T : Nat → Int) (n : Nat) (piece cond comp : Nat → Nat → Nat → Option RR) (k p i : Nat) : Option RR :=
  if nx T n p = 33 then (if 6 ≤ k then some (.inl (-5000 - p)) else rB (piece (k + 1) (p + 1) i) fun q l => some (.inr (q, l ++ [10485760]))) else
  if nx T n p = 40 then (if 6 ≤ k then some (.inl (-5000 - p)) else rB (cond (k + 1) (p + 1) i) fun q l => if nx T n q = 41 then some (.inr (q + 1, l)) else some (.inl (-1000 - q))) else comp k p i
def rLeap (T : Nat → Int) (n : Nat) (c op : Int) (one rest : Nat → Nat → Nat → Option RR) (k p i : Nat) : Option RR :=
  if nx T n p = c then rB (one k (p + 1) (i + 1)) fun q l => rPre ((1048576 * op + ((i + 1 + l.length : Nat) : Int)) :: l) (rest k q (i + 1 + l.length)) else some (.inr (p, []))
/-- 0 factor, 1 term, 2 sum, 3 comparison, 4 piece, 5 part, 6 condition; 11, 12, 15, 16 the rest of 1, 2, 5, 6 -/
def rd (T : Nat → Int) (n : Nat) : Nat → Nat → Nat → Nat → Nat → Option RR
  | 0, _ => fun _ _ _ => none
  | f + 1, t => match t with
    | 0 => rFac T n (rd T n f 2)
    | 1 => rSeq (rd T n f 0) (rd T n f 11)
    | 11 => rOps T n rMul (rd T n f 0) (rd T n f 11)
    | 2 => rSeq (rd T n f 1) (rd T n f 12)
    | 12 => rOps T n rAdd (rd T n f 1) (rd T n f 12)
    | 3 => rComp T n (rd T n f 2)
    | 4 => rPiece T n (rd T n f 4) (rd T n f 6) (rd T n f 3)
    | 5 => rSeq (rd T n f 4) (rd T n f 15)
    | 15 => rLeap T n 38 11 (rd T n f 4) (rd T n f 15)
    | 6 => rSeq (rd T n f 5) (rd T n f 16)
    | 16 => rLeap T n 124 12 (rd T n f 5) (rd T n f 16)
    | _ => fun _ _ _ => none
section RD
variable {T : Nat → Int} {n : Nat}
theorem nx_lt {p : Nat} {c : Int} (h : nx T n p = c) (hc : 0 ≤ c) : p < n := by
  unfold nx at h
  by_cases g : p < n
  · exact g
  · rw [if_neg g] at h; omega
theorem rB_inr {x : Option RR} {g : Nat → List Int → Option RR} {y : Nat × List Int} (h : rB x g = some (.inr y)) : ∃ q l, x = some (.inr (q, l)) ∧ g q l = some (.inr y) := by
  unfold rB at h
  split at h
  · cases h
  · cases h
  · rename_i z
    exact ⟨z.1, z.2, rfl, h⟩
theorem rPre_inr {x : Option RR} {l : List Int} {y : Nat × List Int} (h : rPre l x = some (.inr y)) : ∃ q l2, x = some (.inr (q, l2)) ∧ y = (q, l ++ l2) := by
  obtain ⟨q, l2, h1, h2⟩ := rB_inr h
  cases h2
  exact ⟨q, l2, h1, rfl⟩
theorem rB_some {x : Option RR} {g : Nat → List Int → Option RR} (h : ¬ x = none) (h2 : ∀ q l, x = some (.inr (q, l)) → ¬ g q l = none) : ¬ rB x g = none := by
  unfold rB
  split
  · exact absurd rfl h
  · intro c; cases c
  · rename_i z
    exact h2 z.1 z.2 rfl
theorem rNum_len : ∀ (m p : Nat) (v : Int) (q : Nat) (l : List Int), p ≤ n → rNum T n m p v = .inr (q, l) → p ≤ q ∧ q ≤ n ∧ l.length = 1
  | 0, p, v, q, l, hp, h => by
    unfold rNum at h
    split at h
    · cases h
    · cases h; exact ⟨by omega, by omega, rfl⟩
  | m + 1, p, v, q, l, hp, h => by
    unfold rNum at h
    split at h
    · rename_i g
      have : 0 ≤ nx T n p := by
        have := of_decide_eq_true g
        omega
      have lt := nx_lt rfl this
      have := rNum_len m (p + 1) _ q l (by omega) h
      omega
    · cases h; exact ⟨by omega, by omega, rfl⟩
theorem rNum_len1 {p : Nat} {v : Int} {q : Nat} {l : List Int} (hp : p ≤ n) (hd : rDg (nx T n p) = true) (h : rNum T n 5 p v = .inr (q, l)) : p + 1 ≤ q ∧ q ≤ n ∧ l.length = 1 := by
  have : 0 ≤ nx T n p := by
    have := of_decide_eq_true hd
    omega
  have lt := nx_lt rfl this
  unfold rNum at h
  rw [if_pos hd] at h
  exact rNum_len 4 (p + 1) _ q l (by omega) h
theorem zIdx_range {c : Int} : -1 ≤ zIdx c ∧ zIdx c < 8 ∧ (0 ≤ zIdx c → 0 ≤ c) := by
  unfold zIdx
  repeat' split
  all_goals omega
theorem rMul_range {c : Int} : (rMul c = -1 ∨ 4 ≤ rMul c ∧ rMul c ≤ 6) ∧ (0 ≤ rMul c → 0 ≤ c) := by
  unfold rMul
  repeat' split
  all_goals omega
theorem rAdd_range {c : Int} : (rAdd c = -1 ∨ 2 ≤ rAdd c ∧ rAdd c ≤ 3) ∧ (0 ≤ rAdd c → 0 ≤ c) := by
  unfold rAdd
  repeat' split
  all_goals omega
theorem rCmp_range {c : Int} : (rCmp c = -1 ∨ 7 ≤ rCmp c ∧ rCmp c ≤ 9) ∧ (0 ≤ rCmp c → 0 ≤ c) := by
  unfold rCmp
  repeat' split
  all_goals omega
/-- what is read: it goes on, not beyond the end, with no more steps than bytes -/
def rGood (n t p : Nat) (q : Nat) (l : List Int) : Prop := (if t < 10 then p + 1 else p) ≤ q ∧ q ≤ n ∧ l.length + p ≤ q
theorem rSeq_len {one rest : Nat → Nat → Nat → Option RR} {t r k p i q : Nat} {l : List Int} (ht : t < 10) (h1 : ∀ k p i q l, p ≤ n → one k p i = some (.inr (q, l)) → rGood n t p q l) (h2 : ∀ k p i q l, p ≤ n → rest k p i = some (.inr (q, l)) → rGood n r p q l) (hp : p ≤ n) (h : rSeq one rest k p i = some (.inr (q, l))) : p + 1 ≤ q ∧ q ≤ n ∧ l.length + p ≤ q := by
  obtain ⟨q1, l1, e1, e2⟩ := rB_inr h
  obtain ⟨q2, l2, e3, e4⟩ := rPre_inr e2
  cases e4
  have a := h1 _ _ _ _ _ hp e1
  unfold rGood at a
  rw [if_pos ht] at a
  have b := h2 _ _ _ _ _ a.2.1 e3
  unfold rGood at b
  rw [List.length_append]
  split at b <;> omega
theorem rd_len : ∀ (f t k p i q : Nat) (l : List Int), p ≤ n → rd T n f t k p i = some (.inr (q, l)) → rGood n t p q l := by
  intro f
  induction f with
  | zero => intro t k p i q l hp h; cases h
  | succ f ih =>
    intro t k p i q l hp h
    have ops : ∀ (op : Int → Int) (t1 r : Nat), t1 < 10 → (∀ c, 0 ≤ op c → 0 ≤ c) → rOps T n op (rd T n f t1) (rd T n f r) k p i = some (.inr (q, l)) → p ≤ q ∧ q ≤ n ∧ l.length + p ≤ q := fun op t1 r ht hop h => by
      unfold rOps at h
      by_cases g : op (nx T n p) < 0
      · rw [if_pos g] at h; cases h; exact ⟨by omega, by omega, by show 0 + p ≤ p; omega⟩
      · rw [if_neg g] at h
        have lt := nx_lt (T := T) (n := n) (p := p) rfl (hop (nx T n p) (by omega))
        obtain ⟨q1, l1, e1, e2⟩ := rB_inr h
        obtain ⟨q2, l2, e3, e4⟩ := rPre_inr e2
        cases e4
        have a := ih _ _ _ _ _ _ (by omega) e1
        unfold rGood at a
        rw [if_pos ht] at a
        have b := ih _ _ _ _ _ _ a.2.1 e3
        unfold rGood at b
        rw [List.length_append, List.length_append]
        have e5 : ([1048576 * op (nx T n p)] : List Int).length = 1 := rfl
        split at b <;> omega
    have leap : ∀ (c o : Int) (t1 r : Nat), t1 < 10 → 0 ≤ c → rLeap T n c o (rd T n f t1) (rd T n f r) k p i = some (.inr (q, l)) → p ≤ q ∧ q ≤ n ∧ l.length + p ≤ q := fun c o t1 r ht hc h => by
      unfold rLeap at h
      by_cases g : nx T n p = c
      · rw [if_pos g] at h
        have lt := nx_lt g hc
        obtain ⟨q1, l1, e1, e2⟩ := rB_inr h
        obtain ⟨q2, l2, e3, e4⟩ := rPre_inr e2
        cases e4
        have a := ih _ _ _ _ _ _ (by omega) e1
        unfold rGood at a
        rw [if_pos ht] at a
        have b := ih _ _ _ _ _ _ a.2.1 e3
        unfold rGood at b
        rw [List.length_append, List.length_cons]
        split at b <;> omega
      · rw [if_neg g] at h; cases h; exact ⟨by omega, by omega, by show 0 + p ≤ p; omega⟩
    unfold rGood
    match t, h with
    | 0, h =>
      rw [if_pos (by omega)]
      have h : rFac T n (rd T n f 2) k p i = some (.inr (q, l)) := h
      unfold rFac at h
      by_cases g : rDg (nx T n p) = true
      · rw [if_pos g] at h
        have h2 : rNum T n 5 p 0 = .inr (q, l) := Option.some.inj h
        have := rNum_len1 hp g h2
        omega
      rw [if_neg g] at h
      by_cases g2 : nx T n p = 91
      · rw [if_pos g2] at h
        have lt := nx_lt g2 (by omega)
        by_cases g3 : 6 ≤ k
        · rw [if_pos g3] at h; cases h
        rw [if_neg g3] at h
        obtain ⟨q1, l1, e1, e2⟩ := rB_inr h
        have a := ih _ _ _ _ _ _ (by omega) e1
        unfold rGood at a
        rw [if_pos (by omega)] at a
        by_cases g4 : nx T n q1 = 93
        · rw [if_pos g4] at e2
          cases e2
          have lt := nx_lt g4 (by omega)
          omega
        · rw [if_neg g4] at e2; cases e2
      rw [if_neg g2] at h
      by_cases g3 : zIdx (nx T n p) < 0
      · rw [if_pos g3] at h; cases h
      · rw [if_neg g3] at h
        cases h
        have lt := nx_lt (T := T) (n := n) (p := p) rfl ((zIdx_range (c := nx T n p)).2.2 (by omega))
        show p + 1 ≤ p + 1 ∧ p + 1 ≤ n ∧ 1 + p ≤ p + 1
        omega
    | 1, h => exact rSeq_len (one := rd T n f 0) (rest := rd T n f 11) (t := 0) (r := 11) (by omega) (fun k p i q l => ih 0 k p i q l) (fun k p i q l => ih 11 k p i q l) hp h
    | 2, h => exact rSeq_len (one := rd T n f 1) (rest := rd T n f 12) (t := 1) (r := 12) (by omega) (fun k p i q l => ih 1 k p i q l) (fun k p i q l => ih 12 k p i q l) hp h
    | 5, h => exact rSeq_len (one := rd T n f 4) (rest := rd T n f 15) (t := 4) (r := 15) (by omega) (fun k p i q l => ih 4 k p i q l) (fun k p i q l => ih 15 k p i q l) hp h
    | 6, h => exact rSeq_len (one := rd T n f 5) (rest := rd T n f 16) (t := 5) (r := 16) (by omega) (fun k p i q l => ih 5 k p i q l) (fun k p i q l => ih 16 k p i q l) hp h
    | 11, h => exact ops rMul 0 11 (by omega) (fun c => rMul_range.2) h
    | 12, h => exact ops rAdd 1 12 (by omega) (fun c => rAdd_range.2) h
    | 15, h => exact leap 38 11 4 15 (by omega) (by omega) h
    | 16, h => exact leap 124 12 5 16 (by omega) (by omega) h
    | 3, h =>
      rw [if_pos (by omega)]
      have h : rComp T n (rd T n f 2) k p i = some (.inr (q, l)) := h
      obtain ⟨q1, l1, e1, e2⟩ := rB_inr h
      have a := ih _ _ _ _ _ _ hp e1
      unfold rGood at a
      rw [if_pos (by omega)] at a
      by_cases g : rCmp (nx T n q1) < 0
      · rw [if_pos g] at e2; cases e2
      · rw [if_neg g] at e2
        have lt := nx_lt (T := T) rfl (rCmp_range.2 (by omega : 0 ≤ rCmp (nx T n q1)))
        obtain ⟨q2, l2, e3, e4⟩ := rB_inr e2
        cases e4
        have b := ih _ _ _ _ _ _ (by omega) e3
        unfold rGood at b
        rw [if_pos (by omega)] at b
        rw [List.length_append, List.length_append]
        have e5 : ([1048576 * rCmp (nx T n q1)] : List Int).length = 1 := rfl
        omega
    | 4, h =>
      rw [if_pos (by omega)]
      have h : rPiece T n (rd T n f 4) (rd T n f 6) (rd T n f 3) k p i = some (.inr (q, l)) := h
      unfold rPiece at h
      by_cases g : nx T n p = 33
      · rw [if_pos g] at h
        have lt := nx_lt g (by omega)
        by_cases g3 : 6 ≤ k
        · rw [if_pos g3] at h; cases h
        rw [if_neg g3] at h
        obtain ⟨q1, l1, e1, e2⟩ := rB_inr h
        cases e2
        have a := ih _ _ _ _ _ _ (by omega) e1
        unfold rGood at a
        rw [if_pos (by omega)] at a
        rw [List.length_append]
        have e5 : ([10485760] : List Int).length = 1 := rfl
        omega
      rw [if_neg g] at h
      by_cases g2 : nx T n p = 40
      · rw [if_pos g2] at h
        have lt := nx_lt g2 (by omega)
        by_cases g3 : 6 ≤ k
        · rw [if_pos g3] at h; cases h
        rw [if_neg g3] at h
        obtain ⟨q1, l1, e1, e2⟩ := rB_inr h
        have a := ih _ _ _ _ _ _ (by omega) e1
        unfold rGood at a
        rw [if_pos (by omega)] at a
        by_cases g4 : nx T n q1 = 41
        · rw [if_pos g4] at e2
          cases e2
          have lt := nx_lt g4 (by omega)
          omega
        · rw [if_neg g4] at e2; cases e2
      rw [if_neg g2] at h
      have a := ih _ _ _ _ _ _ hp h
      unfold rGood at a
      rw [if_pos (by omega)] at a
      exact a
    | 7, h => cases h
    | 8, h => cases h
    | 9, h => cases h
    | 10, h => cases h
    | 13, h => cases h
    | 14, h => cases h
    | t + 17, h => cases h
/-- how many goes of reading a kind of thing wants -/
def rRk (t : Nat) : Nat := if t = 0 then 1 else if t = 11 then 1 else if t = 1 then 2 else if t = 12 then 3 else if t = 2 then 3 else if t = 3 then 4 else if t = 4 then 5 else if t = 15 then 6 else if t = 5 then 6 else 7
def rIs (t : Nat) : Prop := t ≤ 6 ∨ t = 11 ∨ t = 12 ∨ t = 15 ∨ t = 16
theorem rd_tot : ∀ (f t k p i : Nat), rIs t → p ≤ n → 8 * (n - p) + rRk t < f → ¬ rd T n f t k p i = none := by
  intro f
  induction f with
  | zero => intro t k p i ht hp hf; omega
  | succ f ih =>
    intro t k p i ht hp hf
    have seq : ∀ (t1 r : Nat), t1 < 10 → rIs t1 → rIs r → rRk t1 + 1 ≤ rRk t → rRk r ≤ 7 → ¬ rSeq (rd T n f t1) (rd T n f r) k p i = none := fun t1 r ht1 i1 i2 r1 r2 => by
      refine rB_some (ih _ _ _ _ i1 hp (by omega)) fun q l e => ?_
      have a := rd_len _ _ _ _ _ _ _ hp e
      unfold rGood at a
      rw [if_pos ht1] at a
      exact rB_some (ih _ _ _ _ i2 a.2.1 (by omega)) fun _ _ _ c => by cases c
    have ops : ∀ (op : Int → Int) (t1 r : Nat), t1 < 10 → rIs t1 → rIs r → (∀ c, 0 ≤ op c → 0 ≤ c) → rRk t1 ≤ 7 → rRk r ≤ 7 → ¬ rOps T n op (rd T n f t1) (rd T n f r) k p i = none := fun op t1 r ht1 i1 i2 hop r1 r2 => by
      unfold rOps
      by_cases g : op (nx T n p) < 0
      · rw [if_pos g]; intro c; cases c
      · rw [if_neg g]
        have lt := nx_lt (T := T) (n := n) (p := p) rfl (hop (nx T n p) (by omega))
        refine rB_some (ih _ _ _ _ i1 (by omega) (by omega)) fun q l e => ?_
        have a := rd_len _ _ _ _ _ _ _ (by omega) e
        unfold rGood at a
        rw [if_pos ht1] at a
        exact rB_some (ih _ _ _ _ i2 a.2.1 (by omega)) fun _ _ _ c => by cases c
    have leap : ∀ (c o : Int) (t1 r : Nat), t1 < 10 → rIs t1 → rIs r → 0 ≤ c → rRk t1 ≤ 7 → rRk r ≤ 7 → ¬ rLeap T n c o (rd T n f t1) (rd T n f r) k p i = none := fun c o t1 r ht1 i1 i2 hc r1 r2 => by
      unfold rLeap
      by_cases g : nx T n p = c
      · rw [if_pos g]
        have lt := nx_lt g hc
        refine rB_some (ih _ _ _ _ i1 (by omega) (by omega)) fun q l e => ?_
        have a := rd_len _ _ _ _ _ _ _ (by omega) e
        unfold rGood at a
        rw [if_pos ht1] at a
        exact rB_some (ih _ _ _ _ i2 a.2.1 (by omega)) fun _ _ _ c => by cases c
      · rw [if_neg g]; intro c; cases c
    have i0 : rIs 0 := .inl (by omega)
    have i1 : rIs 1 := .inl (by omega)
    have i2 : rIs 2 := .inl (by omega)
    have i3 : rIs 3 := .inl (by omega)
    have i4 : rIs 4 := .inl (by omega)
    have i5 : rIs 5 := .inl (by omega)
    have i6 : rIs 6 := .inl (by omega)
    have i11 : rIs 11 := .inr (.inl rfl)
    have i12 : rIs 12 := .inr (.inr (.inl rfl))
    have i15 : rIs 15 := .inr (.inr (.inr (.inl rfl)))
    have i16 : rIs 16 := .inr (.inr (.inr (.inr rfl)))
    rcases (show t = 0 ∨ t = 1 ∨ t = 2 ∨ t = 3 ∨ t = 4 ∨ t = 5 ∨ t = 6 ∨ t = 11 ∨ t = 12 ∨ t = 15 ∨ t = 16 by unfold rIs at ht; omega) with rfl | rfl | rfl | rfl | rfl | rfl | rfl | rfl | rfl | rfl | rfl
    · show ¬ rFac T n (rd T n f 2) k p i = none
      have e : rRk 0 = 1 := rfl
      unfold rFac
      by_cases g : rDg (nx T n p) = true
      · rw [if_pos g]; intro c; cases c
      rw [if_neg g]
      by_cases g2 : nx T n p = 91
      · rw [if_pos g2]
        have lt := nx_lt g2 (by omega)
        by_cases g3 : 6 ≤ k
        · rw [if_pos g3]; intro c; cases c
        rw [if_neg g3]
        refine rB_some (ih _ _ _ _ i2 (by omega) (by have : rRk 2 = 3 := rfl; omega)) fun q l e => ?_
        split <;> (intro c; cases c)
      rw [if_neg g2]
      split <;> (intro c; cases c)
    · exact seq 0 11 (by omega) i0 i11 (by decide) (by decide)
    · exact seq 1 12 (by omega) i1 i12 (by decide) (by decide)
    · have e : rRk 3 = 4 := rfl
      have e2 : rRk 2 = 3 := rfl
      show ¬ rComp T n (rd T n f 2) k p i = none
      refine rB_some (ih _ _ _ _ i2 hp (by omega)) fun q l e => ?_
      have a := rd_len _ _ _ _ _ _ _ hp e
      unfold rGood at a
      rw [if_pos (by omega)] at a
      by_cases g : rCmp (nx T n q) < 0
      · rw [if_pos g]; intro c; cases c
      · rw [if_neg g]
        have lt := nx_lt (T := T) rfl (rCmp_range.2 (by omega : 0 ≤ rCmp (nx T n q)))
        exact rB_some (ih _ _ _ _ i2 (by omega) (by omega)) fun _ _ _ c => by cases c
    · show ¬ rPiece T n (rd T n f 4) (rd T n f 6) (rd T n f 3) k p i = none
      have e4 : rRk 4 = 5 := rfl
      have e6 : rRk 6 = 7 := rfl
      have e3 : rRk 3 = 4 := rfl
      unfold rPiece
      by_cases g : nx T n p = 33
      · rw [if_pos g]
        have lt := nx_lt g (by omega)
        split
        · intro c; cases c
        · exact rB_some (ih _ _ _ _ i4 (by omega) (by omega)) fun _ _ _ c => by cases c
      rw [if_neg g]
      by_cases g2 : nx T n p = 40
      · rw [if_pos g2]
        have lt := nx_lt g2 (by omega)
        by_cases g3 : 6 ≤ k
        · rw [if_pos g3]; intro c; cases c
        rw [if_neg g3]
        refine rB_some (ih _ _ _ _ i6 (by omega) (by omega)) fun q l e => ?_
        split <;> (intro c; cases c)
      rw [if_neg g2]
      exact ih _ _ _ _ i3 hp (by omega)
    · exact seq 4 15 (by omega) i4 i15 (by decide) (by decide)
    · exact seq 5 16 (by omega) i5 i16 (by decide) (by decide)
    · exact ops rMul 0 11 (by omega) i0 i11 (fun c => rMul_range.2) (by decide) (by decide)
    · exact ops rAdd 1 12 (by omega) i1 i12 (fun c => rAdd_range.2) (by decide) (by decide)
    · exact leap 38 11 4 15 (by omega) i4 i15 (by omega) (by decide) (by decide)
    · exact leap 124 12 5 16 (by omega) i5 i16 (by omega) (by decide) (by decide)
end RD
