-- TOGETHER
theorem zshl_n {a : Nat} (h : a ≤ 30) : zshl 1 (a : Int) = ((2 ^ a : Nat) : Int) := by
  rw [zshl_1 (by omega) (by omega), Int.toNat_natCast]
  first | exact (Int.natCast_pow 2 a).symm | simp
theorem zbit_n {s a : Nat} (hs : s < 2147483648) (ha : a < 32) : zand (zshr (s : Int) (a : Int)) 1 = if s.testBit a = true then 1 else 0 := by
  rw [zBit_and1 (by unfold zr; omega) ha]
  have e : zBit (s : Int) a = s.testBit a := by
    unfold zBit
    rw [show ((s : Int) % 4294967296).toNat = s by omega]
  rw [e]
def tR (c : Nat) (F L : Nat → Int) (i a : Nat) : Int := if i = c then 1 else if L i ≤ F a then 0 else 1
def tMin (p : Nat → Bool) (v : Nat → Int) : Nat → Int → Int
  | 0, m => m
  | k + 1, m => if p k = true then (if v k ≤ tMin p v k m then v k else tMin p v k m) else tMin p v k m
theorem tMin_congr {p : Nat → Bool} {v v2 : Nat → Int} {m : Int} : ∀ k, (∀ a, a < k → p a = true → v a = v2 a) → tMin p v k m = tMin p v2 k m
  | 0, _ => rfl
  | k + 1, h => by
    unfold tMin
    rw [tMin_congr k fun a ha => h a (by omega)]
    by_cases g : p k = true
    · rw [if_pos g, if_pos g, h k (by omega) g]
    · rw [if_neg g, if_neg g]
theorem tMin_le {p : Nat → Bool} {v : Nat → Int} {m : Int} : ∀ k, tMin p v k m ≤ m ∧ ∀ a, a < k → p a = true → tMin p v k m ≤ v a
  | 0 => ⟨Int.le_refl _, fun a ha => absurd ha (by omega)⟩
  | k + 1 => by
    have ih := tMin_le (p := p) (v := v) (m := m) k
    have e : tMin p v (k + 1) m = if p k = true then (if v k ≤ tMin p v k m then v k else tMin p v k m) else tMin p v k m := rfl
    rw [e]
    refine ⟨by split <;> (try split) <;> omega, fun a ha hp => ?_⟩
    by_cases g : a = k
    · subst g
      rw [if_pos hp]
      split <;> omega
    · have := ih.2 a (by omega) hp
      split <;> (try split) <;> omega
theorem tMin_ge {p : Nat → Bool} {v : Nat → Int} {m z : Int} (hm : z ≤ m) : ∀ k, (∀ a, a < k → p a = true → z ≤ v a) → z ≤ tMin p v k m
  | 0, _ => hm
  | k + 1, h => by
    have ih := tMin_ge hm k fun a ha => h a (by omega)
    unfold tMin
    by_cases g : p k = true
    · have := h k (by omega) g
      rw [if_pos g]; split <;> omega
    · rw [if_neg g]; exact ih
theorem tMin_init {p : Nat → Bool} {v : Nat → Int} {m M : Int} (h : m ≤ M) : ∀ k, tMin p v k m = if tMin p v k M ≤ m then tMin p v k M else m
  | 0 => by
    show m = if M ≤ m then M else m
    split <;> omega
  | k + 1 => by
    have ih := tMin_init (p := p) (v := v) h k
    have e : ∀ z, tMin p v (k + 1) z = if p k = true then (if v k ≤ tMin p v k z then v k else tMin p v k z) else tMin p v k z := fun _ => rfl
    rw [e, e]
    by_cases g : p k = true
    · rw [if_pos g, if_pos g, ih]
      split <;> split <;> (try split) <;> (try split) <;> omega
    · rw [if_neg g, if_neg g]; exact ih
theorem tMin_none {p : Nat → Bool} {v : Nat → Int} {m : Int} : ∀ k, (∀ a, a < k → ¬ p a = true) → tMin p v k m = m
  | 0, _ => rfl
  | k + 1, h => by
    unfold tMin
    rw [if_neg (h k (by omega))]
    exact tMin_none k fun a ha => h a (by omega)
/-- the least is told by one, or it is what it began with -/
theorem tMin_at {p : Nat → Bool} {v : Nat → Int} {m : Int} : ∀ k, tMin p v k m = m ∨ ∃ a, a < k ∧ p a = true ∧ v a = tMin p v k m
  | 0 => .inl rfl
  | k + 1 => by
    have e : tMin p v (k + 1) m = if p k = true then (if v k ≤ tMin p v k m then v k else tMin p v k m) else tMin p v k m := rfl
    by_cases g : p k = true
    · by_cases g2 : v k ≤ tMin p v k m
      · rw [if_pos g, if_pos g2] at e
        exact .inr ⟨k, by omega, g, e.symm⟩
      · rw [if_pos g, if_neg g2] at e
        rw [e]
        rcases tMin_at (p := p) (v := v) (m := m) k with h | ⟨a, h1, h2, h3⟩
        · exact .inl h
        · exact .inr ⟨a, by omega, h2, h3⟩
    · rw [if_neg g] at e
      rw [e]
      rcases tMin_at (p := p) (v := v) (m := m) k with h | ⟨a, h1, h2, h3⟩
      · exact .inl h
      · exact .inr ⟨a, by omega, h2, h3⟩
-- sets
theorem set_full {c s : Nat} (h : s < 2 ^ c) (h2 : ∀ a, a < c → s.testBit a = true) : s + 1 = 2 ^ c := by
  have e : s = 2 ^ c - 1 := by
    apply Nat.eq_of_testBit_eq
    intro i
    rw [Nat.testBit_two_pow_sub_one]
    by_cases g : i < c
    · rw [h2 i g]; simp [g]
    · rw [Nat.testBit_lt_two_pow (Nat.lt_of_lt_of_le h (Nat.pow_le_pow_right (by decide) (by omega)))]; simp [g]
  have := Nat.two_pow_pos c
  omega
theorem set_miss {c s : Nat} (h : s < 2 ^ c) (h2 : ¬ s + 1 = 2 ^ c) : ∃ a, a < c ∧ s.testBit a = false := by
  apply Classical.byContradiction
  intro q
  refine h2 (set_full h fun a ha => ?_)
  cases e : s.testBit a with
  | true => rfl
  | false => exact absurd ⟨a, ha, e⟩ q
theorem set_bit {s a b : Nat} : (s ||| 2 ^ a).testBit b = (s.testBit b || decide (b = a)) := by
  rw [Nat.testBit_or, Nat.testBit_two_pow]
  congr 1
  exact decide_eq_decide.mpr eq_comm
theorem set_lt {c s a : Nat} (h : s < 2 ^ c) (ha : a < c) : s ||| 2 ^ a < 2 ^ c := Nat.or_lt_two_pow h (Nat.pow_lt_pow_right (by decide) ha)
theorem set_gt {s a : Nat} (h : s.testBit a = false) : s < s ||| 2 ^ a := by
  have h1 : s ≤ s ||| 2 ^ a := Nat.left_le_or
  have h2 : ¬ s = s ||| 2 ^ a := fun e => by
    have : (s ||| 2 ^ a).testBit a = true := by rw [set_bit]; simp
    rw [← e, h] at this
    cases this
  omega
def tMs (c s : Nat) : Nat := pCount (fun a => !s.testBit a) c
theorem pCount_flip {p q : Nat → Bool} {a : Nat} (hp : p a = true) (hq : q a = false) (h : ∀ k, ¬ k = a → q k = p k) : ∀ n, a < n → pCount q n + 1 = pCount p n
  | 0, ha => absurd ha (by omega)
  | n + 1, ha => by
    unfold pCount
    by_cases g : a = n
    · subst g
      rw [hp, hq, pCount_congr a (p := q) (q := p) fun k hk => h k (by omega)]
      simp
    · rw [h n (by omega)]
      have := pCount_flip hp hq h n (by omega)
      omega
theorem tMs_or {c s a : Nat} (ha : a < c) (h : s.testBit a = false) : tMs c (s ||| 2 ^ a) + 1 = tMs c s := by
  unfold tMs
  exact pCount_flip (a := a) (by rw [h]; rfl) (by rw [set_bit]; simp) (fun k hk => by rw [set_bit]; simp [hk]) c ha
theorem tMs_pos {c s a : Nat} (ha : a < c) (h : s.testBit a = true) : tMs c s < c := by
  have l := pCount_le (p := fun a => !s.testBit a) c
  unfold tMs
  apply Classical.byContradiction
  intro q
  have := pCount_full (p := fun a => !s.testBit a) c (by omega) a ha
  simp [h] at this
theorem tMs_full {c s : Nat} (h : s < 2 ^ c) (h2 : tMs c s = 0) : s + 1 = 2 ^ c := by
  apply Classical.byContradiction
  intro q
  obtain ⟨a, h3, h4⟩ := set_miss h q
  have := tMs_or h3 h4
  omega
theorem tMs_0 : ∀ c, tMs c 0 = c
  | 0 => rfl
  | c + 1 => by
    have ih := tMs_0 c
    unfold tMs at ih ⊢
    unfold pCount
    rw [ih]
    simp
/-- fewest rows behind a set of streets, the last of them i -/
def tB (c : Nat) (F L : Nat → Int) : Nat → Nat → Nat → Int
  | 0, _, _ => 0
  | f + 1, s, i => if s + 1 = 2 ^ c then 0 else tMin (fun a => !s.testBit a) (fun a => tR c F L i a + tB c F L f (s ||| 2 ^ a) a) c 1000000000
def tV (c : Nat) (F L : Nat → Int) (s i : Nat) : Int := tB c F L (2 ^ c) s i
theorem tB_fuel {c : Nat} {F L : Nat → Int} : ∀ (f f2 s i : Nat), s < 2 ^ c → 2 ^ c ≤ s + 1 + f → 2 ^ c ≤ s + 1 + f2 → tB c F L f s i = tB c F L f2 s i
  | 0, 0, _, _, _, _, _ => rfl
  | 0, f2 + 1, s, i, h, h1, _ => by
    show 0 = if s + 1 = 2 ^ c then (0 : Int) else _
    rw [if_pos (by omega)]
  | f + 1, 0, s, i, h, _, h2 => by
    show (if s + 1 = 2 ^ c then (0 : Int) else _) = 0
    rw [if_pos (by omega)]
  | f + 1, f2 + 1, s, i, h, h1, h2 => by
    show (if s + 1 = 2 ^ c then (0 : Int) else _) = if s + 1 = 2 ^ c then (0 : Int) else _
    by_cases g : s + 1 = 2 ^ c
    · rw [if_pos g, if_pos g]
    · rw [if_neg g, if_neg g]
      refine tMin_congr c fun a ha hp => ?_
      have hb : s.testBit a = false := by simpa using hp
      have := set_gt hb
      rw [tB_fuel f f2 (s ||| 2 ^ a) a (set_lt h ha) (by omega) (by omega)]
theorem tV_eq {c : Nat} {F L : Nat → Int} {s i : Nat} (h : s < 2 ^ c) : tV c F L s i = if s + 1 = 2 ^ c then 0 else tMin (fun a => !s.testBit a) (fun a => tR c F L i a + tV c F L (s ||| 2 ^ a) a) c 1000000000 := by
  unfold tV
  rw [tB_fuel (2 ^ c) (2 ^ c + 1) s i h (by omega) (by omega)]
  rfl
theorem tB_le {c : Nat} {F L : Nat → Int} : ∀ (f s i : Nat), s < 2 ^ c → 2 ^ c ≤ s + 1 + f → 0 ≤ tB c F L f s i ∧ tB c F L f s i ≤ tMs c s
  | 0, s, i, h, h1 => by
    show (0 : Int) ≤ 0 ∧ (0 : Int) ≤ tMs c s
    omega
  | f + 1, s, i, h, h1 => by
    show 0 ≤ (if s + 1 = 2 ^ c then (0 : Int) else _) ∧ (if s + 1 = 2 ^ c then (0 : Int) else _) ≤ tMs c s
    by_cases g : s + 1 = 2 ^ c
    · rw [if_pos g]; omega
    · rw [if_neg g]
      have v : ∀ a, a < c → s.testBit a = false → 0 ≤ tR c F L i a + tB c F L f (s ||| 2 ^ a) a ∧ tR c F L i a + tB c F L f (s ||| 2 ^ a) a ≤ tMs c s := fun a ha hb => by
        have g1 := set_gt hb
        have g2 := tMs_or ha hb
        have ih := tB_le (F := F) (L := L) f (s ||| 2 ^ a) a (set_lt h ha) (by omega)
        have r : 0 ≤ tR c F L i a ∧ tR c F L i a ≤ 1 := by unfold tR; split <;> (try split) <;> omega
        omega
      obtain ⟨a, h3, h4⟩ := set_miss h g
      refine ⟨tMin_ge (by omega) c fun a ha hp => (v a ha (by simpa using hp)).1, ?_⟩
      have := (tMin_le (p := fun a => !s.testBit a) (v := fun a => tR c F L i a + tB c F L f (s ||| 2 ^ a) a) (m := 1000000000) c).2 a h3 (by simp [h4])
      have := (v a h3 h4).2
      omega
theorem tV_range {c : Nat} {F L : Nat → Int} {s i : Nat} (h : s < 2 ^ c) : 0 ≤ tV c F L s i ∧ tV c F L s i ≤ tMs c s := tB_le (2 ^ c) s i h (by omega)
theorem tR_range {c : Nat} {F L : Nat → Int} {i a : Nat} : 0 ≤ tR c F L i a ∧ tR c F L i a ≤ 1 := by unfold tR; split <;> (try split) <;> omega
/-- the next street of the least row -/
def tNp (c : Nat) (F L : Nat → Int) (s i a : Nat) : Bool := !s.testBit a && decide (tR c F L i a + tV c F L (s ||| 2 ^ a) a = tV c F L s i)
def tA (c : Nat) (F L : Nat → Int) (s i : Nat) : Nat := (pFind (tNp c F L s i) 0 c).toNat
theorem tA_ok {c : Nat} {F L : Nat → Int} {s i : Nat} (hc : c ≤ 8) (h : s < 2 ^ c) (h2 : ¬ s + 1 = 2 ^ c) : pFind (tNp c F L s i) 0 c = (tA c F L s i : Int) ∧ tA c F L s i < c ∧ s.testBit (tA c F L s i) = false ∧ tR c F L i (tA c F L s i) + tV c F L (s ||| 2 ^ (tA c F L s i)) (tA c F L s i) = tV c F L s i ∧ ∀ a, a < tA c F L s i → ¬ tNp c F L s i a = true := by
  have l := pCount_le (p := fun a => !s.testBit a) c
  have vr := tV_range (F := F) (L := L) (i := i) h
  have e := tV_eq (F := F) (L := L) (i := i) h
  rw [if_neg h2] at e
  have ex : ∃ a, a < c ∧ tNp c F L s i a = true := by
    rcases tMin_at (p := fun a => !s.testBit a) (v := fun a => tR c F L i a + tV c F L (s ||| 2 ^ a) a) (m := 1000000000) c with q | ⟨a, h3, h4, h5⟩
    · unfold tMs at vr
      omega
    · refine ⟨a, h3, ?_⟩
      unfold tNp
      rw [Bool.and_eq_true]
      exact ⟨h4, decide_eq_true (by rw [e]; exact h5)⟩
  rcases pFind_range (p := tNp c F L s i) c 0 with ⟨_, q⟩ | ⟨k, q, h3, h4, h5, h6⟩
  · obtain ⟨a, h3, h4⟩ := ex
    have := q a (by omega) (by omega)
    rw [h4] at this
    cases this
  · have ek : tA c F L s i = k := by unfold tA; rw [q, Int.toNat_natCast]
    rw [ek]
    unfold tNp at h5
    rw [Bool.and_eq_true] at h5
    exact ⟨q, by omega, by simpa using h5.1, of_decide_eq_true h5.2, fun a ha c => by
      have := h6 a (by omega) ha
      rw [c] at this
      cases this⟩
/-- set and last street of the least row, behind k of them -/
def tS (c : Nat) (F L : Nat → Int) : Nat → Nat × Nat
  | 0 => (0, c)
  | k + 1 => ((tS c F L k).1 ||| 2 ^ (tA c F L (tS c F L k).1 (tS c F L k).2), tA c F L (tS c F L k).1 (tS c F L k).2)
theorem tS_ok {c : Nat} {F L : Nat → Int} (hc : c ≤ 8) : ∀ k, k ≤ c → (tS c F L k).1 < 2 ^ c ∧ tMs c (tS c F L k).1 = c - k ∧ (0 < k → (tS c F L k).2 < c ∧ (tS c F L k).1.testBit (tS c F L k).2 = true)
  | 0, _ => ⟨Nat.two_pow_pos c, by rw [show (tS c F L 0).1 = 0 from rfl, tMs_0]; omega, fun h => absurd h (by omega)⟩
  | k + 1, hk => by
    obtain ⟨h1, h2, _⟩ := tS_ok (F := F) (L := L) hc k (by omega)
    have nf : ¬ (tS c F L k).1 + 1 = 2 ^ c := fun e => by
      have : ∀ a, a < c → (tS c F L k).1.testBit a = true := fun a ha => by
        rw [show (tS c F L k).1 = 2 ^ c - 1 by omega, Nat.testBit_two_pow_sub_one]
        simp [ha]
      have z : tMs c (tS c F L k).1 = 0 := by
        unfold tMs
        rw [pCount_congr c (p := fun a => !(tS c F L k).1.testBit a) (q := fun _ => false) fun a ha => by rw [this a ha]; rfl]
        have : ∀ n, pCount (fun _ => false) n = 0 := fun n => by
          induction n with
          | zero => rfl
          | succ n ih => unfold pCount; rw [ih]; rfl
        exact this c
      omega
    obtain ⟨_, a1, a2, a3, _⟩ := tA_ok (F := F) (L := L) (i := (tS c F L k).2) hc h1 nf
    have m := tMs_or a1 a2
    exact ⟨set_lt h1 a1, by show tMs c (_ ||| _) = _; omega, fun _ => ⟨a1, by show ((tS c F L k).1 ||| 2 ^ (tA c F L (tS c F L k).1 (tS c F L k).2)).testBit (tA c F L (tS c F L k).1 (tS c F L k).2) = true; rw [set_bit]; simp⟩⟩
theorem tS_nf {c : Nat} {F L : Nat → Int} (hc : c ≤ 8) {k : Nat} (hk : k < c) : ¬ (tS c F L k).1 + 1 = 2 ^ c := fun e => by
  have h := tS_ok (F := F) (L := L) hc k (by omega)
  have : ∀ a, a < c → (tS c F L k).1.testBit a = true := fun a ha => by
    rw [show (tS c F L k).1 = 2 ^ c - 1 by omega, Nat.testBit_two_pow_sub_one]
    simp [ha]
  obtain ⟨h1, h2, h3⟩ := h
  have : ∀ n, n ≤ c → pCount (fun a => !(tS c F L k).1.testBit a) n = 0 := fun n => by
    induction n with
    | zero => intro _; rfl
    | succ n ih => intro hn; unfold pCount; rw [ih (by omega), this n (by omega)]; rfl
  have := this c (Nat.le_refl _)
  unfold tMs at h2
  omega
