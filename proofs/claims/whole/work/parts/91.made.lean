-- MAKING the two objects: rows with their numbers
section WM
variable {d mid pc own n m ci nf bc bs bc2 bs2 i y na c1 c2 c : Nat} {ls ls2 : ZL} {st t : List AV} {sh : ZS} {R : ZR} {I : ZI} {Q : Option AV → ZW → Prop} {as : List AV} {o : Nat}
def vS (sh : ZS) (m k l : Nat) : ZS := fun a => if a = m then (k, l) else sh a
def vR (R : ZR) (m : Nat) : ZR := fun a b => if a = m then 0 else R a b
def vI (I : ZI) (m : Nat) : ZI := fun a b => if a = m then 0 else I a b
theorem w_new (hd : decode (zB mid) pc = .ok (.new i, 3)) (ho : zO mid = own) (hN : zN own i = some ci) (hnf : zNf ci = nf) (hm : n + 1 = m) (h1 : bc2 + 1 = bc) (h2 : bs2 + nf = bs) (h3 : n < 900000)
    (kk : Ex d mid (pc + 3) ls (.inr m :: st) (bc2, bs2, m, vS sh m (10 + ci) nf, vR R m, vI I m) Q) : Ex d mid pc ls st (bc, bs, n, sh, R, I) Q := by
  subst hm; subst h1; subst h2
  refine x_new hd ho hN hnf (by omega) (by omega) h3 ?_
  rw [Nat.add_sub_cancel, Nat.add_sub_cancel]
  exact kk
theorem w_newI {l : Nat} (hd : decode (zB mid) pc = .ok (.newarray .int, 2)) (hm : n + 1 = m) (h1 : bc2 + 1 = bc) (h2 : bs2 + l = bs) (h9 : l ≤ 100000) (h3 : n < 900000)
    (kk : Ex d mid (pc + 2) ls (.inr m :: t) (bc2, bs2, m, vS sh m 0 l, vR R m, vI I m) Q) : Ex d mid pc ls (.inl (l : Int) :: t) (bc, bs, n, sh, R, I) Q := by
  subst hm; subst h1; subst h2
  refine x_newI hd (by omega) (by omega) (by omega) (by omega) h3 ?_
  rw [Int.toNat_natCast, Nat.add_sub_cancel, Nat.add_sub_cancel]
  exact kk
theorem w_newB {l : Nat} (hd : decode (zB mid) pc = .ok (.newarray .byte, 2)) (hm : n + 1 = m) (h1 : bc2 + 1 = bc) (h2 : bs2 + l = bs) (h9 : l ≤ 100000) (h3 : n < 900000)
    (kk : Ex d mid (pc + 2) ls (.inr m :: t) (bc2, bs2, m, vS sh m 1 l, vR R m, vI I m) Q) : Ex d mid pc ls (.inl (l : Int) :: t) (bc, bs, n, sh, R, I) Q := by
  subst hm; subst h1; subst h2
  refine x_newB hd (by omega) (by omega) (by omega) (by omega) h3 ?_
  rw [Int.toNat_natCast, Nat.add_sub_cancel, Nat.add_sub_cancel]
  exact kk
theorem x_newL {m : Int} (hd : decode (zB mid) pc = .ok (.newarray .long, 2)) (h0 : 0 ≤ m) (h9 : m ≤ 100000) (h1 : 1 ≤ bc) (h2 : m.toNat ≤ bs) (h3 : n < 900000)
    (kk : Ex d mid (pc + 2) ls (.inr (n + 1) :: t) (bc - 1, bs - m.toNat, n + 1, (fun a => if a = n + 1 then (5, m.toNat) else sh a), (fun a b => if a = n + 1 then 0 else R a b), (fun a b => if a = n + 1 then 0 else I a b)) Q) : Ex d mid pc ls (.inl m :: t) (bc, bs, n, sh, R, I) Q := Ex.step hd rfl rfl rfl (by
    show znewa .long pc ls (.inl m :: t) _ = _
    unfold znewa
    dsimp only
    rw [if_pos ⟨h0, h9, h1, h2, h3⟩]
    rfl) kk
theorem w_newL {l : Nat} (hd : decode (zB mid) pc = .ok (.newarray .long, 2)) (hm : n + 1 = m) (h1 : bc2 + 1 = bc) (h2 : bs2 + l = bs) (h9 : l ≤ 100000) (h3 : n < 900000)
    (kk : Ex d mid (pc + 2) ls (.inr m :: t) (bc2, bs2, m, vS sh m 5 l, vR R m, vI I m) Q) : Ex d mid pc ls (.inl (l : Int) :: t) (bc, bs, n, sh, R, I) Q := by
  subst hm; subst h1; subst h2
  refine x_newL hd (by omega) (by omega) (by omega) (by omega) h3 ?_
  rw [Int.toNat_natCast, Nat.add_sub_cancel, Nat.add_sub_cancel]
  exact kk
theorem w_spc {k : Nat} (hy : zA y = na ∧ zMc y = (c1, c2) ∧ zL y = m ∧ zO y = c) (hd : decode (zB mid) pc = .ok (.invokespecial i, 3)) (ho : zO mid = own) (hM : zM own i = some (k, y)) (hk : k = 2 ∨ k = 3) (hA : as.length = na) (h8 : t.length ≤ 8) (hl : as.length + 1 ≤ m ∧ m ≤ 20) (hloc : zloc y (.inr o :: as) = ls2) (h1 : bc2 + c1 = bc) (h2 : bs2 + c2 = bs)
    (kk : Ex d y 0 ls2 [] (c1, c2, n, sh, R, I) (fun r w2 => Ex (d + 1) mid (pc + 3) ls (r.toList ++ t) (zpurse w2 (bc2, bs2)) Q)) : Ex (d + 1) mid pc ls (as.reverse ++ .inr o :: t) (bc, bs, n, sh, R, I) Q := by
  obtain ⟨hA0, hb, hL, _⟩ := hy
  have hA2 : zA y = as.length := hA0.trans hA.symm
  have e1 : (as.reverse ++ .inr o :: t).drop (zA y) = .inr o :: t := by rw [hA2, ← List.length_reverse]; exact List.drop_left
  have e2 : (as.reverse ++ .inr o :: t).take (zA y) = as.reverse := by rw [hA2, ← List.length_reverse]; exact List.take_left
  subst hloc; subst h1; subst h2
  refine Ex.call (y := y) (as := .inr o :: as) (t := t) hd rfl rfl ?_ (by rw [hb, hL]; exact ⟨Nat.le_add_left _ _, Nat.le_add_left _ _, hl.1, hl.2⟩) ?_
  · unfold zcall
    dsimp only
    rw [ho, hM]
    simp only [e1, e2]
    rw [if_pos hk, if_pos h8, List.reverse_reverse]
  · rw [hb]
    show Ex d y 0 _ [] (c1, c2, n, sh, R, I) (fun r w2 => Ex (d + 1) mid (pc + 3) ls (r.toList ++ t) (zpurse w2 (bc2 + c1 - c1, bs2 + c2 - c2)) Q)
    rw [Nat.add_sub_cancel, Nat.add_sub_cancel]
    exact kk
def vS2 (sh : ZS) (n N K : Nat) : ZS := fun a => if a = n + 1 then (2, N) else if n + 1 < a ∧ a ≤ n + 1 + N then (0, K) else sh a
def vR2 (R : ZR) (n N : Nat) : ZR := fun a b => if a = n + 1 then (if b < N then n + 2 + b else 0) else if n + 1 < a ∧ a ≤ n + 1 + N then 0 else R a b
def vI2 (I : ZI) (n N : Nat) : ZI := fun a b => if n < a ∧ a ≤ n + 1 + N then 0 else I a b
theorem w_mna {N K m2 : Nat} (hd : decode (zB mid) pc = .ok (.multianewarray 18 2, 4)) (ho : zO mid = 8) (hm : n + 1 = m) (hm2 : n + 1 + N = m2) (h1 : bc2 + (1 + N) = bc) (h2 : bs2 + (N + N * K) = bs) (h3 : n < 900000 ∧ N ≤ 1000 ∧ K ≤ 1000)
    (kk : Ex d mid (pc + 4) ls (.inr m :: t) (bc2, bs2, m2, vS2 sh n N K, vR2 R n N, vI2 I n N) Q) : Ex d mid pc ls (.inl (K : Int) :: .inl (N : Int) :: t) (bc, bs, n, sh, R, I) Q := by
  subst hm; subst hm2; subst h1; subst h2
  refine x_mna hd ho (by omega) (by omega) (by rw [Int.toNat_natCast]; omega) (by rw [Int.toNat_natCast, Int.toNat_natCast]; omega) h3.1 ?_
  rw [Int.toNat_natCast, Int.toNat_natCast]
  show Ex d mid (pc + 4) ls _ (bc2 + (1 + N) - (1 + N), bs2 + (N + N * K) - (N + N * K), n + 1 + N, vS2 sh n N K, vR2 R n N, vI2 I n N) Q
  rw [Nat.add_sub_cancel, Nat.add_sub_cancel]
  exact kk
end WM
theorem rNo_0 : rNo (fun _ _ => 0) := fun _ _ => (show ¬ (0 : Nat) = zSc by decide)
theorem rNo_up {R : ZR} {o k r : Nat} (h : rNo R) (hr : ¬ r = zSc) : rNo (zup R o k r) := fun a b => by
  unfold zup
  split
  · exact hr
  · exact h a b
theorem rNo_v {R : ZR} {m : Nat} (h : rNo R) : rNo (vR R m) := fun a b => by
  unfold vR
  split
  · decide
  · exact h a b
theorem rNo_v2 {R : ZR} {n N : Nat} (h : rNo R) (hn : n + 2 + N ≤ 1000000) : rNo (vR2 R n N) := fun a b => by
  unfold vR2
  split
  · split
    · unfold zSc; omega
    · decide
  · split
    · decide
    · exact h a b
