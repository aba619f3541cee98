-- calls as goals; the JDK's own; what makes cells
theorem zloc_eq {y m : Nat} {as : List AV} (h : zL y = m) : zloc y as = as.map some ++ List.replicate (m - as.length) none := by unfold zloc; rw [h]
section XC
variable {d mid pc pc2 len own n : Nat} {ls ls2 : ZL} {st st2 t : List AV} {sh : ZS} {R : ZR} {I : ZI} {Q : Option AV → ZW → Prop} {ci k o y i : Nat} {bc bs : Nat} {as : List AV}
theorem x_inv (hd : decode (zB mid) pc = .ok (.invokevirtual i, 3)) (ho : zO mid = own) (hM : zM own i = some (0, y)) (hA : zA y = as.length) (hs : sh o = (10 + zO y, zNf (zO y))) (h13 : zO y < 13) (h8 : t.length ≤ 8) (hb : zMc y = (0, 0)) (hl : as.length + 1 ≤ zL y ∧ zL y ≤ 20) (hloc : zloc y (.inr o :: as) = ls2)
    (kk : Ex d y 0 ls2 [] (0, 0, n, sh, R, I) (fun r w2 => Ex (d + 1) mid (pc + 3) ls (r.toList ++ t) (zpurse w2 (bc, bs)) Q)) : Ex (d + 1) mid pc ls (as.reverse ++ .inr o :: t) (bc, bs, n, sh, R, I) Q := by
  have e1 : (as.reverse ++ .inr o :: t).drop (zA y) = .inr o :: t := by rw [hA, ← List.length_reverse]; exact List.drop_left
  have e2 : (as.reverse ++ .inr o :: t).take (zA y) = as.reverse := by rw [hA, ← List.length_reverse]; exact List.take_left
  subst hloc
  refine Ex.call (y := y) (as := .inr o :: as) (t := t) hd rfl rfl ?_ (by rw [hb]; exact ⟨Nat.zero_le _, Nat.zero_le _, hl.1, hl.2⟩) ?_
  · unfold zcall
    dsimp only
    rw [ho, hM]
    simp only [e1, e2]
    rw [if_pos ⟨hs, h8, h13⟩, List.reverse_reverse]
  · rw [hb]
    exact kk
theorem x_ins (hd : decode (zB mid) pc = .ok (.invokestatic i, 3)) (ho : zO mid = own) (hM : zM own i = some (4, y)) (hA : zA y = as.length) (h8 : t.length ≤ 8) (hb : zMc y = (0, 0)) (hl : as.length ≤ zL y ∧ zL y ≤ 20) (hloc : zloc y as = ls2)
    (kk : Ex d y 0 ls2 [] (0, 0, n, sh, R, I) (fun r w2 => Ex (d + 1) mid (pc + 3) ls (r.toList ++ t) (zpurse w2 (bc, bs)) Q)) : Ex (d + 1) mid pc ls (as.reverse ++ t) (bc, bs, n, sh, R, I) Q := by
  have e1 : (as.reverse ++ t).drop (zA y) = t := by rw [hA, ← List.length_reverse]; exact List.drop_left
  have e2 : (as.reverse ++ t).take (zA y) = as.reverse := by rw [hA, ← List.length_reverse]; exact List.take_left
  subst hloc
  refine Ex.call (y := y) (as := as) (t := t) hd rfl rfl ?_ (by rw [hb]; exact ⟨Nat.zero_le _, Nat.zero_le _, hl.1, hl.2⟩) ?_
  · unfold zcall
    dsimp only
    rw [ho, hM]
    show (if zA y ≤ (as.reverse ++ t).length ∧ ((as.reverse ++ t).drop (zA y)).length ≤ 8 then some (y, ((as.reverse ++ t).take (zA y)).reverse, (as.reverse ++ t).drop (zA y)) else none) = _
    rw [e1, e2, if_pos ⟨by rw [List.length_append, List.length_reverse, hA]; exact Nat.le_add_right _ _, h8⟩, List.reverse_reverse]
  · rw [hb]
    exact kk
theorem x_inI {c1 s1 kd : Nat} (hd : decode (zB mid) pc = .ok (.invokespecial i, 3)) (ho : zO mid = own) (hM : zM own i = some (kd, y)) (hkd : kd = 2 ∨ kd = 3) (hA : zA y = as.length) (h8 : t.length ≤ 8) (hb : zMc y = (c1, s1)) (hbc : c1 ≤ bc) (hbs : s1 ≤ bs) (hl : as.length + 1 ≤ zL y ∧ zL y ≤ 20) (hloc : zloc y (.inr o :: as) = ls2)
    (kk : Ex d y 0 ls2 [] (c1, s1, n, sh, R, I) (fun r w2 => Ex (d + 1) mid (pc + 3) ls (r.toList ++ t) (zpurse w2 (bc - c1, bs - s1)) Q)) : Ex (d + 1) mid pc ls (as.reverse ++ .inr o :: t) (bc, bs, n, sh, R, I) Q := by
  have e1 : (as.reverse ++ .inr o :: t).drop (zA y) = .inr o :: t := by rw [hA, ← List.length_reverse]; exact List.drop_left
  have e2 : (as.reverse ++ .inr o :: t).take (zA y) = as.reverse := by rw [hA, ← List.length_reverse]; exact List.take_left
  subst hloc
  refine Ex.call (y := y) (as := .inr o :: as) (t := t) hd rfl rfl ?_ (by rw [hb]; exact ⟨hbc, hbs, hl.1, hl.2⟩) ?_
  · unfold zcall
    dsimp only
    rw [ho, hM]
    dsimp only
    rw [if_pos hkd, e1, e2]
    dsimp only
    rw [if_pos h8, List.reverse_reverse]
  · rw [hb]
    exact kk
theorem x_max {y0 : Nat} {a b : Int} (hd : decode (zB mid) pc = .ok (.invokestatic i, 3)) (ho : zO mid = own) (hM : zM own i = some (10, y0)) (h8 : t.length ≤ 8) (kk : Ex d mid (pc + 3) ls (.inl (if a < b then b else a) :: t) (bc, bs, n, sh, R, I) Q) : Ex d mid pc ls (.inl b :: .inl a :: t) (bc, bs, n, sh, R, I) Q := Ex.step hd rfl rfl (by unfold zcall; dsimp only; rw [ho, hM]; rfl) (by
  show zjS (zO mid) i pc ls _ _ = _
  unfold zjS
  rw [ho, hM]
  show (if t.length ≤ 8 then _ else _) = _
  rw [if_pos h8]) kk
theorem x_min {y0 : Nat} {a b : Int} (hd : decode (zB mid) pc = .ok (.invokestatic i, 3)) (ho : zO mid = own) (hM : zM own i = some (11, y0)) (h8 : t.length ≤ 8) (kk : Ex d mid (pc + 3) ls (.inl (if b < a then b else a) :: t) (bc, bs, n, sh, R, I) Q) : Ex d mid pc ls (.inl b :: .inl a :: t) (bc, bs, n, sh, R, I) Q := Ex.step hd rfl rfl (by unfold zcall; dsimp only; rw [ho, hM]; rfl) (by
  show zjS (zO mid) i pc ls _ _ = _
  unfold zjS
  rw [ho, hM]
  show (if t.length ≤ 8 then _ else _) = _
  rw [if_pos h8]) kk
theorem x_abs {y0 : Nat} {a : Int} (hd : decode (zB mid) pc = .ok (.invokestatic i, 3)) (ho : zO mid = own) (hM : zM own i = some (12, y0)) (h8 : t.length ≤ 8) (ha : zr (0 - a)) (kk : Ex d mid (pc + 3) ls (.inl (if 0 ≤ a then a else 0 - a) :: t) (bc, bs, n, sh, R, I) Q) : Ex d mid pc ls (.inl a :: t) (bc, bs, n, sh, R, I) Q := Ex.step hd rfl rfl (by unfold zcall; dsimp only; rw [ho, hM]; rfl) (by
  show zjS (zO mid) i pc ls _ _ = _
  unfold zjS
  rw [ho, hM]
  show (if t.length ≤ 8 then _ else _) = _
  rw [if_pos h8, zw_id ha]) kk
theorem x_cpy {y0 a b la lb : Nat} {sp dp m : Int} (hd : decode (zB mid) pc = .ok (.invokestatic i, 3)) (ho : zO mid = own) (hM : zM own i = some (13, y0)) (h8 : t.length ≤ 8) (ha : sh a = (0, la)) (hb : sh b = (0, lb)) (h1 : 0 ≤ sp) (h2 : 0 ≤ dp) (h3 : 0 ≤ m) (h4 : sp + m ≤ (la : Int)) (h5 : dp + m ≤ (lb : Int)) (kk : Ex d mid (pc + 3) ls t (bc, bs, n, sh, R, zcpy I a sp.toNat b dp.toNat m.toNat) Q) : Ex d mid pc ls (.inl m :: .inl dp :: .inr b :: .inl sp :: .inr a :: t) (bc, bs, n, sh, R, I) Q := Ex.step hd rfl rfl (by unfold zcall; dsimp only; rw [ho, hM]; rfl) (by
  show zjS (zO mid) i pc ls _ _ = _
  unfold zjS
  rw [ho, hM]
  show (if _ ∧ _ then _ else _) = _
  rw [if_pos ⟨by show (sh a).1 = 0; rw [ha], by show (sh b).1 = 0; rw [hb], h1, h2, h3, by show sp + m ≤ ((sh a).2 : Int); rw [ha]; exact h4, by show dp + m ≤ ((sh b).2 : Int); rw [hb]; exact h5, h8⟩]
  rfl) kk
theorem x_idx {y0 : Nat} {c : Int} (hd : decode (zB mid) pc = .ok (.invokevirtual i, 3)) (ho : zO mid = own) (hM : zM own i = some (14, y0)) (h8 : t.length ≤ 8) (h4 : (sh zSx).1 = 4) (kk : Ex d mid (pc + 3) ls (.inl (zIdx c) :: t) (bc, bs, n, sh, R, I) Q) : Ex d mid pc ls (.inl c :: .inr zSx :: t) (bc, bs, n, sh, R, I) Q := Ex.step hd rfl rfl (by unfold zcall; dsimp only; rw [ho, hM]; rfl) (by
  show zjV (zO mid) i pc ls _ _ = _
  unfold zjV
  rw [ho, hM]
  show (if _ ∧ _ then _ else _) = _
  rw [if_pos ⟨rfl, h4, h8⟩]) kk
theorem x_tln {y0 : Nat} (hd : decode (zB mid) pc = .ok (.invokevirtual i, 3)) (ho : zO mid = own) (hM : zM own i = some (15, y0)) (h8 : t.length ≤ 8) (h4 : (sh zSx).1 = 4) (kk : Ex d mid (pc + 3) ls (.inl 8 :: t) (bc, bs, n, sh, R, I) Q) : Ex d mid pc ls (.inr zSx :: t) (bc, bs, n, sh, R, I) Q := Ex.step hd rfl rfl (by unfold zcall; dsimp only; rw [ho, hM]; rfl) (by
  show zjV (zO mid) i pc ls _ _ = _
  unfold zjV
  rw [ho, hM]
  show (if _ ∧ _ then _ else _) = _
  rw [if_pos ⟨rfl, h4, h8⟩]) kk
theorem x_obj {y0 : Nat} (hd : decode (zB mid) pc = .ok (.invokespecial i, 3)) (ho : zO mid = own) (hM : zM own i = some (16, y0)) (h8 : t.length ≤ 8) (kk : Ex d mid (pc + 3) ls t (bc, bs, n, sh, R, I) Q) : Ex d mid pc ls (.inr o :: t) (bc, bs, n, sh, R, I) Q := Ex.step hd rfl rfl (by unfold zcall; dsimp only; rw [ho, hM]; rfl) (by
  show zjI (zO mid) i pc ls _ _ = _
  unfold zjI
  rw [ho, hM]
  show (if t.length ≤ 8 then _ else _) = _
  rw [if_pos h8]) kk
theorem x_new {nf : Nat} (hd : decode (zB mid) pc = .ok (.new i, 3)) (ho : zO mid = own) (hN : zN own i = some ci) (hnf : zNf ci = nf) (h1 : 1 ≤ bc) (h2 : nf ≤ bs) (h3 : n < 900000)
    (kk : Ex d mid (pc + 3) ls (.inr (n + 1) :: st) (bc - 1, bs - nf, n + 1, (fun a => if a = n + 1 then (10 + ci, nf) else sh a), (fun a b => if a = n + 1 then 0 else R a b), (fun a b => if a = n + 1 then 0 else I a b)) Q) : Ex d mid pc ls st (bc, bs, n, sh, R, I) Q := by
  subst hnf
  exact Ex.step hd rfl rfl rfl (by
    show znew (zO mid) i pc ls st _ = _
    unfold znew
    rw [ho, hN]
    dsimp only
    rw [if_pos ⟨h1, h2, h3⟩]
    rfl) kk
theorem x_newI {m : Int} (hd : decode (zB mid) pc = .ok (.newarray .int, 2)) (h0 : 0 ≤ m) (h9 : m ≤ 100000) (h1 : 1 ≤ bc) (h2 : m.toNat ≤ bs) (h3 : n < 900000)
    (kk : Ex d mid (pc + 2) ls (.inr (n + 1) :: t) (bc - 1, bs - m.toNat, n + 1, (fun a => if a = n + 1 then (0, m.toNat) else sh a), (fun a b => if a = n + 1 then 0 else R a b), (fun a b => if a = n + 1 then 0 else I a b)) Q) : Ex d mid pc ls (.inl m :: t) (bc, bs, n, sh, R, I) Q := Ex.step hd rfl rfl rfl (by
    show znewa .int pc ls (.inl m :: t) _ = _
    unfold znewa
    dsimp only
    rw [if_pos ⟨h0, h9, h1, h2, h3⟩]
    rfl) kk
theorem x_newB {m : Int} (hd : decode (zB mid) pc = .ok (.newarray .byte, 2)) (h0 : 0 ≤ m) (h9 : m ≤ 100000) (h1 : 1 ≤ bc) (h2 : m.toNat ≤ bs) (h3 : n < 900000)
    (kk : Ex d mid (pc + 2) ls (.inr (n + 1) :: t) (bc - 1, bs - m.toNat, n + 1, (fun a => if a = n + 1 then (1, m.toNat) else sh a), (fun a b => if a = n + 1 then 0 else R a b), (fun a b => if a = n + 1 then 0 else I a b)) Q) : Ex d mid pc ls (.inl m :: t) (bc, bs, n, sh, R, I) Q := Ex.step hd rfl rfl rfl (by
    show znewa .byte pc ls (.inl m :: t) _ = _
    unfold znewa
    dsimp only
    rw [if_pos ⟨h0, h9, h1, h2, h3⟩]
    rfl) kk
theorem x_mna {N K : Int} (hd : decode (zB mid) pc = .ok (.multianewarray 18 2, 4)) (ho : zO mid = 8) (hN : 0 ≤ N ∧ N ≤ 1000) (hK : 0 ≤ K ∧ K ≤ 1000) (h1 : 1 + N.toNat ≤ bc) (h2 : N.toNat + N.toNat * K.toNat ≤ bs) (h3 : n < 900000)
    (kk : Ex d mid (pc + 4) ls (.inr (n + 1) :: t) (znew2 (bc, bs, n, sh, R, I) N.toNat K.toNat) Q) : Ex d mid pc ls (.inl K :: .inl N :: t) (bc, bs, n, sh, R, I) Q := Ex.step hd rfl rfl rfl (by
    show zmna (zO mid) 18 2 pc ls (.inl K :: .inl N :: t) _ = _
    unfold zmna
    dsimp only
    rw [if_pos ⟨ho, rfl, rfl, hN.1, hK.1, hN.2, hK.2, h1, h2, h3⟩]) kk
end XC
/-- a method's run from its start, where it makes nothing and swaps nothing: what it answers, and the ints behind it -/
def XI (d y : Nat) (as : List AV) (n : Nat) (sh : ZS) (R : ZR) (I : ZI) (Qf : Int → ZI → Prop) : Prop := Ex d y 0 (zloc y as) [] (0, 0, n, sh, R, I) (fun r w2 => ∃ v I', r = some (.inl v) ∧ w2 = (0, 0, n, sh, R, I') ∧ Qf v I')
def XV (d y : Nat) (as : List AV) (n : Nat) (sh : ZS) (R : ZR) (I : ZI) (Qf : ZI → Prop) : Prop := Ex d y 0 (zloc y as) [] (0, 0, n, sh, R, I) (fun r w2 => ∃ I', r = none ∧ w2 = (0, 0, n, sh, R, I') ∧ Qf I')
/-- and a run of such a method from one of its rows on -/
def XIs (d mid pc : Nat) (ls : ZL) (st : List AV) (n : Nat) (sh : ZS) (R : ZR) (I : ZI) (Qf : Int → ZI → Prop) : Prop := Ex d mid pc ls st (0, 0, n, sh, R, I) (fun r w2 => ∃ v I', r = some (.inl v) ∧ w2 = (0, 0, n, sh, R, I') ∧ Qf v I')
def XVs (d mid pc : Nat) (ls : ZL) (st : List AV) (n : Nat) (sh : ZS) (R : ZR) (I : ZI) (Qf : ZI → Prop) : Prop := Ex d mid pc ls st (0, 0, n, sh, R, I) (fun r w2 => ∃ I', r = none ∧ w2 = (0, 0, n, sh, R, I') ∧ Qf I')
theorem XI.mono {d y n : Nat} {as : List AV} {sh : ZS} {R : ZR} {I : ZI} {P Q : Int → ZI → Prop} (h : XI d y as n sh R I P) (hPQ : ∀ v I', P v I' → Q v I') : XI d y as n sh R I Q := Ex.mono h fun _ _ ⟨v, I', a, b, c⟩ => ⟨v, I', a, b, hPQ v I' c⟩
theorem XV.mono {d y n : Nat} {as : List AV} {sh : ZS} {R : ZR} {I : ZI} {P Q : ZI → Prop} (h : XV d y as n sh R I P) (hPQ : ∀ I', P I' → Q I') : XV d y as n sh R I Q := Ex.mono h fun _ _ ⟨I', a, b, c⟩ => ⟨I', a, b, hPQ I' c⟩
theorem XI.of {d y n : Nat} {as : List AV} {ls : ZL} {sh : ZS} {R : ZR} {I : ZI} {Q : Int → ZI → Prop} (hl : zloc y as = ls) (h : XIs d y 0 ls [] n sh R I Q) : XI d y as n sh R I Q := by subst hl; exact h
theorem XV.of {d y n : Nat} {as : List AV} {ls : ZL} {sh : ZS} {R : ZR} {I : ZI} {Q : ZI → Prop} (hl : zloc y as = ls) (h : XVs d y 0 ls [] n sh R I Q) : XV d y as n sh R I Q := by subst hl; exact h
section XD
variable {d mid pc own n : Nat} {ls : ZL} {t : List AV} {sh : ZS} {R : ZR} {I : ZI} {Q : Option AV → ZW → Prop} {o y i bc bs : Nat} {as : List AV}
theorem x_invI {P : Int → ZI → Prop} (hd : decode (zB mid) pc = .ok (.invokevirtual i, 3)) (ho : zO mid = own) (hM : zM own i = some (0, y)) (hA : zA y = as.length) (hs : sh o = (10 + zO y, zNf (zO y))) (h13 : zO y < 13) (h8 : t.length ≤ 8) (hb : zMc y = (0, 0)) (hl : as.length + 1 ≤ zL y ∧ zL y ≤ 20)
    (k : XI d y (.inr o :: as) n sh R I P) (kk : ∀ v I', P v I' → Ex (d + 1) mid (pc + 3) ls (.inl v :: t) (bc, bs, n, sh, R, I') Q) : Ex (d + 1) mid pc ls (as.reverse ++ .inr o :: t) (bc, bs, n, sh, R, I) Q :=
  x_inv hd ho hM hA hs h13 h8 hb hl rfl (Ex.mono k fun r w2 ⟨v, I', a, b, c⟩ => by subst a; subst b; exact kk v I' c)
theorem x_invV {P : ZI → Prop} (hd : decode (zB mid) pc = .ok (.invokevirtual i, 3)) (ho : zO mid = own) (hM : zM own i = some (0, y)) (hA : zA y = as.length) (hs : sh o = (10 + zO y, zNf (zO y))) (h13 : zO y < 13) (h8 : t.length ≤ 8) (hb : zMc y = (0, 0)) (hl : as.length + 1 ≤ zL y ∧ zL y ≤ 20)
    (k : XV d y (.inr o :: as) n sh R I P) (kk : ∀ I', P I' → Ex (d + 1) mid (pc + 3) ls t (bc, bs, n, sh, R, I') Q) : Ex (d + 1) mid pc ls (as.reverse ++ .inr o :: t) (bc, bs, n, sh, R, I) Q :=
  x_inv hd ho hM hA hs h13 h8 hb hl rfl (Ex.mono k fun r w2 ⟨I', a, b, c⟩ => by subst a; subst b; exact kk I' c)
theorem x_insI {P : Int → ZI → Prop} (hd : decode (zB mid) pc = .ok (.invokestatic i, 3)) (ho : zO mid = own) (hM : zM own i = some (4, y)) (hA : zA y = as.length) (h8 : t.length ≤ 8) (hb : zMc y = (0, 0)) (hl : as.length ≤ zL y ∧ zL y ≤ 20)
    (k : XI d y as n sh R I P) (kk : ∀ v I', P v I' → Ex (d + 1) mid (pc + 3) ls (.inl v :: t) (bc, bs, n, sh, R, I') Q) : Ex (d + 1) mid pc ls (as.reverse ++ t) (bc, bs, n, sh, R, I) Q :=
  x_ins hd ho hM hA h8 hb hl rfl (Ex.mono k fun r w2 ⟨v, I', a, b, c⟩ => by subst a; subst b; exact kk v I' c)
theorem x_insV {P : ZI → Prop} (hd : decode (zB mid) pc = .ok (.invokestatic i, 3)) (ho : zO mid = own) (hM : zM own i = some (4, y)) (hA : zA y = as.length) (h8 : t.length ≤ 8) (hb : zMc y = (0, 0)) (hl : as.length ≤ zL y ∧ zL y ≤ 20)
    (k : XV d y as n sh R I P) (kk : ∀ I', P I' → Ex (d + 1) mid (pc + 3) ls t (bc, bs, n, sh, R, I') Q) : Ex (d + 1) mid pc ls (as.reverse ++ t) (bc, bs, n, sh, R, I) Q :=
  x_ins hd ho hM hA h8 hb hl rfl (Ex.mono k fun r w2 ⟨I', a, b, c⟩ => by subst a; subst b; exact kk I' c)
end XD
