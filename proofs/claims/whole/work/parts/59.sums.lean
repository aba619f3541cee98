-- THE MODEL'S READING: factors, terms, sums
section MS
variable (d n : Nat) (sh : ZS) (R : ZR) (T : Nat → Int) (N : Nat) (S : List Int) (Q : Int → ZI → Prop)
/-- the sum goes on behind a factor -/
def mG (J : ZI) (u : Option AV) : Prop := XIs (d + 4) 167 14 [some (.inr 137), some (.inl (S.length : Int)), u] [] n sh R J Q
/-- a factor is read -/
def mF (J : ZI) : Prop := ∀ u : Option AV, XIs (d + 3) 165 0 [some (.inr 137), none] [] n sh R J (fun v I2 => if ¬ v = 0 then mG d n sh R S Q I2 u else Q 0 I2)
def mFac (f : Nat) : Prop := ∀ (k p : Nat) (C W : List Int) (I : ZI) (r : RR), k ≤ 6 → p ≤ N → C.length ≤ p → (W ++ S).length ≤ p → mP T N I p C (W ++ S) k → rd T N f 0 k p C.length = some r → mK I Q (fun J q l => mP T N J q (C ++ l) (W ++ S) k → ∀ u, mG d n sh R S Q J u) r → mF d n sh R S Q I
def mTerm (f : Nat) : Prop := ∀ (k p : Nat) (C W : List Int) (I : ZI) (r : RR), k ≤ 6 → p ≤ N → C.length ≤ p → (W ++ S).length ≤ p → (hd (W ++ S) < 4 ∨ 6 < hd (W ++ S)) → mP T N I p C (W ++ S) k → rd T N f 1 k p C.length = some r → mK I Q (fun J q l => ∀ C2 M, isM M → C2 ++ M = C ++ l → rMul (nx T N q) < 0 → (M ++ (W ++ S)).length ≤ q → mP T N J q C2 (M ++ (W ++ S)) k → ∀ u, mG d n sh R S Q J u) r → mF d n sh R S Q I
def mTermR (f : Nat) : Prop := ∀ (k p : Nat) (C M W : List Int) (I : ZI) (r : RR), k ≤ 6 → p ≤ N → (C ++ M).length ≤ p → (M ++ (W ++ S)).length ≤ p → (hd (W ++ S) < 4 ∨ 6 < hd (W ++ S)) → isM M → mP T N I p C (M ++ (W ++ S)) k → rd T N f 11 k p (C ++ M).length = some r → mK I Q (fun J q l => ∀ C2 M2, isM M2 → C2 ++ M2 = (C ++ M) ++ l → rMul (nx T N q) < 0 → (M2 ++ (W ++ S)).length ≤ q → mP T N J q C2 (M2 ++ (W ++ S)) k → ∀ u, mG d n sh R S Q J u) r → ∀ u, mG d n sh R S Q I u
def mSum (f : Nat) : Prop := ∀ (k p : Nat) (C W : List Int) (I : ZI) (r : RR), k ≤ 6 → p ≤ N → C.length ≤ p → (W ++ S).length ≤ p → (hd (W ++ S) < 2 ∨ 6 < hd (W ++ S)) → mP T N I p C (W ++ S) k → rd T N f 2 k p C.length = some r → mK I Q (fun J q l => ∀ C2 M A, isM M → isA A → C2 ++ M ++ A = C ++ l → rMul (nx T N q) < 0 → rAdd (nx T N q) < 0 → (M ++ (A ++ (W ++ S))).length ≤ q → mP T N J q C2 (M ++ (A ++ (W ++ S))) k → ∀ u, mG d n sh R S Q J u) r → mF d n sh R S Q I
def mSumR (f : Nat) : Prop := ∀ (k p : Nat) (C M A W : List Int) (I : ZI) (r : RR), k ≤ 6 → p ≤ N → (C ++ M ++ A).length ≤ p → (M ++ (A ++ (W ++ S))).length ≤ p → (hd (W ++ S) < 2 ∨ 6 < hd (W ++ S)) → isM M → isA A → rMul (nx T N p) < 0 → mP T N I p C (M ++ (A ++ (W ++ S))) k → rd T N f 12 k p (C ++ M ++ A).length = some r → mK I Q (fun J q l => ∀ C2 M2 A2, isM M2 → isA A2 → C2 ++ M2 ++ A2 = (C ++ M ++ A) ++ l → rMul (nx T N q) < 0 → rAdd (nx T N q) < 0 → (M2 ++ (A2 ++ (W ++ S))).length ≤ q → mP T N J q C2 (M2 ++ (A2 ++ (W ++ S))) k → ∀ u, mG d n sh R S Q J u) r → ∀ u, mG d n sh R S Q I u
end MS
section MT
variable {d n : Nat} {sh : ZS} {R : ZR} {T : Nat → Int} {N : Nat} {S : List Int} {Q : Int → ZI → Prop}
theorem mF.call {J : ZI} {u : Option AV} (h : mF d n sh R S Q J) : XI (d + 3) 165 [.inr 137] n sh R J (fun v I2 => if ¬ v = 0 then XIs (d + 4) 167 14 [some (.inr 137), some (.inl (S.length : Int)), u] [] n sh R I2 Q else Q 0 I2) := XI.of (ls := [some (.inr 137), none]) (zloc_eq gY_165.2.2.1) (h u)
theorem isM.val {M : List Int} (h : isM M) : ∀ x, x ∈ M → ¬ x / 1048576 = 14 := fun x hx => by
  rcases h with rfl | ⟨o, h1, rfl⟩
  · cases hx
  · rw [List.mem_singleton] at hx; omega
theorem isA.val {M : List Int} (h : isA M) : ∀ x, x ∈ M → ¬ x / 1048576 = 14 := fun x hx => by
  rcases h with rfl | ⟨o, h1, rfl⟩
  · cases hx
  · rw [List.mem_singleton] at hx; omega
theorem isM.len {M : List Int} (h : isM M) : M.length ≤ 1 := by
  rcases h with rfl | ⟨o, h1, rfl⟩
  · exact Nat.zero_le 1
  · exact Nat.le_refl 1
theorem isA.len {M : List Int} (h : isA M) : M.length ≤ 1 := by
  rcases h with rfl | ⟨o, h1, rfl⟩
  · exact Nat.zero_le 1
  · exact Nat.le_refl 1
theorem k_fac {f : Nat} (hW : Wf sh R) (hN : N ≤ 200) (hT : ∀ j, j < N → 0 ≤ T j ∧ T j < 256) (ih : mSum d n sh R T N S Q f) : mFac d n sh R T N S Q (f + 1) := by
  intro k p C W I r hk hp hC hw h hr hK u
  have hr : rFac T N (rd T N f 2) k p C.length = some r := hr
  have h2 := h.1.2.1
  have h3 := h.1.2.2.1
  unfold rFac at hr
  refine b_M_readsFactor_0 hW (s_M_here hW hN hT h ?_)
  by_cases gb : nx T N p = 91
  · rw [if_neg (not_not_intro gb)]
    have lt := nx_lt gb (by omega)
    rw [if_neg (by rw [gb]; decide), if_pos gb] at hr
    refine s_M_opens hW (by omega) (by omega) h hk (by omega) (fun g J j1 j2 => ?_) (fun g J j1 j2 => ?_)
    · rw [if_pos (by decide)]
      rw [if_neg g] at hr
      have j1 : mP T N J (p + 1) C ((14680064 :: W) ++ S) (k + 1) := j1
      have hdv : hd ((14680064 :: W) ++ S) = 14 := by show (14680064 : Int) / 1048576 = 14; decide
      have hlw : ((14680064 :: W) ++ S).length ≤ p + 1 := by
        have : ((14680064 :: W) ++ S).length = (W ++ S).length + 1 := rfl
        omega
      rcases rB_cases hr with ⟨a, e1, e2⟩ | ⟨q, l, e1, e2⟩
      · subst e2
        exact ih (k + 1) (p + 1) C (14680064 :: W) J (.inl a) (by omega) (by omega) (by omega) hlw (by omega) j1 e1 (fun M m1 m2 => hK M m1 fun a b hab => by rw [m2 a b hab, j2 a b hab]) u
      · have a := rd_len _ _ _ _ _ _ _ (by omega) e1
        have a1 : p + 1 + 1 ≤ q ∧ q ≤ N ∧ l.length + (p + 1) ≤ q := a
        refine ih (k + 1) (p + 1) C (14680064 :: W) J (.inr (q, l)) (by omega) (by omega) (by omega) hlw (by omega) j1 e1 (fun K k1 C2 M A hM hA eC nm na hl2 k2 u => ?_) u
        have nm : rMul (nx T N q) < 0 := nm
        have na : rAdd (nx T N q) < 0 := na
        have hl2 : (M ++ (A ++ (14680064 :: (W ++ S)))).length ≤ q := hl2
        have hl3 : (M ++ A ++ (14680064 :: (W ++ S))).length ≤ 200 := by
          rw [List.append_assoc]
          have : (M ++ (A ++ (14680064 :: (W ++ S)))).length ≤ q := hl2
          omega
        have k3 : mP T N K q C2 (M ++ A ++ (14680064 :: (W ++ S))) (k + 1) := by rw [List.append_assoc]; exact k2
        have kk2 := k2.1.2.1
        have sg : rSg (nx T N q) = -1 := by
          rw [rSg_eq, if_neg (by omega)]
          have := (rMul_range (c := nx T N q)).1
          omega
        refine b_M_readsSum_14 hW (s_M_here hW hN hT k2 (s_M_sumSign hW ?_))
        rw [sg, if_pos rfl]
        refine s_M_here hW hN hT k2 ?_
        have lC : C2.length < 200 := by
          have : (C2 ++ M ++ A).length = C.length + l.length := by rw [eC]; exact List.length_append
          rw [List.length_append, List.length_append] at this
          omega
        by_cases g4 : nx T N q = 93
        · have lt4 := nx_lt g4 (by omega)
          rw [if_neg (not_not_intro g4)]
          rw [if_pos g4] at e2
          refine s_M_has (V := M ++ A) (O := W) hW hl3 k3 ?_
          rw [if_neg (by decide)]
          refine s_M_closes1 (W := 14680064 :: (W ++ S)) hW lC (by omega) hM hA k2 (.inr (by show (6 : Int) < 14680064 / 1048576; decide)) fun L l1 l2 => ?_
          have l3 := l1.1.2.1
          have l4 := l1.1.2.2.2.1
          have l5 := l1.1.2.2.2.2
          have ll : ((14680064 :: (W ++ S)).length : Int) = ((W ++ S).length : Int) + 1 := by rw [List.length_cons]; omega
          rw [ll] at l4
          refine ⟨by unfold zr; omega, by unfold zr; omega, by unfold zr; omega, ?_⟩
          have ef : r = .inr (q + 1, l) := (Option.some.inj e2).symm
          subst ef
          rw [eC] at l1
          have fin := hK (zup (zup (zup L 137 19 (L 137 19 - 1)) 137 17 (L 137 17 - 1)) 137 14 (L 137 14 + 1)) (fun a b hab => by
            have hab2 := hab
            unfold fR at hab2
            rw [zup_ne (by omega), zup_ne (by omega), zup_ne (by omega), l2 a b hab, k1 a b hab, j2 a b hab])
          exact fin (((l1.drop (by omega)).op (k2 := k) (by omega)).go (by omega)) _
        · rw [if_pos g4]
          rw [if_neg g4] at e2
          refine s_M_has (V := M ++ A) (O := W) hW hl3 k3 ?_
          rw [if_neg (by decide)]
          have ef : r = .inl (-1000 - q) := (Option.some.inj e2).symm
          subst ef
          exact ⟨by unfold zr; omega, by unfold zr; omega, hK _ (by rw [zup_eq ⟨rfl, rfl⟩]; omega) fun a b hab => by rw [zup_ne (by unfold fR at hab; omega), k1 a b hab, j2 a b hab]⟩
    · rw [if_neg (by decide)]
      rw [if_pos g] at hr
      have ef : r = .inl (-5000 - p) := (Option.some.inj hr).symm
      subst ef
      exact hK J j1 j2
  rw [if_pos gb]
  refine s_M_isDigit hW hN hT h ?_
  by_cases gd : rDg (nx T N p) = true
  · rw [if_pos gd] at hr
    have dg := of_decide_eq_true gd
    have lt := nx_lt (T := T) (n := N) (p := p) rfl (by omega)
    have hr := Option.some.inj hr
    rw [if_pos gd, if_neg (by decide)]
    refine b_M_readsNumber_0 hW ?_
    rw [h2]
    have h0 : mP T N (zup I 137 21 0) p C (W ++ S) k := h.fr fun a b hab => zup_ne (by omega)
    have f0 : ∀ a b, ¬ fR a b → (zup I 137 21 0) a b = I a b := fun a b hab => zup_ne (by unfold fR at hab; omega)
    refine l_M_num (C := C) (W := W ++ S) (k := k) (s := p) hW hN hT 5 p 0 _ (by omega) (by omega) hp h0 (zup_eq ⟨rfl, rfl⟩) (by omega) (by decide) ?_
    rw [hr]
    cases r with
    | inl a =>
      intro J j1 j2
      show if ¬ (0 : Int) = 0 then _ else _
      rw [if_neg (by decide)]
      show if ¬ (0 : Int) = 0 then _ else _
      rw [if_neg (by decide)]
      exact hK J j1 fun a b hab => by rw [j2 a b hab, f0 a b hab]
    | inr y =>
      intro J w j1 j2 j3 j4 j5
      show if ¬ (1 : Int) = 0 then _ else _
      rw [if_pos (by decide)]
      have jc := j4.1.2.2.1
      rw [j3, jc, Int.toNat_natCast]
      refine ⟨by unfold zr; omega, by unfold zr; omega, by omega, by unfold zr; omega, ?_⟩
      rw [if_pos (by decide)]
      have fin := hK (zup (zup J 145 C.length (1048576 * 0 + w)) 137 18 ((C.length : Int) + 1)) (fun a b hab => by
        have hab2 := hab
        unfold fR at hab2
        rw [zup_ne (by omega), zup_ne (by omega), j5 a b hab, f0 a b hab])
      rw [j1] at fin
      refine fin ?_ u
      have z := j4.note (x := 1048576 * 0 + w) (z := (C.length : Int) + 1) rfl
      have e : 1048576 * 0 + w = w := by omega
      rw [e] at z ⊢
      exact z
  · rw [if_neg gd] at hr ⊢
    rw [if_neg gb] at hr
    rw [if_pos rfl]
    refine s_M_here hW hN hT h (s_M_factOf hW ?_)
    have zr2 := zIdx_range (c := nx T N p)
    by_cases g4 : zIdx (nx T N p) < 0
    · rw [if_pos g4] at hr
      rw [if_neg (not_not_intro (by omega))]
      have ef : r = .inl (-1000 - p) := (Option.some.inj hr).symm
      subst ef
      refine ⟨by unfold zr; omega, by unfold zr; omega, ?_⟩
      rw [if_neg (by decide)]
      exact hK _ (by rw [zup_eq ⟨rfl, rfl⟩]; omega) fun a b hab => zup_ne (by unfold fR at hab; omega)
    · rw [if_neg g4] at hr
      have lt := nx_lt (T := T) (n := N) (p := p) rfl (zr2.2.2 (by omega))
      rw [if_pos (by omega), h3, Int.toNat_natCast]
      have ef : r = .inr (p + 1, [1048576 + zIdx (nx T N p)]) := (Option.some.inj hr).symm
      subst ef
      refine ⟨by unfold zr; omega, by unfold zr; omega, by omega, by unfold zr; omega, by unfold zr; omega, ?_⟩
      rw [if_pos (by decide)]
      refine hK _ (fun a b hab => ?_) ?_ u
      · unfold fR at hab
        rw [zup_ne (by omega), zup_ne (by omega), zup_ne (by omega)]
      · exact (h.note (x := 1048576 * 1 + zIdx (nx T N p)) (z := (C.length : Int) + 1) rfl).go (by omega)
theorem k_term {f : Nat} (i0 : mFac d n sh R T N S Q f) (i11 : mTermR d n sh R T N S Q f) : mTerm d n sh R T N S Q (f + 1) := by
  intro k p C W I r hk hp hC hw ht h hr hK
  have hr : rSeq (rd T N f 0) (rd T N f 11) k p C.length = some r := hr
  rcases rB_cases hr with ⟨a, e1, e2⟩ | ⟨q, l, e1, e2⟩
  · subst e2
    exact i0 k p C W I (.inl a) hk hp hC hw h e1 hK
  · have a := rd_len _ _ _ _ _ _ _ hp e1
    have a1 : p + 1 ≤ q ∧ q ≤ N ∧ l.length + p ≤ q := a
    refine i0 k p C W I (.inr (q, l)) hk hp hC hw h e1 fun J j1 j2 u => ?_
    have j2 : mP T N J q (C ++ l) (W ++ S) k := j2
    obtain ⟨r2, e3, k2⟩ := hK.tail (J := J) e2 j1
    have cl : (C ++ l ++ ([] : List Int)).length = C.length + l.length := by rw [List.append_nil, List.length_append]
    refine i11 k q (C ++ l) [] W J r2 hk a1.2.1 (by omega) (show (W ++ S).length ≤ q by omega) ht (.inl rfl) j2 (by rw [cl]; exact e3) ?_ u
    cases r2 with
    | inl a => exact k2
    | inr y => exact fun K k3 C2 M2 m1 m2 m3 m4 m5 u => k2 K k3 C2 M2 m1 (by rw [m2, List.append_nil, List.append_assoc]) m3 m4 m5 u
theorem k_termR {f : Nat} (hW : Wf sh R) (hN : N ≤ 200) (hT : ∀ j, j < N → 0 ≤ T j ∧ T j < 256) (i0 : mFac d n sh R T N S Q f) (i11 : mTermR d n sh R T N S Q f) : mTermR d n sh R T N S Q (f + 1) := by
  intro k p C M W I r hk hp hC hw ht hM h hr hK u
  have hr : (if rMul (nx T N p) < 0 then some (.inr (p, [])) else rB (rd T N f 0 k (p + 1) (C ++ M).length) fun q l => rPre (l ++ [1048576 * rMul (nx T N p)]) (rd T N f 11 k q ((C ++ M).length + l.length + 1))) = some r := hr
  by_cases g : rMul (nx T N p) < 0
  · rw [if_pos g] at hr
    have ef : r = .inr (p, []) := (Option.some.inj hr).symm
    subst ef
    exact hK I (fun _ _ _ => rfl) C M hM (by rw [List.append_nil]) g hw h u
  · rw [if_neg g] at hr
    have og := rMul_range (c := nx T N p)
    have lt := nx_lt (T := T) (n := N) (p := p) rfl (og.2 (by omega))
    have h2 := h.1.2.1
    have sm := lSign_mul (c := nx T N p) (by omega)
    have sg : rSg (nx T N p) = rMul (nx T N p) := by
      rw [rSg_eq, if_neg]
      unfold rAdd
      rw [if_neg (by omega), if_neg (by omega)]
      decide
    have lM := List.length_append (as := C) (bs := M)
    have lW := List.length_append (as := M) (bs := W ++ S)
    refine b_M_readsSum_14 hW (s_M_here hW hN hT h (s_M_sumSign hW ?_))
    rw [sg, if_neg (by omega), if_pos (by omega)]
    refine s_M_closes0 hW (by omega) (by omega) hM h ht fun J j1 j2 => ?_
    have j3 := j1.1.2.2.2.1
    have j4 := j1.1.2.1
    rw [j3, Int.toNat_natCast]
    refine ⟨by unfold zr; omega, by omega, by unfold zr; omega, by unfold zr; omega, ?_⟩
    have st : mP T N (zup (zup (zup J 146 (W ++ S).length (1048576 * rMul (nx T N p))) 137 19 ((W ++ S).length + 1)) 137 14 (J 137 14 + 1)) (p + 1) (C ++ M) ((1048576 * rMul (nx T N p)) :: (W ++ S)) k := (j1.push (by omega) rfl).go (by omega)
    have fr : ∀ a b, ¬ fR a b → (zup (zup (zup J 146 (W ++ S).length (1048576 * rMul (nx T N p))) 137 19 ((W ++ S).length + 1)) 137 14 (J 137 14 + 1)) a b = I a b := fun a b hab => by
      have hab2 := hab
      unfold fR at hab2
      rw [zup_ne (by omega), zup_ne (by omega), zup_ne (by omega), j2 a b hab]
    generalize (zup (zup (zup J 146 (W ++ S).length (1048576 * rMul (nx T N p))) 137 19 ((W ++ S).length + 1)) 137 14 (J 137 14 + 1)) = K at st fr ⊢
    have lX : (((1048576 * rMul (nx T N p)) :: W) ++ S).length = (W ++ S).length + 1 := rfl
    refine mF.call ?_
    rcases rB_cases hr with ⟨a, e1, e2⟩ | ⟨q, l, e1, e2⟩
    · subst e2
      exact i0 k (p + 1) (C ++ M) ((1048576 * rMul (nx T N p)) :: W) K (.inl a) hk (by omega) (by omega) (by omega) st e1 fun L l1 l2 => hK L l1 fun a b hab => by rw [l2 a b hab, fr a b hab]
    · have a := rd_len _ _ _ _ _ _ _ (by omega) e1
      have a1 : p + 1 + 1 ≤ q ∧ q ≤ N ∧ l.length + (p + 1) ≤ q := a
      refine i0 k (p + 1) (C ++ M) ((1048576 * rMul (nx T N p)) :: W) K (.inr (q, l)) hk (by omega) (by omega) (by omega) st e1 fun L l1 l2 u => ?_
      have l2 : mP T N L q (C ++ M ++ l) ([1048576 * rMul (nx T N p)] ++ (W ++ S)) k := l2
      obtain ⟨r2, e3, k2⟩ := hK.tail (J := L) e2 fun a b hab => by rw [l1 a b hab, fr a b hab]
      have cl : (C ++ M ++ l ++ [1048576 * rMul (nx T N p)]).length = (C ++ M).length + l.length + 1 := by rw [List.length_append, List.length_append]; rfl
      refine i11 k q (C ++ M ++ l) [1048576 * rMul (nx T N p)] W L r2 hk a1.2.1 (by omega) (by show (W ++ S).length + 1 ≤ q; omega) ht (.inr ⟨_, by omega, rfl⟩) l2 (by rw [cl]; exact e3) ?_ u
      cases r2 with
      | inl a => exact k2
      | inr y => exact fun K k3 C2 M2 m1 m2 m3 m4 m5 u => k2 K k3 C2 M2 m1 (by rw [m2]; simp only [List.append_assoc]) m3 m4 m5 u
theorem k_sum {f : Nat} (i1 : mTerm d n sh R T N S Q f) (i12 : mSumR d n sh R T N S Q f) : mSum d n sh R T N S Q (f + 1) := by
  intro k p C W I r hk hp hC hw ht h hr hK
  have hr : rSeq (rd T N f 1) (rd T N f 12) k p C.length = some r := hr
  rcases rB_cases hr with ⟨a, e1, e2⟩ | ⟨q, l, e1, e2⟩
  · subst e2
    exact i1 k p C W I (.inl a) hk hp hC hw (by omega) h e1 hK
  · have a := rd_len _ _ _ _ _ _ _ hp e1
    have a1 : p + 1 ≤ q ∧ q ≤ N ∧ l.length + p ≤ q := a
    refine i1 k p C W I (.inr (q, l)) hk hp hC hw (by omega) h e1 fun J j1 C2 M hM eC nm hl2 j2 u => ?_
    have eC : C2 ++ M = C ++ l := eC
    obtain ⟨r2, e3, k2⟩ := hK.tail (J := J) e2 j1
    have cl : (C2 ++ M ++ ([] : List Int)).length = C.length + l.length := by rw [List.append_nil, eC, List.length_append]
    refine i12 k q C2 M [] W J r2 hk a1.2.1 (by omega) hl2 ht hM (.inl rfl) nm j2 (by rw [cl]; exact e3) ?_ u
    cases r2 with
    | inl a => exact k2
    | inr y => exact fun K k3 C3 M2 A2 m1 ma m2 m3 m3b m4 m5 u => k2 K k3 C3 M2 A2 m1 ma (by rw [m2, List.append_nil, eC, List.append_assoc]) m3 m3b m4 m5 u
theorem k_sumR {f : Nat} (hW : Wf sh R) (hN : N ≤ 200) (hT : ∀ j, j < N → 0 ≤ T j ∧ T j < 256) (i1 : mTerm d n sh R T N S Q f) (i12 : mSumR d n sh R T N S Q f) : mSumR d n sh R T N S Q (f + 1) := by
  intro k p C M A W I r hk hp hC hw ht hM hA hn h hr hK u
  have hr : (if rAdd (nx T N p) < 0 then some (.inr (p, [])) else rB (rd T N f 1 k (p + 1) (C ++ M ++ A).length) fun q l => rPre (l ++ [1048576 * rAdd (nx T N p)]) (rd T N f 12 k q ((C ++ M ++ A).length + l.length + 1))) = some r := hr
  by_cases g : rAdd (nx T N p) < 0
  · rw [if_pos g] at hr
    have ef : r = .inr (p, []) := (Option.some.inj hr).symm
    subst ef
    exact hK I (fun _ _ _ => rfl) C M A hM hA (by rw [List.append_nil]) hn g hw h u
  · rw [if_neg g] at hr
    have og := rAdd_range (c := nx T N p)
    have lt := nx_lt (T := T) (n := N) (p := p) rfl (og.2 (by omega))
    have h2 := h.1.2.1
    have sg : rSg (nx T N p) = rAdd (nx T N p) := by rw [rSg_eq, if_pos (by omega)]
    have lM := List.length_append (as := C ++ M) (bs := A)
    have lM2 := List.length_append (as := C) (bs := M)
    have lW := List.length_append (as := M) (bs := A ++ (W ++ S))
    have lW2 := List.length_append (as := A) (bs := W ++ S)
    refine b_M_readsSum_14 hW (s_M_here hW hN hT h (s_M_sumSign hW ?_))
    rw [sg, if_neg (by omega), if_neg (by omega)]
    refine s_M_closes1 hW (by omega) (by omega) hM hA h ht fun J j1 j2 => ?_
    have j3 := j1.1.2.2.2.1
    have j4 := j1.1.2.1
    rw [j3, Int.toNat_natCast]
    refine ⟨by unfold zr; omega, by omega, by unfold zr; omega, by unfold zr; omega, ?_⟩
    have st : mP T N (zup (zup (zup J 146 (W ++ S).length (1048576 * rAdd (nx T N p))) 137 19 ((W ++ S).length + 1)) 137 14 (J 137 14 + 1)) (p + 1) (C ++ M ++ A) ((1048576 * rAdd (nx T N p)) :: (W ++ S)) k := (j1.push (by omega) rfl).go (by omega)
    have fr : ∀ a b, ¬ fR a b → (zup (zup (zup J 146 (W ++ S).length (1048576 * rAdd (nx T N p))) 137 19 ((W ++ S).length + 1)) 137 14 (J 137 14 + 1)) a b = I a b := fun a b hab => by
      have hab2 := hab
      unfold fR at hab2
      rw [zup_ne (by omega), zup_ne (by omega), zup_ne (by omega), j2 a b hab]
    generalize (zup (zup (zup J 146 (W ++ S).length (1048576 * rAdd (nx T N p))) 137 19 ((W ++ S).length + 1)) 137 14 (J 137 14 + 1)) = K at st fr ⊢
    have lX : (((1048576 * rAdd (nx T N p)) :: W) ++ S).length = (W ++ S).length + 1 := rfl
    have hdx : hd (((1048576 * rAdd (nx T N p)) :: W) ++ S) = rAdd (nx T N p) := by show 1048576 * rAdd (nx T N p) / 1048576 = _; omega
    refine mF.call ?_
    rcases rB_cases hr with ⟨a, e1, e2⟩ | ⟨q, l, e1, e2⟩
    · subst e2
      exact i1 k (p + 1) (C ++ M ++ A) ((1048576 * rAdd (nx T N p)) :: W) K (.inl a) hk (by omega) (by omega) (by omega) (by omega) st e1 fun L l1 l2 => hK L l1 fun a b hab => by rw [l2 a b hab, fr a b hab]
    · have a := rd_len _ _ _ _ _ _ _ (by omega) e1
      have a1 : p + 1 + 1 ≤ q ∧ q ≤ N ∧ l.length + (p + 1) ≤ q := a
      refine i1 k (p + 1) (C ++ M ++ A) ((1048576 * rAdd (nx T N p)) :: W) K (.inr (q, l)) hk (by omega) (by omega) (by omega) (by omega) st e1 fun L l1 C2 M2 hM2 eC nm hl2 l2 u => ?_
      have eC : C2 ++ M2 = C ++ M ++ A ++ l := eC
      have l2 : mP T N L q C2 (M2 ++ ([1048576 * rAdd (nx T N p)] ++ (W ++ S))) k := l2
      obtain ⟨r2, e3, k2⟩ := hK.tail (J := L) e2 fun a b hab => by rw [l1 a b hab, fr a b hab]
      have cl : (C2 ++ M2 ++ [1048576 * rAdd (nx T N p)]).length = (C ++ M ++ A).length + l.length + 1 := by rw [eC, List.length_append, List.length_append]; rfl
      refine i12 k q C2 M2 [1048576 * rAdd (nx T N p)] W L r2 hk a1.2.1 (by omega) hl2 ht hM2 (.inr ⟨_, by omega, rfl⟩) nm l2 (by rw [cl]; exact e3) ?_ u
      cases r2 with
      | inl a => exact k2
      | inr y => exact fun K k3 C3 M3 A3 m1 ma m2 m3 m3b m4 m5 u => k2 K k3 C3 M3 A3 m1 ma (by rw [m2, eC]; simp only [List.append_assoc]) m3 m3b m4 m5 u
theorem k_all (hW : Wf sh R) (hN : N ≤ 200) (hT : ∀ j, j < N → 0 ≤ T j ∧ T j < 256) : ∀ f, mFac d n sh R T N S Q f ∧ mTerm d n sh R T N S Q f ∧ mTermR d n sh R T N S Q f ∧ mSum d n sh R T N S Q f ∧ mSumR d n sh R T N S Q f
  | 0 => ⟨fun _ _ _ _ _ _ _ _ _ _ _ h => (by cases h), fun _ _ _ _ _ _ _ _ _ _ _ _ h => (by cases h), fun _ _ _ _ _ _ _ _ _ _ _ _ _ _ h => (by cases h), fun _ _ _ _ _ _ _ _ _ _ _ _ h => (by cases h), fun _ _ _ _ _ _ _ _ _ _ _ _ _ _ _ _ _ h => (by cases h)⟩
  | f + 1 => by
    obtain ⟨i0, i1, i11, i2, i12⟩ := k_all hW hN hT f
    exact ⟨k_fac hW hN hT i2, k_term i0 i11, k_termR hW hN hT i0 i11, k_sum i1 i12, k_sumR hW hN hT i1 i12⟩
end MT
