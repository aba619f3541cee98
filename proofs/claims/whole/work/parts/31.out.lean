-- OUT, SHUFFLE, FOR ANY
def pOut (st od rk : Nat → Int) (m : Int) : Int := pFind (fun k => decide (rk (st (od k).toNat).toNat < rk (st (od (k - 1)).toNat).toNat)) 1 (m.toNat - 1)
/-- what of letters at o may be asked by place -/
def pOd (I : ZI) (o : Nat) : Prop := (0 ≤ I o 6 ∧ I o 6 ≤ 32) ∧ ∀ k : Nat, (k : Int) < I o 6 → (0 ≤ I (o + 5) k ∧ I (o + 5) k < 32) ∧ 0 ≤ I (o + 1) (I (o + 5) k).toNat ∧ I (o + 1) (I (o + 5) k).toNat < 20
section OU
variable {d n t : Nat} {sh : ZS} {R : ZR} {I : ZI} {x1 x2 x3 x4 x5 : Int}
theorem l_N_firstOut {Q : Int → ZI → Prop} (hW : Wf sh R) {s : Nat} (hS : St sh R s) (ho : pOd I s) : ∀ (c j : Nat), (((j + c : Nat) : Int) = I s 6 ∨ c = 0 ∧ I s 6 ≤ (j : Int)) → 1 ≤ j → Q (pFind (fun k => decide (I 13 (I (s + 1) (I (s + 5) k).toNat).toNat < I 13 (I (s + 1) (I (s + 5) (k - 1)).toNat).toNat)) j c) I → XIs (d + 1) 133 2 [some (.inr 1), some (.inr s), some (.inl (j : Int))] [] n sh R I Q
  | 0, j, h, h1, q => b_N_firstOut_2 hW hS (by rw [if_pos (by omega)]; exact q)
  | c + 1, j, h, h1, q => b_N_firstOut_2 hW hS (by
    have e1 := ho.2 j (by omega)
    have e2 := ho.2 (j - 1) (by omega)
    have hm := ho.1
    have ej : ((j : Int) - 1).toNat = j - 1 := by omega
    rw [if_neg (by omega), Int.toNat_natCast, ej]
    unfold pFind at q
    refine ⟨by omega, e1.1, e1.2, by unfold zr; omega, by omega, e2.1, e2.2, ?_⟩
    by_cases g : I 13 (I (s + 1) (I (s + 5) (j - 1)).toNat).toNat ≤ I 13 (I (s + 1) (I (s + 5) j).toNat).toNat
    · rw [if_pos g]
      rw [if_neg (by rw [decide_eq_false (by omega)]; decide)] at q
      exact ⟨by unfold zr; omega, l_N_firstOut hW hS ho c (j + 1) (by omega) (by omega) q⟩
    · rw [if_neg g]
      rw [if_pos (decide_eq_true (by omega))] at q
      exact q)
theorem s_N_firstOut {Q : Int → ZI → Prop} (hW : Wf sh R) {s : Nat} (hS : St sh R s) (ho : pOd I s) (q : Q (pOut (I (s + 1)) (I (s + 5)) (I 13) (I s 6)) I) : XI (d + 1) 133 [.inr 1, .inr s] n sh R I Q := by
  have hm := ho.1
  exact b_N_firstOut_0 hW hS (l_N_firstOut hW hS ho ((I s 6).toNat - 1) 1 (by omega) (by omega) q)
theorem l_M_outOf {Q : Int → ZI → Prop} (hW : Wf sh R) (ho : (0 ≤ I 137 1 ∧ I 137 1 ≤ 32) ∧ ∀ k : Nat, (k : Int) < I 137 1 → (0 ≤ I 142 k ∧ I 142 k < 32) ∧ 0 ≤ I 138 (I 142 k).toNat ∧ I 138 (I 142 k).toNat < 20) : ∀ (c j : Nat), (((j + c : Nat) : Int) = I 137 1 ∨ c = 0 ∧ I 137 1 ≤ (j : Int)) → 1 ≤ j → Q (pFind (fun k => decide (I 143 (I 138 (I 142 k).toNat).toNat < I 143 (I 138 (I 142 (k - 1)).toNat).toNat)) j c) I → XIs (d + 1) 196 2 [some (.inr 137), some (.inl (j : Int))] [] n sh R I Q
  | 0, j, h, h1, q => b_M_outOf_2 hW (by rw [if_pos (by omega)]; exact q)
  | c + 1, j, h, h1, q => b_M_outOf_2 hW (by
    have e1 := ho.2 j (by omega)
    have e2 := ho.2 (j - 1) (by omega)
    have hm := ho.1
    have ej : ((j : Int) - 1).toNat = j - 1 := by omega
    rw [if_neg (by omega), Int.toNat_natCast, ej]
    unfold pFind at q
    refine ⟨by omega, e1.1, e1.2, by unfold zr; omega, by omega, e2.1, e2.2, ?_⟩
    by_cases g : I 143 (I 138 (I 142 (j - 1)).toNat).toNat ≤ I 143 (I 138 (I 142 j).toNat).toNat
    · rw [if_pos g]
      rw [if_neg (by rw [decide_eq_false (by omega)]; decide)] at q
      exact ⟨by unfold zr; omega, l_M_outOf hW ho c (j + 1) (by omega) (by omega) q⟩
    · rw [if_neg g]
      rw [if_pos (decide_eq_true (by omega))] at q
      exact q)
/-- what of the model's letters may be asked by place -/
def pOdM (I : ZI) : Prop := (0 ≤ I 137 1 ∧ I 137 1 ≤ 32) ∧ ∀ k : Nat, (k : Int) < I 137 1 → (0 ≤ I 142 k ∧ I 142 k < 32) ∧ 0 ≤ I 138 (I 142 k).toNat ∧ I 138 (I 142 k).toNat < 20
theorem s_M_outOf {Q : Int → ZI → Prop} (hW : Wf sh R) (ho : pOdM I) (q : Q (pOut (I 138) (I 142) (I 143) (I 137 1)) I) : XI (d + 1) 196 [.inr 137] n sh R I Q := by
  have hm := ho.1
  exact b_M_outOf_0 hW (l_M_outOf hW ho ((I 137 1).toNat - 1) 1 (by omega) (by omega) q)
theorem rNow.pOd {I : ZI} (h : rNow I) : pOd I 18 := by
  obtain ⟨⟨o1, o2, o3, o4, o5, o6, o7⟩, od, lt, di⟩ := h.od
  refine ⟨by omega, fun k hk => ?_⟩
  have e := od k hk
  have e2 := lt (I 23 k).toNat (by omega)
  show (0 ≤ I 23 k ∧ I 23 k < 32) ∧ 0 ≤ I 19 (I 23 k).toNat ∧ I 19 (I 23 k).toNat < 20
  omega
theorem rNow.pOdM {I : ZI} (h : rNow I) : pOdM I := by
  obtain ⟨⟨o1, o2, o3, o4, o5, o6, o7⟩, od, lt, di⟩ := h.od
  refine ⟨by omega, fun k hk => ?_⟩
  have e := od k (by omega)
  have e2 := lt (I 23 k).toNat (by omega)
  rw [e.2]; omega
theorem pOut_congr {st od rk st2 od2 rk2 : Nat → Int} {m : Int} (h : ∀ k : Nat, (k : Int) < m → od2 k = od k ∧ rk2 (st2 (od k).toNat).toNat = rk (st (od k).toNat).toNat) : pOut st2 od2 rk2 m = pOut st od rk m := by
  unfold pOut
  refine pFind_congr _ _ fun k h1 h2 => ?_
  have e1 := h k (by omega)
  have e2 := h (k - 1) (by omega)
  rw [e1.1, e2.1, e1.2, e2.2]
theorem rEnv.rk {I : ZI} (h : rEnv I) {x : Int} (h0 : 0 ≤ x ∧ x < 20) : I 143 x.toNat = I 13 x.toNat := (h.2.2 _ (by omega)).1.symm
/-- both sides' first place out of order are alike -/
theorem rNow.out {I : ZI} (h : rNow I) (he : rEnv I) : pOut (I 138) (I 142) (I 143) (I 137 1) = pOut (I 19) (I 23) (I 13) (I 18 6) := by
  obtain ⟨⟨o1, o2, o3, o4, o5, o6, o7⟩, od, lt, di⟩ := h.od
  rw [o5]
  refine pOut_congr fun k hk => ?_
  have e := od k hk
  have e2 := lt (I 23 k).toNat (by omega)
  exact ⟨e.2, by rw [e2.1.1]; exact he.rk (by omega)⟩
theorem c_out (hW : Wf sh R) (h : Rel t I R) : XI (d + 2) 106 [.inr 1] n sh R I (fun v J => XI (d + 2) 197 [.inr 137] n sh R J (fun v2 K => v2 = v ∧ Rel (t + 1) K R)) := by
  refine b_N_out_0 hW (s_N_firstOut hW (St_18 hW) h.1.pOd ?_)
  refine b_M_out_0 hW (s_M_outOf hW h.1.pOdM ?_)
  exact ⟨h.1.out h.2.2.1, h.fr (by omega) fun _ _ _ => rfl⟩
-- FOR ANY
def pAny (x h : Int) : Nat → Int → Int → Int
  | 0, g, _ => g
  | f + 1, g, a => if x ≤ a then g else pAny x h f (g + 1) (a * h)
theorem l_N_forAny {u : Option AV} {Q : Int → ZI → Prop} (hW : Wf sh R) (h1 : x1 ≤ 10000) (h2 : 2 ≤ x2 ∧ x2 ≤ 9) : ∀ (f : Nat) (g a : Int), 1 ≤ a → 0 ≤ g ∧ g + f ≤ 100 → x1 ≤ a * 2 ^ f → Q (pAny x1 x2 f g a) I → XIs d 107 47 [u, some (.inl x1), some (.inl x2), some (.inl g), some (.inl a)] [] n sh R I Q
  | 0, g, a, ha, hg, hf, q => b_N_forAny_47 hW (by rw [if_pos (by simpa using hf)]; exact q)
  | f + 1, g, a, ha, hg, hf, q => b_N_forAny_47 hW (by
    unfold pAny at q
    by_cases e : x1 ≤ a
    · rw [if_pos e]; rw [if_pos e] at q; exact q
    · rw [if_neg e]; rw [if_neg e] at q
      have b1 : a * x2 ≤ 10000 * 9 := Int.mul_le_mul (by omega) (by omega) (by omega) (by omega)
      have b2 : a * 2 ≤ a * x2 := Int.mul_le_mul_of_nonneg_left (by omega) (by omega)
      have b3 : a * 2 * 2 ^ f ≤ a * x2 * 2 ^ f := Int.mul_le_mul_of_nonneg_right b2 (Int.le_of_lt (Int.pow_pos (by decide)))
      have b4 : a * 2 ^ (f + 1) = a * 2 * 2 ^ f := by rw [Int.pow_succ, Int.mul_comm (2 ^ f) 2, Int.mul_assoc]
      refine ⟨by unfold zr; omega, by unfold zr; omega, l_N_forAny hW h1 h2 f (g + 1) (a * x2) (by omega) (by omega) (by omega) q⟩)
theorem l_M_forAny {u : Option AV} {Q : Int → ZI → Prop} (hW : Wf sh R) (h1 : x1 ≤ 10000) (h2 : 2 ≤ x2 ∧ x2 ≤ 9) : ∀ (f : Nat) (g a : Int), 1 ≤ a → 0 ≤ g ∧ g + f ≤ 100 → x1 ≤ a * 2 ^ f → Q (pAny x1 x2 f g a) I → XIs (d + 1) 199 45 [u, some (.inl x1), some (.inl x2), some (.inl g), some (.inl a)] [] n sh R I Q
  | 0, g, a, ha, hg, hf, q => b_M_forAny_45 hW (by rw [if_pos (by simpa using hf)]; exact q)
  | f + 1, g, a, ha, hg, hf, q => b_M_forAny_45 hW (by
    unfold pAny at q
    by_cases e : x1 ≤ a
    · rw [if_pos e]; rw [if_pos e] at q; exact q
    · rw [if_neg e]; rw [if_neg e] at q
      have b1 : a * x2 ≤ 10000 * 9 := Int.mul_le_mul (by omega) (by omega) (by omega) (by omega)
      have b2 : a * 2 ≤ a * x2 := Int.mul_le_mul_of_nonneg_left (by omega) (by omega)
      have b3 : a * 2 * 2 ^ f ≤ a * x2 * 2 ^ f := Int.mul_le_mul_of_nonneg_right b2 (Int.le_of_lt (Int.pow_pos (by decide)))
      have b4 : a * 2 ^ (f + 1) = a * 2 * 2 ^ f := by rw [Int.pow_succ, Int.mul_comm (2 ^ f) 2, Int.mul_assoc]
      refine ⟨by unfold zr; omega, by unfold zr; omega, l_M_forAny hW h1 h2 f (g + 1) (a * x2) (by omega) (by omega) (by omega) q⟩)
theorem c_forAny (hW : Wf sh R) (h : Rel t I R) : XI d 107 [.inr 1, .inl x1, .inl x2] n sh R I (fun v J => XI (d + 1) 199 [.inr 137, .inl x1, .inl x2] n sh R J (fun v2 K => v2 = v ∧ Rel (t + 1) K R)) := by
  refine b_N_forAny_0 hW ?_
  by_cases g : 1 ≤ x1 ∧ x1 ≤ 10000 ∧ 2 ≤ x2 ∧ x2 ≤ 9
  · rw [if_neg (by omega), if_neg (by omega), if_neg (by omega), if_pos (by omega), if_pos (by omega)]
    refine l_N_forAny hW (by omega) (by omega) 14 0 1 (by omega) (by omega) (by omega) ?_
    refine b_M_forAny_0 hW ?_
    rw [if_neg (by omega), if_neg (by omega), if_neg (by omega), if_neg (by omega), if_pos (by omega)]
    exact l_M_forAny hW (by omega) (by omega) 14 0 1 (by omega) (by omega) (by omega) ⟨rfl, h.fr (by omega) fun _ _ _ => rfl⟩
  · (repeat' split) <;> first | (exfalso; omega) | skip
    all_goals
      refine b_M_forAny_0 hW ?_
      (repeat' split) <;> first | (exfalso; omega) | exact ⟨rfl, h.fr (by omega) fun _ _ _ => rfl⟩
-- SHUFFLE
def pSwap (o : Nat → Int) (a b : Nat) : Nat → Int := fun i => if i = b then o a else if i = a then o b else o i
def pSh : Nat → Int → (Nat → Int) → Int × (Nat → Int)
  | 0, x, o => (x, o)
  | k + 1, x, o => pSh k ((25173 * x + 13849) % 65536) (pSwap o (k + 1) ((25173 * x + 13849) % 65536 % ((k : Int) + 1 + 1)).toNat)
theorem pSh_x : ∀ (k : Nat) (x : Int) (o : Nat → Int), 0 ≤ x ∧ x ≤ 65535 → 0 ≤ (pSh k x o).1 ∧ (pSh k x o).1 ≤ 65535
  | 0, x, o, h => h
  | k + 1, x, o, h => pSh_x k _ _ (by omega)
theorem pSh_congr : ∀ (k : Nat) (x : Int) (o o2 : Nat → Int), k < 32 → (∀ i, i < 32 → o i = o2 i) → (pSh k x o).1 = (pSh k x o2).1 ∧ ∀ i, i < 32 → (pSh k x o).2 i = (pSh k x o2).2 i
  | 0, x, o, o2, hk, h => ⟨rfl, h⟩
  | k + 1, x, o, o2, hk, h => pSh_congr k _ _ _ (by omega) fun i hi => by
    unfold pSwap
    rw [h i hi, h (k + 1) hk, h _ (by have := Int.emod_lt_of_pos ((25173 * x + 13849) % 65536) (show (0 : Int) < (k : Int) + 1 + 1 by omega); omega)]
/-- a row of so many letters, none twice -/
def pDi (o : Nat → Int) (m L : Int) : Prop := (∀ k : Nat, (k : Int) < m → 0 ≤ o k ∧ o k < L) ∧ ∀ j k : Nat, j < k → (k : Int) < m → ¬ o j = o k
theorem pDi.inj {o : Nat → Int} {m L : Int} (h : pDi o m L) {j k : Nat} (hj : (j : Int) < m) (hk : (k : Int) < m) (e : o j = o k) : j = k := by
  rcases Nat.lt_trichotomy j k with g | g | g
  · exact absurd e (h.2 j k g hk)
  · exact g
  · exact absurd e.symm (h.2 k j g hj)
def pSw (a b i : Nat) : Nat := if i = b then a else if i = a then b else i
theorem pSwap_eq (o : Nat → Int) (a b i : Nat) : pSwap o a b i = o (pSw a b i) := by
  unfold pSwap pSw
  by_cases h : i = b
  · rw [if_pos h, if_pos h]
  · rw [if_neg h, if_neg h]
    by_cases g : i = a
    · rw [if_pos g, if_pos g]
    · rw [if_neg g, if_neg g]
theorem pSw_inj {a b i j : Nat} (h : pSw a b i = pSw a b j) : i = j := by
  unfold pSw at h
  by_cases h1 : i = b
  · rw [if_pos h1] at h
    by_cases h2 : j = b
    · omega
    · rw [if_neg h2] at h
      by_cases h4 : j = a
      · rw [if_pos h4] at h; omega
      · rw [if_neg h4] at h; omega
  · rw [if_neg h1] at h
    by_cases h3 : i = a
    · rw [if_pos h3] at h
      by_cases h2 : j = b
      · rw [if_pos h2] at h; omega
      · rw [if_neg h2] at h
        by_cases h4 : j = a
        · omega
        · rw [if_neg h4] at h; omega
    · rw [if_neg h3] at h
      by_cases h2 : j = b
      · rw [if_pos h2] at h; omega
      · rw [if_neg h2] at h
        by_cases h4 : j = a
        · rw [if_pos h4] at h; omega
        · rw [if_neg h4] at h; exact h
theorem pSw_lt {a b i : Nat} {m : Int} (ha : (a : Int) < m) (hb : (b : Int) < m) (hi : (i : Int) < m) : (pSw a b i : Int) < m := by
  unfold pSw
  by_cases h1 : i = b
  · rw [if_pos h1]; exact ha
  · rw [if_neg h1]
    by_cases h2 : i = a
    · rw [if_pos h2]; exact hb
    · rw [if_neg h2]; exact hi
theorem pDi.swap {o : Nat → Int} {m L : Int} (h : pDi o m L) {a b : Nat} (ha : (a : Int) < m) (hb : (b : Int) < m) : pDi (pSwap o a b) m L := by
  refine ⟨fun k hk => ?_, fun j k hj hk e => ?_⟩
  · rw [pSwap_eq]; exact h.1 _ (pSw_lt ha hb hk)
  · rw [pSwap_eq, pSwap_eq] at e
    have := pSw_inj (h.inj (pSw_lt ha hb (by omega)) (pSw_lt ha hb hk) e)
    omega
theorem pDi.shuf : ∀ (k : Nat) (x : Int) {o : Nat → Int} {m L : Int}, pDi o m L → (k = 0 ∨ (k : Int) < m) → pDi (pSh k x o).2 m L
  | 0, x, o, m, L, h, hk => h
  | k + 1, x, o, m, L, h, hk => pDi.shuf k _ (h.swap (by omega) (by
      have := Int.emod_lt_of_pos ((25173 * x + 13849) % 65536) (show (0 : Int) < (k : Int) + 1 + 1 by omega)
      have := Int.emod_nonneg ((25173 * x + 13849) % 65536) (show (k : Int) + 1 + 1 ≠ 0 by omega)
      omega)) (by omega)
theorem pSh_all {P : Int → Prop} : ∀ (k : Nat) (x : Int) (o : Nat → Int) (m : Int), (∀ i : Nat, (i : Int) < m → P (o i)) → (k = 0 ∨ (k : Int) < m) → ∀ i : Nat, (i : Int) < m → P ((pSh k x o).2 i)
  | 0, x, o, m, h, hk => h
  | k + 1, x, o, m, h, hk => pSh_all k _ _ m (fun i hi => by
      have := Int.emod_lt_of_pos ((25173 * x + 13849) % 65536) (show (0 : Int) < (k : Int) + 1 + 1 by omega)
      have := Int.emod_nonneg ((25173 * x + 13849) % 65536) (show (k : Int) + 1 + 1 ≠ 0 by omega)
      rw [pSwap_eq]
      exact h _ (pSw_lt (by omega) (by omega) hi)) (by omega)
theorem l_N_shuffle {Q : Int → ZI → Prop} (hW : Wf sh R) : ∀ (k : Nat) (x : Int) (I : ZI) (u2 u3 : Option AV), (x = (k : Int) ∨ x = -1 ∧ k = 0) → k < 32 → 0 ≤ I 18 8 ∧ I 18 8 ≤ 65535 → (∀ J : ZI, J 18 8 = (pSh k (I 18 8) (I 23)).1 → J 23 = (pSh k (I 18 8) (I 23)).2 → (∀ a b, ¬ (a = 18 ∧ b = 8) → ¬ a = 23 → J a b = I a b) → XI (d + 1) 133 [.inr 1, .inr 18] n sh R J Q) → XIs (d + 2) 123 10 [some (.inr 1), some (.inl x), u2, u3] [] n sh R I Q
  | 0, x, I, u2, u3, hx, h, hs, q => b_N_shuffle_10 hW (by rw [if_pos (by omega)]; exact q I rfl rfl (fun _ _ _ _ => rfl))
  | k + 1, x, I, u2, u3, hx, h, hs, q => b_N_shuffle_10 hW (by
    obtain rfl : x = ((k + 1 : Nat) : Int) := by omega
    have ec : ((k + 1 : Nat) : Int) + 1 = (k : Int) + 1 + 1 := by omega
    rw [if_neg (by omega), ec]
    have hy := Int.emod_lt_of_pos ((25173 * I 18 8 + 13849) % 65536) (show (0 : Int) < (k : Int) + 1 + 1 by omega)
    have hy0 := Int.emod_nonneg ((25173 * I 18 8 + 13849) % 65536) (show (k : Int) + 1 + 1 ≠ 0 by omega)
    refine ⟨by unfold zr; omega, by unfold zr; omega, by omega, by unfold zr; omega, by omega, by omega, by omega, by omega, by unfold zr; omega, ?_⟩
    refine l_N_shuffle hW k _ _ _ _ (.inl (by omega)) (by omega) ?_ fun J j1 j2 j3 => q J ?_ ?_ ?_
    · rw [zup_ne (by omega), zup_ne (by omega), zup_eq (by omega)]; omega
    · rw [j1, zup_ne (by omega), zup_ne (by omega), zup_eq (by omega)]
      show _ = (pSh k _ _).1
      congr 2
      funext i
      unfold pSwap
      rw [Int.toNat_natCast]
      by_cases e1 : i = ((25173 * I 18 8 + 13849) % 65536 % ((k : Int) + 1 + 1)).toNat
      · rw [if_pos e1, zup_eq (by omega)]
      · rw [if_neg e1, zup_ne (by omega)]
        by_cases e2 : i = k + 1
        · rw [if_pos e2, zup_eq (by omega)]
        · rw [if_neg e2, zup_ne (by omega), zup_ne (by omega)]
    · rw [j2, zup_ne (by omega), zup_ne (by omega), zup_eq (by omega)]
      show _ = (pSh k _ _).2
      congr 2
      funext i
      unfold pSwap
      rw [Int.toNat_natCast]
      by_cases e1 : i = ((25173 * I 18 8 + 13849) % 65536 % ((k : Int) + 1 + 1)).toNat
      · rw [if_pos e1, zup_eq (by omega)]
      · rw [if_neg e1, zup_ne (by omega)]
        by_cases e2 : i = k + 1
        · rw [if_pos e2, zup_eq (by omega)]
        · rw [if_neg e2, zup_ne (by omega), zup_ne (by omega)]
    · intro a b h1 h2
      rw [j3 a b h1 h2, zup_ne (by omega), zup_ne (by omega), zup_ne (by omega)])
theorem l_M_shuffle {Q : Int → ZI → Prop} (hW : Wf sh R) : ∀ (k : Nat) (x : Int) (I : ZI) (u2 u3 : Option AV), (x = (k : Int) ∨ x = -1 ∧ k = 0) → k < 32 → 0 ≤ I 137 5 ∧ I 137 5 ≤ 65535 → (∀ J : ZI, J 137 5 = (pSh k (I 137 5) (I 142)).1 → J 142 = (pSh k (I 137 5) (I 142)).2 → (∀ a b, ¬ (a = 137 ∧ b = 5) → ¬ a = 142 → J a b = I a b) → XI (d + 1) 196 [.inr 137] n sh R J Q) → XIs (d + 2) 242 7 [some (.inr 137), some (.inl x), u2, u3] [] n sh R I Q
  | 0, x, I, u2, u3, hx, h, hs, q => b_M_shuffle_7 hW (by rw [if_pos (by omega)]; exact q I rfl rfl (fun _ _ _ _ => rfl))
  | k + 1, x, I, u2, u3, hx, h, hs, q => b_M_shuffle_7 hW (by
    obtain rfl : x = ((k + 1 : Nat) : Int) := by omega
    have ec : ((k + 1 : Nat) : Int) + 1 = (k : Int) + 1 + 1 := by omega
    rw [if_neg (by omega), ec]
    have hy := Int.emod_lt_of_pos ((25173 * I 137 5 + 13849) % 65536) (show (0 : Int) < (k : Int) + 1 + 1 by omega)
    have hy0 := Int.emod_nonneg ((25173 * I 137 5 + 13849) % 65536) (show (k : Int) + 1 + 1 ≠ 0 by omega)
    refine ⟨by unfold zr; omega, by unfold zr; omega, by omega, by unfold zr; omega, by omega, by omega, by omega, by omega, by unfold zr; omega, ?_⟩
    refine l_M_shuffle hW k _ _ _ _ (.inl (by omega)) (by omega) ?_ fun J j1 j2 j3 => q J ?_ ?_ ?_
    · rw [zup_ne (by omega), zup_ne (by omega), zup_eq (by omega)]; omega
    · rw [j1, zup_ne (by omega), zup_ne (by omega), zup_eq (by omega)]
      show _ = (pSh k _ _).1
      congr 2
      funext i
      unfold pSwap
      rw [Int.toNat_natCast]
      by_cases e1 : i = ((25173 * I 137 5 + 13849) % 65536 % ((k : Int) + 1 + 1)).toNat
      · rw [if_pos e1, zup_eq (by omega)]
      · rw [if_neg e1, zup_ne (by omega)]
        by_cases e2 : i = k + 1
        · rw [if_pos e2, zup_eq (by omega)]
        · rw [if_neg e2, zup_ne (by omega), zup_ne (by omega)]
    · rw [j2, zup_ne (by omega), zup_ne (by omega), zup_eq (by omega)]
      show _ = (pSh k _ _).2
      congr 2
      funext i
      unfold pSwap
      rw [Int.toNat_natCast]
      by_cases e1 : i = ((25173 * I 137 5 + 13849) % 65536 % ((k : Int) + 1 + 1)).toNat
      · rw [if_pos e1, zup_eq (by omega)]
      · rw [if_neg e1, zup_ne (by omega)]
        by_cases e2 : i = k + 1
        · rw [if_pos e2, zup_eq (by omega)]
        · rw [if_neg e2, zup_ne (by omega), zup_ne (by omega)]
    · intro a b h1 h2
      rw [j3 a b h1 h2, zup_ne (by omega), zup_ne (by omega), zup_ne (by omega)])
theorem c_shuffle (hW : Wf sh R) (h : Rel t I R) : XI (d + 2) 123 [.inr 1] n sh R I (fun v J => XI (d + 2) 242 [.inr 137] n sh R J (fun v2 K => v2 = v ∧ Rel (t + 1) K R)) := by
  obtain ⟨⟨o1, o2, o3, o4, o5, o6, o7⟩, od, lt, di⟩ := h.1.od
  have hx := h.1.2.1
  refine b_N_shuffle_0 hW ⟨by unfold zr; omega, l_N_shuffle hW ((I 18 6).toNat - 1) _ _ _ _ (by omega) (by omega) (by omega) fun J j1 j2 j3 => ?_⟩
  have j5 : J 137 5 = I 137 5 := j3 _ _ (by omega) (by omega)
  have j6 : J 137 1 = I 137 1 := j3 _ _ (by omega) (by omega)
  have j7 : J 142 = I 142 := funext fun k => j3 _ _ (by omega) (by omega)
  have di0 : pDi (I 23) (I 18 6) (I 18 5) := ⟨h.1.2.2.2.2.1, h.1.2.2.2.2.2.1⟩
  have le1 := pSh_all (P := fun v => I 21 v.toNat ≤ I 18 7) ((I 18 6).toNat - 1) (I 18 8) (I 23) (I 18 6) h.1.2.2.2.2.2.2 (by omega)
  have di1 := di0.shuf ((I 18 6).toNat - 1) (I 18 8) (by omega)
  have xr := pSh_x ((I 18 6).toNat - 1) (I 18 8) (I 23) (by omega)
  have cg := pSh_congr ((I 18 6).toNat - 1) (I 18 8) (I 23) (I 142) (by omega) fun i hi => (h.1.1.2.2.2.2 i hi).2.2.2.2
  have mk : ∀ K : ZI, K 137 5 = (pSh ((I 18 6).toNat - 1) (I 18 8) (I 142)).1 → K 142 = (pSh ((I 18 6).toNat - 1) (I 18 8) (I 142)).2 → (∀ a b, ¬ (a = 137 ∧ b = 5) → ¬ a = 142 → K a b = J a b) → Rel (t + 1) K R := fun K k1 k2 k3 => by
    have ff : ∀ a b, ¬ (a = 137 ∧ b = 5) → ¬ a = 142 → ¬ (a = 18 ∧ b = 8) → ¬ a = 23 → K a b = I a b := fun a b h1 h2 h3 h4 => by rw [k3 a b h1 h2, j3 a b h3 h4]
    have fa : ∀ a, a = 19 ∨ a = 20 ∨ a = 21 ∨ a = 22 ∨ a = 138 ∨ a = 139 ∨ a = 140 ∨ a = 141 → K a = I a := fun a ha => funext fun b => ff a b (by omega) (by omega) (by omega) (by omega)
    refine h.up (by omega) (.inl ?_) (.inr ?_) (.inr ?_) (.inr ?_) (.inr ?_) (.inr ?_)
    · have e23 : K 23 = (pSh ((I 18 6).toNat - 1) (I 18 8) (I 23)).2 := by rw [← j2]; exact funext fun b => k3 _ _ (by omega) (by omega)
      have e8 : K 18 8 = (pSh ((I 18 6).toNat - 1) (I 18 8) (I 23)).1 := by rw [← j1]; exact k3 _ _ (by omega) (by omega)
      obtain ⟨⟨a1, a2, a3, a4, a5⟩, b1, b2, b3, b4, b5, b6⟩ := h.1
      refine ⟨⟨?_, ?_, ?_, ?_, fun k hk => ?_⟩, ?_⟩
      · rw [ff 18 5 (by omega) (by omega) (by omega) (by omega), ff 137 0 (by omega) (by omega) (by omega) (by omega)]; exact a1
      · rw [ff 18 6 (by omega) (by omega) (by omega) (by omega), ff 137 1 (by omega) (by omega) (by omega) (by omega)]; exact a2
      · rw [ff 18 7 (by omega) (by omega) (by omega) (by omega), ff 137 2 (by omega) (by omega) (by omega) (by omega)]; exact a3
      · rw [e8, k1]; exact cg.1
      · have := a5 k hk
        refine ⟨?_, ?_, ?_, ?_, ?_⟩
        · show K 19 k = K 138 k; rw [fa 19 (by omega), fa 138 (by omega)]; exact this.1
        · show K 20 k = K 139 k; rw [fa 20 (by omega), fa 139 (by omega)]; exact this.2.1
        · show K 21 k = K 140 k; rw [fa 21 (by omega), fa 140 (by omega)]; exact this.2.2.1
        · show K 22 k = K 141 k; rw [fa 22 (by omega), fa 141 (by omega)]; exact this.2.2.2.1
        · show K 23 k = K 142 k; rw [e23, k2]; exact cg.2 k hk
      · rw [fa 19 (by omega), fa 20 (by omega), fa 21 (by omega), fa 22 (by omega), e23, e8, ff 18 5 (by omega) (by omega) (by omega) (by omega), ff 18 6 (by omega) (by omega) (by omega) (by omega), ff 18 7 (by omega) (by omega) (by omega) (by omega)]
        exact ⟨⟨b1.1, b1.2.1, b1.2.2.1, b1.2.2.2.1, xr⟩, b2, b3, di1.1, di1.2, le1⟩
    · intro a k hk; unfold fKept at hk; exact ff _ _ (by omega) (by omega) (by omega) (by omega)
    · intro a k hk; unfold fEnv at hk; exact ff _ _ (by omega) (by omega) (by omega) (by omega)
    · intro a k hk; unfold fTape at hk; exact ff _ _ (by omega) (by omega) (by omega) (by omega)
    · intro a k hk; unfold fBlame at hk; exact ff _ _ (by omega) (by omega) (by omega) (by omega)
    · intro a k hk; unfold fLaw at hk; exact ff _ _ (by omega) (by omega) (by omega) (by omega)
  have hJ : pOd J 18 := by
    have e6 : J 18 6 = I 18 6 := j3 _ _ (by omega) (by omega)
    have e19 : J 19 = I 19 := funext fun b => j3 _ _ (by omega) (by omega)
    unfold pOd
    show (0 ≤ J 18 6 ∧ J 18 6 ≤ 32) ∧ ∀ k : Nat, (k : Int) < J 18 6 → (0 ≤ J 23 k ∧ J 23 k < 32) ∧ 0 ≤ J 19 (J 23 k).toNat ∧ J 19 (J 23 k).toNat < 20
    rw [e6, e19, j2]
    refine ⟨by omega, fun k hk => ?_⟩
    have := di1.1 k hk
    have := lt ((pSh ((I 18 6).toNat - 1) (I 18 8) (I 23)).2 k).toNat (by omega)
    omega
  refine s_N_firstOut hW (St_18 hW) hJ ?_
  refine b_M_shuffle_0 hW ⟨by unfold zr; omega, l_M_shuffle hW ((I 18 6).toNat - 1) _ _ _ _ (by omega) (by omega) (by omega) fun K k1 k2 k3 => ?_⟩
  rw [j5, j7, o7] at k1 k2
  have hr := mk K k1 k2 k3
  refine s_M_outOf hW hr.1.pOdM ⟨?_, hr⟩
  rw [hr.1.out hr.2.2.1]
  rw [funext fun b => k3 19 b (by omega) (by omega), funext fun b => k3 23 b (by omega) (by omega), funext fun b => k3 13 b (by omega) (by omega), k3 18 6 (by omega) (by omega)]
end OU
