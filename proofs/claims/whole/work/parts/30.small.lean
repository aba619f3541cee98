-- FEED, CHECK, COUNT
def pFold (f : Nat → Int → Int) : Nat → Nat → Int → Int
  | _, 0, a => a
  | j, c + 1, a => pFold f (j + 1) c (f j a)
theorem pFold_congr {f g : Nat → Int → Int} : ∀ (c j : Nat) (a : Int), (∀ k a, j ≤ k → k < j + c → f k a = g k a) → pFold f j c a = pFold g j c a
  | 0, _, _, _ => rfl
  | c + 1, j, a, h => by
    unfold pFold
    rw [h j a (by omega) (by omega), pFold_congr c (j + 1) _ (fun k b h1 h2 => h k b (by omega) (by omega))]
section FE
variable {d n t : Nat} {sh : ZS} {R : ZR} {I : ZI} {x1 x2 x3 x4 x5 : Int}
theorem c_feed (hW : Wf sh R) (h : Rel t I R) : XI (d + 1) 99 [.inr 1, .inl x1, .inl x2, .inl x3, .inl x4, .inl x5] n sh R I (fun v J => XI (d + 1) 153 [.inr 137, .inl x1, .inl x2, .inl x3, .inl x4, .inl x5] n sh R J (fun v2 K => v2 = v ∧ Rel (t + 1) K R)) := by
  obtain ⟨⟨t1, t2, t3⟩, t4⟩ := h.2.2.2.1
  refine b_N_feed_0 hW ⟨by unfold zr; omega, ?_⟩
  by_cases g : 220 < I 2 1 + 20
  · rw [if_pos g]
    refine b_M_feed_0 hW ⟨by unfold zr; omega, ?_⟩
    rw [if_neg (by omega)]
    exact ⟨rfl, h.fr (by omega) fun _ _ _ => rfl⟩
  · rw [if_neg g]
    refine s_T_append hW (by omega) fun J1 a1 b1 c1 => ?_
    refine s_T_append hW (by omega) fun J2 a2 b2 c2 => ?_
    refine s_T_append hW (by omega) fun J3 a3 b3 c3 => ?_
    refine s_T_append hW (by omega) fun J4 a4 b4 c4 => ?_
    refine s_T_append hW (by omega) fun J5 a5 b5 c5 => ?_
    have fJ : ∀ a k, ¬ a = 3 → ¬ (a = 2 ∧ k = 1) → J5 a k = I a k := fun a k h1 h2 => by rw [c5 a k h1 h2, c4 a k h1 h2, c3 a k h1 h2, c2 a k h1 h2, c1 a k h1 h2]
    have j13 : J5 137 13 = I 137 13 := fJ _ _ (by omega) (by omega)
    refine b_M_feed_0 hW ⟨by unfold zr; omega, ?_⟩
    rw [if_pos (by omega)]
    refine s_M_types hW (by omega) fun K1 p1 q1 r1 => ?_
    refine s_M_types hW (by omega) fun K2 p2 q2 r2 => ?_
    refine s_M_types hW (by omega) fun K3 p3 q3 r3 => ?_
    refine s_M_types hW (by omega) fun K4 p4 q4 r4 => ?_
    refine s_M_types hW (by omega) fun K5 p5 q5 r5 => ?_
    have fK : ∀ a k, ¬ a = 144 → ¬ (a = 137 ∧ k = 13) → K5 a k = J5 a k := fun a k h1 h2 => by rw [r5 a k h1 h2, r4 a k h1 h2, r3 a k h1 h2, r2 a k h1 h2, r1 a k h1 h2]
    have ff : ∀ a k, ¬ a = 3 → ¬ (a = 2 ∧ k = 1) → ¬ a = 144 → ¬ (a = 137 ∧ k = 13) → K5 a k = I a k := fun a k h1 h2 h3 h4 => by rw [fK a k h3 h4, fJ a k h1 h2]
    refine ⟨by omega, h.up (by omega) (.inr ?_) (.inr ?_) (.inr ?_) (.inl ?_) (.inr ?_) (.inr ?_)⟩
    · intro a k hk; unfold fNow at hk; exact ff _ _ (by omega) (by omega) (by omega) (by omega)
    · intro a k hk; unfold fKept at hk; exact ff _ _ (by omega) (by omega) (by omega) (by omega)
    · intro a k hk; unfold fEnv at hk; exact ff _ _ (by omega) (by omega) (by omega) (by omega)
    · have e3 : K5 3 = J5 3 := funext fun k => fK _ _ (by omega) (by omega)
      have e4 : J5 144 = I 144 := funext fun k => fJ _ _ (by omega) (by omega)
      have e2 : K5 2 1 = J5 2 1 := fK _ _ (by omega) (by omega)
      refine ⟨by omega, ?_⟩
      rw [e3, p5, p4, p3, p2, p1, a5, a4, a3, a2, a1, e4, j13, q4, q3, q2, q1, b4, b3, b2, b1, j13, ← t1]
      exact ((((tAg.put t4 _ _).put _ _).put _ _).put _ _).put _ _
    · intro a k hk; unfold fBlame at hk; exact ff _ _ (by omega) (by omega) (by omega) (by omega)
    · intro a k hk; unfold fLaw at hk; exact ff _ _ (by omega) (by omega) (by omega) (by omega)
end FE
-- CHECK
def pNum (T : Nat → Int) (k : Nat) : Int := zor (zshl (zor (zshl (zor (zshl (zor (zshl 0 8) (zand (T (4 * k)) 255)) 8) (zand (T (4 * k + 1)) 255)) 8) (zand (T (4 * k + 2)) 255)) 8) (zand (T (4 * k + 3)) 255)
theorem zand_b2 (b : Int) : zand (zi2b b) 255 = zand b 255 := by
  rw [zand_255, zand_255, zi2b_eq]; omega
theorem pNum_ag {T TM : Nat → Int} (h : tAg T TM) {k : Nat} (hk : 4 * k + 4 ≤ 220) : pNum TM k = pNum T k := by
  unfold pNum
  rw [(h (4 * k) (by omega)).1, (h (4 * k + 1) (by omega)).1, (h (4 * k + 2) (by omega)).1, (h (4 * k + 3) (by omega)).1, zand_b2, zand_b2, zand_b2, zand_b2]
section CH
variable {d n t : Nat} {sh : ZS} {R : ZR} {I : ZI} {x1 x2 x3 x4 x5 : Int}
theorem s_T_numberAt {Q : Int → ZI → Prop} (hW : Wf sh R) {k : Nat} (h : 4 * (k : Int) + 4 ≤ I 2 1) (h9 : I 2 1 ≤ 220) (q : Q (pNum (I 3) k) I) : XI (d + 1) 85 [.inr 2, .inl (k : Int)] n sh R I Q := by
  have z1 : zr (4 * (k : Int)) := by unfold zr; omega
  have z2 : zr (4 * (k : Int) + 4) := by unfold zr; omega
  have e0 : (4 * (k : Int)).toNat = 4 * k := by omega
  have e1 : (4 * (k : Int) + 1).toNat = 4 * k + 1 := by omega
  have e2 : (4 * (k : Int) + 1 + 1).toNat = 4 * k + 2 := by omega
  have e3 : (4 * (k : Int) + 1 + 1 + 1).toNat = 4 * k + 3 := by omega
  refine b_T_numberAt_0 hW ⟨z1, b_T_numberAt_6 hW ⟨z1, z2, ?_⟩⟩
  rw [if_neg (by omega), if_neg (by omega), if_neg (by omega), e0]
  refine ⟨by omega, by unfold zr; omega, b_T_numberAt_6 hW ⟨z1, z2, ?_⟩⟩
  rw [if_neg (by omega), if_neg (by omega), if_neg (by omega), e1]
  refine ⟨by omega, by unfold zr; omega, b_T_numberAt_6 hW ⟨z1, z2, ?_⟩⟩
  rw [if_neg (by omega), if_neg (by omega), if_neg (by omega), e2]
  refine ⟨by omega, by unfold zr; omega, b_T_numberAt_6 hW ⟨z1, z2, ?_⟩⟩
  rw [if_neg (by omega), if_neg (by omega), if_neg (by omega), e3]
  refine ⟨by omega, by unfold zr; omega, b_T_numberAt_6 hW ⟨z1, z2, ?_⟩⟩
  rw [if_pos (by omega)]
  exact q
theorem s_M_tapeNumber {Q : Int → ZI → Prop} (hW : Wf sh R) {k : Nat} (h : 4 * k + 4 ≤ 220) (q : Q (pNum (I 144) k) I) : XI d 245 [.inr 137, .inl (k : Int)] n sh R I Q := by
  have z1 : zr (4 * (k : Int)) := by unfold zr; omega
  have z2 : zr (4 * (k : Int) + 4) := by unfold zr; omega
  have e0 : (4 * (k : Int)).toNat = 4 * k := by omega
  have e1 : (4 * (k : Int) + 1).toNat = 4 * k + 1 := by omega
  have e2 : (4 * (k : Int) + 1 + 1).toNat = 4 * k + 2 := by omega
  have e3 : (4 * (k : Int) + 1 + 1 + 1).toNat = 4 * k + 3 := by omega
  refine b_M_tapeNumber_0 hW ⟨z1, b_M_tapeNumber_6 hW ⟨z1, z2, ?_⟩⟩
  rw [if_neg (by omega), e0]
  refine ⟨by omega, by unfold zr; omega, b_M_tapeNumber_6 hW ⟨z1, z2, ?_⟩⟩
  rw [if_neg (by omega), e1]
  refine ⟨by omega, by unfold zr; omega, b_M_tapeNumber_6 hW ⟨z1, z2, ?_⟩⟩
  rw [if_neg (by omega), e2]
  refine ⟨by omega, by unfold zr; omega, b_M_tapeNumber_6 hW ⟨z1, z2, ?_⟩⟩
  rw [if_neg (by omega), e3]
  refine ⟨by omega, by unfold zr; omega, b_M_tapeNumber_6 hW ⟨z1, z2, ?_⟩⟩
  rw [if_pos (by omega)]
  exact q
def pBad (T od : Nat → Int) (m : Int) (k : Nat) : Bool := decide (m ≤ (k : Int)) || !decide (pNum T k = od k)
theorem l_N_check {u : Option AV} {Q : Int → ZI → Prop} (hW : Wf sh R) (h9 : I 2 1 ≤ 220) : ∀ (j c : Nat), 4 * ((j + c : Nat) : Int) ≤ I 2 1 → j + c ≤ 32 → Q (pFind (pBad (I 3) (I 23) (I 18 6)) 0 (j + c)) (zup I 2 1 0) → XIs (d + 2) 126 32 [some (.inr 1), u, some (.inl (pFind (pBad (I 3) (I 23) (I 18 6)) j c)), some (.inl ((j : Int) - 1))] [] n sh R I Q
  | 0, c, h, h3, q => b_N_check_32 hW (by rw [if_pos (by omega)]; rw [Nat.zero_add] at q; exact q)
  | j + 1, c, h, h3, q => b_N_check_32 hW (by
    have ej : ((j + 1 : Nat) : Int) - 1 = (j : Int) := by omega
    have go := l_N_check (u := u) (Q := Q) hW h9 j (c + 1) (by omega) (by omega) (by rw [show j + (c + 1) = j + 1 + c by omega]; exact q)
    have eb : pFind (pBad (I 3) (I 23) (I 18 6)) j (c + 1) = if pBad (I 3) (I 23) (I 18 6) j then (j : Int) else pFind (pBad (I 3) (I 23) (I 18 6)) (j + 1) c := rfl
    have em : (j : Int) + (-1) = (j : Int) - 1 := by omega
    rw [ej, if_neg (by omega), em]
    have z : zr ((j : Int) - 1) := by unfold zr; omega
    by_cases g : I 18 6 ≤ (j : Int)
    · rw [if_pos g]
      rw [eb, if_pos (by unfold pBad; rw [decide_eq_true g]; rfl)] at go
      exact ⟨z, go⟩
    · rw [if_neg g]
      refine s_T_numberAt hW (by omega) h9 ⟨by omega, ?_⟩
      rw [Int.toNat_natCast]
      by_cases e : pNum (I 3) j = I 23 j
      · rw [if_pos e]
        rw [eb, if_neg (by unfold pBad; rw [decide_eq_true e, decide_eq_false g]; decide)] at go
        exact ⟨z, go⟩
      · rw [if_neg e]
        rw [eb, if_pos (by unfold pBad; rw [decide_eq_false e, Bool.not_false, Bool.or_true])] at go
        exact ⟨z, go⟩)
theorem l_M_check {Q : Int → ZI → Prop} (hW : Wf sh R) : ∀ (c j : Nat), ((j + c : Nat) : Int) = x1 → x1 ≤ 32 → (j : Int) ≤ I 137 1 → Q (pFind (pBad (I 144) (I 142) (I 137 1)) j c) I → XIs (d + 1) 246 30 [some (.inr 137), some (.inl x1), some (.inl (j : Int))] [] n sh R I Q
  | 0, j, h, h3, hm, q => b_M_check_30 hW (by rw [if_pos (by omega)]; exact q)
  | c + 1, j, h, h3, hm, q => b_M_check_30 hW (by
    rw [if_neg (by omega)]
    unfold pFind at q
    by_cases g : (j : Int) = I 137 1
    · rw [if_pos g]
      rw [if_pos (by unfold pBad; rw [decide_eq_true (show I 137 1 ≤ (j : Int) by omega)]; rfl)] at q
      exact q
    · rw [if_neg g]
      refine s_M_tapeNumber hW (by omega) ⟨by omega, ?_⟩
      rw [Int.toNat_natCast]
      by_cases e : pNum (I 144) j = I 142 j
      · rw [if_pos e]
        rw [if_neg (by unfold pBad; rw [decide_eq_true e, decide_eq_false (show ¬ I 137 1 ≤ (j : Int) by omega)]; decide)] at q
        exact ⟨by unfold zr; omega, l_M_check hW c (j + 1) (by omega) h3 (by omega) q⟩
      · rw [if_neg e]
        rw [if_pos (by unfold pBad; rw [decide_eq_false e, Bool.not_false, Bool.or_true])] at q
        exact q)
theorem c_check (hW : Wf sh R) (h : Rel t I R) : XI (d + 2) 126 [.inr 1, .inl x1] n sh R I (fun v J => XI (d + 1) 246 [.inr 137, .inl x1] n sh R J (fun v2 K => v2 = v ∧ Rel (t + 1) K R)) := by
  obtain ⟨⟨t1, t2, t3⟩, t4⟩ := h.2.2.2.1
  obtain ⟨⟨n1, n2, n3, n4, n5⟩, n6⟩ := h.1
  have m0 := n6.m0
  refine b_N_check_0 hW ?_
  by_cases g : 0 ≤ x1 ∧ x1 ≤ 32 ∧ 4 * x1 ≤ I 2 1
  · rw [if_neg (by omega), if_neg (by omega)]
    refine ⟨by unfold zr; omega, ?_⟩
    rw [if_pos (by omega)]
    refine ⟨by unfold zr; omega, ?_⟩
    obtain ⟨c, hc⟩ : ∃ c : Nat, x1 = c := ⟨x1.toNat, by omega⟩
    subst hc
    refine l_N_check hW t3 c 0 (by omega) (by omega) ?_
    refine b_M_check_0 hW ?_
    rw [if_neg (by omega), if_neg (by omega), zup_ne (by omega)]
    refine ⟨by omega, ?_⟩
    rw [if_pos (by omega)]
    refine l_M_check hW c 0 (by omega) (by omega) ?_ ?_
    · rw [zup_ne (by omega), zup_ne (by omega)]; omega
    · refine ⟨?_, ?_⟩
      · refine pFind_congr _ _ fun k h1 h2 => ?_
        have e1 : (zup (zup I 2 1 0) 137 13 0) 144 = I 144 := funext fun k => by rw [zup_ne (by omega), zup_ne (by omega)]
        have e2 : (zup (zup I 2 1 0) 137 13 0) 142 = I 142 := funext fun k => by rw [zup_ne (by omega), zup_ne (by omega)]
        have e3 : (zup (zup I 2 1 0) 137 13 0) 137 1 = I 137 1 := by rw [zup_ne (by omega), zup_ne (by omega)]
        rw [e1, e2, e3]
        unfold pBad
        rw [pNum_ag t4 (by omega), n2]
        have := (n5 k (by omega)).2.2.2.2
        rw [show I 23 k = I 142 k from this]
      · refine h.up (by omega) (.inr ?_) (.inr ?_) (.inr ?_) (.inl ?_) (.inr ?_) (.inr ?_)
        · intro a k hk; unfold fNow at hk; rw [zup_ne (by omega), zup_ne (by omega)]
        · intro a k hk; unfold fKept at hk; rw [zup_ne (by omega), zup_ne (by omega)]
        · intro a k hk; unfold fEnv at hk; rw [zup_ne (by omega), zup_ne (by omega)]
        · exact ⟨⟨rfl, Int.le_refl 0, (by decide : (0 : Int) ≤ 220)⟩, t4⟩
        · intro a k hk; unfold fBlame at hk; rw [zup_ne (by omega), zup_ne (by omega)]
        · intro a k hk; unfold fLaw at hk; rw [zup_ne (by omega), zup_ne (by omega)]
  · have key : XI (d + 1) 246 [.inr 137, .inl x1] n sh R I (fun v2 K => v2 = -2 ∧ Rel (t + 1) K R) := by
      refine b_M_check_0 hW ?_
      by_cases g1 : x1 < 0
      · rw [if_pos g1]; exact ⟨rfl, h.fr (by omega) fun _ _ _ => rfl⟩
      rw [if_neg g1]
      by_cases g2 : 32 < x1
      · rw [if_pos g2]; exact ⟨rfl, h.fr (by omega) fun _ _ _ => rfl⟩
      rw [if_neg g2]
      refine ⟨by omega, ?_⟩
      rw [if_neg (by omega)]
      exact ⟨rfl, h.fr (by omega) fun _ _ _ => rfl⟩
    by_cases g1 : x1 < 0
    · rw [if_pos g1]; exact key
    rw [if_neg g1]
    by_cases g2 : 32 < x1
    · rw [if_pos g2]; exact key
    rw [if_neg g2]
    refine ⟨by unfold zr; omega, ?_⟩
    rw [if_neg (by omega)]; exact key
end CH
-- COUNT
def pBits (st od : Nat → Int) (m : Int) : Int := pFold (fun k a => zor a (zshl 1 (st (od k).toNat))) 0 m.toNat 0
def pSumW (we od : Nat → Int) (m : Int) : Int := pFold (fun k a => a + we (od k).toNat) 0 m.toNat 0
section CO
variable {d n t : Nat} {sh : ZS} {R : ZR} {I : ZI} {x1 x2 x3 x4 x5 : Int}
theorem l_S_streetBits {Q : Int → ZI → Prop} (hW : Wf sh R) {o : Nat} (hO : St sh R o) (h9 : I o 6 ≤ 32) (ho : ∀ k : Nat, (k : Int) < I o 6 → 0 ≤ I (o + 5) k ∧ I (o + 5) k < 32) : ∀ (c j : Nat) (a : Int), ((j + c : Nat) : Int) = I o 6 → Q (pFold (fun k a => zor a (zshl 1 (I (o + 1) (I (o + 5) k).toNat))) j c a) I → XIs (d + 1) 69 4 [some (.inr o), some (.inl a), some (.inl (j : Int))] [] n sh R I Q
  | 0, j, a, h, q => b_S_streetBits_4 hW hO (by rw [if_pos (by omega)]; exact q)
  | c + 1, j, a, h, q => b_S_streetBits_4 hW hO (by
    rw [if_neg (by omega), Int.toNat_natCast]
    exact ⟨by omega, ho j (by omega), by unfold zr; omega, l_S_streetBits hW hO h9 ho c (j + 1) _ (by omega) q⟩)
theorem l_M_streetBits {Q : Int → ZI → Prop} (hW : Wf sh R) (h9 : I 137 1 ≤ 32) (ho : ∀ k : Nat, (k : Int) < I 137 1 → 0 ≤ I 142 k ∧ I 142 k < 32) : ∀ (c j : Nat) (a : Int), ((j + c : Nat) : Int) = I 137 1 → Q (pFold (fun k a => zor a (zshl 1 (I 138 (I 142 k).toNat))) j c a) I → XIs d 247 4 [some (.inr 137), some (.inl a), some (.inl (j : Int))] [] n sh R I Q
  | 0, j, a, h, q => b_M_streetBits_4 hW (by rw [if_pos (by omega)]; exact q)
  | c + 1, j, a, h, q => b_M_streetBits_4 hW (by
    rw [if_neg (by omega), Int.toNat_natCast]
    exact ⟨by omega, ho j (by omega), by unfold zr; omega, l_M_streetBits hW h9 ho c (j + 1) _ (by omega) q⟩)
theorem l_S_weights {Q : Int → ZI → Prop} (hW : Wf sh R) {o : Nat} (hO : St sh R o) (h9 : I o 6 ≤ 32) (ho : ∀ k : Nat, (k : Int) < I o 6 → (0 ≤ I (o + 5) k ∧ I (o + 5) k < 32) ∧ 0 ≤ I (o + 2) (I (o + 5) k).toNat ∧ I (o + 2) (I (o + 5) k).toNat ≤ 99) : ∀ (c j : Nat) (a : Int), ((j + c : Nat) : Int) = I o 6 → 0 ≤ a ∧ a ≤ 99 * j → Q (pFold (fun k a => a + I (o + 2) (I (o + 5) k).toNat) j c a) I → XIs d 70 4 [some (.inr o), some (.inl a), some (.inl (j : Int))] [] n sh R I Q
  | 0, j, a, h, ha, q => b_S_weights_4 hW hO (by rw [if_pos (by omega)]; exact q)
  | c + 1, j, a, h, ha, q => b_S_weights_4 hW hO (by
    have := ho j (by omega)
    rw [if_neg (by omega), Int.toNat_natCast]
    exact ⟨by omega, this.1, by unfold zr; omega, by unfold zr; omega, l_S_weights hW hO h9 ho c (j + 1) _ (by omega) (by omega) q⟩)
theorem l_M_weightAll {Q : Int → ZI → Prop} (hW : Wf sh R) (h9 : I 137 1 ≤ 32) (ho : ∀ k : Nat, (k : Int) < I 137 1 → (0 ≤ I 142 k ∧ I 142 k < 32) ∧ 0 ≤ I 139 (I 142 k).toNat ∧ I 139 (I 142 k).toNat ≤ 99) : ∀ (c j : Nat) (a : Int), ((j + c : Nat) : Int) = I 137 1 → 0 ≤ a ∧ a ≤ 99 * j → Q (pFold (fun k a => a + I 139 (I 142 k).toNat) j c a) I → XIs d 248 4 [some (.inr 137), some (.inl a), some (.inl (j : Int))] [] n sh R I Q
  | 0, j, a, h, ha, q => b_M_weightAll_4 hW (by rw [if_pos (by omega)]; exact q)
  | c + 1, j, a, h, ha, q => b_M_weightAll_4 hW (by
    have := ho j (by omega)
    rw [if_neg (by omega), Int.toNat_natCast]
    exact ⟨by omega, this.1, by unfold zr; omega, by unfold zr; omega, l_M_weightAll hW h9 ho c (j + 1) _ (by omega) (by omega) q⟩)
/-- what of the heap both sides have alike, in one place -/
theorem rNow.od {I : ZI} (h : rNow I) : (0 ≤ I 18 6 ∧ I 18 6 ≤ I 18 5 ∧ I 18 5 ≤ 32 ∧ I 137 0 = I 18 5 ∧ I 137 1 = I 18 6 ∧ I 137 2 = I 18 7 ∧ I 137 5 = I 18 8) ∧ (∀ k : Nat, (k : Int) < I 18 6 → (0 ≤ I 23 k ∧ I 23 k < I 18 5) ∧ I 142 k = I 23 k) ∧ (∀ k : Nat, (k : Int) < I 18 5 → (I 138 k = I 19 k ∧ I 139 k = I 20 k ∧ I 140 k = I 21 k ∧ I 141 k = I 22 k) ∧ 0 ≤ I 19 k ∧ I 19 k < 20 ∧ 0 ≤ I 20 k ∧ I 20 k ≤ 99 ∧ 0 ≤ I 21 k ∧ I 21 k ≤ 12 ∧ 0 ≤ I 22 k ∧ I 22 k ≤ 9) ∧ ∀ j k : Nat, j < k → (k : Int) < I 18 6 → ¬ I 23 j = I 23 k := by
  have m0 := h.2.m0
  obtain ⟨⟨a1, a2, a3, a4, a5⟩, b1, b2, b3, b4, b5, b6⟩ := h
  refine ⟨⟨m0.1, m0.2.1, b1.2.1, a1.symm, a2.symm, a3.symm, a4.symm⟩, fun k hk => ⟨b4 k hk, ((a5 k (by omega)).2.2.2.2).symm⟩, fun k hk => ⟨?_, b3 k hk⟩, b5⟩
  have := a5 k (by omega)
  exact ⟨this.1.symm, this.2.1.symm, this.2.2.1.symm, this.2.2.2.1.symm⟩
theorem c_count (hW : Wf sh R) (h : Rel t I R) : XI (d + 2) 127 [.inr 1, .inl x1] n sh R I (fun v J => XI (d + 1) 249 [.inr 137, .inl x1] n sh R J (fun v2 K => v2 = v ∧ Rel (t + 1) K R)) := by
  obtain ⟨⟨o1, o2, o3, o4, o5, o6, o7⟩, od, lt, di⟩ := h.1.od
  obtain ⟨lw, md, hl, l1, l2, l3⟩ := h.2.2.2.2.2.1
  have hLw : Lw sh R (R 42 4) := by
    rw [l1]; rcases hl with ⟨a, _⟩ | ⟨a, _⟩ <;> rw [a]
    · exact Lw_5 hW
    · exact Lw_45 hW
  have hr : Rel (t + 1) I R := h.fr (by omega) fun _ _ _ => rfl
  refine b_N_count_0 hW hLw ?_
  by_cases g20 : 20 ≤ x1 ∧ x1 < 40
  · rw [if_neg (by omega), if_neg (by omega)]
    refine ⟨by unfold zr; omega, by omega, b_M_count_0 hW ?_⟩
    rw [if_neg (by omega), if_neg (by omega), if_neg (by omega), if_neg (by omega), if_neg (by omega), if_neg (by omega), if_neg (by omega), if_neg (by omega), if_neg (by omega), if_neg (by omega), if_neg (by omega), if_neg (by omega)]
    exact ⟨by unfold zr; omega, by omega, (h.2.2.1.2.2 _ (by omega)).1.symm, hr⟩
  · have key : (if x1 = 0 then XI (d + 1) 249 [.inr 137, .inl x1] n sh R I (fun v2 K => v2 = I 18 5 ∧ Rel (t + 1) K R) else (if x1 = 1 then XI (d + 1) 249 [.inr 137, .inl x1] n sh R I (fun v2 K => v2 = I 18 6 ∧ Rel (t + 1) K R) else (if x1 = 2 then XI (d + 1) 249 [.inr 137, .inl x1] n sh R I (fun v2 K => v2 = I 18 7 ∧ Rel (t + 1) K R) else (if x1 = 3 then XI (d + 1) 249 [.inr 137, .inl x1] n sh R I (fun v2 K => v2 = I (R 42 4) 7 ∧ Rel (t + 1) K R) else (if x1 = 4 then XI (d + 1) 249 [.inr 137, .inl x1] n sh R I (fun v2 K => v2 = I 2 1 ∧ Rel (t + 1) K R) else (if x1 = 5 then XI (d + 1) 249 [.inr 137, .inl x1] n sh R I (fun v2 K => v2 = I 18 8 ∧ Rel (t + 1) K R) else (if x1 = 6 then XI (d + 1) 249 [.inr 137, .inl x1] n sh R I (fun v2 K => v2 = I 15 0 ∧ Rel (t + 1) K R) else (if x1 = 7 then XI (d + 1) 249 [.inr 137, .inl x1] n sh R I (fun v2 K => v2 = I 15 1 ∧ Rel (t + 1) K R) else (if x1 = 8 then XI (d + 1) 69 [.inr 18] n sh R I (fun v J => XI (d + 1) 249 [.inr 137, .inl x1] n sh R J (fun v2 K => v2 = v ∧ Rel (t + 1) K R)) else (if x1 = 9 then XI (d + 1) 70 [.inr 18] n sh R I (fun v J => XI (d + 1) 249 [.inr 137, .inl x1] n sh R J (fun v2 K => v2 = v ∧ Rel (t + 1) K R)) else XI (d + 1) 249 [.inr 137, .inl x1] n sh R I (fun v2 K => v2 = -1 ∧ Rel (t + 1) K R))))))))))) := by
      by_cases g : x1 = 0
      · rw [if_pos g]; refine b_M_count_0 hW ?_; rw [if_pos g]; exact ⟨by omega, hr⟩
      rw [if_neg g]
      by_cases g1 : x1 = 1
      · rw [if_pos g1]; refine b_M_count_0 hW ?_; rw [if_neg g, if_pos g1]; exact ⟨by omega, hr⟩
      rw [if_neg g1]
      by_cases g2 : x1 = 2
      · rw [if_pos g2]; refine b_M_count_0 hW ?_; rw [if_neg g, if_neg g1, if_pos g2]; exact ⟨by omega, hr⟩
      rw [if_neg g2]
      by_cases g3 : x1 = 3
      · rw [if_pos g3]; refine b_M_count_0 hW ?_; rw [if_neg g, if_neg g1, if_neg g2, if_pos g3, l1]; exact ⟨l3.1.1.symm, hr⟩
      rw [if_neg g3]
      by_cases g4 : x1 = 4
      · rw [if_pos g4]; refine b_M_count_0 hW ?_; rw [if_neg g, if_neg g1, if_neg g2, if_neg g3, if_pos g4]; exact ⟨h.2.2.2.1.1.1.symm, hr⟩
      rw [if_neg g4]
      by_cases g5 : x1 = 5
      · rw [if_pos g5]; refine b_M_count_0 hW ?_; rw [if_neg g, if_neg g1, if_neg g2, if_neg g3, if_neg g4, if_pos g5]; exact ⟨by omega, hr⟩
      rw [if_neg g5]
      by_cases g6 : x1 = 6
      · rw [if_pos g6]; refine b_M_count_0 hW ?_; rw [if_neg g, if_neg g1, if_neg g2, if_neg g3, if_neg g4, if_neg g5, if_pos g6]; exact ⟨h.2.2.1.1.1.symm, hr⟩
      rw [if_neg g6]
      by_cases g7 : x1 = 7
      · rw [if_pos g7]; refine b_M_count_0 hW ?_; rw [if_neg g, if_neg g1, if_neg g2, if_neg g3, if_neg g4, if_neg g5, if_neg g6, if_pos g7]; exact ⟨h.2.2.1.2.1.1.symm, hr⟩
      rw [if_neg g7]
      by_cases g8 : x1 = 8
      · rw [if_pos g8]
        refine b_S_streetBits_0 hW (St_18 hW) (l_S_streetBits hW (St_18 hW) (by omega) (fun k hk => ?_) (I 18 6).toNat 0 0 (by omega) ?_)
        · have := od k hk; show 0 ≤ I 23 k ∧ I 23 k < 32; omega
        refine b_M_count_0 hW ?_; rw [if_neg g, if_neg g1, if_neg g2, if_neg g3, if_neg g4, if_neg g5, if_neg g6, if_neg g7, if_pos g8]
        refine b_M_streetBits_0 hW (l_M_streetBits hW (by omega) (fun k hk => ?_) (I 18 6).toNat 0 0 (by omega) ⟨?_, hr⟩)
        · have := od k (by omega); omega
        refine pFold_congr _ _ _ fun k a h1 h2 => ?_
        have e := od k (by omega)
        show zor a (zshl 1 (I 138 (I 142 k).toNat)) = zor a (zshl 1 (I 19 (I 23 k).toNat))
        rw [e.2, (lt _ (by omega)).1.1]
      rw [if_neg g8]
      by_cases g9 : x1 = 9
      · rw [if_pos g9]
        refine b_S_weights_0 hW (St_18 hW) (l_S_weights hW (St_18 hW) (by omega) (fun k hk => ?_) (I 18 6).toNat 0 0 (by omega) (by omega) ?_)
        · have := od k hk; have := lt (I 23 k).toNat (by omega); show (0 ≤ I 23 k ∧ I 23 k < 32) ∧ 0 ≤ I 20 (I 23 k).toNat ∧ I 20 (I 23 k).toNat ≤ 99; omega
        refine b_M_count_0 hW ?_; rw [if_neg g, if_neg g1, if_neg g2, if_neg g3, if_neg g4, if_neg g5, if_neg g6, if_neg g7, if_neg g8, if_pos g9]
        refine b_M_weightAll_0 hW (l_M_weightAll hW (by omega) (fun k hk => ?_) (I 18 6).toNat 0 0 (by omega) (by omega) ⟨?_, hr⟩)
        · have := od k (by omega); rw [this.2]; have := lt (I 23 k).toNat (by omega); rw [this.1.2.1]; omega
        refine pFold_congr _ _ _ fun k a h1 h2 => ?_
        have e := od k (by omega)
        show a + (I 139 (I 142 k).toNat) = a + (I 20 (I 23 k).toNat)
        rw [e.2, (lt _ (by omega)).1.2.1]
      rw [if_neg g9]
      refine b_M_count_0 hW ?_
      rw [if_neg g, if_neg g1, if_neg g2, if_neg g3, if_neg g4, if_neg g5, if_neg g6, if_neg g7, if_neg g8, if_neg g9]
      by_cases g10 : x1 < 20
      · rw [if_pos g10]; exact ⟨rfl, hr⟩
      rw [if_neg g10, if_pos (by omega)]; exact ⟨rfl, hr⟩
    by_cases g10 : x1 < 20
    · rw [if_pos g10]; exact key
    rw [if_neg g10, if_pos (by omega)]; exact key
end CO
