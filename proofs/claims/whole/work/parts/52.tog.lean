-- TOGETHER: the model's table, the call
section TX
variable {d n t : Nat} {sh : ZS} {R : ZR} {B : ZI} {x1 x2 x3 x4 x5 : Int} {lw S o : Nat} {H : List Int} {g : Int} {LA : Nat → Int} {K ks F L : Nat → Int} {c m : Nat}
theorem l_M_br46 {I : ZI} {Q : ZI → Prop} {s i : Nat} (hW : Wf sh R) (hT : qT I c ks F L) (c8 : c ≤ 8) (hs : s < 2 ^ c) (hi : i ≤ c) (hU : ∀ s2, s < s2 → s2 < 2 ^ c → ∀ j, j ≤ c → I 176 (9 * s2 + j) = tV c F L s2 j) (q : ∀ u3 u4, XVs (d + 2) 230 15 [some (.inr 137), some (.inl (s : Int)), some (.inl ((i + 1 : Nat) : Int)), u3, u4] [] n sh R (zup I 176 (9 * s + i) (tV c F L s i)) Q) : ∀ (f a : Nat), a + f = c → XVs (d + 2) 230 46 [some (.inr 137), some (.inl (s : Int)), some (.inl (i : Int)), some (.inl (tMin (tN s) (tW c F L s i) a (if s + 1 = 2 ^ c then 0 else 1000000000))), some (.inl (a : Int))] [] n sh R I Q
  | 0, a, h => b_M_laysBreaks_46 hW (by
    have p8 : 2 ^ c ≤ 256 := Nat.le_trans (Nat.pow_le_pow_right (by decide) c8) (by decide)
    obtain rfl : a = c := by omega
    have eu : (9 * (s : Int) + (i : Int)).toNat = 9 * s + i := by omega
    rw [hT.1, if_pos (by omega), eu, ← tV_eq2 hs, show (i : Int) + 1 = ((i + 1 : Nat) : Int) by omega]
    exact ⟨by unfold zr; omega, by unfold zr; omega, by omega, by unfold zr; omega, q _ _⟩)
  | f + 1, a, h => b_M_laysBreaks_46 hW (by
    have p8 : 2 ^ c ≤ 256 := Nat.le_trans (Nat.pow_le_pow_right (by decide) c8) (by decide)
    have ih := l_M_br46 hW hT c8 hs hi hU q f (a + 1) (by omega)
    have wr := tW_range (F := F) (L := L) (i := i) hs (show a < c by omega) c8
    generalize hm : (if s + 1 = 2 ^ c then (0 : Int) else 1000000000) = mi at ih ⊢
    have e : tMin (tN s) (tW c F L s i) (a + 1) mi = if tN s a = true then (if tW c F L s i a ≤ tMin (tN s) (tW c F L s i) a mi then tW c F L s i a else tMin (tN s) (tW c F L s i) a mi) else tMin (tN s) (tW c F L s i) a mi := rfl
    rw [e] at ih
    have e3 : (a : Int) + 1 = ((a + 1 : Nat) : Int) := by omega
    rw [hT.1, if_neg (by omega), zbit_n (by omega) (by omega)]
    by_cases g1 : s.testBit a = true
    · rw [if_neg (show ¬ tN s a = true by unfold tN; simp [g1])] at ih
      rw [if_pos g1, if_neg (by decide), e3]
      exact ⟨by unfold zr; omega, ih⟩
    · have g' : s.testBit a = false := by simpa using g1
      rw [if_pos (show tN s a = true by unfold tN; simp [g'])] at ih
      rw [if_neg g1, if_pos (by decide)]
      have hu := hU _ (set_gt g') (set_lt hs (show a < c by omega)) a (by omega)
      have ew : tW c F L s i a = tR c F L i a + tV c F L (s ||| 2 ^ a) a := rfl
      obtain ⟨z1, z2, z3⟩ := zor_set c8 hs (show a < c by omega)
      rw [z1]
      generalize s ||| 2 ^ a = u at hu ew z2 ⊢
      have eu : (9 * (u : Int) + (a : Int)).toNat = 9 * u + a := by omega
      rw [eu, hu]
      have nx : ∀ w : Int, w = tW c F L s i a → (if w ≤ tMin (tN s) (tW c F L s i) a mi then (zr ((a : Int) + 1)) ∧ XVs (d + 2) 230 46 [some (.inr 137), some (.inl (s : Int)), some (.inl (i : Int)), some (.inl w), some (.inl ((a : Int) + 1))] [] n sh R I Q else (zr ((a : Int) + 1)) ∧ XVs (d + 2) 230 46 [some (.inr 137), some (.inl (s : Int)), some (.inl (i : Int)), some (.inl (tMin (tN s) (tW c F L s i) a mi)), some (.inl ((a : Int) + 1))] [] n sh R I Q) := fun w hw => by
        subst hw
        rw [e3]
        by_cases g2 : tW c F L s i a ≤ tMin (tN s) (tW c F L s i) a mi
        · rw [if_pos g2] at ih ⊢; exact ⟨by unfold zr; omega, ih⟩
        · rw [if_neg g2] at ih ⊢; exact ⟨by unfold zr; omega, ih⟩
      by_cases g2 : i = c
      · have er : tR c F L i a = 1 := if_pos g2
        rw [if_pos (by omega)]
        exact ⟨by unfold zr; omega, by unfold zr; omega, by omega, by unfold zr; omega, nx _ (by omega)⟩
      · rw [if_neg (by omega), Int.toNat_natCast, Int.toNat_natCast, (hT.2 i (by omega)).2.2, (hT.2 a (by omega)).2.1]
        refine ⟨by omega, by omega, ?_⟩
        have er : tR c F L i a = if L i ≤ F a then 0 else 1 := if_neg g2
        by_cases g3 : L i ≤ F a
        · rw [if_pos g3] at er ⊢
          exact ⟨by unfold zr; omega, by unfold zr; omega, by omega, by unfold zr; omega, nx _ (by omega)⟩
        · rw [if_neg g3] at er ⊢
          exact ⟨by unfold zr; omega, by unfold zr; omega, by omega, by unfold zr; omega, nx _ (by omega)⟩)
theorem l_M_br15 {Q : ZI → Prop} {s : Nat} (hW : Wf sh R) (c8 : c ≤ 8) (hs : s < 2 ^ c) : ∀ (f i : Nat) (I : ZI) (u3 u4 : Option AV), i + f = c + 1 → qT I c ks F L → (∀ s2, s < s2 → s2 < 2 ^ c → ∀ j, j ≤ c → I 176 (9 * s2 + j) = tV c F L s2 j) → (∀ j, j < i → I 176 (9 * s + j) = tV c F L s j) → (∀ J : ZI, (∀ s2, s ≤ s2 → s2 < 2 ^ c → ∀ j, j ≤ c → J 176 (9 * s2 + j) = tV c F L s2 j) → (∀ a b, ¬ a = 176 → J a b = I a b) → ∀ u2 u3 u4, XVs (d + 2) 230 9 [some (.inr 137), some (.inl ((s : Int) + -1)), u2, u3, u4] [] n sh R J Q) → XVs (d + 2) 230 15 [some (.inr 137), some (.inl (s : Int)), some (.inl (i : Int)), u3, u4] [] n sh R I Q
  | 0, i, I, u3, u4, h, hT, h1, h2, q => b_M_laysBreaks_15 hW (by
    have p8 : 2 ^ c ≤ 256 := Nat.le_trans (Nat.pow_le_pow_right (by decide) c8) (by decide)
    rw [hT.1, if_pos (by omega)]
    refine ⟨by unfold zr; omega, q I (fun s2 g1 g2 j hj => ?_) (fun _ _ _ => rfl) _ _ _⟩
    by_cases e : s2 = s
    · subst e; exact h2 j (by omega)
    · exact h1 s2 (by omega) g2 j hj)
  | f + 1, i, I, u3, u4, h, hT, h1, h2, q => b_M_laysBreaks_15 hW (by
    have p8 : 2 ^ c ≤ 256 := Nat.le_trans (Nat.pow_le_pow_right (by decide) c8) (by decide)
    have z := l_M_br46 (d := d) (n := n) (Q := Q) hW hT c8 hs (show i ≤ c by omega) h1 (fun u3 u4 => l_M_br15 hW c8 hs f (i + 1) _ u3 u4 (by omega) ⟨by rw [zup_ne (by omega)]; exact hT.1, fun j hj => by rw [zup_ne (by omega), zup_ne (by omega), zup_ne (by omega)]; exact hT.2 j hj⟩ (fun s2 g1 g2 j hj => by rw [zup_ne (by omega)]; exact h1 s2 g1 g2 j hj) (fun j hj => by
        by_cases e : j = i
        · subst e; exact zup_eq ⟨rfl, rfl⟩
        · rw [zup_ne (by omega)]; exact h2 j (by omega)) fun J j1 j2 => q J j1 fun a b hab => by rw [j2 a b hab, zup_ne (by omega)]) c 0 (by omega)
    have e0 : ∀ mi, tMin (tN s) (tW c F L s i) 0 mi = mi := fun _ => rfl
    rw [e0] at z
    rw [hT.1, if_neg (by omega), zshl_n (by omega)]
    refine ⟨by unfold zr; omega, ?_⟩
    by_cases g2 : s + 1 = 2 ^ c
    · rw [if_pos g2] at z
      rw [if_neg (not_not_intro (by omega))]; exact z
    · rw [if_neg g2] at z
      rw [if_pos (by omega)]; exact z)
theorem l_M_br9 {Q : ZI → Prop} (hW : Wf sh R) (c8 : c ≤ 8) : ∀ (s : Nat) (I : ZI) (u2 u3 u4 : Option AV), s ≤ 2 ^ c → qT I c ks F L → (∀ s2, s ≤ s2 → s2 < 2 ^ c → ∀ j, j ≤ c → I 176 (9 * s2 + j) = tV c F L s2 j) → (∀ J : ZI, (∀ s2, s2 < 2 ^ c → ∀ j, j ≤ c → J 176 (9 * s2 + j) = tV c F L s2 j) → (∀ a b, ¬ a = 176 → J a b = I a b) → Q J) → XVs (d + 2) 230 9 [some (.inr 137), some (.inl ((s : Int) - 1)), u2, u3, u4] [] n sh R I Q
  | 0, I, u2, u3, u4, hs, hT, h1, q => b_M_laysBreaks_9 hW (by
    rw [if_pos (by omega)]
    exact q I (fun s2 g2 => h1 s2 (by omega) g2) fun _ _ _ => rfl)
  | s + 1, I, u2, u3, u4, hs, hT, h1, q => b_M_laysBreaks_9 hW (by
    have e0 : ((s + 1 : Nat) : Int) - 1 = (s : Int) := by omega
    rw [e0, if_neg (by omega)]
    refine l_M_br15 hW c8 (show s < 2 ^ c by omega) (c + 1) 0 I u3 u4 (by omega) hT (fun s2 g1 => h1 s2 (by omega)) (fun j hj => absurd hj (by omega)) fun J j1 j2 u2 u3 u4 => ?_
    rw [show (s : Int) + -1 = (s : Int) - 1 by omega]
    exact l_M_br9 hW c8 s J u2 u3 u4 (by omega) ⟨by rw [j2 _ _ (by omega)]; exact hT.1, fun j hj => by rw [j2 _ _ (by omega), j2 _ _ (by omega), j2 _ _ (by omega)]; exact hT.2 j hj⟩ j1 fun M m1 m2 => q M m1 fun a b hab => by rw [m2 a b hab, j2 a b hab])
theorem s_M_laysBreaks {I : ZI} {Q : ZI → Prop} (hW : Wf sh R) (hT : qT I c ks F L) (c8 : c ≤ 8) (q : ∀ J : ZI, qT J c ks F L → (∀ s2, s2 < 2 ^ c → ∀ j, j ≤ c → J 176 (9 * s2 + j) = tV c F L s2 j) → (∀ a b, ¬ a = 176 → J a b = I a b) → Q J) : XV (d + 2) 230 [.inr 137] n sh R I Q := by
  have p8 : 2 ^ c ≤ 256 := Nat.le_trans (Nat.pow_le_pow_right (by decide) c8) (by decide)
  have p0 := Nat.two_pow_pos c
  refine b_M_laysBreaks_0 hW ?_
  rw [hT.1, zshl_n (by omega)]
  exact ⟨by unfold zr; omega, l_M_br9 hW c8 (2 ^ c) I none none none (Nat.le_refl _) hT (fun s2 g1 g2 => by omega) fun J j1 j2 => q J ⟨by rw [j2 _ _ (by omega)]; exact hT.1, fun j hj => by rw [j2 _ _ (by omega), j2 _ _ (by omega), j2 _ _ (by omega)]; exact hT.2 j hj⟩ j1 j2⟩
-- the least row's street at a place
theorem l_M_tg59 {I : ZI} {Q : Int → ZI → Prop} {s i k : Nat} (hW : Wf sh R) (hT : qT I c ks F L) (c8 : c ≤ 8) (hs : s < 2 ^ c) (hn : ¬ s + 1 = 2 ^ c) (hi : i ≤ c) (hk : k < 8) (hx : zr x1) (hU : ∀ s2, s2 < 2 ^ c → ∀ j, j ≤ c → I 176 (9 * s2 + j) = tV c F L s2 j) (q : if ¬ (k : Int) = x1 then ∀ u, XIs (d + 3) 231 56 [some (.inr 137), some (.inl x1), some (.inl ((s ||| 2 ^ (tA c F L s i) : Nat) : Int)), some (.inl (tA c F L s i : Int)), some (.inl ((k + 1 : Nat) : Int)), u] [] n sh R I Q else Q (ks (tA c F L s i)) I) : ∀ (f a : Nat), a + f = tA c F L s i → XIs (d + 3) 231 59 [some (.inr 137), some (.inl x1), some (.inl (s : Int)), some (.inl (i : Int)), some (.inl (k : Int)), some (.inl (a : Int))] [] n sh R I Q := by
  have p8 : 2 ^ c ≤ 256 := Nat.le_trans (Nat.pow_le_pow_right (by decide) c8) (by decide)
  obtain ⟨t1, t2, t3, t4, t5⟩ := tA_ok (F := F) (L := L) (i := i) c8 hs hn
  have us := hU s hs i hi
  have vs := tV_range (F := F) (L := L) (i := i) hs
  have es : (9 * (s : Int) + (i : Int)).toNat = 9 * s + i := by omega
  intro f
  induction f with
  | zero =>
    intro a h
    have ha : tA c F L s i = a := by omega
    rw [ha] at q t2 t3 t4
    obtain ⟨z1, z2, z3⟩ := zor_set c8 hs t2
    have hu := hU _ z2 a (by omega)
    have rr := tR_range (c := c) (F := F) (L := L) (i := i) (a := a)
    have vr := tV_range (F := F) (L := L) (i := a) z2
    have l := pCount_le (p := fun b => !(s ||| 2 ^ a).testBit b) c
    unfold tMs at vr
    replace vr : 0 ≤ tV c F L (s ||| 2 ^ a) a ∧ tV c F L (s ||| 2 ^ a) a ≤ 8 := by omega
    refine b_M_together_59 hW ?_
    rw [zbit_n (by omega) (by omega), t3, if_neg (show ¬ (false = true) from Bool.false_ne_true), if_pos (by decide), z1, es, us, hT.1, Int.toNat_natCast]
    generalize s ||| 2 ^ a = u at *
    have eu : (9 * (u : Int) + (a : Int)).toNat = 9 * u + a := by omega
    rw [eu, hu, show (k : Int) + 1 = ((k + 1 : Nat) : Int) by omega]
    have fin : ∀ w : Int, w = tR c F L i a → (if w + tV c F L u a = tV c F L s i then (if ¬ (k : Int) = x1 then (zr ((k + 1 : Nat) : Int)) ∧ XIs (d + 3) 231 56 [some (.inr 137), some (.inl x1), some (.inl (u : Int)), some (.inl (a : Int)), some (.inl ((k + 1 : Nat) : Int)), some (.inl (a : Int))] [] n sh R I Q else (0 ≤ (a : Int) ∧ (a : Int) < 8) ∧ Q (I 173 a) I) else (zr ((a : Int) + 1)) ∧ XIs (d + 3) 231 59 [some (.inr 137), some (.inl x1), some (.inl (s : Int)), some (.inl (i : Int)), some (.inl (k : Int)), some (.inl ((a : Int) + 1))] [] n sh R I Q) := fun w hw => by
      rw [hw, if_pos t4]
      by_cases g : (k : Int) = x1
      · rw [if_neg (not_not_intro g)] at q ⊢
        rw [(hT.2 a t2).1]; exact ⟨by omega, q⟩
      · rw [if_pos g] at q ⊢
        exact ⟨by unfold zr; omega, q _⟩
    by_cases g2 : i = c
    · have er : tR c F L i a = 1 := if_pos g2
      rw [if_pos (by omega)]
      exact ⟨by unfold zr; omega, by unfold zr; omega, by omega, by unfold zr; omega, by unfold zr; omega, by unfold zr; omega, by omega, fin 1 (by omega)⟩
    · rw [if_neg (by omega), Int.toNat_natCast, (hT.2 i (by omega)).2.2, (hT.2 a (by omega)).2.1]
      refine ⟨by omega, by omega, ?_⟩
      have er : tR c F L i a = if L i ≤ F a then 0 else 1 := if_neg g2
      have fin2 : ∀ w : Int, w = tR c F L i a → (if w + tV c F L u a = tV c F L s i then (if ¬ (k : Int) = x1 then (zr ((k + 1 : Nat) : Int)) ∧ XIs (d + 3) 231 56 [some (.inr 137), some (.inl x1), some (.inl (u : Int)), some (.inl (a : Int)), some (.inl ((k + 1 : Nat) : Int)), some (.inl (a : Int))] [] n sh R I Q else Q (I 173 a) I) else (zr ((a : Int) + 1)) ∧ XIs (d + 3) 231 59 [some (.inr 137), some (.inl x1), some (.inl (s : Int)), some (.inl (i : Int)), some (.inl (k : Int)), some (.inl ((a : Int) + 1))] [] n sh R I Q) := fun w hw => by
        have z := fin w hw
        rw [hw, if_pos t4] at z ⊢
        by_cases g : (k : Int) = x1
        · rw [if_neg (not_not_intro g)] at z ⊢; exact z.2
        · rw [if_pos g] at z ⊢; exact z
      by_cases g3 : L i ≤ F a
      · rw [if_pos g3] at er ⊢
        exact ⟨by unfold zr; omega, by unfold zr; omega, by omega, by unfold zr; omega, by unfold zr; omega, by unfold zr; omega, by omega, fin2 0 (by omega)⟩
      · rw [if_neg g3] at er ⊢
        exact ⟨by unfold zr; omega, by unfold zr; omega, by omega, by unfold zr; omega, by unfold zr; omega, by unfold zr; omega, by omega, fin2 1 (by omega)⟩
  | succ f ih =>
    intro a h
    have ih2 := ih (a + 1) (by omega)
    have na := t5 a (by omega)
    refine b_M_together_59 hW ?_
    rw [zbit_n (by omega) (by omega), show (a : Int) + 1 = ((a + 1 : Nat) : Int) by omega]
    by_cases g1 : s.testBit a = true
    · rw [if_pos g1, if_neg (by decide)]
      exact ⟨by unfold zr; omega, ih2⟩
    · have g' : s.testBit a = false := by simpa using g1
      have nb : ¬ tR c F L i a + tV c F L (s ||| 2 ^ a) a = tV c F L s i := fun e => na (by
        unfold tNp
        rw [g', decide_eq_true e]
        rfl)
      obtain ⟨z1, z2, z3⟩ := zor_set c8 hs (show a < c by omega)
      have hu := hU _ z2 a (by omega)
      have rr := tR_range (c := c) (F := F) (L := L) (i := i) (a := a)
      have vr := tV_range (F := F) (L := L) (i := a) z2
      have l := pCount_le (p := fun b => !(s ||| 2 ^ a).testBit b) c
      unfold tMs at vr
      replace vr : 0 ≤ tV c F L (s ||| 2 ^ a) a ∧ tV c F L (s ||| 2 ^ a) a ≤ 8 := by omega
      rw [if_neg g1, if_pos (by decide), z1, es, us, hT.1]
      generalize s ||| 2 ^ a = u at hu z2 vr nb ⊢
      have eu : (9 * (u : Int) + (a : Int)).toNat = 9 * u + a := by omega
      rw [eu, hu]
      by_cases g2 : i = c
      · have er : tR c F L i a = 1 := if_pos g2
        rw [if_pos (by omega)]
        refine ⟨by unfold zr; omega, by unfold zr; omega, by omega, by unfold zr; omega, by unfold zr; omega, by unfold zr; omega, by omega, ?_⟩
        rw [if_neg (by omega)]
        exact ⟨by unfold zr; omega, ih2⟩
      · rw [if_neg (by omega), Int.toNat_natCast, Int.toNat_natCast, (hT.2 i (by omega)).2.2, (hT.2 a (by omega)).2.1]
        refine ⟨by omega, by omega, ?_⟩
        have er : tR c F L i a = if L i ≤ F a then 0 else 1 := if_neg g2
        by_cases g3 : L i ≤ F a
        · rw [if_pos g3] at er ⊢
          refine ⟨by unfold zr; omega, by unfold zr; omega, by omega, by unfold zr; omega, by unfold zr; omega, by unfold zr; omega, by omega, ?_⟩
          rw [if_neg (by omega)]
          exact ⟨by unfold zr; omega, ih2⟩
        · rw [if_neg g3] at er ⊢
          refine ⟨by unfold zr; omega, by unfold zr; omega, by omega, by unfold zr; omega, by unfold zr; omega, by unfold zr; omega, by omega, ?_⟩
          rw [if_neg (by omega)]
          exact ⟨by unfold zr; omega, ih2⟩
theorem l_M_tg56 {I : ZI} {Q : Int → ZI → Prop} {w : Nat} (hW : Wf sh R) (hT : qT I c ks F L) (c8 : c ≤ 8) (hw : w < c) (hU : ∀ s2, s2 < 2 ^ c → ∀ j, j ≤ c → I 176 (9 * s2 + j) = tV c F L s2 j) (q : Q (ks (tS c F L (w + 1)).2) I) : ∀ (f k : Nat) (u : Option AV), k + f = w → XIs (d + 3) 231 56 [some (.inr 137), some (.inl (w : Int)), some (.inl ((tS c F L k).1 : Int)), some (.inl ((tS c F L k).2 : Int)), some (.inl (k : Int)), u] [] n sh R I Q
  | 0, k, u, h => b_M_together_56 hW (by
    obtain rfl : k = w := by omega
    obtain ⟨s1, s2, s3⟩ := tS_ok (F := F) (L := L) c8 k (by omega)
    have nf := tS_nf (F := F) (L := L) c8 hw
    have hi : (tS c F L k).2 ≤ c := by
      by_cases g : 0 < k
      · exact Nat.le_of_lt (s3 g).1
      · obtain rfl : k = 0 := by omega
        exact Nat.le_refl c
    exact l_M_tg59 hW hT c8 s1 nf hi (by omega) (by unfold zr; omega) hU (by rw [if_neg (not_not_intro rfl)]; exact q) (tA c F L (tS c F L k).1 (tS c F L k).2) 0 (by omega))
  | f + 1, k, u, h => b_M_together_56 hW (by
    obtain ⟨s1, s2, s3⟩ := tS_ok (F := F) (L := L) c8 k (by omega)
    have nf := tS_nf (F := F) (L := L) c8 (show k < c by omega)
    have hi : (tS c F L k).2 ≤ c := by
      by_cases g : 0 < k
      · exact Nat.le_of_lt (s3 g).1
      · obtain rfl : k = 0 := by omega
        exact Nat.le_refl c
    exact l_M_tg59 hW hT c8 s1 nf hi (by omega) (by unfold zr; omega) hU (by rw [if_pos (by omega)]; exact fun u => l_M_tg56 hW hT c8 hw hU q f (k + 1) u (by omega)) (tA c F L (tS c F L k).1 (tS c F L k).2) 0 (by omega))
theorem l_N_tog {Q : Int → ZI → Prop} (hW : Wf sh R) (hb : bOk B S) (hh : hIn B H) (hl : lw = 5 ∨ lw = 45) : ∀ (c p : Nat) (I : ZI), p + c = H.length → gSt B I 18 H g LA → (∀ k, k < p → I 14 k = sK B H k) → (∀ J : ZI, (∀ k, k < H.length → J 14 k = sK B H k) → (∀ a b, ¬ a = 14 → J a b = I a b) → XIs (d + 4) 117 2 [some (.inr 1), some (.inl x1), some (.inl (H.length : Int))] [] n sh R J Q) → XIs (d + 4) 117 2 [some (.inr 1), some (.inl x1), some (.inl (p : Int))] [] n sh R I Q
  | 0, p, I, h, hH, hk, q => by
    obtain rfl : p = H.length := by omega
    exact q I hk fun _ _ _ => rfl
  | c + 1, p, I, h, hH, hk, q => b_N_together_2 hW (by
    have r := sK_range hb hh (p := p) (by omega)
    have l9 := hh.1
    have e1 : I 23 p = H.getD p 0 := hH.2.1 p (by omega)
    have e2 : I 19 (H.getD p 0).toNat = sK B H p := (hH.2.2 _ (by omega)).1
    rw [hH.1.2.1, if_neg (by omega), Int.toNat_natCast, e1, e2]
    refine ⟨by omega, by omega, by unfold zr; omega, ?_⟩
    rw [show (p : Int) + 1 = ((p + 1 : Nat) : Int) by omega]
    refine l_N_tog hW hb hh hl c (p + 1) _ (by omega) (hH.fr fun a b hab => zup_ne (by omega)) (fun k hk2 => ?_) fun J j1 j2 => q J j1 fun a b hab => by rw [j2 a b hab, zup_ne (by omega)]
    by_cases e : k = p
    · subst e; rw [zup_eq (by omega)]
    · rw [zup_ne (by omega)]; exact hk k (by omega))
theorem c_together {I : ZI} (hW : Wf sh R) (h : Rel t I R) : XI (d + 4) 117 [.inr 1, .inl x1] n sh R I (fun v J => XI (d + 3) 231 [.inr 137, .inl x1] n sh R J (fun v2 K => v2 = v ∧ Rel (t + 1) K R)) := by
  obtain ⟨lw, S, H, hl, hR, hL, hb, hE, mE, hH, mH, hv, hg⟩ := h.base hW
  have hin := hv.1.inb hb
  have ok := qOk_all (K := sK I H) (m := H.length)
  refine b_N_together_0 hW (l_N_tog (B := I) (g := I 18 7) (LA := I 22) hW hb hin hl H.length 0 I (by omega) hH (fun k hk => absurd hk (by omega)) fun J j1 j2 => b_N_together_2 hW ?_)
  rw [j2 18 6 (by omega), hH.1.2.1, if_pos (by omega)]
  refine s_O_read hW hin.1 (fun p hp => (sK_range hb hin hp).2) j1 fun J2 l1 l2 => ?_
  rw [l1.1]
  have f2 : ∀ a b, ¬ (a = 53 ∧ b = 2) → ¬ a = 54 → ¬ a = 56 → ¬ a = 57 → ¬ a = 14 → J2 a b = I a b := fun a b h1 h2 h3 h4 h5 => by rw [l2 a b h1 h2 h3 h4, j2 a b h5]
  -- the model's side
  have md : ∀ (v : Int) (M : ZI), (∀ a b, ¬ (a = 53 ∧ b = 2) → ¬ a = 54 → ¬ a = 56 → ¬ a = 57 → ¬ a = 14 → ¬ a = 55 → ¬ a = 58 → M a b = I a b) → (∀ K : ZI, Rel (t + 1) K R → (if 1 ≤ (qKs (sK I H) H.length 20).length ∧ (qKs (sK I H) H.length 20).length ≤ 8 then (if x1 < -1 then v = -3 else if ((qKs (sK I H) H.length 20).length : Int) - 1 < x1 then v = -3 else if ¬ x1 = -1 then v = (qKs (sK I H) H.length 20).getD (tS (qKs (sK I H) H.length 20).length (qKF (sK I H) H.length) (qKL (sK I H) H.length) (x1.toNat + 1)).2 0 else v = tV (qKs (sK I H) H.length 20).length (qKF (sK I H) H.length) (qKL (sK I H) H.length) 0 (qKs (sK I H) H.length 20).length) else v = -2)) → XI (d + 3) 231 [.inr 137, .inl x1] n sh R M (fun v2 K => v2 = v ∧ Rel (t + 1) K R) := fun v M hM hq => by
    have mE2 : mEnv I M := mE.fr fun a b hab => hM a b (by omega) (by omega) (by omega) (by omega) (by omega) (by omega) (by omega)
    have mH2 : mSt M H (I 18 7) (I 22) := mH.fr fun a b hab => hM a b (by omega) (by omega) (by omega) (by omega) (by omega) (by omega) (by omega)
    refine b_M_together_0 hW (s_M_laysTogether (B := I) (g := I 18 7) (LA := I 22) hW hb hin mE2 mH2 fun K k1 k2 => ?_)
    have rel : ∀ K2 : ZI, (∀ a b, ¬ a = 176 → K2 a b = K a b) → Rel (t + 1) K2 R := fun K2 hK2 => h.fr (by omega) fun a b hab => by
      unfold fAll fNow fKept fEnv fTape fBlame fLaw at hab
      rw [hK2 a b (by omega), k2 a b (by omega) (by omega) (by omega), hM a b (by omega) (by omega) (by omega) (by omega) (by omega) (by omega) (by omega)]
    have z := hq K (rel K fun _ _ _ => rfl)
    by_cases g1 : 1 ≤ (qKs (sK I H) H.length 20).length ∧ (qKs (sK I H) H.length 20).length ≤ 8
    · rw [if_pos g1] at z ⊢
      have T := k1 g1
      rw [if_pos (by decide), T.1]
      refine ⟨by unfold zr; omega, ?_⟩
      by_cases g2 : x1 < -1
      · rw [if_pos g2] at z ⊢; exact ⟨z.symm, rel K fun _ _ _ => rfl⟩
      rw [if_neg g2] at z ⊢
      by_cases g3 : ((qKs (sK I H) H.length 20).length : Int) - 1 < x1
      · rw [if_pos g3] at z ⊢; exact ⟨z.symm, rel K fun _ _ _ => rfl⟩
      rw [if_neg g3] at z ⊢
      refine s_M_laysBreaks hW T g1.2 fun K2 o1 o2 o3 => ?_
      rw [o1.1]
      by_cases g4 : x1 = -1
      · rw [if_neg (not_not_intro g4)] at z ⊢
        have u := o2 0 (Nat.two_pow_pos _) (qKs (sK I H) H.length 20).length (Nat.le_refl _)
        rw [Nat.mul_zero, Nat.zero_add] at u
        rw [Int.toNat_natCast, u]
        exact ⟨by omega, z.symm, rel K2 o3⟩
      · rw [if_pos g4] at z ⊢
        obtain ⟨w, rfl⟩ : ∃ w : Nat, x1 = w := ⟨x1.toNat, by omega⟩
        rw [Int.toNat_natCast] at z
        exact l_M_tg56 hW o1 g1.2 (by omega) o2 ⟨z.symm, rel K2 o3⟩ w 0 none (by omega)
    · rw [if_neg g1] at z ⊢
      rw [if_neg (not_not_intro rfl)]
      exact ⟨z.symm, rel K fun _ _ _ => rfl⟩
  by_cases g1 : (qKs (sK I H) H.length 20).length < 1
  · rw [if_pos (by omega)]
    refine md (-2) J2 (fun a b h1 h2 h3 h4 h5 _ _ => f2 a b h1 h2 h3 h4 h5) fun K _ => ?_
    rw [if_neg (by omega)]
  rw [if_neg (by omega)]
  by_cases g2 : (qKs (sK I H) H.length 20).length ≤ 8
  · rw [if_pos (by omega)]
    by_cases g3 : x1 = -1
    · rw [if_pos g3]
      refine s_O_freest hW ok l1 (by omega) fun M m1 m2 m3 => ?_
      rw [if_neg (not_not_intro g3)]
      refine md _ M (fun a b h1 h2 h3 h4 h5 h6 h7 => by rw [m3 a b h6 h7, f2 a b h1 h2 h3 h4 h5]) fun K _ => ?_
      rw [if_pos (by omega), if_neg (by omega), if_neg (by omega), if_neg (not_not_intro g3)]
    · rw [if_neg g3]
      by_cases g4 : x1 < 0
      · rw [if_pos g4]
        refine md (-3) J2 (fun a b h1 h2 h3 h4 h5 _ _ => f2 a b h1 h2 h3 h4 h5) fun K _ => ?_
        rw [if_pos (by omega), if_pos (by omega)]
      rw [if_neg g4]
      by_cases g5 : x1 < ((qKs (sK I H) H.length 20).length : Int)
      · rw [if_pos g5]
        refine s_O_freest hW ok l1 (by omega) fun M m1 m2 m3 => ?_
        rw [if_pos g3]
        obtain ⟨w, rfl⟩ : ∃ w : Nat, x1 = w := ⟨x1.toNat, by omega⟩
        have sw := (tS_ok (F := qKF (sK I H) H.length) (L := qKL (sK I H) H.length) g2 (w + 1) (by omega)).2.2 (by omega)
        rw [Int.toNat_natCast, m2 w (by omega), Int.toNat_natCast, (m1.2 _ sw.1).1]
        refine ⟨by omega, by omega, ?_⟩
        refine md _ M (fun a b h1 h2 h3 h4 h5 h6 h7 => by rw [m3 a b h6 h7, f2 a b h1 h2 h3 h4 h5]) fun K _ => ?_
        rw [if_pos (by omega), if_neg (by omega), if_neg (by omega), if_pos g3, Int.toNat_natCast]
      · rw [if_neg g5]
        refine md (-3) J2 (fun a b h1 h2 h3 h4 h5 _ _ => f2 a b h1 h2 h3 h4 h5) fun K _ => ?_
        rw [if_pos (by omega), if_neg (by omega), if_pos (by omega)]
  · rw [if_neg (by omega)]
    refine md (-2) J2 (fun a b h1 h2 h3 h4 h5 _ _ => f2 a b h1 h2 h3 h4 h5) fun K _ => ?_
    rw [if_neg (by omega)]
end TX
