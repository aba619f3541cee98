-- TOGETHER: the class's way
theorem qL_key {K : Nat → Int} {r : Int} : ∀ (c j : Nat), 0 ≤ qL K r j c → K (qL K r j c).toNat = r
  | 0, _, h => absurd h (by show ¬ (0 : Int) ≤ -1; omega)
  | c + 1, j, h => by
    have e : qL K r j (c + 1) = if qL K r (j + 1) c = -1 then (if K j = r then (j : Int) else -1) else qL K r (j + 1) c := rfl
    rw [e] at h ⊢
    by_cases g : qL K r (j + 1) c = -1
    · rw [if_pos g] at h ⊢
      by_cases g2 : K j = r
      · rw [if_pos g2] at h ⊢; rw [Int.toNat_natCast]; exact g2
      · rw [if_neg g2] at h; omega
    · rw [if_neg g] at h ⊢
      exact qL_key c (j + 1) h
theorem qF_key {K : Nat → Int} {r : Int} {c j : Nat} (h : 0 ≤ qF K r j c) : K (qF K r j c).toNat = r := by
  unfold qF at h ⊢
  rcases pFind_range (p := fun p => decide (K p = r)) c j with ⟨e, _⟩ | ⟨k, e, _, _, e2, _⟩
  · omega
  · rw [e, Int.toNat_natCast]; exact of_decide_eq_true e2
theorem qOk.ne {K ks F L : Nat → Int} {m c : Nat} (h : qOk K m c ks F L) {i a : Nat} (hi : i < c) (ha : a < c) (hne : ¬ i = a) : ¬ L i = F a := fun e => by
  have a1 := h.2.1 i hi
  have a2 := h.2.1 a ha
  have k1 := qL_key (K := K) (r := ks i) m 0 (by omega)
  have k2 := qF_key (K := K) (r := ks a) (c := m) (j := 0) (by omega)
  rw [← a1.2.2.2.1, e, a2.2.2.1, k2] at k1
  by_cases g : i < a
  · exact h.2.2.1 i a g ha k1.symm
  · exact h.2.2.1 a i (by omega) hi k1
theorem zor_set {c s a : Nat} (c8 : c ≤ 8) (hs : s < 2 ^ c) (ha : a < c) : zor (s : Int) (zshl 1 (a : Int)) = ((s ||| 2 ^ a : Nat) : Int) ∧ s ||| 2 ^ a < 2 ^ c ∧ 2 ^ c ≤ 256 := by
  have p8 : 2 ^ c ≤ 256 := Nat.le_trans (Nat.pow_le_pow_right (by decide) c8) (by decide)
  have pa : 2 ^ a ≤ 2 ^ c := Nat.pow_le_pow_right (by decide) (by omega)
  rw [zshl_n (by omega), zor_nn (by omega) (by omega)]
  exact ⟨rfl, set_lt hs ha, p8⟩
section TO
variable {d n t : Nat} {sh : ZS} {R : ZR} {x1 x2 x3 x4 x5 : Int} {K ks F L : Nat → Int} {c m : Nat}
theorem s_O_breakWith {I : ZI} {Q : Int → ZI → Prop} {s i a : Nat} (hW : Wf sh R) (hq : qOk K m c ks F L) (hC : qC I c ks F L) (c8 : c ≤ 8) (hs : s < 2 ^ c) (hi : i < c) (ha : a < c) (hne : ¬ i = a) (hT : I 58 (8 * (s ||| 2 ^ a) + a) = tV c F L (s ||| 2 ^ a) a) (q : Q (tR c F L i a + tV c F L (s ||| 2 ^ a) a) I) : XI (d + 1) 48 [.inr 53, .inl (s : Int), .inl (i : Int), .inl (a : Int)] n sh R I Q := by
  obtain ⟨z1, z2, z3⟩ := zor_set c8 hs ha
  have vr := tV_range (c := c) (F := F) (L := L) (i := a) z2
  have l := pCount_le (p := fun b => !(s ||| 2 ^ a).testBit b) c
  unfold tMs at vr
  replace vr : 0 ≤ tV c F L (s ||| 2 ^ a) a ∧ tV c F L (s ||| 2 ^ a) a ≤ 8 := by omega
  have a1 := hC.2 i hi
  have a2 := hC.2 a ha
  have b1 := hq.2.1 i hi
  have b2 := hq.2.1 a ha
  have ne := hq.ne hi ha hne
  refine b_O_breakWith_0 hW ?_
  rw [z1, Int.toNat_natCast, Int.toNat_natCast, a1.1, a2.1, a1.2.2, a2.2.1]
  generalize s ||| 2 ^ a = u at hT q vr z1 z2 ⊢
  have eu : ((u : Int) * 8 + (a : Int)).toNat = 8 * u + a := by omega
  rw [eu, hT]
  have er : tR c F L i a = if L i ≤ F a then 0 else 1 := by
    unfold tR
    rw [if_neg (by omega)]
  rw [er] at q
  refine ⟨by omega, by omega, by omega, by omega, ?_⟩
  by_cases g : F a ≤ L i
  · rw [if_pos g]
    rw [if_neg (by omega)] at q
    exact ⟨by unfold zr; omega, by unfold zr; omega, by omega, by unfold zr; omega, q⟩
  · rw [if_neg g]
    rw [if_pos (by omega)] at q
    exact ⟨by unfold zr; omega, by unfold zr; omega, by omega, by unfold zr; omega, q⟩
def tN (s : Nat) : Nat → Bool := fun a => !s.testBit a
def tW (c : Nat) (F L : Nat → Int) (s i : Nat) : Nat → Int := fun a => tR c F L i a + tV c F L (s ||| 2 ^ a) a
theorem tV_eq2 {s i : Nat} (h : s < 2 ^ c) : tV c F L s i = tMin (tN s) (tW c F L s i) c (if s + 1 = 2 ^ c then 0 else 1000000000) := by
  rw [tV_eq h]
  by_cases g : s + 1 = 2 ^ c
  · rw [if_pos g, if_pos g, tMin_none c fun a ha => by
      unfold tN
      rw [show s = 2 ^ c - 1 by omega, Nat.testBit_two_pow_sub_one]
      simp [ha]]
  · rw [if_neg g, if_neg g]; rfl
theorem tW_range {s i a : Nat} (h : s < 2 ^ c) (ha : a < c) (c8 : c ≤ 8) : 0 ≤ tW c F L s i a ∧ tW c F L s i a ≤ 9 := by
  have z2 := set_lt h ha
  have vr := tV_range (c := c) (F := F) (L := L) (i := a) z2
  have l := pCount_le (p := fun b => !(s ||| 2 ^ a).testBit b) c
  unfold tMs at vr
  have r := tR_range (c := c) (F := F) (L := L) (i := i) (a := a)
  unfold tW
  omega
theorem l_O_fewestFrom {I : ZI} {Q : Int → ZI → Prop} {s i : Nat} (hW : Wf sh R) (hq : qOk K m c ks F L) (hC : qC I c ks F L) (c8 : c ≤ 8) (hs : s < 2 ^ c) (hi : i < c) (hb : s.testBit i = true) (hT : ∀ a, a < c → s.testBit a = false → I 58 (8 * (s ||| 2 ^ a) + a) = tV c F L (s ||| 2 ^ a) a) (q : Q (tMin (tN s) (tW c F L s i) c 8) I) : ∀ (f a : Nat), a + f = c → XIs (d + 2) 49 6 [some (.inr 53), some (.inl (s : Int)), some (.inl (i : Int)), some (.inl (tMin (tN s) (tW c F L s i) a 8)), some (.inl (a : Int))] [] n sh R I Q
  | 0, a, h => b_O_fewestFrom_6 hW (by
    rw [hC.1, if_pos (by omega)]
    obtain rfl : a = c := by omega
    exact q)
  | f + 1, a, h => b_O_fewestFrom_6 hW (by
    have p8 : 2 ^ c ≤ 256 := Nat.le_trans (Nat.pow_le_pow_right (by decide) c8) (by decide)
    have ih := l_O_fewestFrom hW hq hC c8 hs hi hb hT q f (a + 1) (by omega)
    have e : tMin (tN s) (tW c F L s i) (a + 1) 8 = if tN s a = true then (if tW c F L s i a ≤ tMin (tN s) (tW c F L s i) a 8 then tW c F L s i a else tMin (tN s) (tW c F L s i) a 8) else tMin (tN s) (tW c F L s i) a 8 := rfl
    rw [e] at ih
    have e3 : (a : Int) + 1 = ((a + 1 : Nat) : Int) := by omega
    rw [hC.1, if_neg (by omega), zbit_n (by omega) (by omega)]
    by_cases g : s.testBit a = true
    · rw [if_neg (show ¬ tN s a = true by unfold tN; simp [g])] at ih
      rw [if_pos g, if_pos (by decide), e3]
      exact ⟨by unfold zr; omega, ih⟩
    · have g' : s.testBit a = false := by simpa using g
      rw [if_pos (show tN s a = true by unfold tN; simp [g'])] at ih
      rw [if_neg g, if_neg (by decide)]
      refine s_O_breakWith hW hq hC c8 hs hi (by omega) (fun e => by rw [e] at hb; rw [hb] at g'; cases g') (hT a (by omega) g') ?_
      refine ⟨by unfold zr; omega, ?_⟩
      rw [e3]
      have ev : (if tR c F L i a + tV c F L (s ||| 2 ^ a) a < tMin (tN s) (tW c F L s i) a 8 then tR c F L i a + tV c F L (s ||| 2 ^ a) a else tMin (tN s) (tW c F L s i) a 8) = (if tW c F L s i a ≤ tMin (tN s) (tW c F L s i) a 8 then tW c F L s i a else tMin (tN s) (tW c F L s i) a 8) := by
        unfold tW
        split <;> split <;> omega
      rw [ev]; exact ih)
theorem s_O_fewestFrom {I : ZI} {Q : Int → ZI → Prop} {s i : Nat} (hW : Wf sh R) (hq : qOk K m c ks F L) (hC : qC I c ks F L) (c8 : c ≤ 8) (hs : s < 2 ^ c) (hn : ¬ s + 1 = 2 ^ c) (hi : i < c) (hb : s.testBit i = true) (hT : ∀ a, a < c → s.testBit a = false → I 58 (8 * (s ||| 2 ^ a) + a) = tV c F L (s ||| 2 ^ a) a) (q : Q (tV c F L s i) I) : XI (d + 2) 49 [.inr 53, .inl (s : Int), .inl (i : Int)] n sh R I Q := by
  refine b_O_fewestFrom_0 hW (l_O_fewestFrom hW hq hC c8 hs hi hb hT ?_ c 0 (by omega))
  have vr := tV_range (c := c) (F := F) (L := L) (i := i) hs
  have mp := tMs_pos hi hb
  have e := tV_eq2 (c := c) (F := F) (L := L) (i := i) hs
  rw [if_neg hn] at e
  rw [tMin_init (m := 8) (M := 1000000000) (by omega) c, ← e, if_pos (by omega)]
  exact q
theorem l_O_freest18 {Q : Int → ZI → Prop} {s : Nat} {u4 : Option AV} (hW : Wf sh R) (hq : qOk K m c ks F L) (c8 : c ≤ 8) (hs : s < 2 ^ c) : ∀ (f i : Nat) (I : ZI), i + f = c → qC I c ks F L → (∀ s2, s < s2 → s2 < 2 ^ c → ∀ j, j < c → s2.testBit j = true → I 58 (8 * s2 + j) = tV c F L s2 j) → (∀ j, j < i → s.testBit j = true → I 58 (8 * s + j) = tV c F L s j) → (∀ J : ZI, (∀ s2, s ≤ s2 → s2 < 2 ^ c → ∀ j, j < c → s2.testBit j = true → J 58 (8 * s2 + j) = tV c F L s2 j) → (∀ a b, ¬ a = 58 → J a b = I a b) → ∀ u3, XIs (d + 3) 47 11 [some (.inr 53), some (.inl ((2 ^ c : Nat) - 1 : Int)), some (.inl ((s : Int) + -1)), u3, u4] [] n sh R J Q) → XIs (d + 3) 47 18 [some (.inr 53), some (.inl ((2 ^ c : Nat) - 1 : Int)), some (.inl (s : Int)), some (.inl (i : Int)), u4] [] n sh R I Q
  | 0, i, I, h, hC, h1, h2, q => b_O_freest_18 hW (by
    have p8 : 2 ^ c ≤ 256 := Nat.le_trans (Nat.pow_le_pow_right (by decide) c8) (by decide)
    rw [hC.1, if_pos (by omega)]
    refine ⟨by unfold zr; omega, q I (fun s2 g1 g2 j hj hb => ?_) (fun _ _ _ => rfl) _⟩
    by_cases e : s2 = s
    · subst e; exact h2 j (by omega) hb
    · exact h1 s2 (by omega) g2 j hj hb)
  | f + 1, i, I, h, hC, h1, h2, q => b_O_freest_18 hW (by
    have p8 : 2 ^ c ≤ 256 := Nat.le_trans (Nat.pow_le_pow_right (by decide) c8) (by decide)
    have e3 : (i : Int) + 1 = ((i + 1 : Nat) : Int) := by omega
    rw [hC.1, if_neg (by omega), zbit_n (by omega) (by omega)]
    by_cases g : s.testBit i = true
    · rw [if_pos g, if_neg (by decide)]
      have eu : ((s : Int) * 8 + (i : Int)).toNat = 8 * s + i := by omega
      rw [eu, e3]
      have nx : ∀ (v : Int), v = tV c F L s i → XIs (d + 3) 47 18 [some (.inr 53), some (.inl ((2 ^ c : Nat) - 1 : Int)), some (.inl (s : Int)), some (.inl ((i + 1 : Nat) : Int)), u4] [] n sh R (zup I 58 (8 * s + i) v) Q := fun v hv => by
        refine l_O_freest18 hW hq c8 hs f (i + 1) _ (by omega) ⟨by rw [zup_ne (by omega)]; exact hC.1, fun j hj => by rw [zup_ne (by omega), zup_ne (by omega), zup_ne (by omega)]; exact hC.2 j hj⟩ (fun s2 g1 g2 j hj hb => by rw [zup_ne (by omega)]; exact h1 s2 g1 g2 j hj hb) (fun j hj hb => ?_) fun J j1 j2 => q J j1 fun a b hab => by rw [j2 a b hab, zup_ne (by omega)]
        by_cases e : j = i
        · subst e; rw [zup_eq ⟨rfl, rfl⟩]; exact hv
        · rw [zup_ne (by omega)]; exact h2 j (by omega) hb
      refine ⟨by unfold zr; omega, by unfold zr; omega, ?_⟩
      by_cases g2 : s + 1 = 2 ^ c
      · rw [if_neg (not_not_intro (by omega))]
        refine ⟨by omega, by unfold zr; omega, nx 0 ?_⟩
        rw [tV_eq hs, if_pos g2]
      · rw [if_pos (by omega)]
        refine s_O_fewestFrom hW hq hC c8 hs g2 (by omega) g (fun a ha hb => h1 _ (set_gt hb) (set_lt hs ha) a ha (by rw [set_bit]; simp)) ?_
        exact ⟨by omega, by unfold zr; omega, nx _ rfl⟩
    · rw [if_neg g, if_pos rfl, e3]
      refine ⟨by unfold zr; omega, l_O_freest18 hW hq c8 hs f (i + 1) I (by omega) hC h1 (fun j hj hb => ?_) q⟩
      by_cases e : j = i
      · subst e; exact absurd hb g
      · exact h2 j (by omega) hb)
theorem l_O_freest11 {Q : Int → ZI → Prop} {u4 : Option AV} (hW : Wf sh R) (hq : qOk K m c ks F L) (c8 : c ≤ 8) : ∀ (s : Nat) (I : ZI) (u3 : Option AV), s < 2 ^ c → qC I c ks F L → (∀ s2, s < s2 → s2 < 2 ^ c → ∀ j, j < c → s2.testBit j = true → I 58 (8 * s2 + j) = tV c F L s2 j) → (∀ J : ZI, (∀ s2, 0 < s2 → s2 < 2 ^ c → ∀ j, j < c → s2.testBit j = true → J 58 (8 * s2 + j) = tV c F L s2 j) → (∀ a b, ¬ a = 58 → J a b = I a b) → XIs (d + 3) 47 82 [some (.inr 53), some (.inl ((2 ^ c : Nat) - 1 : Int)), some (.inl 8), some (.inl ((c : Int) - 1)), u4] [] n sh R J Q) → XIs (d + 3) 47 11 [some (.inr 53), some (.inl ((2 ^ c : Nat) - 1 : Int)), some (.inl (s : Int)), u3, u4] [] n sh R I Q
  | 0, I, u3, hs, hC, h1, q => b_O_freest_11 hW (by
    rw [if_pos (by omega), hC.1]
    exact ⟨by unfold zr; omega, q I h1 fun _ _ _ => rfl⟩)
  | s + 1, I, u3, hs, hC, h1, q => b_O_freest_11 hW (by
    rw [if_neg (by omega)]
    refine l_O_freest18 hW hq c8 hs c 0 I (by omega) hC h1 (fun j hj => absurd hj (by omega)) fun J j1 j2 u3 => ?_
    rw [show ((s + 1 : Nat) : Int) + -1 = (s : Int) by omega]
    exact l_O_freest11 hW hq c8 s J u3 (by omega) ⟨by rw [j2 _ _ (by omega)]; exact hC.1, fun j hj => by rw [j2 _ _ (by omega), j2 _ _ (by omega), j2 _ _ (by omega)]; exact hC.2 j hj⟩ (fun s2 g1 => j1 s2 (by omega)) fun M m1 m2 => q M m1 fun a b hab => by rw [m2 a b hab, j2 a b hab])
-- the row
theorem l_O_row46 {Q : ZI → Prop} {s i p : Nat} {due : Int} (hW : Wf sh R) (hq : qOk K m c ks F L) (c8 : c ≤ 8) (hs : s < 2 ^ c) (hi : i < c) (hb : s.testBit i = true) (hp : 1 ≤ p ∧ p < c) (hd : due = tV c F L s i) : ∀ (j f : Nat) (I : ZI), j + f = c → qC I c ks F L → I 55 (p - 1) = (i : Int) → (∀ a, a < c → s.testBit a = false → I 58 (8 * (s ||| 2 ^ a) + a) = tV c F L (s ||| 2 ^ a) a) → (pFind (tNp c F L s i) j f = -1 ∨ I 55 p = pFind (tNp c F L s i) j f) → (∀ (J : ZI), (pFind (tNp c F L s i) 0 c = -1 ∨ J 55 p = pFind (tNp c F L s i) 0 c) → (∀ a b, ¬ (a = 55 ∧ b = p) → J a b = I a b) → (0 ≤ (p : Int) ∧ (p : Int) < 8) ∧ (zr ((p : Int) + 1)) ∧ XVs (d + 2) 50 11 [some (.inr 53), some (.inl (zor (s : Int) (zshl 1 (J 55 p)))), some (.inl ((p : Int) + 1)), some (.inl due), some (.inl (-1))] [] n sh R J Q) → XVs (d + 2) 50 46 [some (.inr 53), some (.inl (s : Int)), some (.inl (p : Int)), some (.inl due), some (.inl ((j : Int) - 1))] [] n sh R I Q
  | 0, f, I, h, hC, hi1, hT, hF, q => b_O_putRow_46 hW (by
    obtain rfl : f = c := by omega
    rw [if_pos (by omega), Int.toNat_natCast]
    exact q I hF fun _ _ _ => rfl)
  | j + 1, f, I, h, hC, hi1, hT, hF, q => b_O_putRow_46 hW (by
    have p8 : 2 ^ c ≤ 256 := Nat.le_trans (Nat.pow_le_pow_right (by decide) c8) (by decide)
    have e0 : ((j + 1 : Nat) : Int) - 1 = (j : Int) := by omega
    have e1 : ((p : Int) - 1).toNat = p - 1 := by omega
    have ef : pFind (tNp c F L s i) j (f + 1) = if tNp c F L s i j = true then (j : Int) else pFind (tNp c F L s i) (j + 1) f := rfl
    have e4 : (j : Int) + -1 = (j : Int) - 1 := by omega
    rw [e0, if_neg (by omega), zbit_n (by omega) (by omega), e1, hi1, Int.toNat_natCast]
    by_cases g : s.testBit j = true
    · rw [if_pos g, if_pos (by decide), e4]
      refine ⟨by unfold zr; omega, l_O_row46 hW hq c8 hs hi hb hp hd j (f + 1) I (by omega) hC hi1 hT ?_ q⟩
      rw [ef, if_neg (show ¬ tNp c F L s i j = true by unfold tNp; simp [g])]
      exact hF
    · have g' : s.testBit j = false := by simpa using g
      rw [if_neg g, if_neg (by decide)]
      refine ⟨by unfold zr; omega, by omega, ?_⟩
      refine s_O_breakWith hW hq hC c8 hs hi (by omega) (fun e => by rw [e] at hb; rw [hb] at g'; cases g') (hT j (by omega) g') ?_
      rw [e4]
      by_cases g2 : tR c F L i j + tV c F L (s ||| 2 ^ j) j = due
      · rw [if_neg (not_not_intro g2)]
        refine ⟨by omega, by unfold zr; omega, l_O_row46 hW hq c8 hs hi hb hp hd j (f + 1) _ (by omega) ⟨by rw [zup_ne (by omega)]; exact hC.1, fun j hj => by rw [zup_ne (by omega), zup_ne (by omega), zup_ne (by omega)]; exact hC.2 j hj⟩ (by rw [zup_ne (by omega)]; exact hi1) (fun a ha hb2 => by rw [zup_ne (by omega)]; exact hT a ha hb2) (.inr ?_) fun J j1 j2 => q J j1 fun a b hab => by rw [j2 a b hab, zup_ne (by omega)]⟩
        rw [zup_eq ⟨rfl, rfl⟩, ef, if_pos]
        unfold tNp
        rw [g', ← hd, decide_eq_true g2]
        rfl
      · rw [if_pos g2]
        refine ⟨by unfold zr; omega, l_O_row46 hW hq c8 hs hi hb hp hd j (f + 1) I (by omega) hC hi1 hT ?_ q⟩
        rw [ef, if_neg]
        · exact hF
        · unfold tNp
          rw [← hd, decide_eq_false g2]
          simp)
theorem l_O_row11 {Q : ZI → Prop} (hW : Wf sh R) (hq : qOk K m c ks F L) (c8 : c ≤ 8) : ∀ (f p : Nat) (I : ZI) (u3 u4 : Option AV), p + f = c → 1 ≤ p → qC I c ks F L → (∀ s2, 0 < s2 → s2 < 2 ^ c → ∀ j, j < c → s2.testBit j = true → I 58 (8 * s2 + j) = tV c F L s2 j) → (∀ k, k < p → I 55 k = (tS c F L (k + 1)).2) → (∀ J : ZI, qC J c ks F L → (∀ k, k < c → J 55 k = (tS c F L (k + 1)).2) → (∀ a b, ¬ a = 55 → J a b = I a b) → Q J) → XVs (d + 2) 50 11 [some (.inr 53), some (.inl ((tS c F L p).1 : Int)), some (.inl (p : Int)), u3, u4] [] n sh R I Q
  | 0, p, I, u3, u4, h, h1, hC, hT, h55, q => b_O_putRow_11 hW (by
    rw [hC.1, if_pos (by omega)]
    exact q I hC (fun k hk => h55 k (by omega)) fun _ _ _ => rfl)
  | f + 1, p, I, u3, u4, h, h1, hC, hT, h55, q => b_O_putRow_11 hW (by
    have p8 : 2 ^ c ≤ 256 := Nat.le_trans (Nat.pow_le_pow_right (by decide) c8) (by decide)
    obtain ⟨s1, s2, s3⟩ := tS_ok (F := F) (L := L) c8 p (by omega)
    have s3 := s3 (by omega)
    have nf := tS_nf (F := F) (L := L) c8 (k := p) (by omega)
    have e1 : ((p : Int) - 1).toNat = p - 1 := by omega
    have i55 := h55 (p - 1) (by omega)
    rw [show p - 1 + 1 = p by omega] at i55
    have s0 : 0 < (tS c F L p).1 := by
      apply Nat.pos_of_ne_zero
      intro e
      rw [e, Nat.zero_testBit] at s3
      cases s3.2
    have nx : tS c F L (p + 1) = ((tS c F L p).1 ||| 2 ^ (tA c F L (tS c F L p).1 (tS c F L p).2), tA c F L (tS c F L p).1 (tS c F L p).2) := rfl
    obtain ⟨t1, t2, t3, t4, t5⟩ := tA_ok (F := F) (L := L) (i := (tS c F L p).2) c8 s1 nf
    generalize hs : (tS c F L p).1 = s at *
    generalize hi : (tS c F L p).2 = i at *
    have eu : ((s : Int) * 8 + (i : Int)).toNat = 8 * s + i := by omega
    rw [hC.1, if_neg (by omega), e1, i55, eu, hT s s0 s1 i s3.1 s3.2]
    refine ⟨by unfold zr; omega, by unfold zr; omega, by omega, by unfold zr; omega, by omega, by unfold zr; omega, ?_⟩
    refine l_O_row46 hW hq c8 s1 s3.1 s3.2 ⟨h1, by omega⟩ rfl c 0 I (by omega) hC i55 (fun a ha hb => hT _ (by have := set_gt hb; omega) (set_lt s1 ha) a ha (by rw [set_bit]; simp)) (.inl rfl) fun J j1 j2 => ?_
    have j3 : J 55 p = (tA c F L s i : Int) := by
      rcases j1 with j1 | j1
      · omega
      · rw [j1, t1]
    refine ⟨by omega, by unfold zr; omega, ?_⟩
    rw [j3, (zor_set c8 s1 t2).1, show (p : Int) + 1 = ((p + 1 : Nat) : Int) by omega]
    have z := l_O_row11 hW hq c8 f (p + 1) J (some (.inl (tV c F L s i))) (some (.inl (-1))) (by omega) (by omega) ⟨by rw [j2 _ _ (by omega)]; exact hC.1, fun j hj => by rw [j2 _ _ (by omega), j2 _ _ (by omega), j2 _ _ (by omega)]; exact hC.2 j hj⟩ (fun s2 g1 g2 j hj hb => by rw [j2 _ _ (by omega)]; exact hT s2 g1 g2 j hj hb) (fun k hk => ?_) fun M m1 m2 m3 => q M m1 m2 fun a b hab => by rw [m3 a b hab, j2 a b (by omega)]
    · rw [nx] at z; exact z
    · by_cases e : k = p
      · subst e; rw [j3, nx]
      · rw [j2 _ _ (by omega)]; exact h55 k (by omega))
theorem l_O_freest82 {Q : Int → ZI → Prop} {u1 : Option AV} (hW : Wf sh R) (hq : qOk K m c ks F L) (c8 : c ≤ 8) (c1 : 1 ≤ c) : ∀ (j : Nat) (I : ZI) (y : Int) (u4 : Option AV), j ≤ c → qC I c ks F L → (∀ s2, 0 < s2 → s2 < 2 ^ c → ∀ j, j < c → s2.testBit j = true → I 58 (8 * s2 + j) = tV c F L s2 j) → (∀ a, j ≤ a → a < c → y ≤ tW c F L 0 c a) → (j = c ∧ y = 8 ∨ ∃ a0, j ≤ a0 ∧ a0 < c ∧ I 55 0 = (a0 : Int) ∧ y = tW c F L 0 c a0 ∧ ∀ a, j ≤ a → a < a0 → y < tW c F L 0 c a) → (∀ J : ZI, qC J c ks F L → (∀ k, k < c → J 55 k = (tS c F L (k + 1)).2) → (∀ a b, ¬ a = 55 → J a b = I a b) → Q (tV c F L 0 c) J) → XIs (d + 3) 47 82 [some (.inr 53), u1, some (.inl y), some (.inl ((j : Int) - 1)), u4] [] n sh R I Q
  | 0, I, y, u4, h, hC, hT, hy, ha, q => b_O_freest_82 hW (by
    have p2 : 2 ≤ 2 ^ c := Nat.le_trans (by decide : 2 ≤ 2 ^ 1) (Nat.pow_le_pow_right (by decide) c1)
    rw [if_pos (by omega)]
    rcases ha with ⟨a1, _⟩ | ⟨a0, a1, a2, a3, a4, a5⟩
    · omega
    have hs : 0 < 2 ^ c := by omega
    have nf : ¬ 0 + 1 = 2 ^ c := by omega
    have e := tV_eq2 (c := c) (F := F) (L := L) (i := c) hs
    rw [if_neg nf] at e
    have wr := tW_range (F := F) (L := L) (i := c) hs a2 c8
    have ev : tV c F L 0 c = y := by
      have l1 := (tMin_le (p := tN 0) (v := tW c F L 0 c) (m := 1000000000) c).2 a0 a2 (by unfold tN; rw [Nat.zero_testBit]; rfl)
      have l2 := tMin_ge (p := tN 0) (v := tW c F L 0 c) (m := 1000000000) (z := y) (by omega) c fun a ha _ => hy a (by omega) ha
      omega
    obtain ⟨t1, t2, t3, t4, t5⟩ := tA_ok (F := F) (L := L) (i := c) c8 hs nf
    have ea : tA c F L 0 c = a0 := by
      have w1 : tW c F L 0 c (tA c F L 0 c) = y := by rw [← ev]; exact t4
      have n1 : ¬ tA c F L 0 c < a0 := fun g => by
        have := a5 _ (by omega) g
        omega
      have n2 : ¬ a0 < tA c F L 0 c := fun g => t5 a0 g (by
        unfold tNp
        rw [Nat.zero_testBit]
        have : tR c F L c a0 + tV c F L (0 ||| 2 ^ a0) a0 = tV c F L 0 c := by rw [ev, a4]; rfl
        rw [decide_eq_true this]
        rfl)
      omega
    have e1 : tS c F L 1 = (0 ||| 2 ^ a0, a0) := by
      show (0 ||| 2 ^ (tA c F L 0 c), tA c F L 0 c) = _
      rw [ea]
    refine b_O_putRow_0 hW ?_
    rw [a3, zshl_n (by omega)]
    have z := l_O_row11 (d := d) (n := n) (Q := fun I2 => Q y I2) hW hq c8 (c - 1) 1 I none none (by omega) (by omega) hC hT (fun k hk => by
      obtain rfl : k = 0 := by omega
      rw [e1]; exact a3) fun J j1 j2 j3 => by
        have := q J j1 j2 j3
        rw [ev] at this
        exact this
    rw [e1, Nat.zero_or] at z
    exact z)
  | j + 1, I, y, u4, h, hC, hT, hy, ha, q => b_O_freest_82 hW (by
    have p8 : 2 ^ c ≤ 256 := Nat.le_trans (Nat.pow_le_pow_right (by decide) c8) (by decide)
    have pj : 2 ^ j < 2 ^ c := Nat.pow_lt_pow_right (by decide) (by omega)
    have e0 : ((j + 1 : Nat) : Int) - 1 = (j : Int) := by omega
    have e4 : (j : Int) + -1 = (j : Int) - 1 := by omega
    have bj : (2 ^ j).testBit j = true := by rw [Nat.testBit_two_pow]; simp
    have tj := hT (2 ^ j) (Nat.two_pow_pos j) pj j (by omega) bj
    have vr := tV_range (c := c) (F := F) (L := L) (i := j) pj
    have mp := tMs_pos (show j < c by omega) bj
    have ew : tW c F L 0 c j = 1 + tV c F L (2 ^ j) j := by
      unfold tW tR
      rw [if_pos rfl, Nat.zero_or]
    rw [e0, if_neg (by omega), zshl_n (by omega), e4]
    generalize 2 ^ j = u at *
    have eu : ((u : Int) * 8 + (j : Int)).toNat = 8 * u + j := by omega
    rw [eu, tj, ← ew]
    refine ⟨by unfold zr; omega, by unfold zr; omega, by omega, by unfold zr; omega, ?_⟩
    by_cases g : y < tW c F L 0 c j
    · rw [if_pos g]
      refine ⟨by unfold zr; omega, l_O_freest82 hW hq c8 c1 j I y _ (by omega) hC hT (fun a g1 g2 => ?_) ?_ q⟩
      · by_cases e : a = j
        · subst e; omega
        · exact hy a (by omega) g2
      · rcases ha with ⟨a1, a2⟩ | ⟨a0, a1, a2, a3, a4, a5⟩
        · omega
        · refine .inr ⟨a0, by omega, a2, a3, a4, fun a g1 g2 => ?_⟩
          by_cases e : a = j
          · subst e; exact g
          · exact a5 a (by omega) g2
    · rw [if_neg g]
      refine ⟨by unfold zr; omega, l_O_freest82 hW hq c8 c1 j _ _ _ (by omega) ⟨by rw [zup_ne (by omega)]; exact hC.1, fun j hj => by rw [zup_ne (by omega), zup_ne (by omega), zup_ne (by omega)]; exact hC.2 j hj⟩ (fun s2 g1 g2 j hj hb => by rw [zup_ne (by omega)]; exact hT s2 g1 g2 j hj hb) (fun a g1 g2 => ?_) (.inr ⟨j, by omega, by omega, zup_eq ⟨rfl, rfl⟩, rfl, fun a g1 g2 => by omega⟩) fun J j1 j2 j3 => q J j1 j2 fun a b hab => by rw [j3 a b hab, zup_ne (by omega)]⟩
      by_cases e : a = j
      · subst e; omega
      · have := hy a (by omega) g2
        omega)
theorem s_O_freest {I : ZI} {Q : Int → ZI → Prop} (hW : Wf sh R) (hq : qOk K m c ks F L) (hC : qC I c ks F L) (c8 : 1 ≤ c ∧ c ≤ 8) (q : ∀ J : ZI, qC J c ks F L → (∀ k, k < c → J 55 k = (tS c F L (k + 1)).2) → (∀ a b, ¬ a = 55 → ¬ a = 58 → J a b = I a b) → Q (tV c F L 0 c) J) : XI (d + 3) 47 [.inr 53] n sh R I Q := by
  have p8 : 2 ^ c ≤ 256 := Nat.le_trans (Nat.pow_le_pow_right (by decide) c8.2) (by decide)
  have p0 := Nat.two_pow_pos c
  refine b_O_freest_0 hW ?_
  rw [hC.1, zshl_n (by omega)]
  refine ⟨by unfold zr; omega, ?_⟩
  have z := l_O_freest11 (d := d) (n := n) (Q := Q) (u4 := none) hW hq c8.2 (2 ^ c - 1) I none (by omega) hC (fun s2 g1 g2 => by omega) fun J j1 j2 => l_O_freest82 hW hq c8.2 c8.1 c J 8 none (Nat.le_refl _) ⟨by rw [j2 _ _ (by omega)]; exact hC.1, fun j hj => by rw [j2 _ _ (by omega), j2 _ _ (by omega), j2 _ _ (by omega)]; exact hC.2 j hj⟩ j1 (fun a g1 g2 => by omega) (.inl ⟨rfl, rfl⟩) fun M m1 m2 m3 => q M m1 m2 fun a b h1 h2 => by rw [m3 a b h1, j2 a b h2]
  rw [show ((2 ^ c - 1 : Nat) : Int) = ((2 ^ c : Nat) : Int) - 1 by omega] at z
  exact z
end TO
