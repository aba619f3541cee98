-- TABLES in the class: letters and streets below, the fewest
def aLt (B : ZI) (H : List Int) : Nat → Int := pSum (fun s => (qCt (sK B H) s H.length : Int))
def aNo (B : ZI) (H : List Int) : Nat → Int := pSum (fun s => if 0 < qCt (sK B H) s H.length then 1 else 0)
theorem pSum_add {f k : Nat → Int} : ∀ n, pSum (fun s => f s + k s) n = pSum f n + pSum k n
  | 0 => rfl
  | n + 1 => by
    have ih := pSum_add (f := f) (k := k) n
    show pSum (fun s => f s + k s) n + (f n + k n) = (pSum f n + f n) + (pSum k n + k n)
    omega
theorem pSum_one {K : Int} : ∀ n, 0 ≤ pSum (fun s => if K = ((s : Nat) : Int) then 1 else 0) n ∧ pSum (fun s => if K = ((s : Nat) : Int) then 1 else 0) n ≤ 1 ∧ ((n : Int) ≤ K → pSum (fun s => if K = ((s : Nat) : Int) then 1 else 0) n = 0)
  | 0 => ⟨Int.le_refl 0, (by show (0 : Int) ≤ 1; decide), fun _ => rfl⟩
  | n + 1 => by
    have ih := pSum_one (K := K) n
    show 0 ≤ _ + (if K = ((n : Nat) : Int) then (1 : Int) else 0) ∧ _ + (if K = ((n : Nat) : Int) then (1 : Int) else 0) ≤ 1 ∧ (_ → _ + (if K = ((n : Nat) : Int) then (1 : Int) else 0) = 0)
    split <;> omega
theorem aLt_le {K : Nat → Int} (k : Nat) : ∀ m : Nat, 0 ≤ pSum (fun s => (qCt K s m : Int)) k ∧ pSum (fun s => (qCt K s m : Int)) k ≤ m
  | 0 => by
    have e : pSum (fun s => (qCt K s 0 : Int)) k = 0 := by
      have := pSum_range (f := fun s => (qCt K s 0 : Int)) (c := 0) k fun j _ => ⟨by show (0 : Int) ≤ ((0 : Nat) : Int); omega, by show ((0 : Nat) : Int) ≤ 0; omega⟩
      omega
    omega
  | m + 1 => by
    have ih := aLt_le (K := K) k m
    have e : pSum (fun s => (qCt K s (m + 1) : Int)) k = pSum (fun s => (qCt K s m : Int) + (if K m = ((s : Nat) : Int) then 1 else 0)) k := pSum_congr k fun s _ => by
      show ((qCt K s (m + 1) : Nat) : Int) = _
      rw [qCt_step]
      split <;> omega
    have o := pSum_one (K := K m) k
    rw [pSum_add] at e
    omega
theorem aPN_ok {B : ZI} {H : List Int} (hl : H.length ≤ 32) : aPN (aLt B H) (aNo B H) := by
  have s1 : ∀ k, aLt B H (k + 1) = aLt B H k + (qCt (sK B H) k H.length : Int) := fun _ => rfl
  have s2 : ∀ k, aNo B H (k + 1) = aNo B H k + (if 0 < qCt (sK B H) k H.length then 1 else 0) := fun _ => rfl
  refine ⟨fun k => by rw [s1]; omega, fun k => ?_, fun k => ?_, fun k => ?_⟩
  · rw [s1, s2]; split <;> omega
  · have := aLt_le (K := sK B H) k H.length
    unfold aLt; omega
  · induction k with
    | zero => exact ⟨Int.le_refl 0, Int.le_refl 0⟩
    | succ k ih => rw [s1, s2]; split <;> omega
section AE
variable {d n t : Nat} {sh : ZS} {R : ZR} {B : ZI} {lw S : Nat} {H : List Int} {g : Int} {LA : Nat → Int} {hs : Nat} {P N : Nat → Int}
theorem l_A_c42 {Q : ZI → Prop} (hW : Wf sh R) (hS : St sh R 18) (hh : hIn B H) {I0 : ZI} (q : ∀ J : ZI, (∀ k, k ≤ 20 → J 62 k = aLt B H k ∧ J 63 k = aNo B H k) → (∀ a b, ¬ a = 62 → ¬ (a = 63 ∧ 1 ≤ b) → J a b = I0 a b) → Q J) : ∀ (c k : Nat) (I : ZI) (u : Option AV), k + c = 20 → (∀ j, j ≤ k → I 62 j = aLt B H j ∧ I 63 j = aNo B H j) → (∀ j, k ≤ j → j < 20 → I 62 (j + 1) = (qCt (sK B H) j H.length : Int)) → (∀ a b, ¬ a = 62 → ¬ (a = 63 ∧ 1 ≤ b) → I a b = I0 a b) → XVs (d + 1) 73 42 [some (.inr 61), u, some (.inl (k : Int))] [] n sh R I Q
  | 0, k, I, u, h, h1, h2, hf => b_A_countLetters_42 hW hS (by
    rw [if_pos (by omega)]
    exact q I (fun j hj => h1 j (by omega)) hf)
  | c + 1, k, I, u, h, h1, h2, hf => b_A_countLetters_42 hW hS (by
    have e2 : ((k : Int) + 1).toNat = k + 1 := by omega
    have a1 := h1 k (Nat.le_refl k)
    have a2 := h2 k (Nat.le_refl k) (by omega)
    have pn := aPN_ok (B := B) hh.1
    have r1 := pn.2.2.1 k
    have r2 := pn.2.2.2 k
    have r3 := pn.2.2.1 (k + 1)
    have s1 : aLt B H (k + 1) = aLt B H k + (qCt (sK B H) k H.length : Int) := rfl
    have s2 : aNo B H (k + 1) = aNo B H k + (if 0 < qCt (sK B H) k H.length then 1 else 0) := rfl
    rw [if_neg (by omega), e2, Int.toNat_natCast, a1.1, a1.2, a2, show (k : Int) + 1 = ((k + 1 : Nat) : Int) by omega]
    have e3 : (if (qCt (sK B H) k H.length : Int) < 1 then (qCt (sK B H) k H.length : Int) else 1) = if 0 < qCt (sK B H) k H.length then 1 else 0 := by split <;> split <;> omega
    rw [e3, ← s2]
    have r4 := pn.2.2.2 (k + 1)
    refine ⟨by unfold zr; omega, by omega, by omega, by unfold zr; omega, by unfold zr; omega, l_A_c42 hW hS hh q c (k + 1) _ u (by omega) (fun j hj => ?_) (fun j hj hj2 => by rw [zup_ne (by omega), zup_ne (by omega)]; exact h2 j (by omega) hj2) fun a b g1 g2 => by rw [zup_ne (by omega), zup_ne (by omega)]; exact hf a b g1 g2⟩
    by_cases e : j = k + 1
    · rw [zup_eq ⟨rfl, e⟩, zup_ne (by omega), zup_eq ⟨rfl, e⟩, e, s1]
      exact ⟨by omega, rfl⟩
    · rw [zup_ne (by omega), zup_ne (by omega), zup_ne (by omega), zup_ne (by omega)]
      exact h1 j (by omega))
theorem l_A_c10 {Q : ZI → Prop} (hW : Wf sh R) (hS : St sh R 18) (hb : bOk B S) (hh : hIn B H) {I0 : ZI} (q : ∀ J : ZI, (∀ k, k < 20 → J 62 (k + 1) = (qCt (sK B H) k H.length : Int)) → J 62 0 = 0 → (∀ a b, ¬ a = 62 → J a b = I0 a b) → XVs (d + 1) 73 42 [some (.inr 61), some (.inr 18), some (.inl 0)] [] n sh R J Q) : ∀ (c p : Nat) (I : ZI), p + c = H.length → gSt B I 18 H g LA → (∀ k, k < 20 → I 62 (k + 1) = (qCt (sK B H) k p : Int)) → I 62 0 = 0 → (∀ a b, ¬ a = 62 → I a b = I0 a b) → XVs (d + 1) 73 10 [some (.inr 61), some (.inr 18), some (.inl (p : Int))] [] n sh R I Q
  | 0, p, I, h, hH, h1, h0, hf => b_A_countLetters_10 hW hS (by
    obtain rfl : p = H.length := by omega
    rw [hH.1.2.1, if_pos (by omega)]
    exact q I h1 h0 hf)
  | c + 1, p, I, h, hH, h1, h0, hf => b_A_countLetters_10 hW hS (by
    have r := sK_range hb hh (p := p) (by omega)
    have l9 := hh.1
    have e1 : I (18 + 5) p = H.getD p 0 := hH.2.1 p (by omega)
    have e2 : I (18 + 1) (H.getD p 0).toNat = sK B H p := (hH.2.2 (H.getD p 0).toNat (by omega)).1
    have e3 : (sK B H p + 1).toNat = (sK B H p).toNat + 1 := by omega
    have cl := pCount_le (p := fun q => decide (sK B H q = ((sK B H p).toNat : Nat))) p
    have h1p := h1 (sK B H p).toNat (by omega)
    have h1q := h1p
    unfold qCt at h1q
    rw [hH.1.2.1, if_neg (by omega), Int.toNat_natCast, e1, e2, e3, show (p : Int) + 1 = ((p + 1 : Nat) : Int) by omega]
    refine ⟨by omega, by omega, by unfold zr; omega, by omega, by unfold zr; omega, by unfold zr; omega, l_A_c10 hW hS hb hh q c (p + 1) _ (by omega) (hH.fr fun a b hab => zup_ne (by omega)) (fun k hk => ?_) (by rw [zup_ne (by omega)]; exact h0) fun a b g => by rw [zup_ne (by omega)]; exact hf a b g⟩
    rw [qCt_step]
    by_cases e : k = (sK B H p).toNat
    · rw [zup_eq ⟨rfl, by rw [e]⟩, h1p, if_pos (by omega), e]; omega
    · rw [zup_ne (by omega), h1 k hk, if_neg (by omega)]; omega)
theorem s_A_count {I : ZI} {Q : ZI → Prop} (hW : Wf sh R) (hb : bOk B S) (hh : hIn B H) (hH : gSt B I 18 H g LA) (h63 : I 63 0 = 0) (q : ∀ J : ZI, (∀ k, k ≤ 20 → J 62 k = aLt B H k ∧ J 63 k = aNo B H k) → (∀ a b, ¬ a = 62 → ¬ (a = 63 ∧ 1 ≤ b) → J a b = I a b) → Q J) : XV (d + 1) 73 [.inr 61, .inr 18] n sh R I Q :=
  b_A_countLetters_0 hW (St_18 hW) (s_fill (sh_62 hW) (by decide) fun J j1 j2 => l_A_c10 (I0 := J) (B := B) (H := H) (g := g) (LA := LA) hW (St_18 hW) hb hh (fun K k1 k0 k2 => l_A_c42 (I0 := I) hW (St_18 hW) hh q 20 0 K _ (by omega) (fun j hj => by
    obtain rfl : j = 0 := by omega
    exact ⟨k0, by rw [k2 _ _ (by omega), j2 _ _ (by omega)]; exact h63⟩) (fun j _ hj => k1 j hj) fun a b g1 g2 => by rw [k2 a b g1, j2 a b g1]) H.length 0 J (by omega) (hH.fr fun a b hab => j2 a b (by omega)) (fun k hk => by rw [j1 (k + 1) (by omega)]; rfl) (j1 0 (by omega)) fun _ _ _ => rfl)
/-- what fewest leaves behind -/
def aLeft (hs : Nat) (P N : Nat → Int) (a b k : Nat) (J : ZI) (R2 : ZR) : Prop := aX hs P N J ∧ aKn (R2 61 4) (aT P (aA N) hs k) a b J ∧ aSp (aT P (aA N) hs k) a b hs J
theorem l_A_80 {Q : Int → ZI → ZR → Prop} {a b m : Nat} {u1 : Option AV} {I0 : ZI} {R0 : ZR} (hP : aPN P N) (hm : m + 1 ≤ 12) (hb : a ≤ b ∧ b < 20) (hh : 1 ≤ hs ∧ hs ≤ 9) (hA : ¬ aA N a b = true)
    (q : ∀ (J : ZI) (R2 : ZR), Wf sh R2 → rTab R2 → (∀ o c, ¬ o = 61 → R2 o c = R0 o c) → aLeft hs P N a b m J R2 → (∀ o c, ¬ (66 ≤ o ∧ o ≤ 116) → J o c = I0 o c) → Q (aL (aT P (aA N) hs (m + 1) a b)) J R2) :
    ∀ (c k : Nat) (I : ZI) (R : ZR) (v : Int), k + c = m → Wf sh R → rTab R → (∀ o c, ¬ o = 61 → R o c = R0 o c) → aX hs P N I → (v = 0 ∨ v = 1) → (v = 0 → ∀ x z, a ≤ x → x ≤ z → z ≤ b → aT P (aA N) hs m x z = aT P (aA N) hs k x z) → aKn (R 61 4) (aT P (aA N) hs k) a b I → (∀ o c, ¬ (66 ≤ o ∧ o ≤ 116) → I o c = I0 o c) → XRs (d + 3) 72 80 [some (.inr 61), u1, some (.inl (a : Int)), some (.inl (b : Int)), some (.inl ((m + 1 : Nat) : Int)), some (.inl v), some (.inl ((k + 1 : Nat) : Int))] [] n sh R I Q := by
  have fin : ∀ (I : ZI) (R : ZR), Wf sh R → rTab R → (∀ o c, ¬ o = 61 → R o c = R0 o c) → aX hs P N I → aKn (R 61 4) (aT P (aA N) hs m) a b I → (∀ o c, ¬ (66 ≤ o ∧ o ≤ 116) → I o c = I0 o c) → XV (d + 2) 77 [.inr 61, .inl (a : Int), .inl (b : Int)] n sh R I (fun I2 => XI (d + 2) 79 [.inr 61, .inl (a : Int), .inl (b : Int)] n sh R I2 (fun v3 I4 => Q v3 I4 R)) := fun I R hW hR hRf hX hK hf => by
    have tn := aT_tn (hs := hs) hP (show m ≤ 12 by omega)
    refine s_A_split (T := aT P (aA N) hs m) (hs := hs) hW hR tn hb hh hX.1 hK fun J j1 j2 => ?_
    have hX2 : aX hs P N J := hX.fr fun o b ho => j2 o b (by omega)
    refine s_A_throws (d := d + 1) (a := a) hW hP tn ⟨Nat.le_refl a, hb.1, hb.2⟩ hh hX2 j1 ?_
    have e := aT_S (P := P) (N := N) (hs := hs) (k := m) (x := a) (y := b)
    rw [if_neg hA] at e
    rw [← e]
    unfold rTab at hR
    exact q J R hW hR hRf ⟨hX2, fun x z h1 h2 h3 => by rw [j2 _ _ (by omega)]; exact hK x z h1 h2 h3, j1⟩ fun o c ho => by rw [j2 o c (by omega)]; exact hf o c ho
  intro c
  induction c with
  | zero =>
    intro k I R v h hW hR hRf hX hv h0 hK hf
    refine b_A_fewest_80 hW (St_18 hW) ?_
    obtain rfl : k = m := by omega
    rw [if_pos (by omega)]
    exact fin I R hW hR hRf hX hK hf
  | succ c ih =>
    intro k I R v h hW hR hRf hX hv h0 hK hf
    refine b_A_fewest_80 hW (St_18 hW) ?_
    rw [if_neg (by omega)]
    by_cases e : v = 0
    · rw [if_pos e]
      refine fin I R hW hR hRf hX (fun x z h1 h2 h3 => ?_) hf
      rw [h0 e x z h1 h2 h3]; exact hK x z h1 h2 h3
    · rw [if_neg e]
      refine s_A_deeper (d := d) hW hR hP (show k + 1 ≤ 12 by omega) hb hh hX hK fun v J R2 w1 w2 w3 w4 w5 w6 w7 => ⟨by unfold zr; omega, ?_⟩
      rw [show ((k + 1 : Nat) : Int) + 1 = ((k + 1 + 1 : Nat) : Int) by omega]
      refine ih (k + 1) J R2 v (by omega) w1 w2 (fun o c ho => by rw [w3 o c ho]; exact hRf o c ho) (hX.fr fun o b ho => w7 o b (by omega)) w4 (fun e x z h1 h2 h3 => ?_) w6 fun o c ho => by rw [w7 o c ho]; exact hf o c ho
      have st := aT_still (P := P) (A := aA N) (hs := hs) (g := k) (a0 := a) (b0 := b) (w5 e) (c + 1) x z h1 h2 h3
      rw [show k + (c + 1) = m by omega] at st
      rw [st, w5 e x z h1 h2 h3]
theorem l_A_29 {Q : Int → ZI → ZR → Prop} {a b x : Nat} {u1 : Option AV} {x4 : Int} (hW : Wf sh R) (hR : rTab R) (hP : aPN P N) (hb : a ≤ b ∧ b < 20) (hx : a ≤ x ∧ x ≤ b) {I0 : ZI} (hX : aX hs P N I0) (q : ∀ (J : ZI) (u : Option AV), (∀ x2 z, a ≤ x2 → x2 ≤ x → x2 ≤ z → z ≤ b → J (R 61 4 + 1 + x2) z = aL (aT P (aA N) hs 0 x2 z)) → (∀ o c, ¬ (R 61 4 + 1 ≤ o ∧ o ≤ R 61 4 + 20) → J o c = I0 o c) → XRs (d + 3) 72 19 [some (.inr 61), u1, some (.inl (a : Int)), some (.inl (b : Int)), some (.inl x4), some (.inl ((x + 1 : Nat) : Int)), u] [] n sh R J Q) :
    ∀ (c y : Nat) (I : ZI), y + c = b + 1 → x ≤ y → (∀ x2 z, a ≤ x2 → x2 ≤ z → z ≤ b → (x2 < x ∨ x2 = x ∧ z < y) → I (R 61 4 + 1 + x2) z = aL (aT P (aA N) hs 0 x2 z)) → (∀ o c, ¬ (R 61 4 + 1 ≤ o ∧ o ≤ R 61 4 + 20) → I o c = I0 o c) → XRs (d + 3) 72 29 [some (.inr 61), u1, some (.inl (a : Int)), some (.inl (b : Int)), some (.inl x4), some (.inl (x : Int)), some (.inl (y : Int))] [] n sh R I Q
  | 0, y, I, h, hy, hK, hf => b_A_fewest_29 hW (St_18 hW) (aTabs hW hR).1 (by
    rw [if_pos (by omega), show (x : Int) + 1 = ((x + 1 : Nat) : Int) by omega]
    exact ⟨by unfold zr; omega, q I _ (fun x2 z h1 h2 h3 h4 => hK x2 z h1 h3 h4 (by omega)) hf⟩)
  | c + 1, y, I, h, hy, hK, hf => b_A_fewest_29 hW (St_18 hW) (aTabs hW hR).1 (by
    have hR2 := hR
    unfold rTab at hR2
    have e2 : ((y : Int) + 1).toNat = y + 1 := by omega
    have n1 : I 63 (y + 1) = N (y + 1) := by rw [hf _ _ (by omega)]; exact (hX.2 (y + 1) (by omega)).2
    have n2 : I 63 x = N x := by rw [hf _ _ (by omega)]; exact (hX.2 x (by omega)).2
    have r1 := hP.2.2.2 (y + 1)
    have r2 := hP.2.2.2 x
    have r3 := hP.2.2.1 (y + 1)
    have r4 := hP.2.2.1 x
    rw [if_neg (by omega), e2, Int.toNat_natCast, Int.toNat_natCast, n1, n2, show (y : Int) + 1 = ((y + 1 : Nat) : Int) by omega]
    refine ⟨by omega, by unfold zr; omega, by omega, by omega, by unfold zr; omega, ?_⟩
    have nx : ∀ w : Int, w = aL (aT P (aA N) hs 0 x y) → (0 ≤ (y : Int) ∧ (y : Int) < 20) ∧ XRs (d + 3) 72 29 [some (.inr 61), u1, some (.inl (a : Int)), some (.inl (b : Int)), some (.inl x4), some (.inl (x : Int)), some (.inl ((y + 1 : Nat) : Int))] [] n sh R (zup I (R 61 4 + 1 + x) y w) Q := fun w hw => by
      refine ⟨by omega, l_A_29 hW hR hP hb hx hX q c (y + 1) _ (by omega) (by omega) (fun x2 z h1 h2 h3 h4 => ?_) fun o c ho => by rw [zup_ne (by omega)]; exact hf o c ho⟩
      by_cases e : x2 = x ∧ z = y
      · rw [zup_eq ⟨by omega, e.2⟩, hw, e.1, e.2]
      · rw [zup_ne (by omega)]; exact hK x2 z h1 h2 h3 (by omega)
    by_cases g1 : 1 < N (y + 1) - N x
    · rw [if_pos g1]
      refine nx _ ?_
      show _ = aL (if aA N x y = true then 0 else 1000000000)
      rw [if_neg (aA_iff.mpr g1)]; decide
    · rw [if_neg g1]
      refine nx _ ?_
      show _ = aL (if aA N x y = true then 0 else 1000000000)
      rw [if_pos (by have := aA_iff (N := N) (x := x) (y := y); by_cases z : aA N x y = true; exact z; exact absurd (this.mp z) g1)]; decide)
theorem l_A_19 {Q : Int → ZI → ZR → Prop} {a b : Nat} {u1 : Option AV} {x4 : Int} (hW : Wf sh R) (hR : rTab R) (hP : aPN P N) (hb : a ≤ b ∧ b < 20) {I0 : ZI} (hX : aX hs P N I0) (q : ∀ J : ZI, aKn (R 61 4) (aT P (aA N) hs 0) a b J → (∀ o c, ¬ (R 61 4 + 1 ≤ o ∧ o ≤ R 61 4 + 20) → J o c = I0 o c) → XRs (d + 3) 72 80 [some (.inr 61), u1, some (.inl (a : Int)), some (.inl (b : Int)), some (.inl x4), some (.inl 1), some (.inl 1)] [] n sh R J Q) :
    ∀ (c x : Nat) (I : ZI) (u : Option AV), x + c = b + 1 → a ≤ x → (∀ x2 z, a ≤ x2 → x2 < x → x2 ≤ z → z ≤ b → I (R 61 4 + 1 + x2) z = aL (aT P (aA N) hs 0 x2 z)) → (∀ o c, ¬ (R 61 4 + 1 ≤ o ∧ o ≤ R 61 4 + 20) → I o c = I0 o c) → XRs (d + 3) 72 19 [some (.inr 61), u1, some (.inl (a : Int)), some (.inl (b : Int)), some (.inl x4), some (.inl (x : Int)), u] [] n sh R I Q
  | 0, x, I, u, h, hx, hK, hf => b_A_fewest_19 hW (St_18 hW) (by
    rw [if_pos (by omega)]
    exact q I (fun x2 z h1 h2 h3 => hK x2 z h1 (by omega) h2 h3) hf)
  | c + 1, x, I, u, h, hx, hK, hf => b_A_fewest_19 hW (St_18 hW) (by
    have hR2 := hR
    unfold rTab at hR2
    rw [if_neg (by omega)]
    refine l_A_29 (I0 := I) hW hR hP hb (show a ≤ x ∧ x ≤ b by omega) (hX.fr fun o b ho => hf o b (by omega)) (fun J u j1 j2 => l_A_19 hW hR hP hb hX q c (x + 1) J u (by omega) (by omega) (fun x2 z h1 h2 h3 h4 => j1 x2 z h1 (by omega) h3 h4) fun o c ho => by rw [j2 o c ho]; exact hf o c ho) (b + 1 - x) x I (by omega) (Nat.le_refl x) (fun x2 z h1 h2 h3 h4 => hK x2 z h1 (by omega) h2 h3) fun _ _ _ => rfl)
theorem s_A_fewest {Q : Int → ZI → ZR → Prop} {a b m : Nat} {I : ZI} (hW : Wf sh R) (hR : rTab R) (hb2 : bOk B S) (hi : hIn B H) (hH : gSt B I 18 H g LA) (h63 : I 63 0 = 0) (h15 : I 15 0 = (hs : Int)) (hm : m + 1 ≤ 12) (hb : a ≤ b ∧ b < 20) (hh : 1 ≤ hs ∧ hs ≤ 9)
    (q0 : aA (aNo B H) a b = true → ∀ J : ZI, (∀ o c, ¬ (o = 62) → ¬ (o = 63 ∧ 1 ≤ c) → J o c = I o c) → Q 0 J R)
    (q : ¬ aA (aNo B H) a b = true → ∀ (J : ZI) (R2 : ZR), Wf sh R2 → rTab R2 → (∀ o c, ¬ o = 61 → R2 o c = R o c) → aLeft hs (aLt B H) (aNo B H) a b m J R2 → (∀ o c, ¬ (o = 62) → ¬ (o = 63 ∧ 1 ≤ c) → ¬ (66 ≤ o ∧ o ≤ 116) → J o c = I o c) → Q (aL (aT (aLt B H) (aA (aNo B H)) hs (m + 1) a b)) J R2) : XR (d + 3) 72 [.inr 61, .inr 18, .inl (a : Int), .inl (b : Int), .inl ((m + 1 : Nat) : Int)] n sh R I Q :=
  b_A_fewest_0 hW (St_18 hW) (s_A_count (d := d + 1) hW hb2 hi hH h63 fun J j1 j2 => by
    have hP := aPN_ok (B := B) hi.1
    have e2 : ((b : Int) + 1).toNat = b + 1 := by omega
    have r1 := hP.2.2.2 (b + 1)
    have r2 := hP.2.2.2 a
    have r3 := hP.2.2.1 (b + 1)
    have r4 := hP.2.2.1 a
    have hR2 := hR
    unfold rTab at hR2
    rw [e2, Int.toNat_natCast, (j1 (b + 1) (by omega)).2, (j1 a (by omega)).2]
    refine ⟨by unfold zr; omega, by omega, by omega, by unfold zr; omega, ?_⟩
    by_cases g1 : 1 < aNo B H (b + 1) - aNo B H a
    · rw [if_pos g1]
      have hA := aA_iff.mpr g1
      have hX : aX hs (aLt B H) (aNo B H) J := ⟨by rw [j2 _ _ (by omega) (by omega)]; exact h15, j1⟩
      refine l_A_19 (I0 := J) hW hR hP hb hX (fun K k1 k2 => ?_) (b + 1 - a) a J _ (by omega) (Nat.le_refl a) (fun x2 z h1 h2 h3 h4 => absurd h2 (by omega)) fun _ _ _ => rfl
      exact l_A_80 (d := d) (I0 := K) (R0 := R) hP hm hb hh hA (fun M R2 w1 w2 w3 w4 w5 => q hA M R2 w1 w2 w3 w4 fun o c g1 g2 g3 => by rw [w5 o c g3, k2 o c (by omega), j2 o c g1 g2]) m 0 K R 1 (by omega) hW hR (fun _ _ _ => rfl) (hX.fr fun o b ho => k2 o b (by omega)) (.inr rfl) (fun e => absurd e (by decide)) k1 fun _ _ _ => rfl
    · rw [if_neg g1]
      refine q0 (by have := aA_iff (N := aNo B H) (x := a) (y := b); by_cases z : aA (aNo B H) a b = true; exact z; exact absurd (this.mp z) g1) J j2)
end AE
