-- A YARD with QUEUES, with PIPES alone
def yB (up : Bool) (a : Int) : Bool := if up = true then decide (0 < a) else decide (a < 0)
def yMx (a b : Int) : Int := if a < b then b else a
def yIn (K : Nat → Int) (up : Bool) (tb : Nat → Int) (k : Nat) : Nat → Int
  | 0 => 1
  | j + 1 => if yB up (K k - K j) = true then yMx (yIn K up tb k j) (tb j + 1) else yIn K up tb k j
def yTb (K : Nat → Int) (up : Bool) : Nat → Nat → Int
  | 0 => fun _ => 0
  | k + 1 => fun q => if q = k then yIn K up (yTb K up k) k k else yTb K up k q
def yBest (K : Nat → Int) (up : Bool) : Nat → Int
  | 0 => 0
  | k + 1 => yMx (yBest K up k) (yTb K up (k + 1) k)
theorem yIn_range {K : Nat → Int} {up : Bool} {tb : Nat → Int} {k : Nat} : ∀ j : Nat, (∀ q : Nat, q < j → 1 ≤ tb q ∧ tb q ≤ q + 1) → 1 ≤ yIn K up tb k j ∧ yIn K up tb k j ≤ j + 1
  | 0, _ => ⟨Int.le_refl 1, by show (1 : Int) ≤ ((0 : Nat) : Int) + 1; omega⟩
  | j + 1, h => by
    have ih := yIn_range (K := K) (up := up) (tb := tb) (k := k) j fun q hq => h q (by omega)
    have e : yIn K up tb k (j + 1) = if yB up (K k - K j) = true then yMx (yIn K up tb k j) (tb j + 1) else yIn K up tb k j := rfl
    have hj := h j (by omega)
    rw [e]
    unfold yMx
    split <;> (try split) <;> omega
theorem yTb_range {K : Nat → Int} {up : Bool} : ∀ k q : Nat, q < k → 1 ≤ yTb K up k q ∧ yTb K up k q ≤ q + 1
  | 0, q, h => by omega
  | k + 1, q, h => by
    have ih := yTb_range (K := K) (up := up) k
    have e : yTb K up (k + 1) q = if q = k then yIn K up (yTb K up k) k k else yTb K up k q := rfl
    rw [e]
    by_cases g : q = k
    · rw [if_pos g, g]; exact yIn_range k ih
    · rw [if_neg g]; exact ih q (by omega)
theorem yBest_range {K : Nat → Int} {up : Bool} : ∀ k : Nat, 0 ≤ yBest K up k ∧ yBest K up k ≤ k
  | 0 => ⟨Int.le_refl 0, Int.le_refl 0⟩
  | k + 1 => by
    have ih := yBest_range (K := K) (up := up) k
    have r := yTb_range (K := K) (up := up) (k + 1) k (by omega)
    have e : yBest K up (k + 1) = yMx (yBest K up k) (yTb K up (k + 1) k) := rfl
    rw [e]; unfold yMx
    split <;> omega
section YQ
variable {d n t : Nat} {sh : ZS} {R : ZR} {B : ZI} {lw S : Nat} {H : List Int} {g : Int} {LA : Nat → Int}
theorem l_Y_in {Q : Int → ZI → Prop} {K : Nat → Int} {up : Bool} {m k : Nat} {x3 x4 : Int} (hW : Wf sh R) (hm : m ≤ 32) (hk : k < m) (hK : ∀ p, p < m → 0 ≤ K p ∧ K p < 20) (hx : x3 = if up = true then 1 else -1) : ∀ (c j : Nat) (I : ZI), j + c = k → (∀ q, q < m → I 14 q = K q) → (∀ q, q < k → I 119 q = yTb K up k q) → I 119 k = yIn K up (yTb K up k) k j → (∀ J : ZI, (∀ q, q < k + 1 → J 119 q = yTb K up (k + 1) q) → (∀ a b, ¬ a = 119 → J a b = I a b) → XIs d 89 23 [some (.inr 117), some (.inr 14), some (.inl (m : Int)), some (.inl x3), some (.inl x4), some (.inl (k : Int)), some (.inl (k : Int))] [] n sh R J Q) → XIs d 89 23 [some (.inr 117), some (.inr 14), some (.inl (m : Int)), some (.inl x3), some (.inl x4), some (.inl (k : Int)), some (.inl (j : Int))] [] n sh R I Q
  | 0, j, I, h, h14, h9, hk9, q => by
    obtain rfl : j = k := by omega
    refine q I (fun q hq => ?_) fun _ _ _ => rfl
    have e : yTb K up (j + 1) q = if q = j then yIn K up (yTb K up j) j j else yTb K up j q := rfl
    rw [e]
    by_cases g : q = j
    · rw [if_pos g, g]; exact hk9
    · rw [if_neg g]; exact h9 q (by omega)
  | c + 1, j, I, h, h14, h9, hk9, q => b_Y_longestRow_23 hW (by
    have kk := hK k hk
    have kj := hK j (by omega)
    have rj := yTb_range (K := K) (up := up) k j (by omega)
    have ri := yIn_range (K := K) (up := up) (k := k) j fun q hq => yTb_range (K := K) (up := up) k q (by omega)
    have e : yIn K up (yTb K up k) k (j + 1) = if yB up (K k - K j) = true then yMx (yIn K up (yTb K up k) k j) (yTb K up k j + 1) else yIn K up (yTb K up k) k j := rfl
    rw [if_neg (by omega), Int.toNat_natCast, Int.toNat_natCast, h14 k hk, h14 j (by omega), h9 j (by omega), hk9, show (j : Int) + 1 = ((j + 1 : Nat) : Int) by omega]
    have hb : yB up (K k - K j) = true ↔ ¬ x3 * (K k - K j) ≤ 0 := by
      unfold yB
      cases up with
      | true =>
        rw [if_pos rfl] at hx
        rw [if_pos rfl, decide_eq_true_iff, hx]; omega
      | false =>
        rw [if_neg (by decide)] at hx
        rw [if_neg (by decide), decide_eq_true_iff, hx]; omega
    have hz : zr (x3 * (K k - K j)) := by
      unfold zr
      cases up with
      | true => rw [if_pos rfl] at hx; rw [hx]; omega
      | false => rw [if_neg (by decide)] at hx; rw [hx]; omega
    refine ⟨by omega, by omega, by unfold zr; omega, hz, ?_⟩
    by_cases g1 : x3 * (K k - K j) ≤ 0
    · rw [if_pos g1]
      rw [if_neg (fun c => hb.mp c g1)] at e
      exact ⟨by unfold zr; omega, l_Y_in hW hm hk hK hx c (j + 1) I (by omega) h14 h9 (by rw [e]; exact hk9) q⟩
    · rw [if_neg g1]
      rw [if_pos (hb.mpr g1)] at e
      refine ⟨by unfold zr; omega, by unfold zr; omega, ?_⟩
      exact l_Y_in hW hm hk hK hx c (j + 1) _ (by omega) (fun q hq => by rw [zup_ne (by omega)]; exact h14 q hq) (fun q hq => by rw [zup_ne (by omega)]; exact h9 q hq) (by rw [zup_eq ⟨rfl, rfl⟩, e]; rfl) fun J j1 j2 => q J j1 fun a b hab => by rw [j2 a b hab, zup_ne (by omega)])
theorem l_Y_out {Q : Int → ZI → Prop} {K : Nat → Int} {up : Bool} {m : Nat} {x3 : Int} (hW : Wf sh R) (hm : m ≤ 32) (hK : ∀ p, p < m → 0 ≤ K p ∧ K p < 20) (hx : x3 = if up = true then 1 else -1) : ∀ (c k : Nat) (I : ZI) (u : Option AV), k + c = m → (∀ q, q < m → I 14 q = K q) → (∀ q, q < k → I 119 q = yTb K up k q) → (∀ J : ZI, (∀ a b, ¬ a = 119 → J a b = I a b) → Q (yBest K up m) J) → XIs d 89 6 [some (.inr 117), some (.inr 14), some (.inl (m : Int)), some (.inl x3), some (.inl (yBest K up k)), some (.inl (k : Int)), u] [] n sh R I Q
  | 0, k, I, u, h, h14, h9, q => b_Y_longestRow_6 hW (by
    obtain rfl : k = m := by omega
    rw [if_pos (by omega)]
    exact q I fun _ _ _ => rfl)
  | c + 1, k, I, u, h, h14, h9, q => b_Y_longestRow_6 hW (by
    rw [if_neg (by omega), Int.toNat_natCast]
    refine ⟨by omega, l_Y_in hW hm (show k < m by omega) hK hx k 0 _ (by omega) (fun q hq => by rw [zup_ne (by omega)]; exact h14 q hq) (fun q hq => by rw [zup_ne (by omega)]; exact h9 q hq) (zup_eq ⟨rfl, rfl⟩) fun J j1 j2 => b_Y_longestRow_23 hW ?_⟩
    rw [if_pos (by omega), Int.toNat_natCast, j1 k (by omega), show (k : Int) + 1 = ((k + 1 : Nat) : Int) by omega]
    refine ⟨by omega, by unfold zr; omega, ?_⟩
    exact l_Y_out hW hm hK hx c (k + 1) J _ (by omega) (fun q hq => by rw [j2 _ _ (by omega), zup_ne (by omega)]; exact h14 q hq) j1 fun L l1 => q L fun a b hab => by rw [l1 a b hab, j2 a b hab, zup_ne (by omega)])
theorem l_M_lr22 {Q : Int → ZI → Prop} {up : Bool} {k : Nat} {x1 x2 : Int} (hW : Wf sh R) (hb : bOk B S) (hh : hIn B H) (hk : k < H.length) (hx : x1 = if up = true then 1 else 0) : ∀ (c j : Nat) (I : ZI) (u : Option AV), j + c = k → mEnv B I → mSt I H g LA → (∀ q, q < k → I 170 q = yTb (rK B H) up k q) → I 170 k = yIn (rK B H) up (yTb (rK B H) up k) k j → (∀ J : ZI, (∀ q, q < k + 1 → J 170 q = yTb (rK B H) up (k + 1) q) → (∀ a b, ¬ a = 170 → J a b = I a b) → ∀ u, XIs (d + 1) 220 22 [some (.inr 137), some (.inl x1), some (.inl x2), some (.inl (k : Int)), some (.inl (k : Int)), u] [] n sh R J Q) → XIs (d + 1) 220 22 [some (.inr 137), some (.inl x1), some (.inl x2), some (.inl (k : Int)), some (.inl (j : Int)), u] [] n sh R I Q
  | 0, j, I, u, h, hE, hH, h9, hk9, q => by
    obtain rfl : j = k := by omega
    refine q I (fun q hq => ?_) (fun _ _ _ => rfl) u
    have e : yTb (rK B H) up (j + 1) q = if q = j then yIn (rK B H) up (yTb (rK B H) up j) j j else yTb (rK B H) up j q := rfl
    rw [e]
    by_cases g : q = j
    · rw [if_pos g, g]; exact hk9
    · rw [if_neg g]; exact h9 q (by omega)
  | c + 1, j, I, u, h, hE, hH, h9, hk9, q => b_M_longestRow_22 hW (by
    have l9 := hh.1
    have rk := rK_range hb hh (p := k) hk
    have rj := rK_range hb hh (p := j) (by omega)
    have tj := yTb_range (K := rK B H) (up := up) k j (by omega)
    have ti := yIn_range (K := rK B H) (up := up) (k := k) j fun q hq => yTb_range (K := rK B H) (up := up) k q (by omega)
    have e : yIn (rK B H) up (yTb (rK B H) up k) k (j + 1) = if yB up (rK B H k - rK B H j) = true then yMx (yIn (rK B H) up (yTb (rK B H) up k) k j) (yTb (rK B H) up k j + 1) else yIn (rK B H) up (yTb (rK B H) up k) k j := rfl
    have m1 : ∀ p, p < H.length → I 142 p = H.getD p 0 := hH.2.1
    have m2 : I 138 = B 138 := hE.2.1.1
    have m3 : ∀ p, I 143 (B 138 (H.getD p 0).toNat).toNat = rK B H p := fun p => by rw [hE.2.1.2.2.2]; rfl
    rw [if_neg (by omega), Int.toNat_natCast, Int.toNat_natCast, m1 k hk, m1 j (by omega), m2, m3, m3, h9 j (by omega), hk9, show (j : Int) + 1 = ((j + 1 : Nat) : Int) by omega]
    refine ⟨by omega, by omega, by omega, by omega, by omega, by omega, by unfold zr; omega, ?_⟩
    have skip : ¬ yB up (rK B H k - rK B H j) = true → (zr ((j + 1 : Nat) : Int)) ∧ XIs (d + 1) 220 22 [some (.inr 137), some (.inl x1), some (.inl x2), some (.inl (k : Int)), some (.inl ((j + 1 : Nat) : Int)), some (.inl (rK B H k - rK B H j))] [] n sh R I Q := fun g1 => by
      rw [if_neg g1] at e
      exact ⟨by unfold zr; omega, l_M_lr22 hW hb hh hk hx c (j + 1) I _ (by omega) hE hH h9 (by rw [e]; exact hk9) q⟩
    have take : yB up (rK B H k - rK B H j) = true → (zr (yTb (rK B H) up k j + 1)) ∧ (if yIn (rK B H) up (yTb (rK B H) up k) k j ≤ (yTb (rK B H) up k j + 1) then (zr ((j + 1 : Nat) : Int)) ∧ XIs (d + 1) 220 22 [some (.inr 137), some (.inl x1), some (.inl x2), some (.inl (k : Int)), some (.inl ((j + 1 : Nat) : Int)), some (.inl (rK B H k - rK B H j))] [] n sh R (zup I 170 k (yTb (rK B H) up k j + 1)) Q else (zr ((j + 1 : Nat) : Int)) ∧ XIs (d + 1) 220 22 [some (.inr 137), some (.inl x1), some (.inl x2), some (.inl (k : Int)), some (.inl ((j + 1 : Nat) : Int)), some (.inl (rK B H k - rK B H j))] [] n sh R (zup I 170 k (yIn (rK B H) up (yTb (rK B H) up k) k j)) Q) := fun g1 => by
      rw [if_pos g1] at e
      have nx : ∀ v : Int, v = yMx (yIn (rK B H) up (yTb (rK B H) up k) k j) (yTb (rK B H) up k j + 1) → XIs (d + 1) 220 22 [some (.inr 137), some (.inl x1), some (.inl x2), some (.inl (k : Int)), some (.inl ((j + 1 : Nat) : Int)), some (.inl (rK B H k - rK B H j))] [] n sh R (zup I 170 k v) Q := fun v hv => l_M_lr22 hW hb hh hk hx c (j + 1) _ _ (by omega) (hE.fr fun a b hab => zup_ne (by omega)) (hH.fr fun a b hab => zup_ne (by omega)) (fun q hq => by rw [zup_ne (by omega)]; exact h9 q hq) (by rw [zup_eq ⟨rfl, rfl⟩, e]; exact hv) fun J j1 j2 => q J j1 fun a b hab => by rw [j2 a b hab, zup_ne (by omega)]
      refine ⟨by unfold zr; omega, ?_⟩
      unfold yMx at nx
      by_cases g2 : yIn (rK B H) up (yTb (rK B H) up k) k j ≤ yTb (rK B H) up k j + 1
      · rw [if_pos g2]
        exact ⟨by unfold zr; omega, nx _ (by split <;> omega)⟩
      · rw [if_neg g2]
        exact ⟨by unfold zr; omega, nx _ (by rw [if_neg (by omega)])⟩
    cases up with
    | true =>
      rw [if_pos rfl] at hx
      rw [if_neg (by omega)]
      by_cases g1 : rK B H k - rK B H j ≤ 0
      · rw [if_pos g1]; exact skip (by unfold yB; rw [if_pos rfl, decide_eq_true_iff]; omega)
      · rw [if_neg g1]; exact take (by unfold yB; rw [if_pos rfl, decide_eq_true_iff]; omega)
    | false =>
      rw [if_neg (by decide)] at hx
      rw [if_pos hx]
      by_cases g1 : 0 ≤ rK B H k - rK B H j
      · rw [if_pos g1]; exact skip (by unfold yB; rw [if_neg (by decide), decide_eq_true_iff]; omega)
      · rw [if_neg g1]; exact take (by unfold yB; rw [if_neg (by decide), decide_eq_true_iff]; omega))
theorem l_M_lr4 {Q : Int → ZI → Prop} {up : Bool} {x1 : Int} (hW : Wf sh R) (hb : bOk B S) (hh : hIn B H) (hx : x1 = if up = true then 1 else 0) : ∀ (c k : Nat) (I : ZI) (u v : Option AV), k + c = H.length → mEnv B I → mSt I H g LA → (∀ q, q < k → I 170 q = yTb (rK B H) up k q) → (∀ J : ZI, (∀ a b, ¬ a = 170 → J a b = I a b) → Q (yBest (rK B H) up H.length) J) → XIs (d + 1) 220 4 [some (.inr 137), some (.inl x1), some (.inl (yBest (rK B H) up k)), some (.inl (k : Int)), u, v] [] n sh R I Q
  | 0, k, I, u, v, h, hE, hH, h9, q => b_M_longestRow_4 hW (by
    obtain rfl : k = H.length := by omega
    rw [hH.1.1, if_pos (by omega)]
    exact q I fun _ _ _ => rfl)
  | c + 1, k, I, u, v, h, hE, hH, h9, q => b_M_longestRow_4 hW (by
    have l9 := hh.1
    rw [hH.1.1, if_neg (by omega), Int.toNat_natCast]
    refine ⟨by omega, l_M_lr22 hW hb hh (show k < H.length by omega) hx k 0 _ _ (by omega) (hE.fr fun a b hab => zup_ne (by omega)) (hH.fr fun a b hab => zup_ne (by omega)) (fun q hq => by rw [zup_ne (by omega)]; exact h9 q hq) (zup_eq ⟨rfl, rfl⟩) fun J j1 j2 u => b_M_longestRow_22 hW ?_⟩
    have tb := yTb_range (K := rK B H) (up := up) (k + 1) k (by omega)
    have bb := yBest_range (K := rK B H) (up := up) k
    have e : yBest (rK B H) up (k + 1) = yMx (yBest (rK B H) up k) (yTb (rK B H) up (k + 1) k) := rfl
    rw [if_pos (by omega), Int.toNat_natCast, j1 k (by omega), show (k : Int) + 1 = ((k + 1 : Nat) : Int) by omega]
    have nx : ∀ w : Int, w = yBest (rK B H) up (k + 1) → XIs (d + 1) 220 4 [some (.inr 137), some (.inl x1), some (.inl w), some (.inl ((k + 1 : Nat) : Int)), some (.inl (k : Int)), u] [] n sh R J Q := fun w hw => by
      rw [hw]
      exact l_M_lr4 hW hb hh hx c (k + 1) J _ _ (by omega) (hE.fr fun a b hab => by rw [j2 a b (by omega), zup_ne (by omega)]) (hH.fr fun a b hab => by rw [j2 a b (by omega), zup_ne (by omega)]) j1 fun L l1 => q L fun a b hab => by rw [l1 a b hab, j2 a b hab, zup_ne (by omega)]
    unfold yMx at e
    refine ⟨by omega, ?_⟩
    by_cases g2 : yBest (rK B H) up k ≤ yTb (rK B H) up (k + 1) k
    · rw [if_pos g2]; exact ⟨by unfold zr; omega, nx _ (by rw [e]; split <;> omega)⟩
    · rw [if_neg g2]; exact ⟨by unfold zr; omega, nx _ (by rw [e, if_neg (by omega)])⟩)
theorem s_M_longest {I : ZI} {Q : Int → ZI → Prop} {up : Bool} {x1 : Int} (hW : Wf sh R) (hb : bOk B S) (hh : hIn B H) (hx : x1 = if up = true then 1 else 0) (hE : mEnv B I) (hH : mSt I H g LA) (q : ∀ J : ZI, (∀ a b, ¬ a = 170 → J a b = I a b) → Q (yBest (rK B H) up H.length) J) : XI (d + 1) 220 [.inr 137, .inl x1] n sh R I Q :=
  b_M_longestRow_0 hW (l_M_lr4 hW hb hh hx H.length 0 I _ _ (by omega) hE hH (fun q hq => absurd hq (by omega)) q)
theorem s_Y_longest {I : ZI} {Q : Int → ZI → Prop} {up : Bool} {x3 : Int} (hW : Wf sh R) (hb : bOk B S) (hh : hIn B H) (hx : x3 = if up = true then 1 else -1) (h14 : ∀ k, k < H.length → I 14 k = rK B H k) (q : ∀ J : ZI, (∀ a b, ¬ a = 119 → J a b = I a b) → Q (yBest (rK B H) up H.length) J) : XI d 89 [.inr 117, .inr 14, .inl (H.length : Int), .inl x3] n sh R I Q :=
  b_Y_longestRow_0 hW (l_Y_out hW hh.1 (fun p hp => (rK_range hb hh hp).2.2) hx H.length 0 I _ (by omega) h14 (fun q hq => absurd hq (by omega)) q)
theorem s_N_putRanks {I : ZI} {Q : ZI → Prop} (hW : Wf sh R) (hb : bOk B S) (hh : hIn B H) (hl : lw = 5 ∨ lw = 45) (hE : gEnv B I lw S) (hH : gSt B I 18 H g LA) (q : ∀ J : ZI, (∀ k, k < H.length → J 14 k = rK B H k) → (∀ a b, ¬ a = 14 → J a b = I a b) → Q J) : XV (d + 1) 134 [.inr 1] n sh R I Q :=
  b_N_putRanks_0 hW (l_N_putRanks hW hb hh hl H.length 0 I (by omega) hE hH (fun k hk => absurd hk (by omega)) q)
theorem c_yardQueues {I : ZI} (hW : Wf sh R) (h : Rel t I R) : XI (d + 2) 114 [.inr 1] n sh R I (fun v J => XI (d + 2) 221 [.inr 137] n sh R J (fun v2 K => v2 = v ∧ Rel (t + 1) K R)) := by
  obtain ⟨lw, S, H, hl, hR, hL, hb, hE, mE, hH, mH, hv, hg⟩ := h.base hW
  have hin := hv.1.inb hb
  refine b_N_yardQueues_0 hW (s_N_putRanks (B := I) (g := I 18 7) (LA := I 22) hW hb hin hl hE hH fun J j1 j2 => ?_)
  rw [j2 18 6 (by omega), hH.1.2.1]
  refine s_Y_longest (up := false) hW hb hin (by decide) j1 fun J2 l2 => ?_
  have f : ∀ a b, ¬ a = 14 → ¬ a = 119 → J2 a b = I a b := fun a b h1 h2 => by rw [l2 a b h2, j2 a b h1]
  refine b_M_yardQueues_0 hW (s_M_longest (B := I) (g := I 18 7) (LA := I 22) (up := false) hW hb hin (by decide) (mE.fr fun a b hab => f a b (by omega) (by omega)) (mH.fr fun a b hab => f a b (by omega) (by omega)) fun K k1 => ⟨rfl, h.fr (by omega) fun a b hab => ?_⟩)
  unfold fAll fNow fKept fEnv fTape fBlame fLaw at hab
  rw [k1 a b (by omega), f a b (by omega) (by omega)]
theorem c_yardPipes {I : ZI} (hW : Wf sh R) (h : Rel t I R) : XI (d + 2) 115 [.inr 1] n sh R I (fun v J => XI (d + 2) 222 [.inr 137] n sh R J (fun v2 K => v2 = v ∧ Rel (t + 1) K R)) := by
  obtain ⟨lw, S, H, hl, hR, hL, hb, hE, mE, hH, mH, hv, hg⟩ := h.base hW
  have hin := hv.1.inb hb
  refine b_N_yardPipes_0 hW (s_N_putRanks (B := I) (g := I 18 7) (LA := I 22) hW hb hin hl hE hH fun J j1 j2 => ?_)
  rw [j2 18 6 (by omega), hH.1.2.1]
  refine s_Y_longest (up := true) hW hb hin (by decide) j1 fun J2 l2 => ?_
  have f : ∀ a b, ¬ a = 14 → ¬ a = 119 → J2 a b = I a b := fun a b h1 h2 => by rw [l2 a b h2, j2 a b h1]
  refine b_M_yardPipes_0 hW (s_M_longest (B := I) (g := I 18 7) (LA := I 22) (up := true) hW hb hin (by decide) (mE.fr fun a b hab => f a b (by omega) (by omega)) (mH.fr fun a b hab => f a b (by omega) (by omega)) fun K k1 => ⟨rfl, h.fr (by omega) fun a b hab => ?_⟩)
  unfold fAll fNow fKept fEnv fTape fBlame fLaw at hab
  rw [k1 a b (by omega), f a b (by omega) (by omega)]
end YQ
