-- BADLY: the class's search
def jRt (B : ZI) (TT : Nat → Int) (m : Nat) (H : List Int) (g : Int) (LA : Nat → Int) (k : Nat) (i h : Int) : Bool := match gWr B k (m - k - 1) H g LA i h with
  | none => false
  | some x => decide (∀ p, p < x.1.length → TT p = x.1.getD p 0)
def jC (B : ZI) (TT : Nat → Int) (m : Nat) (H : List Int) (g : Int) (LA : Nat → Int) (c : Nat) : Bool := decide (((c / (B 137 3).toNat % 32 : Nat) : Int) < B 137 0) && jRt B TT m H g LA (c / (B 137 3).toNat / 32) ((c / (B 137 3).toNat % 32 : Nat) : Int) ((c % (B 137 3).toNat : Nat) : Int)
def jN (ok : Nat → Bool) : Nat → Int × Int
  | 0 => (0, -1)
  | c + 1 => if ok c = true then ((jN ok c).1 + 1, if (jN ok c).2 = -1 then (c : Int) else (jN ok c).2) else jN ok c
theorem jN_ok {ok : Nat → Bool} : ∀ c, (0 ≤ (jN ok c).1 ∧ (jN ok c).1 ≤ c) ∧ (((jN ok c).1 = 0 ∧ (jN ok c).2 = -1) ∨ (0 < (jN ok c).1 ∧ 0 ≤ (jN ok c).2 ∧ (jN ok c).2 < c))
  | 0 => ⟨⟨Int.le_refl 0, Int.le_refl 0⟩, .inl ⟨rfl, rfl⟩⟩
  | c + 1 => by
    have ih := jN_ok (ok := ok) c
    have e : jN ok (c + 1) = if ok c = true then ((jN ok c).1 + 1, if (jN ok c).2 = -1 then (c : Int) else (jN ok c).2) else jN ok c := rfl
    rw [e]
    by_cases g : ok c = true
    · rw [if_pos g]
      refine ⟨⟨?_, ?_⟩, .inr ⟨?_, ?_, ?_⟩⟩
      · show 0 ≤ (jN ok c).1 + 1; omega
      · show (jN ok c).1 + 1 ≤ _; omega
      · show 0 < (jN ok c).1 + 1; omega
      · show 0 ≤ (if (jN ok c).2 = -1 then (c : Int) else (jN ok c).2); split <;> omega
      · show (if (jN ok c).2 = -1 then (c : Int) else (jN ok c).2) < _; split <;> omega
    · rw [if_neg g]; omega
theorem jN_skip {ok : Nat → Bool} {c : Nat} : ∀ n, (∀ e, c ≤ e → e < c + n → ¬ ok e = true) → jN ok (c + n) = jN ok c
  | 0, _ => rfl
  | n + 1, h => by
    have ih := jN_skip (ok := ok) (c := c) n fun e h1 h2 => h e h1 (by omega)
    show (if ok (c + n) = true then _ else jN ok (c + n)) = _
    rw [if_neg (h (c + n) (by omega) (by omega)), ih]
theorem gGo_last (B : ZI) : ∀ (k : Nat) (H : List Int) (g : Int) (LA : Nat → Int), (gGo B (k + 1) H g LA).1 = gH1 B (gGo B k H g LA).1 (g + k) (gGo B k H g LA).2.1 ∧ (gGo B (k + 1) H g LA).2.1 = gL1 B (gGo B k H g LA).1 (g + k) (gGo B k H g LA).2.1
  | 0, H, g, LA => by
    rw [show g + ((0 : Nat) : Int) = g by omega]
    exact ⟨rfl, rfl⟩
  | k + 1, H, g, LA => by
    have ih := gGo_last B k (gH1 B H g LA) (g + 1) (gL1 B H g LA)
    rw [show g + 1 + (k : Int) = g + ((k + 1 : Nat) : Int) by omega] at ih
    exact ih
def gBs (B I : ZI) (o : Nat) : Prop := I o 5 = B 137 0 ∧ ∀ k, k < 32 → I (o + 1) k = B 138 k ∧ I (o + 2) k = B 139 k ∧ I (o + 3) k = B 140 k
theorem gBs.fr {B I J : ZI} {o : Nat} (h : gBs B I o) (e : ∀ a b, a = o ∧ b = 5 ∨ o + 1 ≤ a ∧ a ≤ o + 3 → J a b = I a b) : gBs B J o :=
  ⟨by rw [e _ _ (by omega)]; exact h.1, fun k hk => by rw [e _ _ (by omega), e _ _ (by omega), e _ _ (by omega)]; exact h.2 k hk⟩
theorem gSt.bs {B I : ZI} {o : Nat} {H : List Int} {g : Int} {LA : Nat → Int} (h : gSt B I o H g LA) : gBs B I o := ⟨h.1.1, fun k hk => ⟨(h.2.2 k hk).1, (h.2.2 k hk).2.1, (h.2.2 k hk).2.2.1⟩⟩
section BS
variable {d n t : Nat} {sh : ZS} {R : ZR} {B : ZI} {lw S : Nat} {M g : Int} {m : Nat} {bp bh : Bool}
theorem l_B_later {Q : ZI → Prop} {x1 x3 x5 : Int} (hW : Wf sh R) (hl : lw = 5 ∨ lw = 45) (hR : R 42 4 = lw) (hL : Lw sh R lw) (hb : bOk B S) (hm : mkOk M (B 151) S) (hbp : bp = M.toNat.testBit 4) (hbh : bh = M.toNat.testBit 6) (hg : 0 ≤ g ∧ g + m ≤ 12) (hm6 : m ≤ 6) {I0 : ZI} : ∀ (c l : Nat) (H : List Int) (L : Nat → Int) (I : ZI), l + c = m → gEnv B I lw S → kInv B bp bh g I → gSt B I 128 H (g + l) L → stOk B H (g + l) L → (∀ a b, ¬ a = 43 → ¬ a = lw + 7 → ¬ a = 44 → ¬ a = 16 → ¬ a = 17 → ¬ a = 135 → ¬ (a = 128 ∧ 6 ≤ b ∧ b ≤ 7) → ¬ (132 ≤ a ∧ a ≤ 133) → I a b = I0 a b) →
    (∀ J : ZI, gSt B J 128 (gGo B c H (g + l) L).1 (g + m) (gGo B c H (g + l) L).2.1 → gEnv B J lw S → kInv B bp bh g J → (∀ a b, ¬ a = 43 → ¬ a = lw + 7 → ¬ a = 44 → ¬ a = 16 → ¬ a = 17 → ¬ a = 135 → ¬ (a = 128 ∧ 6 ≤ b ∧ b ≤ 7) → ¬ (132 ≤ a ∧ a ≤ 133) → J a b = I0 a b) → XVs (d + 5) 3 85 [some (.inr 121), some (.inl x1), some (.inl (m : Int)), some (.inl x3), some (.inr 2), some (.inl x5), some (.inl (m : Int))] [] n sh R J Q) →
    XVs (d + 5) 3 85 [some (.inr 121), some (.inl x1), some (.inl (m : Int)), some (.inl x3), some (.inr 2), some (.inl x5), some (.inl (l : Int))] [] n sh R I Q
  | 0, l, H, L, I, h, hE, hK, hH, hv, hf, q => by
    obtain rfl : l = m := by omega
    exact q I hH hE hK hf
  | c + 1, l, H, L, I, h, hE, hK, hH, hv, hf, q => b_B_tryHoles_85 hW (by
    have h128 := St_128 hW
    have p128 : sPl 128 := .inr (.inr (.inr (.inr (.inr rfl))))
    rw [if_neg (by omega)]
    refine s_S_comeIn (d := d + 3) hW h128 hb hv.1 (by omega) hH fun J1 j1 j2 => ?_
    have hin := hv.1.come.inb hb
    have l9 := hin.1
    have hE1 : gEnv B J1 lw S := hE.fr hl fun a b hab => j2 a b (by omega) (by omega)
    have hK1 : kInv B bp bh g J1 := hK.fr fun a b hab => j2 a b (by omega) (by omega)
    refine s_B_ask hW h128 p128 hl hR hL hb hin hm hbp hbh (by omega) hv.2 hE1 j1 hK1 fun J2 k1 k2 k3 => ?_
    have hE2 : gEnv B J2 lw S := hE1.fr hl fun a b hab => k3 a b (by omega) (by omega) (by omega) (by omega)
    refine s_G_throwAll (d := d + 2) hW h128 p128 hb hin (iOk_into hb (H := gCome B H (g + l)) (g := g + l) (LA := L)) hE2.1 (by omega) (j1.fr fun a b hab => k3 a b (by omega) (by omega) (by omega) (by omega)) k1 fun J3 o1 o2 => ⟨by unfold zr; omega, ?_⟩
    have hE3 : gEnv B J3 lw S := hE2.fr hl fun a b hab => o2 a b (by omega) (by omega) (by omega) (by omega) (by omega)
    have hK3 : kInv B bp bh g J3 := k2.fr fun a b hab => o2 a b (by omega) (by omega) (by omega) (by omega) (by omega)
    have hgo := hv.go hb
    have eg : g + ((l + 1 : Nat) : Int) = g + l + 1 := by omega
    rw [show (l : Int) + 1 = ((l + 1 : Nat) : Int) by omega]
    refine l_B_later hW hl hR hL hb hm hbp hbh hg hm6 c (l + 1) (gH1 B H (g + l) L) (gL1 B H (g + l) L) J3 (by omega) hE3 hK3 (by rw [eg]; exact o1) (by rw [eg]; exact hgo) (fun a b g1 g2 g3 g4 g5 g6 g7 g8 => ?_) fun J y1 y2 y3 y4 => q J (by rw [eg] at y1; exact y1) y2 y3 y4
    rw [o2 a b g4 g5 (by omega) (by omega) (by omega), k3 a b g1 g2 g3 g6, j2 a b (by omega) (by omega)]
    exact hf a b g1 g2 g3 g4 g5 g6 g7 g8)
/-- the count and the first, so far -/
def jI (ok : Nat → Bool) (hs c : Nat) (I : ZI) : Prop := I 121 9 = (jN ok c).1 ∧ ∀ f : Nat, (jN ok c).2 = (f : Int) → I 136 0 = ((f / hs / 32 : Nat) : Int) ∧ I 136 1 = ((f / hs % 32 : Nat) : Int) ∧ I 136 2 = ((f % hs : Nat) : Int)
theorem jI.fr {ok : Nat → Bool} {hs c : Nat} {I J : ZI} (h : jI ok hs c I) (e : ∀ a b, a = 136 ∨ a = 121 ∧ b = 9 → J a b = I a b) : jI ok hs c J :=
  ⟨by rw [e _ _ (by omega)]; exact h.1, fun f hf => by rw [e _ _ (by omega), e _ _ (by omega), e _ _ (by omega)]; exact h.2 f hf⟩
theorem jCode {hs k i h : Nat} (hh : h < hs) (hi : i < 32) : ((k * 32 + i) * hs + h) / hs / 32 = k ∧ ((k * 32 + i) * hs + h) / hs % 32 = i ∧ ((k * 32 + i) * hs + h) % hs = h := by
  have e : ((k * 32 + i) * hs + h) / hs = k * 32 + i := by
    rw [Nat.add_comm, Nat.add_mul_div_right _ _ (by omega), Nat.div_eq_of_lt hh]; omega
  refine ⟨by rw [e]; omega, by rw [e]; omega, ?_⟩
  rw [Nat.add_comm, Nat.add_mul_mod_self_right, Nat.mod_eq_of_lt hh]
theorem s_B_note {Q : ZI → Prop} {I : ZI} {ok : Nat → Bool} {hs k i h : Nat} (hW : Wf sh R) (hh : h < hs) (hi : i < 32) (h9 : hs ≤ 9) (hk : k < 6) (hI : jI ok hs ((k * 32 + i) * hs + h) I) (ho : ok ((k * 32 + i) * hs + h) = true) (q : ∀ J : ZI, jI ok hs ((k * 32 + i) * hs + h + 1) J → (∀ a b, ¬ a = 136 → ¬ (a = 121 ∧ b = 9) → J a b = I a b) → Q J) : XV d 4 [.inr 121, .inl (k : Int), .inl (i : Int), .inl (h : Int)] n sh R I Q :=
  b_B_note_0 hW (by
    have jo := jN_ok (ok := ok) ((k * 32 + i) * hs + h)
    have e : jN ok ((k * 32 + i) * hs + h + 1) = ((jN ok ((k * 32 + i) * hs + h)).1 + 1, if (jN ok ((k * 32 + i) * hs + h)).2 = -1 then (((k * 32 + i) * hs + h : Nat) : Int) else (jN ok ((k * 32 + i) * hs + h)).2) := if_pos ho
    have jc := jCode (k := k) hh hi
    have bd : (k * 32 + i) * hs + h < 10000 := by
      have : (k * 32 + i) * hs ≤ 200 * 9 := Nat.mul_le_mul (by omega) h9
      omega
    have h1 := hI.1
    rw [h1]
    unfold jI at hI
    generalize hc : (k * 32 + i) * hs + h = c at *
    by_cases g1 : ¬ (jN ok c).1 = 0
    · rw [if_pos g1]
      refine ⟨by unfold zr; omega, q _ ⟨?_, fun f hf => ?_⟩ fun a b z1 z2 => zup_ne (by omega)⟩
      · rw [zup_eq ⟨rfl, rfl⟩, e]
      · rw [e] at hf
        have hf2 : (if (jN ok c).2 = -1 then (c : Int) else (jN ok c).2) = (f : Int) := hf
        rw [if_neg (by omega)] at hf2
        rw [zup_ne (by omega), zup_ne (by omega), zup_ne (by omega)]
        exact hI.2 f hf2
    · rw [if_neg g1]
      refine ⟨by unfold zr; omega, q _ ⟨?_, fun f hf => ?_⟩ fun a b z1 z2 => by rw [zup_ne (by omega), zup_ne (by omega), zup_ne (by omega), zup_ne (by omega)]⟩
      · rw [zup_eq ⟨rfl, rfl⟩, e]
      · rw [e] at hf
        have hf2 : (if (jN ok c).2 = -1 then (c : Int) else (jN ok c).2) = (f : Int) := hf
        rw [if_pos (by omega)] at hf2
        obtain rfl : c = f := by omega
        rw [jc.1, jc.2.1, jc.2.2]
        rw [zup_ne (by omega), zup_ne (by omega), zup_ne (by omega), zup_eq ⟨rfl, rfl⟩, zup_ne (by omega), zup_ne (by omega), zup_eq ⟨rfl, rfl⟩, zup_ne (by omega), zup_eq ⟨rfl, rfl⟩]
        exact ⟨rfl, rfl, rfl⟩)
end BS
