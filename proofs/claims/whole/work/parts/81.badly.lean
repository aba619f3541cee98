-- BADLY: the search as a whole
section BW
variable {d n t : Nat} {sh : ZS} {R : ZR} {B : ZI} {lw S : Nat} {M g : Int} {m : Nat} {bp bh : Bool}
theorem jI.skip {ok : Nat → Bool} {hs c n : Nat} {I : ZI} (h : jI ok hs c I) (no : ∀ e, c ≤ e → e < c + n → ¬ ok e = true) : jI ok hs (c + n) I := by
  unfold jI at h ⊢
  rw [jN_skip n no]; exact h
def jG (B I0 : ZI) (lw S : Nat) (bp bh : Bool) (g : Int) (Hk : List Int) (gk : Int) (Lk : Nat → Int) (I : ZI) : Prop := gEnv B I lw S ∧ kInv B bp bh g I ∧ gSt B I 122 Hk gk Lk ∧ gBs B I 128 ∧ ∀ a b, ¬ frB lw a → I a b = I0 a b
theorem l_B_108 {Q : ZI → Prop} {H : List Int} {LA : Nat → Int} {hs k L0 : Nat} {I0 : ZI} {u1 : Option AV} (hW : Wf sh R) (hl : lw = 5 ∨ lw = 45) (hR : R 42 4 = lw) (hL : Lw sh R lw) (hb : bOk B S) (hm : mkOk M (B 151) S) (hbp : bp = M.toNat.testBit 4) (hbh : bh = M.toNat.testBit 6) (hg : 0 ≤ g ∧ g + m ≤ 12) (hm6 : m ≤ 6) (hk : k < m) (hhs : B 137 3 = (hs : Int)) (hL0 : B 137 0 = (L0 : Int)) (hv : stOk B H g LA) (hn : ((pCount (fun q => decide (B 140 q ≤ g + m)) (B 137 0).toNat : Nat) : Int) ≤ I0 2 1)
    (q : ∀ (J : ZI) (u5 u6 : Option AV), jG B I0 lw S bp bh g (gH1 B (gGo B k H g LA).1 (g + k) (gGo B k H g LA).2.1) (g + k + 1) (gL1 B (gGo B k H g LA).1 (g + k) (gGo B k H g LA).2.1) J → jI (jC B (I0 3) m H g LA) hs ((k + 1) * 32 * hs) J → XVs (d + 6) 2 64 [some (.inr 121), u1, some (.inl (m : Int)), some (.inr 2), some (.inl ((k + 1 : Nat) : Int)), u5, u6] [] n sh R J Q) :
    ∀ (c i : Nat) (I : ZI) (u6 : Option AV), i + c = L0 → jSt B I0 lw S bp bh g (gCome B (gGo B k H g LA).1 (g + k)) (g + k) (gGo B k H g LA).2.1 (gI1 B (gGo B k H g LA).1 (g + k) (gGo B k H g LA).2.1) I → jI (jC B (I0 3) m H g LA) hs ((k * 32 + i) * hs) I → XVs (d + 6) 2 108 [some (.inr 121), u1, some (.inl (m : Int)), some (.inr 2), some (.inl (k : Int)), some (.inl (i : Int)), u6] [] n sh R I Q
  | 0, i, I, u6, hc, hJ, hI => b_B_search_108 hW (St_122 hW) (by
    obtain rfl : i = L0 := by omega
    obtain ⟨hE, hK, h122, h134, hBs, hf⟩ := hJ
    have hvk := (gGo_ok hb k H g LA hv).1
    have hin := hvk.1.come.inb hb
    have l9 := hin.1
    have hb1 := hb.1
    have hs9 := hb.2.1
    have p122 : sPl 122 := .inr (.inr (.inr (.inr (.inl rfl))))
    rw [h122.1.1, hL0, if_pos (by omega)]
    have f2 : ∀ a b, ¬ a = 44 → (zcpy I 134 0 44 0 32) a b = I a b := fun a b g3 => zcpy_ne (by omega)
    refine s_G_throwAll (d := d + 3) hW (St_122 hW) p122 hb hin (iOk_into hb (H := gCome B (gGo B k H g LA).1 (g + k)) (g := g + k) (LA := (gGo B k H g LA).2.1)) (by rw [f2 _ _ (by omega), f2 _ _ (by omega)]; exact hE.1) (by omega) (h122.fr fun a b hab => f2 a b (by omega)) (fun q hq => by rw [zcpy_to (by omega)]; exact h134 q hq) fun J3 o1 o2 => ⟨by unfold zr; omega, ?_⟩
    rw [show (k : Int) + 1 = ((k + 1 : Nat) : Int) by omega]
    have fJ : ∀ a b, ¬ a = 44 → ¬ a = 16 → ¬ a = 17 → ¬ (122 ≤ a ∧ a ≤ 127) → J3 a b = I a b := fun a b g1 g2 g3 g4 => by
      rw [o2 a b g2 g3 (by omega) (by omega) (by omega), f2 a b g1]
    refine q J3 _ _ ⟨hE.fr hl fun a b hab => fJ a b (by omega) (by omega) (by omega) (by omega), hK.fr fun a b hab => fJ a b (by omega) (by omega) (by omega) (by omega), o1, hBs.fr fun a b hab => fJ a b (by omega) (by omega) (by omega) (by omega), fun a b hab => ?_⟩ ?_
    · have hab2 := hab
      unfold frB at hab2
      rw [fJ a b (by omega) (by omega) (by omega) (by omega)]; exact hf a b hab
    · have e : (k + 1) * 32 * hs = (k * 32 + i) * hs + (32 - i) * hs := by
        rw [← Nat.add_mul]; congr 1; omega
      rw [e]
      refine (hI.fr fun a b hab => fJ a b (by omega) (by omega) (by omega) (by omega)).skip fun c h1 h2 => ?_
      rw [← Nat.add_mul] at h2
      have d1 : k * 32 + i ≤ c / hs := (Nat.le_div_iff_mul_le (by omega)).mpr h1
      have d2 : c / hs < k * 32 + i + (32 - i) := (Nat.div_lt_iff_lt_mul (by omega)).mpr h2
      unfold jC
      rw [show (B 137 3).toNat = hs by omega, decide_eq_false (by omega), Bool.false_and]
      decide)
  | c + 1, i, I, u6, hc, hJ, hI => b_B_search_108 hW (St_122 hW) (by
    have hJ0 := hJ
    obtain ⟨hE, hK, h122, h134, hBs, hf⟩ := hJ
    have hvk := (gGo_ok hb k H g LA hv).1
    have hin := hvk.1.come.inb hb
    have l9 := hin.1
    have hb1 := hb.1
    have hs9 := hb.2.1
    have nx : ∀ (J : ZI) (u6 : Option AV), jSt B I0 lw S bp bh g (gCome B (gGo B k H g LA).1 (g + k)) (g + k) (gGo B k H g LA).2.1 (gI1 B (gGo B k H g LA).1 (g + k) (gGo B k H g LA).2.1) J → jI (jC B (I0 3) m H g LA) hs ((k * 32 + i) * hs + hs) J → (zr ((i : Int) + 1)) ∧ XVs (d + 6) 2 108 [some (.inr 121), u1, some (.inl (m : Int)), some (.inr 2), some (.inl (k : Int)), some (.inl ((i : Int) + 1)), u6] [] n sh R J Q := fun J u6 a b => by
      rw [show (i : Int) + 1 = ((i + 1 : Nat) : Int) by omega]
      refine ⟨by unfold zr; omega, l_B_108 hW hl hR hL hb hm hbp hbh hg hm6 hk hhs hL0 hv hn q c (i + 1) J u6 (by omega) a ?_⟩
      rw [show (k * 32 + (i + 1)) * hs = (k * 32 + i) * hs + hs by rw [← Nat.add_assoc, Nat.add_mul, Nat.one_mul]]
      exact b
    have none : (∀ h : Nat, h < hs → gBlN B (gGo B k H g LA).1 (g + k) (gGo B k H g LA).2.1 i h = true) → jI (jC B (I0 3) m H g LA) hs ((k * 32 + i) * hs + hs) I := fun hno => hI.skip fun e h1 h2 => by
      obtain ⟨h, rfl⟩ : ∃ h, e = (k * 32 + i) * hs + h := ⟨e - (k * 32 + i) * hs, by omega⟩
      rw [jC_at hhs (show h < hs by omega) (show i < 32 by omega), jRt_no (hno h (by omega)), Bool.and_false]
      decide
    rw [h122.1.1, hL0, if_neg (by omega)]
    refine s_S_place hW (St_122 hW) l9 h122 ?_
    rcases hOd_place (H := gCome B (gGo B k H g LA).1 (g + k)) (i := (i : Int)) with e | ⟨p, e, e2, e3⟩
    · rw [e, if_pos (by decide)]
      exact nx I _ hJ0 (none fun h _ => decide_eq_true (.inl (by show pPlace _ _ _ < 0; rw [e]; decide)))
    · rw [e, if_neg (by omega), Int.toNat_natCast, h134 p e2]
      refine ⟨by omega, ?_⟩
      by_cases g1 : gI1 B (gGo B k H g LA).1 (g + k) (gGo B k H g LA).2.1 p = -1
      · rw [if_pos g1]
        refine nx I _ hJ0 (none fun h _ => decide_eq_true (.inr (.inl ?_)))
        have e4 : gBlP B (gGo B k H g LA).1 (g + k) i = (p : Int) := e
        rw [e4, Int.toNat_natCast]; exact g1
      · rw [if_neg g1]
        refine b_B_tryHoles_0 hW (l_B_try hW hl hR hL hb hm hbp hbh hg hm6 hk hhs hv (show i < 32 ∧ (i : Int) < B 137 0 by omega) e2 e3 g1 hn (fun J j1 j2 => nx J _ j1 j2) hs 0 I _ (by omega) hJ0 hI))
theorem l_B_64 {Q : ZI → Prop} {H : List Int} {LA : Nat → Int} {hs L0 : Nat} {I0 : ZI} {u1 : Option AV} (hW : Wf sh R) (hl : lw = 5 ∨ lw = 45) (hR : R 42 4 = lw) (hL : Lw sh R lw) (hb : bOk B S) (hm : mkOk M (B 151) S) (hbp : bp = M.toNat.testBit 4) (hbh : bh = M.toNat.testBit 6) (hg : 0 ≤ g ∧ g + m ≤ 12) (hm6 : m ≤ 6) (hhs : B 137 3 = (hs : Int)) (hL0 : B 137 0 = (L0 : Int)) (hv : stOk B H g LA) (hn : ((pCount (fun q => decide (B 140 q ≤ g + m)) (B 137 0).toNat : Nat) : Int) ≤ I0 2 1)
    (q : ∀ J : ZI, kInv B bp bh g J → jI (jC B (I0 3) m H g LA) hs (m * 32 * hs) J → (∀ a b, ¬ frB lw a → J a b = I0 a b) → Q J) :
    ∀ (c k : Nat) (I : ZI) (u5 u6 : Option AV), k + c = m → jG B I0 lw S bp bh g (gGo B k H g LA).1 (g + k) (gGo B k H g LA).2.1 I → jI (jC B (I0 3) m H g LA) hs (k * 32 * hs) I → XVs (d + 6) 2 64 [some (.inr 121), u1, some (.inl (m : Int)), some (.inr 2), some (.inl (k : Int)), u5, u6] [] n sh R I Q
  | 0, k, I, u5, u6, hc, hJ, hI => b_B_search_64 hW (St_122 hW) (by
    obtain rfl : k = m := by omega
    rw [if_pos (by omega)]
    exact q I hJ.2.1 hI hJ.2.2.2.2)
  | c + 1, k, I, u5, u6, hc, hJ, hI => b_B_search_64 hW (St_122 hW) (by
    obtain ⟨hE, hK, h122, hBs, hf⟩ := hJ
    have hvk := (gGo_ok hb k H g LA hv).1
    have p122 : sPl 122 := .inr (.inr (.inr (.inr (.inl rfl))))
    rw [if_neg (by omega)]
    refine s_S_comeIn (d := d + 4) hW (St_122 hW) hb hvk.1 (by omega) h122 fun J1 j1 j2 => ?_
    have hin := hvk.1.come.inb hb
    have l9 := hin.1
    have hE1 : gEnv B J1 lw S := hE.fr hl fun a b hab => j2 a b (by omega) (by omega)
    have hK1 : kInv B bp bh g J1 := hK.fr fun a b hab => j2 a b (by omega) (by omega)
    refine s_B_ask (d := d + 1) hW (St_122 hW) p122 hl hR hL hb hin hm hbp hbh (by omega) hvk.2 hE1 j1 hK1 fun J2 k1 k2 k3 => ?_
    have fz : ∀ a b, ¬ a = 43 → ¬ a = lw + 7 → ¬ a = 44 → ¬ a = 135 → ¬ a = 134 → ¬ (a = 122 ∧ b = 6) → ¬ a = 127 → (zcpy J2 44 0 134 0 32) a b = I a b := fun a b g1 g2 g3 g4 g5 g6 g7 => by
      rw [zcpy_ne (by omega), k3 a b g1 g2 g3 g4, j2 a b (by omega) (by omega)]
    refine l_B_108 hW hl hR hL hb hm hbp hbh hg hm6 (show k < m by omega) hhs hL0 hv hn (fun J u5 u6 y1 y2 => ?_) L0 0 _ u6 (by omega) ⟨hE.fr hl fun a b hab => fz a b (by omega) (by omega) (by omega) (by omega) (by omega) (by omega) (by omega), k2.fr fun a b hab => zcpy_ne (by omega), j1.fr fun a b hab => by rw [zcpy_ne (by omega)]; exact k3 a b (by omega) (by omega) (by omega) (by omega), fun q hq => by rw [zcpy_to (by omega)]; exact k1 q hq, hBs.fr fun a b hab => fz a b (by omega) (by omega) (by omega) (by omega) (by omega) (by omega) (by omega), fun a b hab => ?_⟩ ?_
    · obtain ⟨y3, y4, y5, y6, y7⟩ := y1
      have gl := gGo_last B k H g LA
      refine l_B_64 hW hl hR hL hb hm hbp hbh hg hm6 hhs hL0 hv hn q c (k + 1) J u5 u6 (by omega) ⟨y3, y4, ?_, y6, y7⟩ y2
      rw [gl.1, gl.2, show g + ((k + 1 : Nat) : Int) = g + k + 1 by omega]; exact y5
    · have hab2 := hab
      unfold frB at hab2
      rw [fz a b (by omega) (by omega) (by omega) (by omega) (by omega) (by omega) (by omega)]; exact hf a b hab
    · rw [Nat.add_zero]
      exact hI.fr fun a b hab => fz a b (by omega) (by omega) (by omega) (by omega) (by omega) (by omega) (by omega))
theorem s_W_asks {Q : Int → ZI → Prop} {I : ZI} {x1 : Int} {bit : Nat} (hW : Wf sh R) (hw : Lw sh R lw) (hx : zIdx x1 = (bit : Int)) (hbit : bit < 32) (hM : 0 ≤ I lw 9 ∧ I lw 9 < 256) (q : Q (if (I lw 9).toNat.testBit bit = true then 1 else 0) I) : XI d 11 [.inr lw, .inl x1] n sh R I Q :=
  b_W_asks_0 hW hw (by
    obtain ⟨k, hk⟩ : ∃ k : Nat, I lw 9 = (k : Int) := ⟨(I lw 9).toNat, by omega⟩
    rw [hk, Int.toNat_natCast] at q
    rw [hx, hk, zbit_n (by omega) hbit]
    by_cases g : k.testBit bit = true
    · rw [if_pos g] at q ⊢
      rw [if_neg (by decide)]; exact q
    · rw [if_neg g] at q ⊢
      rw [if_pos rfl]; exact q)
theorem s_B_search {Q : ZI → Prop} {H : List Int} {LA : Nat → Int} {hs L0 : Nat} {I : ZI} (hW : Wf sh R) (hl : lw = 5 ∨ lw = 45) (hR : R 42 4 = lw) (hL : Lw sh R lw) (hb : bOk B S) (hM : 0 ≤ I lw 9 ∧ I lw 9 < 256) (hm : mkOk (I lw 9) (B 151) S) (hg : 0 ≤ g ∧ g + m ≤ 12) (hm6 : m ≤ 6) (hhs : B 137 3 = (hs : Int)) (hL0 : B 137 0 = (L0 : Int)) (hE : gEnv B I lw S) (hH : gSt B I 18 H g LA) (hv : stOk B H g LA) (hn : ((pCount (fun q => decide (B 140 q ≤ g + m)) (B 137 0).toNat : Nat) : Int) ≤ I 2 1)
    (q : ∀ J : ZI, jI (jC B (I 3) m H g LA) hs (m * 32 * hs) J → (∀ a b, ¬ frB lw a → J a b = I a b) → Q J) : XV (d + 6) 2 [.inr 121, .inr 18, .inl (m : Int), .inr 2] n sh R I Q :=
  b_B_search_0 hW (St_18 hW) (by rw [hR]; exact hL) (by
    rw [hR]
    refine s_W_asks hW hL (bit := 4) (by decide) (by decide) (by rw [zup_ne (by omega), zclr_ne (by omega)]; exact hM) ?_
    rw [zup_ne (by omega), zclr_ne (by omega)]
    refine ⟨by split <;> simp, s_W_asks hW hL (bit := 6) (by decide) (by decide) (by rw [zup_ne (by omega), zup_ne (by omega), zclr_ne (by omega)]; exact hM) ?_⟩
    rw [zup_ne (by omega), zup_ne (by omega), zclr_ne (by omega)]
    refine ⟨by split <;> simp, ?_⟩
    generalize hI2 : (zup (zup (zup (zclr I 135 98304) 121 9 0) 121 7 (if (I lw 9).toNat.testBit 4 = true then 1 else 0)) 121 8 (if (I lw 9).toNat.testBit 6 = true then 1 else 0)) = I2
    have f1 : ∀ a b, ¬ a = 121 → ¬ a = 135 → I2 a b = I a b := fun a b g1 g2 => by
      rw [← hI2, zup_ne (by omega), zup_ne (by omega), zup_ne (by omega), zclr_ne g2]
    have hin := hv.1.inb hb
    refine s_S_copyFrom (d := d + 4) hW (St_122 hW) (St_18 hW) (by omega) fun I3 c3 => ?_
    have hH2 : gSt B I2 18 H g LA := hH.fr fun a b hab => f1 a b (by omega) (by omega)
    have hH3 := hH2.cop hin.1 c3
    refine s_S_copyFrom (d := d + 4) hW (St_128 hW) (St_18 hW) (by omega) fun I4 c4 => ?_
    have hH18 : gSt B I3 18 H g LA := hH2.fr fun a b hab => c3.2.2 a b (by omega) (by omega)
    have hH4 := hH18.cop hin.1 c4
    have f4 : ∀ a b, ¬ (122 ≤ a ∧ a ≤ 133) → I4 a b = I2 a b := fun a b g1 => by rw [c4.2.2 a b (by omega) (by omega), c3.2.2 a b (by omega) (by omega)]
    have e0 : g + ((0 : Nat) : Int) = g := by omega
    refine l_B_64 (hs := hs) (L0 := L0) (I0 := I) (H := H) (g := g) (LA := LA) (B := B) (bp := (I lw 9).toNat.testBit 4) (bh := (I lw 9).toNat.testBit 6) hW hl hR hL hb hm rfl rfl hg hm6 hhs hL0 hv hn (fun J _ y2 y3 => q J y2 y3) m 0 I4 _ _ (by omega) ⟨hE.fr hl fun a b hab => by rw [f4 a b (by omega)]; exact f1 a b (by omega) (by omega), ⟨⟨?_, ?_⟩, fun k i p la h1 h2 h3 h4 => ?_⟩, ?_, hH4.bs, fun a b hab => ?_⟩ ⟨?_, fun f hf => ?_⟩
    · rw [f4 _ _ (by omega), ← hI2, zup_ne (by omega), zup_eq ⟨rfl, rfl⟩]
    · rw [f4 _ _ (by omega), ← hI2, zup_eq ⟨rfl, rfl⟩]
    · refine .inl ?_
      rw [f4 _ _ (by omega), ← hI2, zup_ne (by omega), zup_ne (by omega), zup_ne (by omega)]
      exact zclr_in (jEn_lt h1 h2 h3 h4)
    · rw [e0]
      exact hH3.fr fun a b hab => c4.2.2 a b (by omega) (by omega)
    · have hab2 := hab
      unfold frB at hab2
      rw [f4 a b (by omega)]; exact f1 a b (by omega) (by omega)
    · rw [f4 _ _ (by omega), ← hI2, zup_ne (by omega), zup_ne (by omega), zup_eq ⟨rfl, rfl⟩, Nat.zero_mul]; rfl
    · rw [Nat.zero_mul] at hf
      have : (-1 : Int) = (f : Int) := hf
      omega)
end BW
