-- A BLUNDER
def gBlP (B : ZI) (H : List Int) (g i : Int) : Int := pPlace (hOd (gCome B H g)) (gCome B H g).length i
def gBlN (B : ZI) (H : List Int) (g : Int) (LA : Nat → Int) (i h : Int) : Bool := decide (gBlP B H g i < 0 ∨ gI1 B H g LA (gBlP B H g i).toNat = -1 ∨ gI1 B H g LA (gBlP B H g i).toNat = h)
def gBlI (B : ZI) (H : List Int) (g : Int) (LA : Nat → Int) (i h : Int) : Nat → Int := fun q => if q = (gBlP B H g i).toNat then h else gI1 B H g LA q
def gBlH (B : ZI) (H : List Int) (g : Int) (LA : Nat → Int) (i h : Int) : List Int := gNext B (gCome B H g) (gBlI B H g LA i h)
def gBlL (B : ZI) (H : List Int) (g : Int) (LA : Nat → Int) (i h : Int) : Nat → Int := pThr (hOd (gCome B H g)) (gBlI B H g LA i h) LA (gCome B H g).length
/-- j goes by the law, one with a wrong throw, r more by the law -/
def gWr (B : ZI) (j r : Nat) (H : List Int) (g : Int) (LA : Nat → Int) (i h : Int) : Option (List Int × (Nat → Int)) := if gBlN B (gGo B j H g LA).1 (g + j) (gGo B j H g LA).2.1 i h = true then none else some ((gGo B r (gBlH B (gGo B j H g LA).1 (g + j) (gGo B j H g LA).2.1 i h) (g + j + 1) (gBlL B (gGo B j H g LA).1 (g + j) (gGo B j H g LA).2.1 i h)).1, (gGo B r (gBlH B (gGo B j H g LA).1 (g + j) (gGo B j H g LA).2.1 i h) (g + j + 1) (gBlL B (gGo B j H g LA).1 (g + j) (gGo B j H g LA).2.1 i h)).2.1)
theorem gWr_succ (B : ZI) (j r : Nat) (H : List Int) (g : Int) (LA : Nat → Int) (i h : Int) : gWr B (j + 1) r H g LA i h = gWr B j r (gH1 B H g LA) (g + 1) (gL1 B H g LA) i h := by
  unfold gWr
  rw [show g + ((j + 1 : Nat) : Int) = g + 1 + j by omega]
  rfl
theorem gWr_0 (B : ZI) (r : Nat) (H : List Int) (g : Int) (LA : Nat → Int) (i h : Int) : gWr B 0 r H g LA i h = if gBlN B H g LA i h = true then none else some ((gGo B r (gBlH B H g LA i h) (g + 1) (gBlL B H g LA i h)).1, (gGo B r (gBlH B H g LA i h) (g + 1) (gBlL B H g LA i h)).2.1) := by
  unfold gWr
  rw [show g + ((0 : Nat) : Int) = g by omega]
  rfl
theorem hOd_place {H : List Int} {i : Int} : pPlace (hOd H) H.length i = -1 ∨ ∃ p : Nat, pPlace (hOd H) H.length i = (p : Int) ∧ p < H.length ∧ H.getD p 0 = i := by
  unfold pPlace
  rw [Int.toNat_natCast]
  rcases pFind_range (p := fun k => decide (hOd H k = i)) H.length 0 with ⟨a, _⟩ | ⟨k, a, a1, a2, a3, _⟩
  · exact .inl a
  · exact .inr ⟨k, a, by omega, of_decide_eq_true a3⟩
theorem iOk_bl {B : ZI} {S : Nat} (hb : bOk B S) {H : List Int} {g : Int} {LA : Nat → Int} {i h : Int} (hh : 0 ≤ h ∧ h < B 137 3) : iOk B (gCome B H g) (gBlI B H g LA i h) := fun p hp => by
  have := iOk_into hb (H := gCome B H g) (g := g) (LA := LA) p hp
  unfold gBlI
  by_cases e : p = (gBlP B H g i).toNat
  · rw [if_pos e]; omega
  · rw [if_neg e]; exact this
theorem stOk.bl {B : ZI} {S : Nat} (hb : bOk B S) {H : List Int} {g : Int} {LA : Nat → Int} (h : stOk B H g LA) {i hl : Int} (hh : 0 ≤ hl ∧ hl < B 137 3) : stOk B (gBlH B H g LA i hl) (g + 1) (gBlL B H g LA i hl) := h.thr hb (iOk_bl hb hh)
section BL
variable {d n t : Nat} {sh : ZS} {R : ZR} {B : ZI} {x1 x2 x3 x4 x5 : Int} {lw S o : Nat}
/-- the class's look for a letter's place -/
theorem s_S_place {I : ZI} {Q : Int → ZI → Prop} {H : List Int} {g : Int} {LA : Nat → Int} (hW : Wf sh R) (hS : St sh R o) (hl : H.length ≤ 32) (hH : gSt B I o H g LA) (q : Q (pPlace (hOd H) H.length x1) I) : XI d 66 [.inr o, .inl x1] n sh R I Q := by
  refine s_S_placeOf hW hS (by have := hH.1.2.1; omega) (by have := hH.1.2.1; omega) ?_
  rw [pPlace_congr (o := hOd H) (m := H.length) hH.1.2.1 (fun k hk => hH.2.1 k (by omega)) x1]
  exact q
theorem s_M_place {I : ZI} {Q : Int → ZI → Prop} {H : List Int} {g : Int} {LA : Nat → Int} (hW : Wf sh R) (hl : H.length ≤ 32) (hH : mSt I H g LA) (q : Q (pPlace (hOd H) H.length x1) I) : XI d 151 [.inr 137, .inl x1] n sh R I Q := by
  refine s_M_placeOf hW (by have := hH.1.1; omega) (by have := hH.1.1; omega) ?_
  rw [pPlace_congr (o := hOd H) (m := H.length) hH.1.1 (fun k hk => hH.2.1 k (by omega)) x1]
  exact q
theorem s_G_blunderGo {I : ZI} {Q : Int → ZI → Prop} {H : List Int} {g : Int} {LA : Nat → Int} (hW : Wf sh R) (hS : St sh R o) (ho : sPl o) (hl : lw = 5 ∨ lw = 45) (hR : R 42 4 = lw) (hL : Lw sh R lw) (hb : bOk B S) (hE : gEnv B I lw S) (hH : gSt B I o H g LA) (hv : stOk B H g LA) (hg : 0 ≤ g ∧ g ≤ 1000) (hx : 0 ≤ x3 ∧ x3 < B 137 3)
    (q0 : gBlN B H g LA x2 x3 = true → ∀ J : ZI, (∀ a b, ¬ fG o lw 32 a b → J a b = I a b) → Q 0 J)
    (q1 : ¬ gBlN B H g LA x2 x3 = true → ∀ J : ZI, gSt B J o (gBlH B H g LA x2 x3) (g + 1) (gBlL B H g LA x2 x3) → (∀ a b, ¬ fG o lw 32 a b → J a b = I a b) → Q 1 J) : XI (d + 5) 56 [.inr 42, .inr o, .inl x2, .inl x3] n sh R I Q := by
  have ho' := ho
  unfold sPl at ho'
  have hin := hv.1.come.inb hb
  refine b_G_blunderGo_0 hW hS (s_S_comeIn hW hS hb hv.1 hg hH fun I1 i1 i2 => ?_)
  have hE1 : gEnv B I1 lw S := hE.fr hl fun a b hab => i2 a b (by omega) (by omega)
  refine s_G_askAll hW hS ho hl hR hL hb hin hE1 i1 fun I2 j1 j2 => ?_
  have hE2 : gEnv B I2 lw S := hE1.fr hl fun a b hab => j2 a b (by omega) (by omega) (by omega)
  have hH2 : gSt B I2 o (gCome B H g) g LA := i1.fr fun a b hab => j2 a b (by omega) (by omega) (by omega)
  have ff : ∀ a b, ¬ fG o lw 32 a b → I2 a b = I a b := fun a b hab => by
    unfold fG at hab
    have := hin.1
    rw [j2 a b (by omega) (by omega) (by omega), i2 a b (by omega) (by omega)]
  refine s_S_place hW hS hin.1 hH2 ?_
  have eP : pPlace (hOd (gCome B H g)) (gCome B H g).length x2 = gBlP B H g x2 := rfl
  rcases hOd_place (H := gCome B H g) (i := x2) with e | ⟨p, e, hp, e2⟩
  · rw [e, if_pos (by decide)]
    refine q0 (decide_eq_true (.inl ?_)) I2 ff
    rw [← eP, e]; decide
  · rw [e, if_neg (by omega), Int.toNat_natCast, j1 p hp]
    have ep : gBlP B H g x2 = (p : Int) := eP ▸ e
    have l9 := hin.1
    refine ⟨by omega, ?_⟩
    have hN : gBlN B H g LA x2 x3 = decide (gI1 B H g LA p = -1 ∨ gI1 B H g LA p = x3) := by
      unfold gBlN
      rw [ep, Int.toNat_natCast]
      exact decide_eq_decide.mpr ⟨fun a => a.resolve_left (by omega), .inr⟩
    have hI : ∀ k, gBlI B H g LA x2 x3 k = if k = p then x3 else gI1 B H g LA k := fun k => by
      unfold gBlI; rw [ep, Int.toNat_natCast]
    rw [hN] at q0 q1
    show if gI1 B H g LA p = -1 then _ else _
    by_cases g1 : gI1 B H g LA p = -1
    · rw [if_pos g1]; exact q0 (decide_eq_true (.inl g1)) I2 ff
    rw [if_neg g1]
    show if ¬ gI1 B H g LA p = x3 then _ else _
    by_cases g2 : gI1 B H g LA p = x3
    · rw [if_neg (not_not_intro g2)]; exact q0 (decide_eq_true (.inr g2)) I2 ff
    rw [if_pos g2]
    refine s_G_throwAll (into := gBlI B H g LA x2 x3) hW hS ho hb hin (iOk_bl hb hx) ?_ hg (hH2.fr fun a b hab => zup_ne (by omega)) (fun k hk => ?_) fun J l1 l2 => q1 ?_ J l1 fun a b hab => ?_
    · rw [zup_ne (by omega), zup_ne (by omega)]; exact hE2.1
    · rw [hI]
      by_cases e3 : k = p
      · rw [if_pos e3, zup_eq (by omega)]
      · rw [if_neg e3, zup_ne (by omega)]; exact j1 k hk
    · rw [decide_eq_false (by omega)]; decide
    · have hab2 := hab
      unfold fG at hab2
      rw [l2 a b (by omega) (by omega) (by omega) (by omega) (by omega), zup_ne (by omega)]
      exact ff a b hab
-- the model's goes with a wrong throw
theorem l_M_wr2 {Q : Int → ZI → Prop} (hW : Wf sh R) (hb : bOk B S) {m k : Nat} (hm : m ≤ 12) : ∀ (c p : Nat) (I : ZI) (H : List Int) (g : Int) (LA : Nat → Int) (z : Int) (u : Option AV), p + c = m → k < p → mEnv B I → mSt I H g LA → stOk B H g LA → 0 ≤ g ∧ g + c ≤ 12 → (0 ≤ I 137 36 ∧ I 137 36 ≤ z ∧ 0 ≤ I 137 37 ∧ I 137 37 ≤ z ∧ 0 ≤ I 137 38 ∧ I 137 38 ≤ z) → z + 3168 * c ≤ 1000000000 → (∀ J : ZI, mSt J (gGo B c H g LA).1 (g + c) (gGo B c H g LA).2.1 → (0 ≤ J 137 36 ∧ J 137 36 ≤ z + 3168 * c ∧ 0 ≤ J 137 37 ∧ J 137 37 ≤ z + 3168 * c ∧ 0 ≤ J 137 38 ∧ J 137 38 ≤ z + 3168 * c) → (∀ a b, ¬ fM 32 a b → J a b = I a b) → Q 1 J) → XIs (d + 5) 233 3 [some (.inr 137), some (.inl (m : Int)), some (.inl (k : Int)), some (.inl x3), some (.inl x4), some (.inl (p : Int)), u] [] n sh R I Q
  | 0, p, I, H, g, LA, z, u, h, hk, hE, hH, hv, hg, h3, hz, q => b_M_goesWrong_3 hW (by
      rw [if_pos (by omega)]
      refine q I ?_ (by omega) fun _ _ _ => rfl
      rw [show g + ((0 : Nat) : Int) = g by omega]; exact hH)
  | c + 1, p, I, H, g, LA, z, u, h, hk, hE, hH, hv, hg, h3, hz, q => b_M_goesWrong_3 hW (by
    rw [if_neg (by omega)]
    refine s_M_comeAhead hW hb hv.1 (by omega) hE hH fun I1 i1 i2 => ?_
    have hin := hv.1.come.inb hb
    have l9 := hin.1
    have hE1 : mEnv B I1 := hE.fr fun a b hab => i2 a b (by omega) (by omega)
    have e42 : ∀ b, 36 ≤ b ∧ b ≤ 38 → I1 137 b = I 137 b := fun b hb => i2 _ _ (by omega) (by omega)
    refine s_M_asksAll hW hb hin (by rw [e42 36 (by omega), e42 37 (by omega), e42 38 (by omega)]; omega) hE1 i1 fun I2 j0 j1 j2 => ?_
    have hE2 : mEnv B I2 := hE1.fr fun a b hab => j2 a b (by omega) (by omega) (by omega) (by omega)
    have hH2 : mSt I2 (gCome B H g) g LA := i1.fr fun a b hab => j2 a b (by omega) (by omega) (by omega) (by omega)
    have rg := gTal_range (g := g) (LA := LA) hb hin (p := (gCome B H g).length) (Nat.le_refl _)
    refine s_M_place hW hin.1 hH2 ?_
    rw [if_pos (by omega)]
    refine s_M_throwsAll hW hb hin (iOk_into hb) ⟨hE2.1.2.1, hE2.1.2.2⟩ (by omega) hH2 j0 fun I4 l1 l2 => ?_
    have hE4 : mEnv B I4 := hE2.fr fun a b hab => l2 a b (by omega) (by omega) (by omega) (by omega)
    have f42 : ∀ b, 36 ≤ b ∧ b ≤ 38 → I4 137 b = I2 137 b := fun b hb => l2 _ _ (by omega) (by omega) (by omega) (by omega)
    rw [e42 36 (by omega), e42 37 (by omega), e42 38 (by omega)] at j1
    have m5 := f42 36 (by omega)
    have m6 := f42 37 (by omega)
    have m7 := f42 38 (by omega)
    refine ⟨by unfold zr; omega, l_M_wr2 hW hb hm c (p + 1) I4 (gH1 B H g LA) (g + 1) (gL1 B H g LA) (z + 3168) _ (by omega) (by omega) hE4 l1 (hv.go hb) (by omega) (by omega) (by omega) fun J n1 n2 n3 => q J ?_ (by omega) fun a b hab => ?_⟩
    · rw [show g + ((c + 1 : Nat) : Int) = g + 1 + c by omega]; exact n1
    · rw [n3 a b hab]
      unfold fM at hab
      rw [l2 a b (by omega) (by omega) (by omega) (by omega), j2 a b (by omega) (by omega) (by omega) (by omega), i2 a b (by omega) (by omega)])
theorem l_M_wr1 {Q : Int → ZI → Prop} (hW : Wf sh R) (hb : bOk B S) {m k r : Nat} (hm : m ≤ 12) (hr : k + 1 + r = m) (hx : 0 ≤ x4 ∧ x4 < B 137 3) : ∀ (j p : Nat) (I : ZI) (H : List Int) (g : Int) (LA : Nat → Int) (z : Int) (u : Option AV), p + j = k → mEnv B I → mSt I H g LA → stOk B H g LA → 0 ≤ g ∧ g + (j + 1 + r) ≤ 12 → (0 ≤ I 137 36 ∧ I 137 36 ≤ z ∧ 0 ≤ I 137 37 ∧ I 137 37 ≤ z ∧ 0 ≤ I 137 38 ∧ I 137 38 ≤ z) → z + 3168 * (j + 1 + r) ≤ 1000000000 → (∀ J : ZI, gWr B j r H g LA x3 x4 = none → (0 ≤ J 137 36 ∧ J 137 36 ≤ z + 3168 * (j + 1 + r) ∧ 0 ≤ J 137 37 ∧ J 137 37 ≤ z + 3168 * (j + 1 + r) ∧ 0 ≤ J 137 38 ∧ J 137 38 ≤ z + 3168 * (j + 1 + r)) → (∀ a b, ¬ fM 32 a b → J a b = I a b) → Q 0 J) → (∀ (J : ZI) (H2 : List Int) (L2 : Nat → Int), gWr B j r H g LA x3 x4 = some (H2, L2) → mSt J H2 (g + (j + 1 + r)) L2 → (0 ≤ J 137 36 ∧ J 137 36 ≤ z + 3168 * (j + 1 + r) ∧ 0 ≤ J 137 37 ∧ J 137 37 ≤ z + 3168 * (j + 1 + r) ∧ 0 ≤ J 137 38 ∧ J 137 38 ≤ z + 3168 * (j + 1 + r)) → (∀ a b, ¬ fM 32 a b → J a b = I a b) → Q 1 J) → XIs (d + 5) 233 3 [some (.inr 137), some (.inl (m : Int)), some (.inl (k : Int)), some (.inl x3), some (.inl x4), some (.inl (p : Int)), u] [] n sh R I Q := by
  intro j
  induction j with
  | zero =>
    intro p I H g LA z u h hE hH hv hg h3 hz q0 q1
    obtain rfl : p = k := by omega
    refine b_M_goesWrong_3 hW ?_
    rw [if_neg (by omega)]
    refine s_M_comeAhead hW hb hv.1 (by omega) hE hH fun I1 i1 i2 => ?_
    have hin := hv.1.come.inb hb
    have l9 := hin.1
    have hE1 : mEnv B I1 := hE.fr fun a b hab => i2 a b (by omega) (by omega)
    have e42 : ∀ b, 36 ≤ b ∧ b ≤ 38 → I1 137 b = I 137 b := fun b hb => i2 _ _ (by omega) (by omega)
    refine s_M_asksAll hW hb hin (by rw [e42 36 (by omega), e42 37 (by omega), e42 38 (by omega)]; omega) hE1 i1 fun I2 j0 j1 j2 => ?_
    have hE2 : mEnv B I2 := hE1.fr fun a b hab => j2 a b (by omega) (by omega) (by omega) (by omega)
    have hH2 : mSt I2 (gCome B H g) g LA := i1.fr fun a b hab => j2 a b (by omega) (by omega) (by omega) (by omega)
    have rg := gTal_range (g := g) (LA := LA) hb hin (p := (gCome B H g).length) (Nat.le_refl _)
    rw [e42 36 (by omega), e42 37 (by omega), e42 38 (by omega)] at j1
    have ff : ∀ a b, ¬ fM 32 a b → I2 a b = I a b := fun a b hab => by
      unfold fM at hab
      rw [j2 a b (by omega) (by omega) (by omega) (by omega), i2 a b (by omega) (by omega)]
    rw [gWr_0] at q0 q1
    refine s_M_place hW hin.1 hH2 ?_
    rw [if_neg (not_not_intro rfl)]
    have eP : pPlace (hOd (gCome B H g)) (gCome B H g).length x3 = gBlP B H g x3 := rfl
    rcases hOd_place (H := gCome B H g) (i := x3) with e | ⟨y, e, hp, e2⟩
    · rw [e, if_pos rfl]
      refine q0 I2 (if_pos (decide_eq_true (.inl ?_))) (by omega) ff
      rw [← eP, e]; decide
    · rw [e, if_neg (by omega), Int.toNat_natCast, j0 y hp]
      have ep : gBlP B H g x3 = (y : Int) := eP ▸ e
      refine ⟨by omega, ?_⟩
      have hN : gBlN B H g LA x3 x4 = decide (gI1 B H g LA y = -1 ∨ gI1 B H g LA y = x4) := by
        unfold gBlN
        rw [ep, Int.toNat_natCast]
        exact decide_eq_decide.mpr ⟨fun a => a.resolve_left (by omega), .inr⟩
      have hI : ∀ k, gBlI B H g LA x3 x4 k = if k = y then x4 else gI1 B H g LA k := fun k => by
        unfold gBlI; rw [ep, Int.toNat_natCast]
      rw [hN] at q0 q1
      show if gI1 B H g LA y = -1 then _ else _
      by_cases g1 : gI1 B H g LA y = -1
      · rw [if_pos g1]; exact q0 I2 (if_pos (decide_eq_true (.inl g1))) (by omega) ff
      rw [if_neg g1]
      show if ¬ gI1 B H g LA y = x4 then _ else _
      by_cases g2 : gI1 B H g LA y = x4
      · rw [if_neg (not_not_intro g2)]; exact q0 I2 (if_pos (decide_eq_true (.inr g2))) (by omega) ff
      rw [if_pos g2]
      have hE3 : mEnv B (zup I2 158 y x4) := hE2.fr fun a b hab => zup_ne (by omega)
      refine s_M_throwsAll (into := gBlI B H g LA x3 x4) hW hb hin (iOk_bl hb hx) ⟨hE3.1.2.1, hE3.1.2.2⟩ (by omega) (hH2.fr fun a b hab => zup_ne (by omega)) (fun k hk => ?_) fun I4 l1 l2 => ?_
      · rw [hI]
        by_cases e3 : k = y
        · rw [if_pos e3, zup_eq (by omega)]
        · rw [if_neg e3, zup_ne (by omega)]; exact j0 k hk
      have hE4 : mEnv B I4 := hE3.fr fun a b hab => l2 a b (by omega) (by omega) (by omega) (by omega)
      have f42 : ∀ b, 36 ≤ b ∧ b ≤ 38 → I4 137 b = I2 137 b := fun b hb => by rw [l2 _ _ (by omega) (by omega) (by omega) (by omega), zup_ne (by omega)]
      have m5 := f42 36 (by omega)
      have m6 := f42 37 (by omega)
      have m7 := f42 38 (by omega)
      have hD : ¬ decide (gI1 B H g LA y = -1 ∨ gI1 B H g LA y = x4) = true := by rw [decide_eq_false (by omega)]; decide
      refine ⟨by unfold zr; omega, l_M_wr2 hW hb hm r (p + 1) I4 (gBlH B H g LA x3 x4) (g + 1) (gBlL B H g LA x3 x4) (z + 3168) _ (by omega) (by omega) hE4 l1 (hv.bl hb hx) (by omega) (by omega) (by omega) fun J n1 n2 n3 => q1 J _ _ (if_neg hD) ?_ (by omega) fun a b hab => ?_⟩
      · rw [show g + (((0 : Nat) : Int) + 1 + r) = g + 1 + r by omega]; exact n1
      · rw [n3 a b hab]
        have hab2 := hab
        unfold fM at hab2
        rw [l2 a b (by omega) (by omega) (by omega) (by omega), zup_ne (by omega)]
        exact ff a b hab
  | succ j ih =>
    intro p I H g LA z u h hE hH hv hg h3 hz q0 q1
    refine b_M_goesWrong_3 hW ?_
    rw [if_neg (by omega)]
    refine s_M_comeAhead hW hb hv.1 (by omega) hE hH fun I1 i1 i2 => ?_
    have hin := hv.1.come.inb hb
    have l9 := hin.1
    have hE1 : mEnv B I1 := hE.fr fun a b hab => i2 a b (by omega) (by omega)
    have e42 : ∀ b, 36 ≤ b ∧ b ≤ 38 → I1 137 b = I 137 b := fun b hb => i2 _ _ (by omega) (by omega)
    refine s_M_asksAll hW hb hin (by rw [e42 36 (by omega), e42 37 (by omega), e42 38 (by omega)]; omega) hE1 i1 fun I2 j0 j1 j2 => ?_
    have hE2 : mEnv B I2 := hE1.fr fun a b hab => j2 a b (by omega) (by omega) (by omega) (by omega)
    have hH2 : mSt I2 (gCome B H g) g LA := i1.fr fun a b hab => j2 a b (by omega) (by omega) (by omega) (by omega)
    have rg := gTal_range (g := g) (LA := LA) hb hin (p := (gCome B H g).length) (Nat.le_refl _)
    refine s_M_place hW hin.1 hH2 ?_
    rw [if_pos (by omega)]
    refine s_M_throwsAll hW hb hin (iOk_into hb) ⟨hE2.1.2.1, hE2.1.2.2⟩ (by omega) hH2 j0 fun I4 l1 l2 => ?_
    have hE4 : mEnv B I4 := hE2.fr fun a b hab => l2 a b (by omega) (by omega) (by omega) (by omega)
    have f42 : ∀ b, 36 ≤ b ∧ b ≤ 38 → I4 137 b = I2 137 b := fun b hb => l2 _ _ (by omega) (by omega) (by omega) (by omega)
    rw [e42 36 (by omega), e42 37 (by omega), e42 38 (by omega)] at j1
    have m5 := f42 36 (by omega)
    have m6 := f42 37 (by omega)
    have m7 := f42 38 (by omega)
    have fr : ∀ (J : ZI), (∀ a b, ¬ fM 32 a b → J a b = I4 a b) → ∀ a b, ¬ fM 32 a b → J a b = I a b := fun J n3 a b hab => by
      rw [n3 a b hab]
      unfold fM at hab
      rw [l2 a b (by omega) (by omega) (by omega) (by omega), j2 a b (by omega) (by omega) (by omega) (by omega), i2 a b (by omega) (by omega)]
    rw [gWr_succ] at q0 q1
    refine ⟨by unfold zr; omega, ih (p + 1) I4 (gH1 B H g LA) (g + 1) (gL1 B H g LA) (z + 3168) _ (by omega) hE4 l1 (hv.go hb) (by omega) (by omega) (by omega) (fun J n1 n2 n3 => q0 J n1 (by omega) (fr J n3)) fun J H2 L2 n0 n1 n2 n3 => q1 J H2 L2 n0 ?_ (by omega) (fr J n3)⟩
    rw [show g + (((j + 1 : Nat) : Int) + 1 + r) = g + 1 + (j + 1 + r) by omega]; exact n1
end BL
theorem gGo_tal {B : ZI} {S : Nat} (hb : bOk B S) : ∀ (c : Nat) (H : List Int) (g : Int) (LA : Nat → Int), stOk B H g LA → (0 ≤ (gGo B c H g LA).2.2.1 ∧ (gGo B c H g LA).2.2.1 ≤ 3168 * c) ∧ (0 ≤ (gGo B c H g LA).2.2.2.1 ∧ (gGo B c H g LA).2.2.2.1 ≤ 3168 * c) ∧ (0 ≤ (gGo B c H g LA).2.2.2.2 ∧ (gGo B c H g LA).2.2.2.2 ≤ 3168 * c)
  | 0, H, g, LA, h => by
    show (0 ≤ (0 : Int) ∧ (0 : Int) ≤ 3168 * ((0 : Nat) : Int)) ∧ (0 ≤ (0 : Int) ∧ (0 : Int) ≤ 3168 * ((0 : Nat) : Int)) ∧ (0 ≤ (0 : Int) ∧ (0 : Int) ≤ 3168 * ((0 : Nat) : Int))
    omega
  | c + 1, H, g, LA, h => by
    have ih := gGo_tal hb c (gH1 B H g LA) (g + 1) (gL1 B H g LA) (h.go hb)
    have rg := gTal_range (g := g) (LA := LA) hb (h.1.come.inb hb) (p := (gCome B H g).length) (Nat.le_refl _)
    have e1 : (gGo B (c + 1) H g LA).2.2.1 = (gTal B (gCome B H g) g LA (gCome B H g).length).1 + (gGo B c (gH1 B H g LA) (g + 1) (gL1 B H g LA)).2.2.1 := rfl
    have e2 : (gGo B (c + 1) H g LA).2.2.2.1 = (gTal B (gCome B H g) g LA (gCome B H g).length).2.1 + (gGo B c (gH1 B H g LA) (g + 1) (gL1 B H g LA)).2.2.2.1 := rfl
    have e3 : (gGo B (c + 1) H g LA).2.2.2.2 = (gTal B (gCome B H g) g LA (gCome B H g).length).2.2 + (gGo B c (gH1 B H g LA) (g + 1) (gL1 B H g LA)).2.2.2.2 := rfl
    omega
theorem gWr_ok {B : ZI} {S : Nat} (hb : bOk B S) {j r : Nat} {H : List Int} {g : Int} {LA : Nat → Int} (h : stOk B H g LA) {i hl : Int} (hh : 0 ≤ hl ∧ hl < B 137 3) {T : List Int} {L2 : Nat → Int} (e : gWr B j r H g LA i hl = some (T, L2)) : stOk B T (g + (j + 1 + r)) L2 := by
  have ok := gGo_ok hb j H g LA h
  unfold gWr at e
  by_cases q : gBlN B (gGo B j H g LA).1 (g + j) (gGo B j H g LA).2.1 i hl = true
  · rw [if_pos q] at e; cases e
  · rw [if_neg q] at e
    have e2 := Option.some.inj e
    have ok2 := (gGo_ok hb r _ _ _ (ok.1.bl hb (i := i) (hl := hl) hh)).1
    rw [← (Prod.mk.inj e2).1, ← (Prod.mk.inj e2).2]
    rw [show g + ((j : Int) + 1 + r) = g + j + 1 + r by omega]
    exact ok2
