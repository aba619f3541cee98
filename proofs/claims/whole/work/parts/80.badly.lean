-- BADLY: each wrong hole, each letter, each go
def frB (lw a : Nat) : Prop := a = 43 ∨ a = lw + 7 ∨ a = 44 ∨ a = 16 ∨ a = 17 ∨ 121 ≤ a ∧ a ≤ 136
def jSt (B I0 : ZI) (lw S : Nat) (bp bh : Bool) (g : Int) (Hr : List Int) (gk : Int) (Lk law : Nat → Int) (I : ZI) : Prop := gEnv B I lw S ∧ kInv B bp bh g I ∧ gSt B I 122 Hr gk Lk ∧ (∀ q, q < Hr.length → I 134 q = law q) ∧ gBs B I 128 ∧ ∀ a b, ¬ frB lw a → I a b = I0 a b
theorem jC_at {B : ZI} {TT : Nat → Int} {m : Nat} {H : List Int} {g : Int} {LA : Nat → Int} {hs k i h : Nat} (hhs : B 137 3 = (hs : Int)) (hh : h < hs) (hi : i < 32) : jC B TT m H g LA ((k * 32 + i) * hs + h) = (decide ((i : Int) < B 137 0) && jRt B TT m H g LA k i h) := by
  have e : (B 137 3).toNat = hs := by omega
  have c := jCode (k := k) hh hi
  unfold jC
  rw [e, c.1, c.2.1, c.2.2]
theorem jRt_no {B : ZI} {TT : Nat → Int} {m : Nat} {H : List Int} {g : Int} {LA : Nat → Int} {k : Nat} {i h : Int} (hn : gBlN B (gGo B k H g LA).1 (g + k) (gGo B k H g LA).2.1 i h = true) : jRt B TT m H g LA k i h = false := by
  unfold jRt gWr
  rw [if_pos hn]
section BV
variable {d n t : Nat} {sh : ZS} {R : ZR} {B : ZI} {lw S : Nat} {M g : Int} {m : Nat} {bp bh : Bool}
theorem l_B_try {Q : ZI → Prop} {H : List Int} {LA : Nat → Int} {hs k i p : Nat} {I0 : ZI} (hW : Wf sh R) (hl : lw = 5 ∨ lw = 45) (hR : R 42 4 = lw) (hL : Lw sh R lw) (hb : bOk B S) (hm : mkOk M (B 151) S) (hbp : bp = M.toNat.testBit 4) (hbh : bh = M.toNat.testBit 6) (hg : 0 ≤ g ∧ g + m ≤ 12) (hm6 : m ≤ 6) (hk : k < m) (hhs : B 137 3 = (hs : Int)) (hv : stOk B H g LA) (hi : i < 32 ∧ (i : Int) < B 137 0) (hp : p < (gCome B (gGo B k H g LA).1 (g + k)).length) (hpi : (gCome B (gGo B k H g LA).1 (g + k)).getD p 0 = (i : Int)) (hla : ¬ gI1 B (gGo B k H g LA).1 (g + k) (gGo B k H g LA).2.1 p = -1) (hn : ((pCount (fun q => decide (B 140 q ≤ g + m)) (B 137 0).toNat : Nat) : Int) ≤ I0 2 1)
    (q : ∀ J : ZI, jSt B I0 lw S bp bh g (gCome B (gGo B k H g LA).1 (g + k)) (g + k) (gGo B k H g LA).2.1 (gI1 B (gGo B k H g LA).1 (g + k) (gGo B k H g LA).2.1) J → jI (jC B (I0 3) m H g LA) hs ((k * 32 + i) * hs + hs) J → Q J) :
    ∀ (c h : Nat) (I : ZI) (u6 : Option AV), h + c = hs → jSt B I0 lw S bp bh g (gCome B (gGo B k H g LA).1 (g + k)) (g + k) (gGo B k H g LA).2.1 (gI1 B (gGo B k H g LA).1 (g + k) (gGo B k H g LA).2.1) I → jI (jC B (I0 3) m H g LA) hs ((k * 32 + i) * hs + h) I → XVs (d + 5) 3 3 [some (.inr 121), some (.inl (k : Int)), some (.inl (m : Int)), some (.inl (p : Int)), some (.inr 2), some (.inl (h : Int)), u6] [] n sh R I Q
  | 0, h, I, u6, hc, hJ, hI => b_B_tryHoles_3 hW (by
    obtain rfl : h = hs := by omega
    rw [hJ.1.1.1, hhs, if_pos (by omega)]
    exact q I hJ hI)
  | c + 1, h, I, u6, hc, hJ, hI => b_B_tryHoles_3 hW (by
    obtain ⟨hE, hK, h122, h134, hBs, hf⟩ := hJ
    have hvk := (gGo_ok hb k H g LA hv).1
    have hin := hvk.1.come.inb hb
    have l9 := hin.1
    have hs9 := hb.2.1
    have at0 : jC B (I0 3) m H g LA ((k * 32 + i) * hs + h) = (decide ((i : Int) < B 137 0) && jRt B (I0 3) m H g LA k i h) := jC_at hhs (show h < hs by omega) hi.1
    rw [decide_eq_true hi.2, Bool.true_and] at at0
    have hPl : gBlP B (gGo B k H g LA).1 (g + k) i = (p : Int) := (place_nd hvk.1.come.2.2 hp _).mpr hpi
    have nx : ∀ (J : ZI) (u6 : Option AV), jSt B I0 lw S bp bh g (gCome B (gGo B k H g LA).1 (g + k)) (g + k) (gGo B k H g LA).2.1 (gI1 B (gGo B k H g LA).1 (g + k) (gGo B k H g LA).2.1) J → jI (jC B (I0 3) m H g LA) hs ((k * 32 + i) * hs + h + 1) J → (zr ((h : Int) + 1)) ∧ XVs (d + 5) 3 3 [some (.inr 121), some (.inl (k : Int)), some (.inl (m : Int)), some (.inl (p : Int)), some (.inr 2), some (.inl ((h : Int) + 1)), u6] [] n sh R J Q := fun J u6 a b => by
      rw [show (h : Int) + 1 = ((h + 1 : Nat) : Int) by omega]
      exact ⟨by unfold zr; omega, l_B_try hW hl hR hL hb hm hbp hbh hg hm6 hk hhs hv hi hp hpi hla hn q c (h + 1) J u6 (by omega) a b⟩
    have skip : ∀ (J : ZI), ¬ jC B (I0 3) m H g LA ((k * 32 + i) * hs + h) = true → jI (jC B (I0 3) m H g LA) hs ((k * 32 + i) * hs + h) J → jI (jC B (I0 3) m H g LA) hs ((k * 32 + i) * hs + h + 1) J := fun J no hj => by
      have e := jN_skip (ok := jC B (I0 3) m H g LA) (c := (k * 32 + i) * hs + h) 1 fun e h1 h2 => by
        rw [show e = (k * 32 + i) * hs + h by omega]; exact no
      unfold jI at hj ⊢
      rw [e]; exact hj
    rw [hE.1.1, hhs, if_neg (by omega), Int.toNat_natCast, h134 p hp]
    refine ⟨by omega, ?_⟩
    by_cases e : (h : Int) = gI1 B (gGo B k H g LA).1 (g + k) (gGo B k H g LA).2.1 p
    · rw [if_neg (not_not_intro e)]
      refine nx I u6 ⟨hE, hK, h122, h134, hBs, hf⟩ (skip I ?_ hI)
      rw [at0, jRt_no]
      · decide
      · unfold gBlN
        rw [hPl, Int.toNat_natCast]
        exact decide_eq_true (.inr (.inr e.symm))
    · rw [if_pos e]
      refine s_S_copyGoesFrom hW (St_128 hW) (St_122 hW) (by omega) fun J1 j1 => ?_
      obtain ⟨⟨c1, c2⟩, c3, c4⟩ := j1
      have p128 : sPl 128 := .inr (.inr (.inr (.inr (.inr rfl))))
      have f1 : ∀ a b, ¬ a = 128 → ¬ (132 ≤ a ∧ a ≤ 133) → ¬ a = 44 → (zup (zcpy J1 134 0 44 0 32) 44 p (h : Int)) a b = I a b := fun a b g1 g2 g3 => by
        rw [zup_ne (by omega), zcpy_ne (by omega)]; exact c4 a b (by omega) (by omega)
      have f2 : ∀ a b, ¬ a = 44 → (zup (zcpy J1 134 0 44 0 32) 44 p (h : Int)) a b = J1 a b := fun a b g3 => by
        rw [zup_ne (by omega), zcpy_ne (by omega)]
      have hEz : gEnv B (zup (zcpy J1 134 0 44 0 32) 44 p (h : Int)) lw S := hE.fr hl fun a b hab => f1 a b (by omega) (by omega) (by omega)
      have hKz : kInv B bp bh g (zup (zcpy J1 134 0 44 0 32) 44 p (h : Int)) := hK.fr fun a b hab => f1 a b (by omega) (by omega) (by omega)
      have hHz : gSt B (zup (zcpy J1 134 0 44 0 32) 44 p (h : Int)) 128 (gCome B (gGo B k H g LA).1 (g + k)) (g + k) (gGo B k H g LA).2.1 := by
        refine ⟨⟨?_, ?_, ?_⟩, fun q hq => ?_, fun j hj => ?_⟩
        · rw [f2 _ _ (by omega), c4 _ _ (by omega) (by omega)]; exact hBs.1
        · rw [f2 _ _ (by omega), c1]; exact h122.1.2.1
        · rw [f2 _ _ (by omega), c2]; exact h122.1.2.2
        · rw [f2 _ _ (by omega), (c3 q (by omega)).2]; exact h122.2.1 q hq
        · rw [f2 _ _ (by omega), f2 _ _ (by omega), f2 _ _ (by omega), f2 _ _ (by omega), (c3 j hj).1, c4 _ _ (by omega) (by omega), c4 _ _ (by omega) (by omega), c4 _ _ (by omega) (by omega)]
          exact ⟨(hBs.2 j hj).1, (hBs.2 j hj).2.1, (hBs.2 j hj).2.2, (h122.2.2 j hj).2.2.2⟩
      have h44 : ∀ q, q < (gCome B (gGo B k H g LA).1 (g + k)).length → (zup (zcpy J1 134 0 44 0 32) 44 p (h : Int)) 44 q = gBlI B (gGo B k H g LA).1 (g + k) (gGo B k H g LA).2.1 i h q := fun q hq => by
        unfold gBlI
        rw [hPl, Int.toNat_natCast]
        by_cases x : q = p
        · rw [if_pos x, zup_eq ⟨rfl, x⟩]
        · rw [if_neg x, zup_ne (by omega), zcpy_to (by omega), c4 _ _ (by omega) (by omega)]
          exact h134 q hq
      have hhb : 0 ≤ (h : Int) ∧ (h : Int) < B 137 3 := by omega
      refine s_G_throwAll (d := d + 2) hW (St_128 hW) p128 hb hin (iOk_bl hb (LA := (gGo B k H g LA).2.1) (i := (i : Int)) hhb) hEz.1 (by omega) hHz h44 fun J3 o1 o2 => ⟨by unfold zr; omega, ?_⟩
      have eg : g + ((k + 1 : Nat) : Int) = g + k + 1 := by omega
      have em : g + (k : Int) + 1 + ((m - k - 1 : Nat) : Int) = g + m := by omega
      have bl := hvk.bl hb (i := (i : Int)) hhb
      rw [show (k : Int) + 1 = ((k + 1 : Nat) : Int) by omega]
      have hE3 : gEnv B J3 lw S := hEz.fr hl fun a b hab => o2 a b (by omega) (by omega) (by omega) (by omega) (by omega)
      have hK3 : kInv B bp bh g J3 := hKz.fr fun a b hab => o2 a b (by omega) (by omega) (by omega) (by omega) (by omega)
      refine l_B_later (d := d) (I0 := J3) hW hl hR hL hb hm hbp hbh hg hm6 (m - k - 1) (k + 1) (gBlH B (gGo B k H g LA).1 (g + k) (gGo B k H g LA).2.1 i h) (gBlL B (gGo B k H g LA).1 (g + k) (gGo B k H g LA).2.1 i h) J3 (by omega) hE3 hK3 (by rw [eg]; exact o1) (by rw [eg]; exact bl) (fun _ _ _ _ _ _ _ _ _ _ => rfl) fun J4 y1 y2 y3 y4 => ?_
      rw [eg] at y1
      have okT := (gGo_ok hb (m - k - 1) _ _ _ bl).1
      rw [em] at okT
      have lT := (okT.1.inb hb).1
      have fJ : ∀ a b, ¬ a = 43 → ¬ a = lw + 7 → ¬ a = 44 → ¬ a = 16 → ¬ a = 17 → ¬ a = 135 → ¬ (128 = a ∧ ¬ b = 5) → ¬ (132 ≤ a ∧ a ≤ 133) → J4 a b = I a b := fun a b g1 g2 g3 g4 g5 g6 g7 g8 => by
        rw [y4 a b g1 g2 g3 g4 g5 g6 (by omega) g8, o2 a b g4 g5 (by omega) (by omega) (by omega), f2 a b g3]
        exact c4 a b (by omega) (by omega)
      have h122' : gSt B J4 122 (gCome B (gGo B k H g LA).1 (g + k)) (g + k) (gGo B k H g LA).2.1 := h122.fr fun a b hab => fJ a b (by omega) (by omega) (by omega) (by omega) (by omega) (by omega) (by omega) (by omega)
      have hS4 : jSt B I0 lw S bp bh g (gCome B (gGo B k H g LA).1 (g + k)) (g + k) (gGo B k H g LA).2.1 (gI1 B (gGo B k H g LA).1 (g + k) (gGo B k H g LA).2.1) J4 := ⟨y2, y3, h122', fun q hq => by rw [fJ _ _ (by omega) (by omega) (by omega) (by omega) (by omega) (by omega) (by omega) (by omega)]; exact h134 q hq, hBs.fr fun a b hab => fJ a b (by omega) (by omega) (by omega) (by omega) (by omega) (by omega) (by omega) (by omega), fun a b hab => by
        have hab2 := hab
        unfold frB at hab2
        rw [fJ a b (by omega) (by omega) (by omega) (by omega) (by omega) (by omega) (by omega) (by omega)]; exact hf a b hab⟩
      have hI4 : jI (jC B (I0 3) m H g LA) hs ((k * 32 + i) * hs + h) J4 := hI.fr fun a b hab => fJ a b (by omega) (by omega) (by omega) (by omega) (by omega) (by omega) (by omega) (by omega)
      have bn : ¬ gBlN B (gGo B k H g LA).1 (g + k) (gGo B k H g LA).2.1 i h = true := by
        unfold gBlN
        rw [hPl, Int.toNat_natCast, decide_eq_true_iff]
        intro x
        rcases x with x | x | x
        · omega
        · exact hla x
        · exact e x.symm
      have rt : jRt B (I0 3) m H g LA k i h = decide (∀ q, q < (gGo B (m - k - 1) (gBlH B (gGo B k H g LA).1 (g + k) (gGo B k H g LA).2.1 i h) (g + k + 1) (gBlL B (gGo B k H g LA).1 (g + k) (gGo B k H g LA).2.1 i h)).1.length → I0 3 q = (gGo B (m - k - 1) (gBlH B (gGo B k H g LA).1 (g + k) (gGo B k H g LA).2.1 i h) (g + k + 1) (gBlL B (gGo B k H g LA).1 (g + k) (gGo B k H g LA).2.1 i h)).1.getD q 0) := by
        unfold jRt gWr
        rw [if_neg bn]
      have f3 : J4 3 = I0 3 := funext fun b => hS4.2.2.2.2.2 3 b (by unfold frB; omega)
      have f21 : J4 2 1 = I0 2 1 := hS4.2.2.2.2.2 2 1 (by unfold frB; omega)
      have lT2 := okT.1.1
      generalize (gGo B (m - k - 1) (gBlH B (gGo B k H g LA).1 (g + k) (gGo B k H g LA).2.1 i h) (g + k + 1) (gBlL B (gGo B k H g LA).1 (g + k) (gGo B k H g LA).2.1 i h)).1 = T at y1 rt lT lT2
      refine b_B_tryHoles_85 hW ?_
      rw [if_pos (by omega)]
      refine s_T_tells (d := d + 3) hW (St_128 hW) lT y1 (by rw [f21]; omega) fun v hv => ?_
      rcases hv with ⟨rfl, hv⟩ | ⟨rfl, hv⟩
      · rw [if_neg (by decide), Int.toNat_natCast]
        have e127 : J4 127 p = (i : Int) := by rw [← hpi]; exact h122'.2.1 p hp
        rw [e127]
        refine ⟨by omega, s_B_note hW (show h < hs by omega) hi.1 (by omega) (by omega) hI4 ?_ fun J5 z1 z2 => ?_⟩
        · rw [at0, rt]
          refine decide_eq_true fun q hq => ?_
          rw [← f3]; exact hv q hq
        · refine nx J5 _ ⟨y2.fr hl fun a b hab => z2 a b (by omega) (by omega), y3.fr fun a b hab => z2 a b (by omega) (by omega), h122'.fr fun a b hab => z2 a b (by omega) (by omega), fun q hq => by rw [z2 _ _ (by omega) (by omega)]; exact hS4.2.2.2.1 q hq, hS4.2.2.2.2.1.fr fun a b hab => z2 a b (by omega) (by omega), fun a b hab => ?_⟩ z1
          have hab2 := hab
          unfold frB at hab2
          rw [z2 a b (by omega) (by omega)]; exact hS4.2.2.2.2.2 a b hab
      · rw [if_pos rfl]
        refine nx J4 _ hS4 (skip J4 ?_ hI4)
        rw [at0, rt]
        intro x
        refine hv fun q hq => ?_
        rw [f3]; exact of_decide_eq_true x q hq)
end BV
