-- BADLY: asking, each answer kept
section BK
variable {d n t : Nat} {sh : ZS} {R : ZR} {B : ZI} {lw S o : Nat}
theorem l_B_ask {Q : ZI → Prop} {M g0 : Int} {bp bh : Bool} {H : List Int} {k : Nat} {LA : Nat → Int} (hW : Wf sh R) (hS : St sh R o) (ho : sPl o) (hl : lw = 5 ∨ lw = 45) (hR : R 42 4 = lw) (hL : Lw sh R lw) (hb : bOk B S) (hh : hIn B H) (hm : mkOk M (B 151) S) (hbp : bp = M.toNat.testBit 4) (hbh : bh = M.toNat.testBit 6) (hk : k < 6) (hLA : ∀ j : Nat, (j : Int) < B 137 0 → 0 ≤ LA j ∧ LA j ≤ 9) {I0 : ZI} (q : ∀ J : ZI, (∀ p, p < H.length → J 44 p = gInto B H (g0 + k) LA p) → kInv B bp bh g0 J → (∀ a b, ¬ a = 43 → ¬ a = lw + 7 → ¬ a = 44 → ¬ a = 135 → J a b = I0 a b) → Q J) :
    ∀ (c p : Nat) (I : ZI) (u4 u5 u6 u7 : Option AV), p + c = H.length → gEnv B I lw S → gSt B I o H (g0 + k) LA → kInv B bp bh g0 I → (∀ j, j < p → I 44 j = gInto B H (g0 + k) LA j) → (∀ a b, ¬ a = 43 → ¬ a = lw + 7 → ¬ a = 44 → ¬ a = 135 → I a b = I0 a b) → XVs (d + 4) 5 2 [some (.inr 121), some (.inr o), some (.inl (k : Int)), some (.inl (p : Int)), u4, u5, u6, u7] [] n sh R I Q
  | 0, p, I, u4, u5, u6, u7, h, hE, hH, hK, h44, hf => b_B_askKnown_2 hW hS (by
    rw [hH.1.2.1, if_pos (by omega)]
    exact q I (fun j hj => h44 j (by omega)) hK hf)
  | c + 1, p, I, u4, u5, u6, u7, h, hE, hH, hK, h44, hf => b_B_askKnown_2 hW hS (by
    have l9 := hh.1
    have hi := hh.2 p (by omega)
    have b0 := hb.1
    obtain ⟨i, hi2⟩ : ∃ i : Nat, H.getD p 0 = (i : Int) := ⟨(H.getD p 0).toNat, by omega⟩
    have la0 := hLA i (by omega)
    obtain ⟨la, hla⟩ : ∃ la : Nat, LA i = (la : Int) := ⟨(LA i).toNat, by omega⟩
    have o1 : I (o + 5) p = (i : Int) := by rw [hH.2.1 p (by omega)]; exact hi2
    have o2 : I (o + 4) i = (la : Int) := by rw [(hH.2.2 i (by omega)).2.2.2]; exact hla
    have ho2 := ho
    unfold sPl at ho2
    have an : kAn B p (i : Int) (g0 + k) (la : Int) = gInto B H (g0 + k) LA p := by
      unfold gInto
      rw [hi2, ← hla]; rfl
    have gr : -1 ≤ gInto B H (g0 + k) LA p ∧ gInto B H (g0 + k) LA p < B 137 3 := gHole_range hb.2.1.1
    have hb3 := hb.2.1
    have core : ∀ (E : Nat) (ROW SH : Int), E = jEn bp bh k i p la → (if ¬ (I 135 E % 16) = 0 then (zr ((I 135 E % 16) - 1)) ∧ (zr (((I 135 E % 16) - 1) + (-1))) ∧ (zr ((p : Int) + 1)) ∧ XVs (d + 4) 5 2 [some (.inr 121), some (.inr o), some (.inl (k : Int)), some (.inl ((p : Int) + 1)), some (.inl (i : Int)), some (.inl ROW), some (.inl SH), some (.inl (I 135 E % 16))] [] n sh R (zup I 44 p (((I 135 E % 16) - 1) + (-1))) Q else XI (d + 3) 52 [.inr 42, .inr o, .inl (p : Int)] n sh R I (fun v10 I11 => (zr (v10 - (-1))) ∧ (zr ((v10 - (-1)) + 1)) ∧ (0 ≤ ((v10 - (-1)) + 1) ∧ ((v10 - (-1)) + 1) < 16) ∧ (I11 135 E % 16 = 0) ∧ (zr (((v10 - (-1)) + 1) - 1)) ∧ (zr ((((v10 - (-1)) + 1) - 1) + (-1))) ∧ (zr ((p : Int) + 1)) ∧ XVs (d + 4) 5 2 [some (.inr 121), some (.inr o), some (.inl (k : Int)), some (.inl ((p : Int) + 1)), some (.inl (i : Int)), some (.inl ROW), some (.inl SH), some (.inl ((v10 - (-1)) + 1))] [] n sh R (zup (zup I11 135 E ((v10 - (-1)) + 1)) 44 p ((((v10 - (-1)) + 1) - 1) + (-1))) Q)) := fun E ROW SH hE2 => by
      subst hE2
      have kc := hK.2 k i p la hk (by omega) (by omega) (by omega)
      rw [show (p : Int) + 1 = ((p + 1 : Nat) : Int) by omega]
      by_cases g1 : I 135 (jEn bp bh k i p la) = 0
      · rw [if_neg (not_not_intro (show I 135 (jEn bp bh k i p la) % 16 = 0 by omega))]
        refine s_G_holeFor hW hS ho hl hR hL hb hE hH hh (p := p) (by omega) fun J hJ => ?_
        have z1 : J 135 (jEn bp bh k i p la) = 0 := by rw [hJ _ _ (by omega) (by omega)]; exact g1
        refine ⟨by unfold zr; omega, by unfold zr; omega, by omega, by omega, by unfold zr; omega, by unfold zr; omega, by unfold zr; omega, l_B_ask hW hS ho hl hR hL hb hh hm hbp hbh hk hLA q c (p + 1) _ _ _ _ _ (by omega) (hE.fr hl fun a b hab => by rw [zup_ne (by omega), zup_ne (by omega)]; exact hJ a b (by omega) (by omega)) (hH.fr fun a b hab => by rw [zup_ne (by omega), zup_ne (by omega)]; exact hJ a b (by omega) (by omega)) ⟨⟨?_, ?_⟩, fun k2 i2 p2 la2 z1 z2 z3 z4 => ?_⟩ (fun j hj => ?_) fun a b x1 x2 x3 x4 => by rw [zup_ne (by omega), zup_ne (by omega), hJ a b x1 x2]; exact hf a b x1 x2 x3 x4⟩
        · rw [zup_ne (by omega), zup_ne (by omega), hJ _ _ (by omega) (by omega)]; exact hK.1.1
        · rw [zup_ne (by omega), zup_ne (by omega), hJ _ _ (by omega) (by omega)]; exact hK.1.2
        · rw [zup_ne (by omega)]
          by_cases x : jEn bp bh k2 i2 p2 la2 = jEn bp bh k i p la
          · rw [zup_eq ⟨rfl, x⟩]
            refine .inr ?_
            rw [kAn_eq hm hb.2.2.2.2 hbp hbh z2 (by omega) z3 (by omega) z4 (by omega) x, an]
            omega
          · rw [zup_ne (by omega), hJ _ _ (by omega) (by omega)]; exact hK.2 k2 i2 p2 la2 z1 z2 z3 z4
        · by_cases x : j = p
          · rw [zup_eq ⟨rfl, x⟩, x]; omega
          · rw [zup_ne (by omega), zup_ne (by omega), hJ _ _ (by omega) (by omega)]; exact h44 j (by omega)
      · have kd : I 135 (jEn bp bh k i p la) - 2 = gInto B H (g0 + k) LA p := by
          rcases kc with kc | kc
          · exact absurd kc g1
          · rw [kc, an]
        rw [if_pos (by omega)]
        refine ⟨by unfold zr; omega, by unfold zr; omega, by unfold zr; omega, l_B_ask hW hS ho hl hR hL hb hh hm hbp hbh hk hLA q c (p + 1) _ _ _ _ _ (by omega) (hE.fr hl fun a b hab => zup_ne (by omega)) (hH.fr fun a b hab => zup_ne (by omega)) (hK.fr fun a b hab => zup_ne (by omega)) (fun j hj => ?_) fun a b x1 x2 x3 x4 => by rw [zup_ne (by omega)]; exact hf a b x1 x2 x3 x4⟩
        by_cases x : j = p
        · rw [zup_eq ⟨rfl, x⟩, x]; omega
        · rw [zup_ne (by omega)]; exact h44 j (by omega)
    rw [hH.1.2.1, if_neg (by omega), Int.toNat_natCast, o1, Int.toNat_natCast, o2, hK.1.1, hK.1.2]
    refine ⟨by omega, by unfold zr; omega, by unfold zr; omega, by unfold zr; omega, ?_⟩
    unfold jEn at core
    cases bp <;> cases bh
    · rw [if_neg (show ¬ (false = true) by decide), if_neg (show ¬ (false = true) by decide)] at core
      rw [if_neg (show ¬ (false = true) by decide), if_pos rfl, if_pos rfl]
      exact ⟨by unfold zr; omega, by omega, core _ _ _ (by omega)⟩
    · rw [if_neg (show ¬ (false = true) by decide), if_pos rfl] at core
      rw [if_neg (show ¬ (false = true) by decide), if_pos rfl, if_pos rfl, if_neg (by decide)]
      exact ⟨by unfold zr; omega, by omega, by unfold zr; omega, by omega, by omega, core _ _ _ (by omega)⟩
    · rw [if_pos rfl, if_neg (show ¬ (false = true) by decide)] at core
      rw [if_pos rfl, if_neg (show ¬ (false = true) by decide), if_neg (by decide), if_pos rfl]
      exact ⟨by unfold zr; omega, by omega, core _ _ _ (by omega)⟩
    · rw [if_pos rfl, if_pos rfl] at core
      rw [if_pos rfl, if_neg (by decide), if_neg (by decide)]
      exact ⟨by unfold zr; omega, by omega, by unfold zr; omega, by omega, by omega, core _ _ _ (by omega)⟩)
theorem s_B_ask {Q : ZI → Prop} {M g0 : Int} {bp bh : Bool} {H : List Int} {k : Nat} {LA : Nat → Int} {I : ZI} (hW : Wf sh R) (hS : St sh R o) (ho : sPl o) (hl : lw = 5 ∨ lw = 45) (hR : R 42 4 = lw) (hL : Lw sh R lw) (hb : bOk B S) (hh : hIn B H) (hm : mkOk M (B 151) S) (hbp : bp = M.toNat.testBit 4) (hbh : bh = M.toNat.testBit 6) (hk : k < 6) (hLA : ∀ j : Nat, (j : Int) < B 137 0 → 0 ≤ LA j ∧ LA j ≤ 9) (hE : gEnv B I lw S) (hH : gSt B I o H (g0 + k) LA) (hK : kInv B bp bh g0 I) (q : ∀ J : ZI, (∀ p, p < H.length → J 44 p = gInto B H (g0 + k) LA p) → kInv B bp bh g0 J → (∀ a b, ¬ a = 43 → ¬ a = lw + 7 → ¬ a = 44 → ¬ a = 135 → J a b = I a b) → Q J) : XV (d + 4) 5 [.inr 121, .inr o, .inl (k : Int)] n sh R I Q :=
  b_B_askKnown_0 hW hS (l_B_ask (I0 := I) hW hS ho hl hR hL hb hh hm hbp hbh hk hLA q H.length 0 I _ _ _ _ (by omega) hE hH hK (fun j hj => absurd hj (by omega)) fun _ _ _ _ _ _ => rfl)
end BK
