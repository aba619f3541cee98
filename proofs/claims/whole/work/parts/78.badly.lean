-- BADLY: asking, each answer kept
theorem jPut {s v : Nat} (hs : s ≤ 100000) (hv : v < 16) : zor (zshl (s : Int) 4) (v : Int) = ((16 * s + v : Nat) : Int) := by
  have e1 : zshl (s : Int) 4 = ((2 ^ 4 * s : Nat) : Int) := by
    have := zshl_eq (s : Int) (k := 4) (by decide)
    rw [show (((4 : Nat) : Int)) = 4 by rfl] at this
    rw [this, zw_id (by unfold zr; omega)]; omega
  rw [e1, zor_nn (by omega) (by omega), ← Nat.two_pow_add_eq_or_of_lt (i := 4) (by omega) s]
theorem jGet {x : Int} (hx : 0 ≤ x ∧ x < 2000000) : zshr x 4 = x / 16 ∧ zand x 15 = x % 16 := by
  refine ⟨?_, ?_⟩
  · have := zshr_eq (a := x) (by unfold zr; omega) (k := 4) (by decide)
    rw [show (((4 : Nat) : Int)) = 4 by rfl] at this
    rw [this]; rfl
  · exact zand_mask x (k := 4) (by omega)
section BK
variable {d n t : Nat} {sh : ZS} {R : ZR} {B : ZI} {lw S o : Nat}
theorem l_B_ask {Q : ZI → Prop} {M g0 : Int} {s : Nat} {bp bh : Bool} {H : List Int} {k : Nat} {LA : Nat → Int} (hW : Wf sh R) (hS : St sh R o) (ho : sPl o) (hl : lw = 5 ∨ lw = 45) (hR : R 42 4 = lw) (hL : Lw sh R lw) (hb : bOk B S) (hh : hIn B H) (hm : mkOk M (B 151) S) (hbp : bp = M.toNat.testBit 4) (hbh : bh = M.toNat.testBit 6) (hs : s ≤ 100000) (hk : k < 6) (hLA : ∀ j : Nat, (j : Int) < B 137 0 → 0 ≤ LA j ∧ LA j ≤ 9) {I0 : ZI} (q : ∀ J : ZI, (∀ p, p < H.length → J 44 p = gInto B H (g0 + k) LA p) → kInv B bp bh g0 s J → (∀ a b, ¬ a = 43 → ¬ a = lw + 7 → ¬ a = 44 → ¬ a = 135 → J a b = I0 a b) → Q J) :
    ∀ (c p : Nat) (I : ZI) (u4 u5 u6 : Option AV), p + c = H.length → gEnv B I lw S → gSt B I o H (g0 + k) LA → kInv B bp bh g0 s I → (∀ j, j < p → I 44 j = gInto B H (g0 + k) LA j) → (∀ a b, ¬ a = 43 → ¬ a = lw + 7 → ¬ a = 44 → ¬ a = 135 → I a b = I0 a b) → XVs (d + 4) 5 2 [some (.inr 121), some (.inr o), some (.inl (k : Int)), some (.inl (p : Int)), u4, u5, u6] [] n sh R I Q
  | 0, p, I, u4, u5, u6, h, hE, hH, hK, h44, hf => b_B_askKnown_2 hW hS (by
    rw [hH.1.2.1, if_pos (by omega)]
    exact q I (fun j hj => h44 j (by omega)) hK hf)
  | c + 1, p, I, u4, u5, u6, h, hE, hH, hK, h44, hf => b_B_askKnown_2 hW hS (by
    have l9 := hh.1
    have hi := hh.2 p (by omega)
    have b0 := hb.1
    obtain ⟨i, hi2⟩ : ∃ i : Nat, H.getD p 0 = (i : Int) := ⟨(H.getD p 0).toNat, by omega⟩
    have la0 := hLA i (by omega)
    obtain ⟨la, hla⟩ : ∃ la : Nat, LA i = (la : Int) := ⟨(LA i).toNat, by omega⟩
    have o1 : I (o + 5) p = (i : Int) := by rw [hH.2.1 p (by omega)]; exact hi2
    have o2 : I (o + 4) i = (la : Int) := by rw [(hH.2.2 i (by omega)).2.2.2]; exact hla
    have ho2 := ho
    unfold sPl at ho2
    have an : kAn B p (i : Int) (g0 + k) (la : Int) = gInto B H (g0 + k) LA p := by
      unfold gInto
      rw [hi2, ← hla]; rfl
    have core : ∀ E ROW : Int, E = ((jEn bp bh k i p la : Nat) : Int) → (if (zshr (I 135 E.toNat) 4) = I 121 9 then (zr ((zand (I 135 E.toNat) 15) + (-1))) ∧ (zr ((p : Int) + 1)) ∧ XVs (d + 4) 5 2 [some (.inr 121), some (.inr o), some (.inl (k : Int)), some (.inl ((p : Int) + 1)), some (.inl (i : Int)), some (.inl ROW), some (.inl E)] [] n sh R (zup I 44 p ((zand (I 135 E.toNat) 15) + (-1))) Q else XI (d + 3) 52 [.inr 42, .inr o, .inl (p : Int)] n sh R I (fun v11 I12 => (zr (v11 - (-1))) ∧ (zr ((zand ((zup I12 135 E.toNat (zor (zshl (I 121 9) 4) (v11 - (-1)))) 135 E.toNat) 15) + (-1))) ∧ (zr ((p : Int) + 1)) ∧ XVs (d + 4) 5 2 [some (.inr 121), some (.inr o), some (.inl (k : Int)), some (.inl ((p : Int) + 1)), some (.inl (i : Int)), some (.inl ROW), some (.inl E)] [] n sh R (zup (zup I12 135 E.toNat (zor (zshl (I 121 9) 4) (v11 - (-1)))) 44 p ((zand ((zup I12 135 E.toNat (zor (zshl (I 121 9) 4) (v11 - (-1)))) 135 E.toNat) 15) + (-1))) Q)) := fun E ROW hE2 => by
      have el : jEn bp bh k i p la < 61440 := by
        unfold jEn
        split <;> split <;> omega
      have en := hK.2.1 (jEn bp bh k i p la) el
      have gt := jGet (x := I 135 (jEn bp bh k i p la)) (by omega)
      rw [hE2, Int.toNat_natCast, gt.1, gt.2, hK.1.1, show (p : Int) + 1 = ((p + 1 : Nat) : Int) by omega]
      by_cases g1 : I 135 (jEn bp bh k i p la) / 16 = (s : Int)
      · rw [if_pos g1]
        have a1 := hK.2.2 k i p la hk (by omega) (by omega) (by omega) g1
        refine ⟨by unfold zr; omega, by unfold zr; omega, l_B_ask hW hS ho hl hR hL hb hh hm hbp hbh hs hk hLA q c (p + 1) _ _ _ _ (by omega) (hE.fr hl fun a b hab => zup_ne (by omega)) (hH.fr fun a b hab => zup_ne (by omega)) (hK.fr fun a b hab => zup_ne (by omega)) (fun j hj => ?_) fun a b x1 x2 x3 x4 => by rw [zup_ne (by omega)]; exact hf a b x1 x2 x3 x4⟩
        by_cases x : j = p
        · rw [zup_eq ⟨rfl, x⟩, x, ← an]; omega
        · rw [zup_ne (by omega)]; exact h44 j (by omega)
      · rw [if_neg g1]
        refine s_G_holeFor hW hS ho hl hR hL hb hE hH hh (p := p) (by omega) fun J hJ => ?_
        have gr : -1 ≤ gInto B H (g0 + k) LA p ∧ gInto B H (g0 + k) LA p < B 137 3 := gHole_range hb.2.1.1
        have hb3 := hb.2.1
        obtain ⟨w, hw⟩ : ∃ w : Nat, gInto B H (g0 + k) LA p = (w : Int) - 1 := ⟨(gInto B H (g0 + k) LA p + 1).toNat, by omega⟩
        have pe : zor (zshl (s : Int) 4) (gInto B H (g0 + k) LA p - -1) = ((16 * s + w : Nat) : Int) := by
          rw [hw, show (w : Int) - 1 - -1 = (w : Int) by omega]
          exact jPut hs (by omega)
        have g2 := (jGet (x := ((16 * s + w : Nat) : Int)) (by omega)).2
        rw [pe, zup_eq ⟨rfl, rfl⟩, g2]
        refine ⟨by unfold zr; omega, by unfold zr; omega, by unfold zr; omega, l_B_ask hW hS ho hl hR hL hb hh hm hbp hbh hs hk hLA q c (p + 1) _ _ _ _ (by omega) (hE.fr hl fun a b hab => by rw [zup_ne (by omega), zup_ne (by omega)]; exact hJ a b (by omega) (by omega)) (hH.fr fun a b hab => by rw [zup_ne (by omega), zup_ne (by omega)]; exact hJ a b (by omega) (by omega)) ⟨⟨?_, ?_, ?_⟩, fun e he => ?_, fun k2 i2 p2 la2 z1 z2 z3 z4 => ?_⟩ (fun j hj => ?_) fun a b x1 x2 x3 x4 => by rw [zup_ne (by omega), zup_ne (by omega), hJ a b x1 x2]; exact hf a b x1 x2 x3 x4⟩
        · rw [zup_ne (by omega), zup_ne (by omega), hJ _ _ (by omega) (by omega)]; exact hK.1.1
        · rw [zup_ne (by omega), zup_ne (by omega), hJ _ _ (by omega) (by omega)]; exact hK.1.2.1
        · rw [zup_ne (by omega), zup_ne (by omega), hJ _ _ (by omega) (by omega)]; exact hK.1.2.2
        · rw [zup_ne (by omega)]
          by_cases x : e = jEn bp bh k i p la
          · rw [zup_eq ⟨rfl, x⟩]; omega
          · rw [zup_ne (by omega), hJ _ _ (by omega) (by omega)]; exact hK.2.1 e he
        · rw [zup_ne (by omega)]
          by_cases x : jEn bp bh k2 i2 p2 la2 = jEn bp bh k i p la
          · rw [zup_eq ⟨rfl, x⟩]
            intro _
            rw [kAn_eq hm hb.2.2.2.2 hbp hbh z2 (by omega) z3 (by omega) z4 (by omega) x, an]
            omega
          · rw [zup_ne (by omega), hJ _ _ (by omega) (by omega)]; exact hK.2.2 k2 i2 p2 la2 z1 z2 z3 z4
        · by_cases x : j = p
          · rw [zup_eq ⟨rfl, x⟩, x]; omega
          · rw [zup_ne (by omega), zup_ne (by omega), hJ _ _ (by omega) (by omega)]; exact h44 j (by omega)
    rw [hH.1.2.1, if_neg (by omega), Int.toNat_natCast, o1, Int.toNat_natCast, o2, hK.1.2.1, hK.1.2.2]
    refine ⟨by omega, by unfold zr; omega, by unfold zr; omega, by unfold zr; omega, ?_⟩
    unfold jEn at core
    cases bp <;> cases bh
    · rw [if_neg (show ¬ (false = true) by decide), if_neg (show ¬ (false = true) by decide)] at core
      rw [if_neg (show ¬ (false = true) by decide), if_pos rfl, if_pos rfl]
      exact ⟨by unfold zr; omega, by unfold zr; omega, by unfold zr; omega, by omega, core _ _ (by omega)⟩
    · rw [if_neg (show ¬ (false = true) by decide), if_pos rfl] at core
      rw [if_neg (show ¬ (false = true) by decide), if_pos rfl, if_pos rfl, if_neg (by decide)]
      exact ⟨by unfold zr; omega, by unfold zr; omega, by omega, by unfold zr; omega, by omega, core _ _ (by omega)⟩
    · rw [if_pos rfl, if_neg (show ¬ (false = true) by decide)] at core
      rw [if_pos rfl, if_neg (show ¬ (false = true) by decide), if_neg (by decide), if_pos rfl]
      exact ⟨by unfold zr; omega, by unfold zr; omega, by unfold zr; omega, by omega, core _ _ (by omega)⟩
    · rw [if_pos rfl, if_pos rfl] at core
      rw [if_pos rfl, if_neg (by decide), if_neg (by decide)]
      exact ⟨by unfold zr; omega, by unfold zr; omega, by omega, by unfold zr; omega, by omega, core _ _ (by omega)⟩)
theorem s_B_ask {Q : ZI → Prop} {M g0 : Int} {s : Nat} {bp bh : Bool} {H : List Int} {k : Nat} {LA : Nat → Int} {I : ZI} (hW : Wf sh R) (hS : St sh R o) (ho : sPl o) (hl : lw = 5 ∨ lw = 45) (hR : R 42 4 = lw) (hL : Lw sh R lw) (hb : bOk B S) (hh : hIn B H) (hm : mkOk M (B 151) S) (hbp : bp = M.toNat.testBit 4) (hbh : bh = M.toNat.testBit 6) (hs : s ≤ 100000) (hk : k < 6) (hLA : ∀ j : Nat, (j : Int) < B 137 0 → 0 ≤ LA j ∧ LA j ≤ 9) (hE : gEnv B I lw S) (hH : gSt B I o H (g0 + k) LA) (hK : kInv B bp bh g0 s I) (q : ∀ J : ZI, (∀ p, p < H.length → J 44 p = gInto B H (g0 + k) LA p) → kInv B bp bh g0 s J → (∀ a b, ¬ a = 43 → ¬ a = lw + 7 → ¬ a = 44 → ¬ a = 135 → J a b = I a b) → Q J) : XV (d + 4) 5 [.inr 121, .inr o, .inl (k : Int)] n sh R I Q :=
  b_B_askKnown_0 hW hS (l_B_ask (I0 := I) hW hS ho hl hR hL hb hh hm hbp hbh hs hk hLA q H.length 0 I _ _ _ (by omega) hE hH hK (fun j hj => absurd hj (by omega)) fun _ _ _ _ _ _ => rfl)
end BK
