-- TABLES in the class: a go deeper
section AD
variable {d n t : Nat} {sh : ZS} {R : ZR} {B : ZI} {lw S : Nat} {H : List Int} {g : Int} {LA : Nat → Int} {hs : Nat} {P N : Nat → Int}
theorem aT_tn (hP : aPN P N) {k : Nat} (hk : k ≤ 12) : aTn (aT P (aA N) hs k) :=
  ⟨fun x z h => (aT_ok hP.1 k x z h).f hP.2.2.1 hk, aT_wide hP.1 (aA_wide hP) k⟩
theorem aT_S {k x y : Nat} : aT P (aA N) hs (k + 1) x y = if aA N x y = true then 0 else aS (P (y + 1) - P x) (aC (aT P (aA N) hs k) y hs x) := rfl
theorem aA_iff {x y : Nat} : ¬ aA N x y = true ↔ 1 < N (y + 1) - N x := by
  unfold aA; rw [decide_eq_true_iff]; omega
theorem l_A_21 {Q : Int → ZI → ZR → Prop} {a b y k : Nat} (hW : Wf sh R) (hR : rTab R) (hP : aPN P N) (hk : k + 1 ≤ 12) (hy : a ≤ y ∧ y ≤ b ∧ b < 20) (hh : 1 ≤ hs ∧ hs ≤ 9) {I0 : ZI} (hX : aX hs P N I0) (hK : aKn (R 61 4) (aT P (aA N) hs k) a b I0) (hS : aSp (aT P (aA N) hs k) a y hs I0)
    (q : ∀ (v : Int) (J : ZI) (u : Option AV), (v = 0 ∨ v = 1) → (v = 0 → ∀ x z, a ≤ x → x ≤ z → z ≤ y → aT P (aA N) hs (k + 1) x z = aT P (aA N) hs k x z) → (∀ x z, a ≤ x → x ≤ z → z ≤ y → J (R 61 5 + 1 + x) z = aL (aT P (aA N) hs (k + 1) x z)) → (∀ o c, ¬ (R 61 5 + 1 ≤ o ∧ o ≤ R 61 5 + 20) → J o c = I0 o c) → XRs (d + 2) 76 5 [some (.inr 61), some (.inl (a : Int)), some (.inl (b : Int)), some (.inl v), some (.inl ((y + 1 : Nat) : Int)), u] [] n sh R J Q) :
    ∀ (c x : Nat) (I : ZI) (v : Int), x + c = y + 1 → a ≤ x → (v = 0 ∨ v = 1) → (v = 0 → ∀ x2 z, a ≤ x2 → x2 ≤ z → (z < y ∨ z = y ∧ x2 < x) → aT P (aA N) hs (k + 1) x2 z = aT P (aA N) hs k x2 z) → (∀ x2 z, a ≤ x2 → x2 ≤ z → (z < y ∨ z = y ∧ x2 < x) → I (R 61 5 + 1 + x2) z = aL (aT P (aA N) hs (k + 1) x2 z)) → (∀ o c, ¬ (R 61 5 + 1 ≤ o ∧ o ≤ R 61 5 + 20) → I o c = I0 o c) → XRs (d + 2) 76 21 [some (.inr 61), some (.inl (a : Int)), some (.inl (b : Int)), some (.inl v), some (.inl (y : Int)), some (.inl (x : Int))] [] n sh R I Q
  | 0, x, I, v, h, hx, hv, h0, hD, hf => b_A_goDeeper_21 hW (aTabs hW hR).1 (aTabs hW hR).2 (by
    rw [if_pos (by omega), show (y : Int) + 1 = ((y + 1 : Nat) : Int) by omega]
    exact ⟨by unfold zr; omega, q v I _ hv (fun e x2 z h1 h2 h3 => h0 e x2 z h1 h2 (by omega)) (fun x2 z h1 h2 h3 => hD x2 z h1 h2 (by omega)) hf⟩)
  | c + 1, x, I, v, h, hx, hv, h0, hD, hf => b_A_goDeeper_21 hW (aTabs hW hR).1 (aTabs hW hR).2 (by
    have hR2 := hR
    unfold rTab at hR2
    have hX2 : aX hs P N I := hX.fr fun o b ho => hf o b (by omega)
    have hS2 : aSp (aT P (aA N) hs k) a y hs I := fun j z hj h1 h2 => by rw [hf _ _ (by omega)]; exact hS j z hj h1 h2
    have e2 : ((y : Int) + 1).toNat = y + 1 := by omega
    have n1 := (hX2.2 (y + 1) (by omega)).2
    have n2 := (hX2.2 x (by omega)).2
    have r1 := hP.2.2.2 (y + 1)
    have r2 := hP.2.2.2 x
    have r3 := hP.2.2.1 (y + 1)
    have r4 := hP.2.2.1 x
    have kx : I (R 61 4 + 1 + x) y = aL (aT P (aA N) hs k x y) := by rw [hf _ _ (by omega)]; exact hK x y hx (by omega) hy.2.1
    have F1 := (aT_tn (hs := hs) hP hk).1 x y (by omega)
    have F0 := (aT_tn (hs := hs) hP (show k ≤ 12 by omega)).1 x y (by omega)
    have dn := aT_down (P := P) (A := aA N) (hs := hs) k x y (by omega) hP.1
    rw [if_neg (by omega), e2, Int.toNat_natCast, Int.toNat_natCast, n1, n2, show (x : Int) + 1 = ((x + 1 : Nat) : Int) by omega]
    refine ⟨by omega, by unfold zr; omega, by omega, by omega, by unfold zr; omega, ?_⟩
    have core : ∀ w : Int, w = aL (aT P (aA N) hs (k + 1) x y) → (if (zup I (R 61 5 + 1 + x) y w) (R 61 4 + 1 + x) y ≤ (zup I (R 61 5 + 1 + x) y w) (R 61 5 + 1 + x) y then (zr ((x + 1 : Nat) : Int)) ∧ XRs (d + 2) 76 21 [some (.inr 61), some (.inl (a : Int)), some (.inl (b : Int)), some (.inl (zor v 0)), some (.inl (y : Int)), some (.inl ((x + 1 : Nat) : Int))] [] n sh R (zup I (R 61 5 + 1 + x) y w) Q else (zr ((x + 1 : Nat) : Int)) ∧ XRs (d + 2) 76 21 [some (.inr 61), some (.inl (a : Int)), some (.inl (b : Int)), some (.inl (zor v 1)), some (.inl (y : Int)), some (.inl ((x + 1 : Nat) : Int))] [] n sh R (zup I (R 61 5 + 1 + x) y w) Q) := fun w hw => by
      have o0 : zor v 0 = v := by rcases hv with e | e <;> rw [e] <;> decide
      have o1 : zor v 1 = 1 := by rcases hv with e | e <;> rw [e] <;> decide
      have nD : ∀ x2 z, a ≤ x2 → x2 ≤ z → (z < y ∨ z = y ∧ x2 < x + 1) → (zup I (R 61 5 + 1 + x) y w) (R 61 5 + 1 + x2) z = aL (aT P (aA N) hs (k + 1) x2 z) := fun x2 z h1 h2 h3 => by
        by_cases e : x2 = x ∧ z = y
        · rw [zup_eq ⟨by omega, e.2⟩, hw, e.1, e.2]
        · rw [zup_ne (by omega)]; exact hD x2 z h1 h2 (by omega)
      have nf : ∀ o c, ¬ (R 61 5 + 1 ≤ o ∧ o ≤ R 61 5 + 20) → (zup I (R 61 5 + 1 + x) y w) o c = I0 o c := fun o c ho => by rw [zup_ne (by omega)]; exact hf o c ho
      rw [zup_eq ⟨rfl, rfl⟩, zup_ne (by omega), kx, o0, o1]
      by_cases g1 : aL (aT P (aA N) hs k x y) ≤ w
      · rw [if_pos g1]
        refine ⟨by unfold zr; omega, l_A_21 hW hR hP hk hy hh hX hK hS q c (x + 1) _ v (by omega) (by omega) hv (fun e x2 z h1 h2 h3 => ?_) nD nf⟩
        by_cases e3 : x2 = x ∧ z = y
        · rw [e3.1, e3.2]
          have m1 : aL (aT P (aA N) hs (k + 1) x y) ≤ aL (aT P (aA N) hs k x y) := aL_le.mpr ⟨(aL_le.mp (Int.le_refl _)).1, Int.le_trans (aL_le.mp (Int.le_refl _)).2 dn⟩
          exact aL_inj F1 F0 (by omega)
        · exact h0 e x2 z h1 h2 (by omega)
      · rw [if_neg g1]
        exact ⟨by unfold zr; omega, l_A_21 hW hR hP hk hy hh hX hK hS q c (x + 1) _ 1 (by omega) (by omega) (.inr rfl) (fun e => absurd e (by decide)) nD nf⟩
    by_cases g1 : 1 < N (y + 1) - N x
    · rw [if_pos g1]
      refine s_A_throws (d := d) (a := a) hW hP (aT_tn hP (show k ≤ 12 by omega)) ⟨hx, by omega, by omega⟩ hh hX2 hS2 ⟨by omega, core _ ?_⟩
      rw [aT_S, if_neg (aA_iff.mpr g1)]
    · rw [if_neg g1]
      refine ⟨by omega, core _ ?_⟩
      rw [aT_S, if_pos (by have := aA_iff (N := N) (x := x) (y := y); by_cases z : aA N x y = true; exact z; exact absurd (this.mp z) g1)]
      rfl)
theorem l_A_5 {Q : Int → ZI → ZR → Prop} {a b k : Nat} (hW : Wf sh R) (hR : rTab R) (hP : aPN P N) (hk : k + 1 ≤ 12) (hb : a ≤ b ∧ b < 20) (hh : 1 ≤ hs ∧ hs ≤ 9) {I0 : ZI} (hX : aX hs P N I0) (hK : aKn (R 61 4) (aT P (aA N) hs k) a b I0)
    (q : ∀ (v : Int) (J : ZI), (v = 0 ∨ v = 1) → (v = 0 → ∀ x z, a ≤ x → x ≤ z → z ≤ b → aT P (aA N) hs (k + 1) x z = aT P (aA N) hs k x z) → (∀ x z, a ≤ x → x ≤ z → z ≤ b → J (R 61 5 + 1 + x) z = aL (aT P (aA N) hs (k + 1) x z)) → (∀ o c, ¬ (66 ≤ o ∧ o ≤ 116) → J o c = I0 o c) → Q v J (zup (zup R 61 4 (R 61 5)) 61 5 (R 61 4))) :
    ∀ (c y : Nat) (I : ZI) (v : Int) (u : Option AV), y + c = b + 1 → a ≤ y → (v = 0 ∨ v = 1) → (v = 0 → ∀ x2 z, a ≤ x2 → x2 ≤ z → z < y → aT P (aA N) hs (k + 1) x2 z = aT P (aA N) hs k x2 z) → (∀ x2 z, a ≤ x2 → x2 ≤ z → z < y → I (R 61 5 + 1 + x2) z = aL (aT P (aA N) hs (k + 1) x2 z)) → (∀ o c, ¬ (66 ≤ o ∧ o ≤ 74) → ¬ (R 61 5 + 1 ≤ o ∧ o ≤ R 61 5 + 20) → I o c = I0 o c) → XRs (d + 2) 76 5 [some (.inr 61), some (.inl (a : Int)), some (.inl (b : Int)), some (.inl v), some (.inl (y : Int)), u] [] n sh R I Q
  | 0, y, I, v, u, h, hy, hv, h0, hD, hf => b_A_goDeeper_5 hW (aTabs hW hR).1 (aTabs hW hR).2 (by
    have hR2 := hR
    unfold rTab at hR2
    rw [if_pos (by omega)]
    exact ⟨hv, q v I hv (fun e x z h1 h2 h3 => h0 e x z h1 h2 (by omega)) (fun x z h1 h2 h3 => hD x z h1 h2 (by omega)) fun o c ho => hf o c (by omega) (by omega)⟩)
  | c + 1, y, I, v, u, h, hy, hv, h0, hD, hf => b_A_goDeeper_5 hW (aTabs hW hR).1 (aTabs hW hR).2 (by
    have hR2 := hR
    unfold rTab at hR2
    have hX2 : aX hs P N I := hX.fr fun o b ho => hf o b (by omega) (by omega)
    have hK2 : aKn (R 61 4) (aT P (aA N) hs k) a b I := fun x z h1 h2 h3 => by rw [hf _ _ (by omega) (by omega)]; exact hK x z h1 h2 h3
    rw [if_neg (by omega)]
    refine s_A_split (T := aT P (aA N) hs k) (hs := hs) hW hR (aT_tn hP (show k ≤ 12 by omega)) (by omega) hh hX2.1 (fun x z h1 h2 h3 => hK2 x z h1 h2 (by omega)) fun J j1 j2 => ?_
    have hX3 : aX hs P N J := hX2.fr fun o b ho => j2 o b (by omega)
    have hK3 : aKn (R 61 4) (aT P (aA N) hs k) a b J := fun x z h1 h2 h3 => by rw [j2 _ _ (by omega)]; exact hK2 x z h1 h2 h3
    refine l_A_21 (I0 := J) hW hR hP hk (show a ≤ y ∧ y ≤ b ∧ b < 20 by omega) hh hX3 hK3 j1 (fun v K u kv k0 kD kf => ?_) (y + 1 - a) a J v (by omega) (Nat.le_refl a) hv (fun e x2 z h1 h2 h3 => h0 e x2 z h1 h2 (by omega)) (fun x2 z h1 h2 h3 => by rw [j2 _ _ (by omega)]; exact hD x2 z h1 h2 (by omega)) fun _ _ _ => rfl
    exact l_A_5 hW hR hP hk hb hh hX hK q c (y + 1) K v u (by omega) (by omega) kv (fun e x z h1 h2 h3 => k0 e x z h1 h2 (by omega)) (fun x z h1 h2 h3 => kD x z h1 h2 (by omega)) fun o c g1 g2 => by rw [kf o c g2, j2 o c g1]; exact hf o c g1 g2)
theorem s_A_deeper {Q : Int → ZI → ZR → Prop} {a b k : Nat} {I : ZI} (hW : Wf sh R) (hR : rTab R) (hP : aPN P N) (hk : k + 1 ≤ 12) (hb : a ≤ b ∧ b < 20) (hh : 1 ≤ hs ∧ hs ≤ 9) (hX : aX hs P N I) (hK : aKn (R 61 4) (aT P (aA N) hs k) a b I)
    (q : ∀ (v : Int) (J : ZI) (R2 : ZR), Wf sh R2 → rTab R2 → (∀ o c, ¬ o = 61 → R2 o c = R o c) → (v = 0 ∨ v = 1) → (v = 0 → ∀ x z, a ≤ x → x ≤ z → z ≤ b → aT P (aA N) hs (k + 1) x z = aT P (aA N) hs k x z) → aKn (R2 61 4) (aT P (aA N) hs (k + 1)) a b J → (∀ o c, ¬ (66 ≤ o ∧ o ≤ 116) → J o c = I o c) → Q v J R2) : XR (d + 2) 76 [.inr 61, .inl (a : Int), .inl (b : Int)] n sh R I Q :=
  b_A_goDeeper_0 hW (l_A_5 (I0 := I) hW hR hP hk hb hh hX hK (fun v J hv h0 hD hf => by
    refine q v J _ (Wf_up (Wf_up hW (by decide)) (by decide)) ?_ (fun o c ho => by rw [zur_ne (by omega), zur_ne (by omega)]) hv h0 ?_ hf
    · unfold rTab at hR ⊢
      rw [zur_ne (by omega), zur_eq ⟨rfl, rfl⟩, zur_eq ⟨rfl, rfl⟩]
      omega
    · rw [zur_ne (by omega), zur_eq ⟨rfl, rfl⟩]
      exact hD) (b + 1 - a) a I 0 _ (by omega) (Nat.le_refl a) (.inl rfl) (fun _ x2 z h1 h2 h3 => absurd h3 (by omega)) (fun x2 z h1 h2 h3 => absurd h3 (by omega)) fun _ _ _ _ => rfl)
end AD
