-- BADLY, the call
section BZ
variable {d n t : Nat} {sh : ZS} {R : ZR} {B : ZI} {lw S : Nat} {g : Int} {m : Nat} {x1 x2 : Int}
theorem l_M_bd58 {Q : Int → ZI → Prop} {N : List Int} {TT : Nat → Int} {I0 : ZI} (hW : Wf sh R) (hl : N.length ≤ 32) (h64 : I0 137 64 = (N.length : Int)) (hT : ∀ p, p < N.length → I0 177 p = N.getD p 0) (hr : ∀ p, p < N.length → 0 ≤ N.getD p 0 ∧ N.getD p 0 < 32) (h144 : ∀ k, k < 220 → I0 144 k = zi2b (TT k) ∧ 0 ≤ TT k ∧ TT k < 256)
    (yes : (∀ p, p < N.length → TT p = N.getD p 0) → ∀ J : ZI, (∀ a b, ¬ a = 178 → J a b = I0 a b) → Q (-3) J)
    (no : ¬ (∀ p, p < N.length → TT p = N.getD p 0) → ∀ (J : ZI) (u6 u7 : Option AV), (∀ p, p < N.length → J 178 p = zi2b (TT p) ∧ 0 ≤ TT p ∧ TT p < 256) → (∀ a b, ¬ a = 178 → J a b = I0 a b) → XIs (d + 8) 238 106 [some (.inr 137), some (.inl x1), some (.inl x2), some (.inl 0), some (.inl (-1)), some (.inl 0), u6, u7] [] n sh R J Q) : ∀ (c k : Nat) (I : ZI) (u4 u5 u6 u7 : Option AV), k + c = N.length → (∀ p, p < k → I 178 p = zi2b (TT p)) → (∀ a b, ¬ a = 178 → I a b = I0 a b) → XIs (d + 8) 238 58 [some (.inr 137), some (.inl x1), some (.inl x2), some (.inl (k : Int)), u4, u5, u6, u7] [] n sh R I Q
  | 0, k, I, u4, u5, u6, u7, h, hk, hf => b_M_badly_58 hW (by
    obtain rfl : k = N.length := by omega
    rw [hf _ _ (by omega), h64, if_pos (by omega)]
    have h178 : ∀ p, p < N.length → I 178 p = zi2b (TT p) ∧ 0 ≤ TT p ∧ TT p < 256 := fun p hp => ⟨hk p hp, (h144 p (by omega)).2⟩
    refine s_M_told (d := d + 7) (T := N) (TT := TT) hW (sh_177 hW) hl (by rw [hf _ _ (by omega)]; exact h64) (fun p hp => by rw [hf _ _ (by omega)]; exact hT p hp) hr h178 ?_
    by_cases e : ∀ p, p < N.length → TT p = N.getD p 0
    · rw [if_pos (decide_eq_true e), if_neg (by decide)]
      exact yes e I hf
    · rw [if_neg (fun x => e (of_decide_eq_true x)), if_pos rfl]
      exact no e I _ _ h178 hf)
  | c + 1, k, I, u4, u5, u6, u7, h, hk, hf => b_M_badly_58 hW (by
    rw [hf _ _ (by omega), h64, if_neg (by omega), Int.toNat_natCast, hf 144 k (by omega), (h144 k (by omega)).1, show (k : Int) + 1 = ((k + 1 : Nat) : Int) by omega]
    refine ⟨by omega, by omega, by unfold zr; omega, l_M_bd58 hW hl h64 hT hr h144 yes no c (k + 1) _ _ _ _ _ (by omega) (fun p hp => ?_) fun a b hab => by rw [zup_ne (by omega)]; exact hf a b hab⟩
    by_cases x : p = k
    · rw [zup_eq ⟨rfl, x⟩, x]
    · rw [zup_ne (by omega)]; exact hk p (by omega))
theorem s_M_badly {I : ZI} {Q : Int → ZI → Prop} {H : List Int} {LA : Nat → Int} {TT : Nat → Int} (hW : Wf sh R) (hb : bOk B S) (hE : mEnv B I) (hH : mSt I H g LA) (hv : stOk B H g LA) (hg : 0 ≤ g ∧ g ≤ 12) (hT : 0 ≤ I 137 13 ∧ I 137 13 ≤ 220) (h144 : ∀ k, k < 220 → I 144 k = zi2b (TT k) ∧ 0 ≤ TT k ∧ TT k < 256)
    (bad : ¬ jGo g x1 x2 → Q (-1) I)
    (short : jGo g x1 x2 → ∀ m : Nat, x1 = m → I 137 13 < ((gGo B m H g LA).1.length : Int) → ∀ J : ZI, mBk I J → (∀ a b, ¬ (156 ≤ a ∧ a ≤ 161) → ¬ (177 ≤ a ∧ a ≤ 178) → ¬ (a = 137 ∧ (36 ≤ b ∧ b ≤ 42 ∨ 1 ≤ b ∧ b ≤ 2 ∨ b = 64)) → ¬ a = 141 → ¬ a = 142 → J a b = I a b) → Q (-1) J)
    (good : jGo g x1 x2 → ∀ m : Nat, x1 = m → ((gGo B m H g LA).1.length : Int) ≤ I 137 13 → ∀ J : ZI, mBk I J → J 137 13 = 0 → (∀ a b, ¬ (156 ≤ a ∧ a ≤ 161) → ¬ (177 ≤ a ∧ a ≤ 178) → ¬ (a = 137 ∧ (36 ≤ b ∧ b ≤ 42 ∨ 1 ≤ b ∧ b ≤ 2 ∨ b = 64 ∨ b = 13)) → ¬ a = 141 → ¬ a = 142 → J a b = I a b) → Q (jVal B TT m H g LA x2) J) : XI (d + 8) 238 [.inr 137, .inl x1, .inl x2] n sh R I Q := by
  have hin := hv.1.inb hb
  have hs9 := hb.2.1
  have hb1 := hb.1
  unfold jGo at bad short good
  refine b_M_badly_0 hW ?_
  rw [hH.1.2]
  by_cases g7 : x1 < 1
  · rw [if_pos g7]; exact bad (by omega)
  rw [if_neg g7]
  by_cases g8 : 6 < x1
  · rw [if_pos g8]; exact bad (by omega)
  rw [if_neg g8, if_neg g7, if_neg (by omega)]
  refine ⟨by unfold zr; omega, ?_⟩
  by_cases g9 : 12 < g + x1
  · rw [if_pos g9]; exact bad (by omega)
  rw [if_neg g9]
  by_cases g1 : x2 < -1
  · rw [if_pos g1]; exact bad (by omega)
  rw [if_neg g1]
  by_cases g2 : 2 < x2
  · rw [if_pos g2]; exact bad (by omega)
  rw [if_neg g2]
  obtain ⟨m, rfl⟩ : ∃ m : Nat, x1 = m := ⟨x1.toNat, by omega⟩
  have short2 := short (by omega) m rfl
  have good2 := good (by omega) m rfl
  refine s_M_begins (d := d + 6) hW fun I3 a1 a2 => ?_
  have hE3 : mEnv B I3 := hE.fr fun a b hab => a2 a b (by omega) (by omega) (by omega)
  have hH3 : mSt I3 H g LA := hH.fr fun a b hab => a2 a b (by omega) (by omega) (by omega)
  refine s_M_laysAsItIs hW hb hE3 hH3 hv (by omega) a1 fun I5 b1 b2 b3 b4 => ?_
  have hE5 : mEnv B I5 := hE3.fr fun a b hab => b4 a b (by unfold fM; omega) (by omega) (by omega) (by omega)
  have hH5 : mSt I5 H g LA := hH.bk hin.1 b1
  have aA : mAsd I I5 := a1.fr fun a b hab => b4 a b (by unfold fM; omega) (by omega) (by omega) (by omega)
  have ok13 := (gGo_ok hb m H g LA hv).1
  have lN := (ok13.1.inb hb).1
  have f5 : ∀ a b, ¬ (156 ≤ a ∧ a ≤ 161) → ¬ (177 ≤ a ∧ a ≤ 178) → ¬ (a = 137 ∧ (36 ≤ b ∧ b ≤ 42 ∨ 1 ≤ b ∧ b ≤ 2 ∨ b = 64)) → ¬ a = 141 → ¬ a = 142 → I5 a b = I a b := fun a b h1 h2 h3 h4 h5 => by
    rw [b4 a b (by unfold fM; omega) (by omega) (by omega) h5, a2 a b (by omega) (by omega) (by omega)]
  rw [b2.1, f5 137 13 (by omega) (by omega) (by omega) (by omega) (by omega)]
  by_cases g3 : ((gGo B m H g LA).1.length : Int) ≤ I 137 13
  · rw [if_pos g3]
    have good3 := good2 g3
    have bk : ∀ J : ZI, (∀ a b, ¬ a = 178 → J a b = (zup I5 137 13 0) a b) → mBk I J := fun J hJ => by
      refine ⟨?_, ?_, fun k hk => ⟨?_, ?_⟩⟩
      · rw [hJ _ _ (by omega), zup_ne (by omega)]; exact b1.1
      · rw [hJ _ _ (by omega), zup_ne (by omega)]; exact b1.2.1
      · rw [hJ _ _ (by omega), zup_ne (by omega)]; exact (b1.2.2 k hk).1
      · rw [hJ _ _ (by omega), zup_ne (by omega)]; exact (b1.2.2 k hk).2
    refine l_M_bd58 (I0 := zup I5 137 13 0) (N := (gGo B m H g LA).1) (TT := TT) hW lN (by rw [zup_ne (by omega)]; exact b2.1) (fun p hp => by rw [zup_ne (by omega)]; exact b2.2 p hp) (fun p hp => by have := (ok13.1.inb hb).2 p hp; omega) (fun k hk => by rw [zup_ne (by omega), f5 _ _ (by omega) (by omega) (by omega) (by omega) (by omega)]; exact h144 k hk) (fun yes J hJ => ?_) (fun no J u6 u7 h178 hJ => ?_) (gGo B m H g LA).1.length 0 _ _ _ _ _ (by omega) (fun p hp => absurd hp (by omega)) fun _ _ _ => rfl
    · have e : jVal B TT m H g LA x2 = -3 := by
        unfold jVal
        rw [if_pos (decide_eq_true yes)]
      rw [← e]
      refine good3 J (bk J hJ) (by rw [hJ _ _ (by omega), zup_eq ⟨rfl, rfl⟩]) fun a b h1 h2 h3 h4 h5 => ?_
      rw [hJ a b (by omega), zup_ne (by omega)]; exact f5 a b h1 h2 (by omega) h4 h5
    · have e : jVal B TT m H g LA x2 = jAns (B 137 3).toNat (jN (jC B TT m H g LA) (m * 32 * (B 137 3).toNat)) x2 := by
        unfold jVal
        rw [if_neg (fun x => no (of_decide_eq_true x))]
      rw [e] at good3
      obtain ⟨hs, hhs⟩ : ∃ hs : Nat, B 137 3 = (hs : Int) := ⟨(B 137 3).toNat, by omega⟩
      obtain ⟨L0, hL0⟩ : ∃ L0 : Nat, B 137 0 = (L0 : Int) := ⟨(B 137 0).toNat, by omega⟩
      rw [show (B 137 3).toNat = hs by omega] at good3
      have bJ := bk J hJ
      have cc : ∀ b, 36 ≤ b ∧ b ≤ 38 → J 137 b = I5 137 b := fun b hb => by rw [hJ _ _ (by omega), zup_ne (by omega)]
      refine l_M_106 (K := I) (I0 := J) (hs := hs) (L0 := L0) (TT := TT) (H := H) (LA := LA) (g := g) (m := m) hW hb (by omega) (by omega) hhs hL0 hv (by omega) hH (by rw [hJ _ _ (by omega), zup_ne (by omega)]; exact b2.1) h178 (hE5.fr fun a b hab => by rw [hJ a b (by omega), zup_ne (by omega)]) (aA.fr fun a b hab => by rw [hJ a b (by omega), zup_ne (by omega)]) (fun M m1 m2 m3 => good3 M m3 ?_ fun a b h1 h2 h3 h4 h5 => ?_) (m * 32 * hs) 0 J u6 u7 (by omega) (hH.bk hin.1 bJ) bJ (fun _ _ _ => rfl) (by rw [cc 36 (by omega), cc 37 (by omega), cc 38 (by omega)]; omega)
      · rw [m1 _ _ (by unfold frK fM; omega), hJ _ _ (by omega), zup_eq ⟨rfl, rfl⟩]
      · rw [m1 a b (by unfold frK fM; omega), hJ a b (by omega), zup_ne (by omega)]; exact f5 a b h1 h2 (by omega) h4 h5
  · rw [if_neg g3]
    exact short2 (by omega) I5 b1 f5
theorem c_badly {I : ZI} (hW : Wf sh R) (ht : t < 100000) (h : Rel t I R) : XI (d + 7) 119 [.inr 1, .inl x1, .inl x2] n sh R I (fun v J => XI (d + 8) 238 [.inr 137, .inl x1, .inl x2] n sh R J (fun v2 K => v2 = v ∧ Rel (t + 1) K R)) := by
  obtain ⟨lw, S, H, hl, hR, hL, hb, hE, mE, hH, mH, hv, hg⟩ := h.base hW
  have hTp := h.2.2.2.1
  have hBl := h.2.2.2.2.1
  obtain ⟨lw', md, hlm, hR1, hR2, ⟨c1, c2, c3⟩⟩ := h.2.2.2.2.2.1
  obtain rfl : lw' = lw := by rw [← hR1, hR]
  have hb' : bOk I (I lw' 8).toNat := ⟨hb.1, hb.2.1, hb.2.2.1, hb.2.2.2.1, ⟨by omega, by omega, by omega⟩, fun k hk => by
    have := c2 k (by omega); exact ⟨this.1, this.2.1⟩, fun c hc => by
    have := c3 c (by omega)
    exact ⟨by omega, this.2.2.2.1, this.2.2.2.2⟩⟩
  have hE' : gEnv I I lw' (I lw' 8).toNat := ⟨hE.1, hE.2.1, c1.1, fun c hc => (c3 c (by omega)).1, fun k hk => by
    have := c2 k (by omega)
    exact ⟨this.2.2.1, this.2.2.2.1⟩⟩
  have hm : mkOk (I lw' 9) (I 151) (I lw' 8).toNat := fun p hp he => ((c2 p (by omega)).2.2.2.2 he).2
  -- all but what has been told and how often it has been searched
  have rel : ∀ (J K : ZI), (∀ a b, ¬ (30 ≤ a ∧ a ≤ 35) → ¬ frB lw' a → ¬ (a = 42 ∧ 5 ≤ b ∧ b ≤ 7) → ¬ (a = 2 ∧ b = 1) → J a b = I a b) → J 2 1 = 0 → rBlame (t + 1) J → mBk J K → K 137 13 = 0 → (∀ a b, ¬ (156 ≤ a ∧ a ≤ 161) → ¬ (177 ≤ a ∧ a ≤ 178) → ¬ (a = 137 ∧ (36 ≤ b ∧ b ≤ 42 ∨ 1 ≤ b ∧ b ≤ 2 ∨ b = 64 ∨ b = 13)) → ¬ a = 141 → ¬ a = 142 → K a b = J a b) → Rel (t + 1) K R := fun J K hJ j21 jb jk k13 hK => by
    have fK : ∀ a b, ¬ (30 ≤ a ∧ a ≤ 35) → ¬ frB lw' a → ¬ (a = 42 ∧ 5 ≤ b ∧ b ≤ 7) → ¬ (a = 2 ∧ b = 1) → ¬ (156 ≤ a ∧ a ≤ 161) → ¬ (177 ≤ a ∧ a ≤ 178) → ¬ (a = 137 ∧ (36 ≤ b ∧ b ≤ 42 ∨ 1 ≤ b ∧ b ≤ 2 ∨ b = 64 ∨ b = 13)) → ¬ a = 141 → ¬ a = 142 → K a b = I a b := fun a b g1 g2 g3 g4 g5 g6 g7 g8 g9 => by rw [hK a b g5 g6 g7 g8 g9]; exact hJ a b g1 g2 g3 g4
    have i1 : ∀ b, J 137 b = I 137 b := fun b => hJ _ _ (by omega) (by unfold frB; omega) (by omega) (by omega)
    have i2 : ∀ a b, 141 ≤ a ∧ a ≤ 142 → J a b = I a b := fun a b hab => hJ _ _ (by omega) (by unfold frB; omega) (by omega) (by omega)
    have sm := h.same (K := fun a b => if (a = 2 ∧ b = 1) ∨ (a = 137 ∧ b = 13) ∨ (a = 121 ∧ b = 9) ∨ a = 135 then I a b else K a b) hW (fun a b hab h1 h2 h3 => ?_) ⟨?_, ?_, fun k hk => ⟨?_, ?_⟩⟩
    · refine sm.up (Nat.le_refl _) (.inr fun a k hk => ?_) (.inr fun a k hk => ?_) (.inr fun a k hk => ?_) (.inl ⟨⟨?_, ?_, ?_⟩, fun k hk => ?_⟩) (.inl ?_) (.inr fun a k hk => ?_)
      · unfold fNow at hk
        exact (if_neg (by omega)).symm
      · unfold fKept at hk
        exact (if_neg (by omega)).symm
      · unfold fEnv at hk
        exact (if_neg (by omega)).symm
      · rw [hK _ _ (by omega) (by omega) (by omega) (by omega) (by omega), j21, k13]
      · rw [hK _ _ (by omega) (by omega) (by omega) (by omega) (by omega), j21]; exact Int.le_refl 0
      · rw [hK _ _ (by omega) (by omega) (by omega) (by omega) (by omega), j21]; decide
      · rw [fK 144 k (by omega) (by unfold frB; omega) (by omega) (by omega) (by omega) (by omega) (by omega) (by omega) (by omega), fK 3 k (by omega) (by unfold frB; omega) (by omega) (by omega) (by omega) (by omega) (by omega) (by omega) (by omega)]
        exact hTp.2 k hk
      · show K 63 0 = 0
        rw [hK _ _ (by omega) (by omega) (by omega) (by omega) (by omega)]; exact jb
      · unfold fLaw at hk
        exact (if_neg (by omega)).symm
    · by_cases g : (a = 2 ∧ b = 1) ∨ (a = 137 ∧ b = 13) ∨ (a = 121 ∧ b = 9) ∨ a = 135
      · exact if_pos g
      · refine (if_neg g).trans ?_
        unfold fAll fNow fKept fEnv fTape fBlame fLaw at hab
        exact fK a b (by omega) (by unfold frB; omega) (by omega) (by omega) (by omega) (by omega) (by omega) h2 h3
    · exact (if_neg (by omega)).trans (jk.1.trans (i1 1))
    · exact (if_neg (by omega)).trans (jk.2.1.trans (i1 2))
    · exact (if_neg (by omega)).trans ((jk.2.2 k hk).1.trans (i2 142 k (by omega)))
    · exact (if_neg (by omega)).trans ((jk.2.2 k hk).2.trans (i2 141 k (by omega)))
  have h144 : ∀ k, k < 220 → I 144 k = zi2b (I 3 k) ∧ 0 ≤ I 3 k ∧ I 3 k < 256 := hTp.2
  refine s_N_badly (t := t) hW hl hR hL hb' (by omega) hm hE' hH hv hg ht hTp.1.2 hBl (fun hbad => ?_) (fun gx m hm1 hsh J hJ => ?_) fun gx m hm1 hlg J hJ j21 jb => ?_
  · exact s_M_badly (TT := I 3) hW hb mE mH hv hg (by rw [← hTp.1.1]; exact hTp.1.2) h144 (fun _ => ⟨rfl, h.fr (by omega) fun _ _ _ => rfl⟩) (fun gx => absurd gx hbad) fun gx => absurd gx hbad
  · have f1 : ∀ a b, 137 ≤ a → J a b = I a b := fun a b hab => hJ a b (by omega) (by omega) (by omega) (by omega) (by omega) (by omega) (by omega)
    refine s_M_badly (TT := I 3) hW hb (mE.fr fun a b hab => f1 a b (by omega)) (mH.fr fun a b hab => f1 a b (by omega)) hv hg (by rw [f1 _ _ (by omega), ← hTp.1.1]; exact hTp.1.2) (fun k hk => by rw [f1 _ _ (by omega)]; exact h144 k hk) (fun hbad => absurd gx hbad) (fun _ m' hm' _ K k1 k2 => ⟨rfl, h.same hW (fun a b hab h1 h2 h3 => ?_) ⟨?_, ?_, fun k hk => ?_⟩⟩) fun _ m' hm' hlg => ?_
    · unfold fAll fNow fKept fEnv fTape fBlame fLaw at hab
      rw [k2 a b (by omega) (by omega) (by omega) h2 h3, hJ a b (by omega) (by omega) (by omega) (by omega) (by omega) (by omega) (by omega)]
    · rw [k1.1]; exact f1 _ _ (by omega)
    · rw [k1.2.1]; exact f1 _ _ (by omega)
    · rw [(k1.2.2 k hk).1, (k1.2.2 k hk).2, f1 _ _ (by omega), f1 _ _ (by omega)]; exact ⟨rfl, rfl⟩
    · obtain rfl : m' = m := by omega
      rw [f1 _ _ (by omega), ← hTp.1.1] at hlg
      omega
  · have f1 : ∀ a b, 137 ≤ a → J a b = I a b := fun a b hab => hJ a b (by omega) (by unfold frB; omega) (by omega) (by omega)
    refine s_M_badly (TT := I 3) hW hb (mE.fr fun a b hab => f1 a b (by omega)) (mH.fr fun a b hab => f1 a b (by omega)) hv hg (by rw [f1 _ _ (by omega), ← hTp.1.1]; exact hTp.1.2) (fun k hk => by rw [f1 _ _ (by omega)]; exact h144 k hk) (fun hbad => absurd gx hbad) (fun _ m' hm' hsh => ?_) fun _ m' hm' _ K k1 k2 k3 => ?_
    · obtain rfl : m' = m := by omega
      rw [f1 _ _ (by omega), ← hTp.1.1] at hsh
      omega
    · obtain rfl : m' = m := by omega
      exact ⟨rfl, rel J K hJ j21 jb k1 k2 k3⟩
end BZ
