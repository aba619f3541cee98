-- BADLY: the class's answer
theorem gGo_perm {B : ZI} {S : Nat} (hb : bOk B S) : ∀ (c : Nat) (H H2 : List Int) (g : Int) (L L2 : Nat → Int), H.Perm H2 → (gGo B c H g L).1.Perm (gGo B c H2 g L2).1
  | 0, _, _, _, _, _, h => h
  | c + 1, H, H2, g, L, L2, h => by
    refine gGo_perm hb c _ _ _ _ _ ?_
    have p1 : (gH1 B H g L).Perm (gCome B H g) := gNext_perm (iOk_into hb)
    have p2 : (gH1 B H2 g L2).Perm (gCome B H2 g) := gNext_perm (iOk_into hb)
    exact (p1.trans (h.append_right _)).trans p2.symm
theorem gGo_add (B : ZI) : ∀ (a b : Nat) (H : List Int) (g : Int) (L : Nat → Int), (gGo B (a + b) H g L).1 = (gGo B b (gGo B a H g L).1 (g + a) (gGo B a H g L).2.1).1
  | 0, b, H, g, L => by
    rw [Nat.zero_add, show g + ((0 : Nat) : Int) = g by omega]; rfl
  | a + 1, b, H, g, L => by
    have ih := gGo_add B a b (gH1 B H g L) (g + 1) (gL1 B H g L)
    rw [show a + 1 + b = (a + b) + 1 by omega, show g + ((a + 1 : Nat) : Int) = g + 1 + a by omega]
    exact ih
theorem gWr_perm {B : ZI} {S : Nat} (hb : bOk B S) {k r : Nat} {H : List Int} {g : Int} {L : Nat → Int} {i h : Int} (hh : 0 ≤ h ∧ h < B 137 3) {T : List Int} {L2 : Nat → Int} (e : gWr B k r H g L i h = some (T, L2)) : T.Perm (gGo B (k + 1 + r) H g L).1 := by
  unfold gWr at e
  by_cases q : gBlN B (gGo B k H g L).1 (g + k) (gGo B k H g L).2.1 i h = true
  · rw [if_pos q] at e; cases e
  · rw [if_neg q] at e
    have e2 := Option.some.inj e
    rw [← (Prod.mk.inj e2).1, gGo_add B (k + 1) r H g L, show g + ((k + 1 : Nat) : Int) = g + k + 1 by omega]
    refine gGo_perm hb r _ _ _ _ _ ?_
    rw [(gGo_last B k H g L).1]
    have p1 : (gBlH B (gGo B k H g L).1 (g + k) (gGo B k H g L).2.1 i h).Perm (gCome B (gGo B k H g L).1 (g + k)) := gNext_perm (iOk_bl hb hh)
    have p2 : (gH1 B (gGo B k H g L).1 (g + k) (gGo B k H g L).2.1).Perm (gCome B (gGo B k H g L).1 (g + k)) := gNext_perm (iOk_into hb)
    exact p1.trans p2.symm
def jAns (hs : Nat) (mn : Int × Int) (x2 : Int) : Int := if x2 = -1 then mn.1 else if mn.2 = -1 then -2 else if x2 = 0 then ((mn.2.toNat / hs / 32 : Nat) : Int) else if x2 = 1 then ((mn.2.toNat / hs % 32 : Nat) : Int) else ((mn.2.toNat % hs : Nat) : Int)
section BX
variable {d n t : Nat} {sh : ZS} {R : ZR} {B : ZI} {lw S : Nat} {g : Int} {m : Nat} {x1 x2 : Int}
theorem s_B_answer {Q : Int → ZI → Prop} {I : ZI} {ok : Nat → Bool} {hs c : Nat} (hW : Wf sh R) (hx : -1 ≤ x2 ∧ x2 ≤ 2) (hI : jI ok hs c I) (q : Q (jAns hs (jN ok c) x2) I) : XI d 1 [.inr 121, .inl x2] n sh R I Q :=
  b_B_answer_0 hW (by
    have jo := jN_ok (ok := ok) c
    have h1 := hI.1
    unfold jAns at q
    by_cases g1 : x2 = -1
    · rw [if_pos g1] at q
      rw [if_neg (not_not_intro g1), h1]; exact q
    · rw [if_neg g1] at q
      rw [if_pos g1, h1]
      by_cases g2 : (jN ok c).2 = -1
      · rw [if_pos g2] at q
        rw [if_pos (by omega)]; exact q
      · rw [if_neg g2] at q
        rw [if_neg (by omega), if_neg (by omega), if_neg (by omega)]
        refine ⟨by omega, ?_⟩
        have h2 := hI.2 (jN ok c).2.toNat (by omega)
        by_cases g3 : x2 = 0
        · rw [if_pos g3] at q
          rw [g3, show (0 : Int).toNat = 0 by rfl, h2.1]; exact q
        rw [if_neg g3] at q
        by_cases g4 : x2 = 1
        · rw [if_pos g4] at q
          rw [g4, show (1 : Int).toNat = 1 by rfl, h2.2.1]; exact q
        rw [if_neg g4] at q
        rw [show x2 = 2 by omega, show (2 : Int).toNat = 2 by rfl, h2.2.2]; exact q)
def jGo (g x1 x2 : Int) : Prop := 1 ≤ x1 ∧ x1 ≤ 6 ∧ g + x1 ≤ 12 ∧ -1 ≤ x2 ∧ x2 ≤ 2
/-- what badly answers -/
def jVal (B : ZI) (TT : Nat → Int) (m : Nat) (H : List Int) (g : Int) (LA : Nat → Int) (x2 : Int) : Int := if (decide (∀ p, p < (gGo B m H g LA).1.length → TT p = (gGo B m H g LA).1.getD p 0)) = true then -3 else jAns (B 137 3).toNat (jN (jC B TT m H g LA) (m * 32 * (B 137 3).toNat)) x2
theorem s_N_badly {I : ZI} {Q : Int → ZI → Prop} (hW : Wf sh R) {H : List Int} {LA : Nat → Int} (hl : lw = 5 ∨ lw = 45) (hR : R 42 4 = lw) (hL : Lw sh R lw) (hb : bOk B S) (hM : 0 ≤ I lw 9 ∧ I lw 9 < 256) (hm : mkOk (I lw 9) (B 151) S) (hE : gEnv B I lw S) (hH : gSt B I 18 H g LA) (hv : stOk B H g LA) (hg : 0 ≤ g ∧ g ≤ 12) (ht : t < 100000) (hT : 0 ≤ I 2 1 ∧ I 2 1 ≤ 220) (hBl : rBlame t I)
    (bad : ¬ jGo g x1 x2 → Q (-1) I)
    (short : jGo g x1 x2 → ∀ m : Nat, x1 = m → I 2 1 < ((gGo B m H g LA).1.length : Int) → ∀ J : ZI, (∀ a b, ¬ (30 ≤ a ∧ a ≤ 35) → ¬ a = 43 → ¬ a = lw + 7 → ¬ a = 44 → ¬ (a = 42 ∧ 5 ≤ b ∧ b ≤ 7) → ¬ a = 16 → ¬ a = 17 → J a b = I a b) → Q (-1) J)
    (good : jGo g x1 x2 → ∀ m : Nat, x1 = m → ((gGo B m H g LA).1.length : Int) ≤ I 2 1 → ∀ J : ZI, (∀ a b, ¬ (30 ≤ a ∧ a ≤ 35) → ¬ frB lw a → ¬ (a = 42 ∧ 5 ≤ b ∧ b ≤ 7) → ¬ (a = 2 ∧ b = 1) → J a b = I a b) → J 2 1 = 0 → rBlame (t + 1) J → Q (jVal B (I 3) m H g LA x2) J) : XI (d + 7) 119 [.inr 1, .inl x1, .inl x2] n sh R I Q := by
  have hin := hv.1.inb hb
  have hb2 := hb.2.1
  have hb1 := hb.1
  unfold jGo at bad short good
  refine b_N_badly_0 hW ?_
  rw [hH.1.2.2]
  by_cases g7 : x1 < 1
  · rw [if_pos g7]; exact bad (by omega)
  rw [if_neg g7]
  by_cases g8 : 6 < x1
  · rw [if_pos g8]; exact bad (by omega)
  rw [if_neg g8]
  refine ⟨by unfold zr; omega, ?_⟩
  by_cases g9 : 12 < g + x1
  · rw [if_pos g9]; exact bad (by omega)
  rw [if_neg g9]
  by_cases g1 : x2 < -1
  · rw [if_pos g1]; exact bad (by omega)
  rw [if_neg g1]
  by_cases g2 : x2 ≤ 2
  · rw [if_pos g2]
    obtain ⟨m, rfl⟩ : ∃ m : Nat, x1 = m := ⟨x1.toNat, by omega⟩
    have short2 := short (by omega) m rfl
    have good2 := good (by omega) m rfl
    refine s_S_copyFrom (d := d + 5) hW (St_30 hW) (St_18 hW) (by omega) fun I3 hc => ?_
    have hH3 := hH.cop hin.1 hc
    have hE3 : gEnv B I3 lw S := hE.fr hl fun a b hab => hc.2.2 a b (by omega) (by omega)
    have p30 : sPl 30 := .inr (.inr (.inl rfl))
    refine s_G_doGoes (d := d + 1) hW (St_30 hW) p30 hl hR hL hb hE3 hH3 hv (by omega) fun I5 j1 j2 j3 => ?_
    have ok5 := gGo_ok hb m H g LA hv
    have l5 := (ok5.1.1.inb hb).1
    have f5 : ∀ a b, ¬ (30 ≤ a ∧ a ≤ 35) → ¬ a = 43 → ¬ a = lw + 7 → ¬ a = 44 → ¬ (a = 42 ∧ 5 ≤ b ∧ b ≤ 7) → ¬ a = 16 → ¬ a = 17 → I5 a b = I a b := fun a b h1 h2 h3 h4 h5 h6 h7 => by
      rw [j3 a b (by unfold fG; omega), hc.2.2 a b (by omega) (by omega)]
    have e21 : I5 2 1 = I 2 1 := f5 _ _ (by omega) (by omega) (by omega) (by omega) (by omega) (by omega) (by omega)
    have e3 : I5 3 = I 3 := funext fun b => f5 _ _ (by omega) (by omega) (by omega) (by omega) (by omega) (by omega) (by omega)
    rw [j1.1.2.1, e21]
    by_cases g3 : ((gGo B m H g LA).1.length : Int) ≤ I 2 1
    · rw [if_pos g3]
      have good3 := good2 g3
      have hs9 := ok5.1.1.1
      refine s_T_tells (d := d + 5) hW (St_30 hW) l5 j1 (by rw [e21]; exact g3) fun v6 h6 => ?_
      refine s_T_each (d := d + 5) hW (St_30 hW) (by rw [j1.1.2.1]; omega) (by rw [j1.1.2.1, e21]; exact g3) (by rw [e21]; omega) ?_
      -- the end: the answer where the row isn't as it should be
      have fin : ∀ J : ZI, (∀ a b, ¬ frB lw a → J a b = I5 a b) → rBlame (t + 1) J → jI (jC B (I 3) m H g LA) (B 137 3).toNat (m * 32 * (B 137 3).toNat) J → ¬ tTold I5 (gGo B m H g LA).1 → XI (d + 6) 1 [.inr 121, .inl x2] n sh R (zup J 2 1 0) (fun v10 I11 => Q v10 I11) := fun J hJ hJb hJi hno => by
        refine s_B_answer (d := d + 6) hW (by omega) (hJi.fr fun a b hab => zup_ne (by omega)) ?_
        have e : jVal B (I 3) m H g LA x2 = jAns (B 137 3).toNat (jN (jC B (I 3) m H g LA) (m * 32 * (B 137 3).toNat)) x2 := by
          unfold jVal
          rw [if_neg fun x => hno fun p hp => by rw [e3]; exact of_decide_eq_true x p hp]
        rw [← e]
        refine good3 _ (fun a b h1 h2 h3 h4 => ?_) (zup_eq ⟨rfl, rfl⟩) (hJb.fr fun a b hab => by unfold fBlame at hab; exact zup_ne (by omega))
        have h2' := h2
        unfold frB at h2'
        rw [zup_ne (by omega), hJ a b h2, f5 a b h1 (by omega) (by omega) (by omega) h3 (by omega) (by omega)]
      have asIs : ∀ J : ZI, (∀ a b, ¬ (a = 121 ∧ b = 9) → J a b = I5 a b) → tTold I5 (gGo B m H g LA).1 → Q (-3) (zup J 2 1 0) := fun J hJ hyes => by
        have e : jVal B (I 3) m H g LA x2 = -3 := by
          unfold jVal
          rw [if_pos (decide_eq_true fun p hp => by rw [← e3]; exact hyes p hp)]
        rw [← e]
        refine good3 _ (fun a b h1 h2 h3 h4 => ?_) (zup_eq ⟨rfl, rfl⟩) ((hBl.le (by omega)).fr fun a b hab => ?_)
        · have h2' := h2
          unfold frB at h2'
          rw [zup_ne (by omega), hJ a b (by omega), f5 a b h1 (by omega) (by omega) (by omega) h3 (by omega) (by omega)]
        · unfold fBlame at hab
          rw [zup_ne (by omega), hJ a b (by omega), f5 a b (by omega) (by omega) (by omega) (by omega) (by omega) (by omega) (by omega)]
      have bl5 : rBlame t I5 := hBl.fr fun a b hab => by
        unfold fBlame at hab
        exact f5 a b (by omega) (by omega) (by omega) (by omega) (by omega) (by omega) (by omega)
      by_cases g4 : pEach (I5 3) (pPlace (I5 (30 + 5)) (I5 30 6)) 0 (I5 30 6).toNat 0 = true
      · rw [if_pos g4, if_neg (by decide)]
        rcases h6 with ⟨rfl, h6⟩ | ⟨rfl, h6⟩
        · rw [if_pos (by decide), if_neg (by decide)]
          exact asIs _ (fun a b hab => zup_ne hab) h6
        · rw [if_neg (by decide)]
          have fz : ∀ a b, ¬ (a = 121 ∧ b = 9) → (zup I5 121 9 0) a b = I5 a b := fun a b hab => zup_ne hab
          have hE5 : gEnv B I5 lw S := hE3.fr hl fun a b hab => j3 a b (by unfold fG; omega)
          have hN5 : gSt B I5 18 H g LA := (hH.fr fun a b hab => hc.2.2 a b (by omega) (by omega)).fr fun a b hab => j3 a b (by unfold fG; omega)
          have e9 : (zup I5 121 9 0) lw 9 = I lw 9 := by rw [fz _ _ (by omega)]; exact f5 _ _ (by omega) (by omega) (by omega) (by omega) (by omega) (by omega) (by omega)
          obtain ⟨hs, hhs⟩ : ∃ hs : Nat, B 137 3 = (hs : Int) := ⟨(B 137 3).toNat, by omega⟩
          obtain ⟨L0, hL0⟩ : ∃ L0 : Nat, B 137 0 = (L0 : Int) := ⟨(B 137 0).toNat, by omega⟩
          have e3z : (zup I5 121 9 0) 3 = I 3 := by rw [← e3]; exact funext fun b => fz _ _ (by omega)
          refine s_B_search (d := d) (hs := hs) (L0 := L0) (B := B) (H := H) (g := g) (LA := LA) hW hl hR hL hb (by rw [e9]; exact hM) (by rw [e9]; exact hm) (by omega) (by omega) hhs hL0 (hE5.fr hl fun a b hab => fz a b (by omega)) (hN5.fr fun a b hab => fz a b (by omega)) hv (by rw [fz _ _ (by omega), e21]; omega) fun J k1 k4 => ?_
          rw [if_pos rfl]
          rw [e3z] at k1
          have fk : ∀ a b, ¬ frB lw a → J a b = I5 a b := fun a b hab => by
            have hab2 := hab
            unfold frB at hab2
            rw [k4 a b hab, fz a b (by omega)]
          refine fin J fk ?_ (by rw [show (B 137 3).toNat = hs by omega]; exact k1) h6
          show J 63 0 = 0
          rw [fk _ _ (by unfold frB; omega)]
          exact bl5
      · rw [if_neg g4, if_pos rfl]
        rcases h6 with ⟨rfl, h6⟩ | ⟨rfl, h6⟩
        · rw [if_neg (by decide)]
          exact asIs _ (fun a b hab => zup_ne hab) h6
        · rw [if_pos rfl]
          refine fin _ (fun a b hab => zup_ne (by unfold frB at hab; omega)) ((bl5.le (by omega)).fr fun a b hab => zup_ne (by unfold fBlame at hab; omega)) ?_ h6
          have no : ∀ e, e < m * 32 * (B 137 3).toNat → ¬ jC B (I 3) m H g LA e = true := fun e he x => by
            unfold jC at x
            have x2 := (Bool.and_eq_true_iff.mp x).2
            unfold jRt at x2
            have hpos : 0 < (B 137 3).toNat := by omega
            have hmod := Nat.mod_lt e hpos
            cases w : gWr B (e / (B 137 3).toNat / 32) (m - e / (B 137 3).toNat / 32 - 1) H g LA ((e / (B 137 3).toNat % 32 : Nat) : Int) ((e % (B 137 3).toNat : Nat) : Int) with
            | none => rw [w] at x2; cases x2
            | some y =>
              rw [w] at x2
              have x3 : ∀ p, p < y.1.length → I 3 p = y.1.getD p 0 := of_decide_eq_true x2
              have d1 : e / (B 137 3).toNat < m * 32 := (Nat.div_lt_iff_lt_mul hpos).mpr he
              have pm := gWr_perm hb (hh := ⟨by omega, by omega⟩) w
              rw [show e / (B 137 3).toNat / 32 + 1 + (m - e / (B 137 3).toNat / 32 - 1) = m by omega] at pm
              refine g4 (tEach_of j1 pm ok5.1.1.2.2 (fun p hp => ?_) fun p hp => by rw [e3]; exact x3 p hp)
              have := (ok5.1.1.inb hb).2 p hp
              omega
          have e0 : jN (jC B (I 3) m H g LA) (m * 32 * (B 137 3).toNat) = (0, -1) := by
            have := jN_skip (ok := jC B (I 3) m H g LA) (c := 0) (m * 32 * (B 137 3).toNat) fun e _ h2 => no e (by omega)
            rw [Nat.zero_add] at this
            rw [this]; rfl
          refine ⟨?_, fun f hf => ?_⟩
          · rw [e0, zup_eq ⟨rfl, rfl⟩]
          · rw [e0] at hf
            have : (-1 : Int) = (f : Int) := hf
            omega
    · rw [if_neg g3]
      exact short2 (by omega) I5 f5
  · rw [if_neg g2]; exact bad (by omega)
end BX
