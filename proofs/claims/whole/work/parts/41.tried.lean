-- A LETTER LOOKED AT; GOES TRIED
section TR
variable {d n t : Nat} {sh : ZS} {R : ZR} {B : ZI} {x1 x2 x3 x4 x5 : Int} {lw S o : Nat}
theorem gInto_cases (hb : bOk B S) {H : List Int} {g : Int} {LA : Nat → Int} {p : Nat} : (lOut B (gFa B p (H.getD p 0) g LA) = 0 ∧ gInto B H g LA p = lAm B (gFa B p (H.getD p 0) g LA) 104 (B 137 3 - 1) ∧ 0 ≤ gInto B H g LA p) ∨ (¬ lOut B (gFa B p (H.getD p 0) g LA) = 0 ∧ gInto B H g LA p = -1) := by
  have rg := lAm_range (B := B) (fa := gFa B p (H.getD p 0) g LA) (kind := 104) (high := B 137 3 - 1) (by have := hb.2.1; omega)
  unfold gInto gHole
  by_cases v : lOut B (gFa B p (H.getD p 0) g LA) = 0
  · rw [if_pos v]; exact .inl ⟨v, rfl, rg.1⟩
  · rw [if_neg v]; exact .inr ⟨v, rfl⟩
theorem c_letterIs {I : ZI} (hW : Wf sh R) (h : Rel t I R) : XI (d + 5) 102 [.inr 1, .inl x1, .inl x2] n sh R I (fun v J => XI (d + 4) 193 [.inr 137, .inl x1, .inl x2] n sh R J (fun v2 K => v2 = v ∧ Rel (t + 1) K R)) := by
  obtain ⟨lw, S, H, hl, hR, hL, hb, hE, mE, hH, mH, hv, hg⟩ := h.base hW
  obtain ⟨⟨o1, o2, o3, o4, o5, o6, o7⟩, od, lt, di⟩ := h.1.od
  have hin := hv.1.inb hb
  have sm : Rel (t + 1) I R := h.fr (by omega) fun _ _ _ => rfl
  refine b_N_letterIs_0 hW ?_
  by_cases g1 : x1 < 0
  · rw [if_pos g1]; refine b_M_letterIs_0 hW ?_; rw [if_pos g1]; exact ⟨rfl, sm⟩
  rw [if_neg g1]
  by_cases g2 : I 18 5 ≤ x1
  · rw [if_pos g2]; refine b_M_letterIs_0 hW ?_; rw [if_neg g1, if_pos (by omega)]; exact ⟨rfl, sm⟩
  rw [if_neg g2]
  obtain ⟨la, lb⟩ := lt x1.toNat (by omega)
  refine s_S_placeOf hW (St_18 hW) (by omega) (by omega) ?_
  have pq : pPlace (I 142) (I 137 1) x1 = pPlace (I 23) (I 18 6) x1 := pPlace_congr o5 (fun k hk => (od k hk).2) x1
  have pin := pPlace_in (o := I 23) (m := I 18 6) (L := I 18 5) (fun k hk => (od k hk).1) x1
  show if x2 = 0 then _ else _
  have mod : ∀ {J : ZI} {Q : Int → ZI → Prop}, J 137 0 = I 137 0 → J 137 1 = I 137 1 → J 142 = I 142 → (if x2 = 0 then (0 ≤ x1 ∧ x1 < 32) ∧ Q (J 138 (x1).toNat) J else (if x2 = 1 then (0 ≤ x1 ∧ x1 < 32) ∧ Q (J 139 (x1).toNat) J else (if x2 = 2 then (if ¬ pPlace (I 23) (I 18 6) x1 = (-1) then Q (pPlace (I 23) (I 18 6) x1) J else Q (-2) J) else (if x2 = 3 then (0 ≤ x1 ∧ x1 < 32) ∧ Q (J 141 (x1).toNat) J else (if x2 = 4 then (if pPlace (I 23) (I 18 6) x1 = (-1) then Q (-2) J else XI (d + 3) 179 [.inr 137, .inl (pPlace (I 23) (I 18 6) x1)] n sh R J (fun v6 I7 => (if v6 = 0 then XI (d + 3) 180 [.inr 137, .inl (pPlace (I 23) (I 18 6) x1)] n sh R I7 (fun v8 I9 => Q v8 I9) else Q (-2) I7))) else Q (-1) J))))) → XI (d + 4) 193 [.inr 137, .inl x1, .inl x2] n sh R J Q := fun {J} {Q} j0 j1 j2 k => by
    refine b_M_letterIs_0 hW ?_
    rw [if_neg g1, if_neg (by omega)]
    refine s_M_placeOf hW (by omega) (by omega) ?_
    rw [j1, j2, pq]
    exact k
  by_cases g3 : x2 = 0
  · rw [if_pos g3]
    refine ⟨by omega, mod rfl rfl rfl ?_⟩
    rw [if_pos g3]; exact ⟨by omega, la.1, sm⟩
  rw [if_neg g3]
  by_cases g4 : x2 = 1
  · rw [if_pos g4]
    refine ⟨by omega, mod rfl rfl rfl ?_⟩
    rw [if_neg g3, if_pos g4]; exact ⟨by omega, la.2.1, sm⟩
  rw [if_neg g4]
  by_cases g5 : x2 = 2
  · rw [if_pos g5]
    rcases pin with e | e
    · rw [show pPlace (I (18 + 5)) (I 18 6) x1 = -1 from e, if_neg (by decide)]
      refine mod rfl rfl rfl ?_
      rw [if_neg g3, if_neg g4, if_pos g5, if_neg (not_not_intro e)]; exact ⟨rfl, sm⟩
    · rw [if_pos (show 0 ≤ pPlace (I (18 + 5)) (I 18 6) x1 from e.2.1)]
      refine mod rfl rfl rfl ?_
      rw [if_neg g3, if_neg g4, if_pos g5, if_pos (by omega)]; exact ⟨rfl, sm⟩
  rw [if_neg g5]
  by_cases g6 : x2 = 3
  · rw [if_pos g6]
    refine ⟨by omega, mod rfl rfl rfl ?_⟩
    rw [if_neg g3, if_neg g4, if_neg g5, if_pos g6]; exact ⟨by omega, la.2.2.2, sm⟩
  rw [if_neg g6]
  by_cases g7 : x2 = 4
  · rw [if_pos g7]
    rcases pin with e | e
    · rw [show pPlace (I (18 + 5)) (I 18 6) x1 = -1 from e, if_neg (by decide)]
      refine mod rfl rfl rfl ?_
      rw [if_neg g3, if_neg g4, if_neg g5, if_neg g6, if_pos g7, if_pos e]; exact ⟨rfl, sm⟩
    · rw [if_pos (show 0 ≤ pPlace (I (18 + 5)) (I 18 6) x1 from e.2.1)]
      have hm := hH.1.2.1
      obtain ⟨p, hp⟩ : ∃ p : Nat, pPlace (I 23) (I 18 6) x1 = p := ⟨(pPlace (I 23) (I 18 6) x1).toNat, by omega⟩
      show XI (d + 4) 132 [.inr 1, .inl (pPlace (I 23) (I 18 6) x1)] n sh R I _
      rw [hp] at e mod ⊢
      have pl : p < H.length := by omega
      refine b_N_holeNow_0 hW (s_G_holeFor hW (St_18 hW) (.inl rfl) hl hR hL hb hE hH hin pl fun J hJ => ?_)
      have mEJ : mEnv I J := mE.fr fun a b hab => hJ a b (by omega) (by omega)
      have mHJ : mSt J H (I 18 7) (I 22) := mH.fr fun a b hab => hJ a b (by omega) (by omega)
      have sc : ∀ K : ZI, (∀ a b, ¬ a = 156 → ¬ a = 157 → K a b = J a b) → Rel (t + 1) K R := fun K hK => h.fr (by omega) fun a b hab => by
        unfold fAll fNow fKept fEnv fTape fBlame fLaw at hab
        rw [hK a b (by omega) (by omega), hJ a b (by omega) (by omega)]
      have key : ∀ w : Int, (w = if ¬ gInto I H (I 18 7) (I 22) p = -1 then gInto I H (I 18 7) (I 22) p else -2) → XI (d + 4) 193 [.inr 137, .inl x1, .inl x2] n sh R J (fun v2 K => v2 = w ∧ Rel (t + 1) K R) := fun w hw => by
        refine mod (hJ _ _ (by omega) (by omega)) (hJ _ _ (by omega) (by omega)) (funext fun b => hJ _ _ (by omega) (by omega)) ?_
        rw [if_neg g3, if_neg g4, if_neg g5, if_neg g6, if_pos g7, if_neg (by omega)]
        refine s_M_isLeftOut hW hb mEJ mHJ hin pl fun K hK => ?_
        rcases gInto_cases hb (H := H) (g := I 18 7) (LA := I 22) (p := p) with ⟨v1, v2, v3⟩ | ⟨v1, v2⟩
        · rw [if_pos v1]
          refine s_M_holeFor hW hb (mEJ.fr fun a b hab => hK a b (by omega) (by omega)) (mHJ.fr fun a b hab => hK a b (by omega) (by omega)) hin pl fun M hM => ⟨?_, sc M fun a b h1 h2 => by rw [hM a b h1 h2, hK a b h1 h2]⟩
          rw [hw, if_pos (by omega)]; exact v2.symm
        · rw [if_neg v1]
          refine ⟨?_, sc K hK⟩
          rw [hw, if_neg (not_not_intro v2)]
      by_cases g8 : gInto I H (I 18 7) (I 22) p = -1
      · rw [if_neg (not_not_intro g8)]
        exact key _ (by rw [if_neg (not_not_intro g8)])
      · rw [if_pos g8]
        exact key _ (by rw [if_pos g8])
  rw [if_neg g7]
  refine mod rfl rfl rfl ?_
  rw [if_neg g3, if_neg g4, if_neg g5, if_neg g6, if_neg g7]; exact ⟨rfl, sm⟩
-- what is put aside, and back
def mAsd (K I : ZI) : Prop := I 137 41 = K 137 1 ∧ I 137 42 = K 137 2 ∧ ∀ k, k < 32 → I 160 k = K 142 k ∧ I 161 k = K 141 k
def mBk (K I : ZI) : Prop := I 137 1 = K 137 1 ∧ I 137 2 = K 137 2 ∧ ∀ k, k < 32 → I 142 k = K 142 k ∧ I 141 k = K 141 k
theorem mAsd.fr {K I J : ZI} (h : mAsd K I) (e : ∀ a b, (a = 137 ∧ 41 ≤ b ∧ b ≤ 42) ∨ a = 160 ∨ a = 161 → J a b = I a b) : mAsd K J := by
  refine ⟨?_, ?_, fun k hk => ?_⟩
  · rw [e _ _ (by omega)]; exact h.1
  · rw [e _ _ (by omega)]; exact h.2.1
  · rw [e _ _ (by omega), e _ _ (by omega)]; exact h.2.2 k hk
theorem mSt.bk {K I : ZI} {H : List Int} {g : Int} {LA : Nat → Int} (h : mSt K H g LA) (hl : H.length ≤ 32) (e : mBk K I) : mSt I H g LA := by
  refine ⟨?_, fun p hp => ?_, fun k hk => ?_⟩
  · rw [e.1, e.2.1]; exact h.1
  · rw [(e.2.2 p (by omega)).1]; exact h.2.1 p hp
  · rw [(e.2.2 k hk).2]; exact h.2.2 k hk
theorem s_M_begins {I : ZI} {Q : ZI → Prop} (hW : Wf sh R) (q : ∀ J : ZI, mAsd I J → (∀ a b, ¬ (a = 137 ∧ 41 ≤ b ∧ b ≤ 42) → ¬ a = 160 → ¬ a = 161 → J a b = I a b) → Q J) : XV (d + 1) 190 [.inr 137] n sh R I Q := by
  refine b_M_begins_0 hW (s_M_copies hW (sh_142 hW) (sh_160 hW) (by omega) (s_M_copies hW (sh_141 hW) (sh_161 hW) (by omega) (q _ ⟨?_, ?_, fun k hk => ⟨?_, ?_⟩⟩ fun a b h1 h2 h3 => ?_)))
  · rw [zcpy_ne (by omega), zcpy_ne (by omega), zup_ne (by omega), zup_eq (by omega)]
  · rw [zcpy_ne (by omega), zcpy_ne (by omega), zup_eq (by omega)]
  · rw [zcpy_ne (by omega), zcpy_to (by omega), zup_ne (by omega), zup_ne (by omega)]
  · rw [zcpy_to (by omega), zcpy_ne (by omega), zup_ne (by omega), zup_ne (by omega)]
  · rw [zcpy_ne (by omega), zcpy_ne (by omega), zup_ne (by omega), zup_ne (by omega)]
theorem s_M_again {K I : ZI} {Q : ZI → Prop} (hW : Wf sh R) (hA : mAsd K I) (q : ∀ J : ZI, mBk K J → (∀ a b, ¬ (a = 137 ∧ 1 ≤ b ∧ b ≤ 2) → ¬ a = 141 → ¬ a = 142 → J a b = I a b) → Q J) : XV (d + 1) 191 [.inr 137] n sh R I Q := by
  refine b_M_again_0 hW (s_M_copies hW (sh_160 hW) (sh_142 hW) (by omega) (s_M_copies hW (sh_161 hW) (sh_141 hW) (by omega) (q _ ⟨?_, ?_, fun k hk => ⟨?_, ?_⟩⟩ fun a b h1 h2 h3 => ?_)))
  · rw [zcpy_ne (by omega), zcpy_ne (by omega), zup_ne (by omega), zup_eq (by omega)]; exact hA.1
  · rw [zcpy_ne (by omega), zcpy_ne (by omega), zup_eq (by omega)]; exact hA.2.1
  · rw [zcpy_ne (by omega), zcpy_to (by omega), zup_ne (by omega), zup_ne (by omega)]; exact (hA.2.2 k hk).1
  · rw [zcpy_to (by omega), zcpy_ne (by omega), zup_ne (by omega), zup_ne (by omega)]; exact (hA.2.2 k hk).2
  · rw [zcpy_ne (by omega), zcpy_ne (by omega), zup_ne (by omega), zup_ne (by omega)]
/-- a trial that was put back leaves what holds -/
theorem Rel.same {I K : ZI} (hW : Wf sh R) (h : Rel t I R) (ff : ∀ a b, fAll a b → ¬ (a = 137 ∧ 1 ≤ b ∧ b ≤ 2) → ¬ a = 141 → ¬ a = 142 → K a b = I a b) (hk : mBk I K) : Rel (t + 1) K R := by
  obtain ⟨lw, S, H, hl, hR, hL, hb, hE, mE, hH, mH, hv, hg⟩ := h.base hW
  have hin := hv.1.inb hb
  have f2 : ∀ a b, fAll a b → ¬ fNow a b → K a b = I a b := fun a b h1 h2 => by
    unfold fNow at h2
    exact ff a b h1 (by omega) (by omega) (by omega)
  have f3 : ∀ a b, fNow a b → ¬ (a = 137 ∧ 1 ≤ b ∧ b ≤ 2) → ¬ a = 141 → ¬ a = 142 → K a b = I a b := fun a b h1 => ff a b (.inl h1)
  have nx := h.1.2.1
  have e8 : K 18 8 = I 18 8 := f3 18 8 (by unfold fNow; omega) (by omega) (by omega) (by omega)
  have e5 : K 137 5 = I 137 5 := f3 137 5 (by unfold fNow; omega) (by omega) (by omega) (by omega)
  have xx := h.1.1.2.2.2.1
  have mE2 : mEnv I K := mE.fr fun a b hab => ff a b (by unfold fAll fNow fEnv fLaw; omega) (by omega) (by omega) (by omega)
  have hH2 : gSt I K 18 H (I 18 7) (I 22) := by
    refine ⟨?_, fun p hp => ?_, fun k hk => ?_⟩
    · rw [f3 18 5 (by unfold fNow; omega) (by omega) (by omega) (by omega), f3 18 6 (by unfold fNow; omega) (by omega) (by omega) (by omega), f3 18 7 (by unfold fNow; omega) (by omega) (by omega) (by omega)]; exact hH.1
    · rw [f3 _ _ (by unfold fNow; omega) (by omega) (by omega) (by omega)]; exact hH.2.1 p hp
    · rw [f3 _ _ (by unfold fNow; omega) (by omega) (by omega) (by omega), f3 _ _ (by unfold fNow; omega) (by omega) (by omega) (by omega), f3 _ _ (by unfold fNow; omega) (by omega) (by omega) (by omega), f3 _ _ (by unfold fNow; omega) (by omega) (by omega) (by omega)]; exact hH.2.2 k hk
  refine h.up (by omega) (.inl (rNow.mk hb mE2 hH2 (mH.bk hin.1 hk) hv hg (fun k h1 h2 => ?_) ⟨by omega, by omega, by omega⟩)) (.inr fun a k hk => ?_) (.inr fun a k hk => ?_) (.inr fun a k hk => ?_) (.inr fun a k hk => ?_) (.inr fun a k hk => ?_)
  · rw [f3 23 k (by unfold fNow; omega) (by omega) (by omega) (by omega), (hk.2.2 k h2).1]
    exact (h.1.1.2.2.2.2 k h2).2.2.2.2
  · exact f2 a k (.inr (.inl hk)) (by unfold fKept at hk; unfold fNow; omega)
  · exact f2 a k (.inr (.inr (.inl hk))) (by unfold fEnv at hk; unfold fNow; omega)
  · exact f2 a k (.inr (.inr (.inr (.inl hk)))) (by unfold fTape at hk; unfold fNow; omega)
  · exact f2 a k (.inr (.inr (.inr (.inr (.inl hk))))) (by unfold fBlame at hk; unfold fNow; omega)
  · exact f2 a k (.inr (.inr (.inr (.inr (.inr hk))))) (by unfold fLaw at hk; unfold fNow; omega)
theorem gSt.cop {I J : ZI} {s : Nat} {H : List Int} {g : Int} {LA : Nat → Int} (h : gSt B I s H g LA) (hl : H.length ≤ 32) (c : sCop I J s o) : gSt B J o H g LA := by
  obtain ⟨⟨c1, c2, c3, c4⟩, c5, c6⟩ := c
  refine ⟨?_, fun p hp => ?_, fun k hk => ?_⟩
  · rw [c1, c2, c3]; exact h.1
  · rw [(c5 p (by omega)).2.2.2.2]; exact h.2.1 p hp
  · rw [(c5 k hk).1, (c5 k hk).2.1, (c5 k hk).2.2.1, (c5 k hk).2.2.2.1]; exact h.2.2 k hk
def pOutL (B : ZI) (H : List Int) : Int := pOut (B 138) (hOd H) (B 143) H.length
theorem gSt.out {I : ZI} {H : List Int} {g : Int} {LA : Nat → Int} (hb : bOk B S) (hh : hIn B H) (h : gSt B I o H g LA) (h13 : ∀ k, k < 20 → I 13 k = B 143 k) : pOd I o ∧ pOut (I (o + 1)) (I (o + 5)) (I 13) (I o 6) = pOutL B H := by
  have hb0 := hb.1
  have hl := hh.1
  refine ⟨⟨by have := h.1.2.1; omega, fun k hk => ?_⟩, ?_⟩
  · have e := h.2.1 k (by have := h.1.2.1; omega)
    have := hh.2 k (by have := h.1.2.1; omega)
    rw [e, (h.2.2 _ (by omega)).1]
    have := hb.2.2.1 (H.getD k 0).toNat (by omega)
    omega
  · rw [h.1.2.1]
    refine pOut_congr fun k hk => ?_
    have e := h.2.1 k (by omega)
    have := hh.2 k (by omega)
    have st := hb.2.2.1 (H.getD k 0).toNat (by omega)
    show I (o + 5) k = H.getD k 0 ∧ I 13 (I (o + 1) (H.getD k 0).toNat).toNat = B 143 (B 138 (H.getD k 0).toNat).toNat
    rw [(h.2.2 _ (by omega)).1]
    exact ⟨e, h13 _ (by omega)⟩
theorem mSt.out {I : ZI} {H : List Int} {g : Int} {LA : Nat → Int} (hb : bOk B S) (hh : hIn B H) (h : mSt I H g LA) (hE : mEnv B I) : pOdM I ∧ pOut (I 138) (I 142) (I 143) (I 137 1) = pOutL B H := by
  have hb0 := hb.1
  have hl := hh.1
  rw [hE.2.1.1, hE.2.1.2.2.2]
  refine ⟨⟨by have := h.1.1; omega, fun k hk => ?_⟩, ?_⟩
  · have e := h.2.1 k (by have := h.1.1; omega)
    have := hh.2 k (by have := h.1.1; omega)
    rw [e, hE.2.1.1]
    have := hb.2.2.1 (H.getD k 0).toNat (by omega)
    omega
  · rw [h.1.1]
    exact pOut_congr fun k hk => ⟨h.2.1 k (by omega), rfl⟩
def gTold (B : ZI) (r : List Int × (Nat → Int) × (Int × Int × Int)) (x2 : Int) : Int := if x2 = 0 then r.2.2.1 else if x2 = 1 then r.2.2.2.1 else if x2 = 2 then r.2.2.2.2 else if x2 = 3 then pOutL B r.1 else if (r.1.length : Int) ≤ x2 - 10 then -2 else r.1.getD (x2 - 10).toNat 0
theorem s_N_tried {I : ZI} {Q : Int → ZI → Prop} (hW : Wf sh R) {H : List Int} {g : Int} {LA : Nat → Int} (hl : lw = 5 ∨ lw = 45) (hR : R 42 4 = lw) (hL : Lw sh R lw) (hb : bOk B S) (hE : gEnv B I lw S) (hH : gSt B I 18 H g LA) (hv : stOk B H g LA) (hg : 0 ≤ g ∧ g ≤ 12)
    (bad : (x1 < 1 ∨ 12 < x1 ∨ 12 < g + x1 ∨ ¬ (0 ≤ x2 ∧ x2 ≤ 3 ∨ 10 ≤ x2 ∧ x2 ≤ 41)) → Q (-1) I)
    (good : (0 ≤ x2 ∧ x2 ≤ 3 ∨ 10 ≤ x2 ∧ x2 ≤ 41) → ∀ c : Nat, x1 = c → 1 ≤ c → g + c ≤ 12 → ∀ J : ZI, (∀ a b, ¬ (30 ≤ a ∧ a ≤ 35) → ¬ a = 43 → ¬ a = lw + 7 → ¬ a = 44 → ¬ (a = 42 ∧ 5 ≤ b ∧ b ≤ 7) → ¬ a = 16 → ¬ a = 17 → J a b = I a b) → Q (gTold B (gGo B c H g LA) x2) J) : XI (d + 6) 105 [.inr 1, .inl x1, .inl x2] n sh R I Q := by
  have hin := hv.1.inb hb
  refine b_N_tried_0 hW ?_
  rw [hH.1.2.2]
  have key : (if x1 < 1 then Q (-1) I else (if 12 < x1 then Q (-1) I else (zr (g + x1)) ∧ (if 12 < (g + x1) then Q (-1) I else XV (d + 5) 61 [.inr 30, .inr 18] n sh R I (fun I3 => XV (d + 5) 55 [.inr 42, .inr 30, .inl x1] n sh R I3 (fun I5 => (if x2 = 0 then Q (I5 42 5) I5 else (if x2 = 1 then Q (I5 42 6) I5 else (if x2 = 2 then Q (I5 42 7) I5 else (if x2 = 3 then XI (d + 5) 133 [.inr 1, .inr 30] n sh R I5 (fun v6 I7 => Q v6 I7) else (zr (x2 - 10)) ∧ (if I5 30 6 ≤ (x2 - 10) then Q (-2) I5 else (0 ≤ (x2 - 10) ∧ (x2 - 10) < 32) ∧ Q (I5 35 (x2 - 10).toNat) I5)))))))))) ∨ ¬ (0 ≤ x2 ∧ x2 ≤ 3 ∨ 10 ≤ x2 ∧ x2 ≤ 41) := by
    by_cases gx : (0 ≤ x2 ∧ x2 ≤ 3 ∨ 10 ≤ x2 ∧ x2 ≤ 41)
    · refine .inl ?_
      by_cases g1 : x1 < 1
      · rw [if_pos g1]; exact bad (.inl g1)
      rw [if_neg g1]
      by_cases g2 : 12 < x1
      · rw [if_pos g2]; exact bad (.inr (.inl g2))
      rw [if_neg g2]
      refine ⟨by unfold zr; omega, ?_⟩
      by_cases g3 : 12 < g + x1
      · rw [if_pos g3]; exact bad (.inr (.inr (.inl g3)))
      rw [if_neg g3]
      obtain ⟨c, rfl⟩ : ∃ c : Nat, x1 = c := ⟨x1.toNat, by omega⟩
      refine s_S_copyFrom hW (St_30 hW) (St_18 hW) (by omega) fun I3 hc => ?_
      have hH3 := hH.cop hin.1 hc
      have hE3 : gEnv B I3 lw S := hE.fr hl fun a b hab => hc.2.2 a b (by omega) (by omega)
      refine s_G_doGoes hW (St_30 hW) (.inr (.inr (.inl rfl))) hl hR hL hb hE3 hH3 hv (by omega) fun J j1 j2 j3 => ?_
      have ok := gGo_ok hb c H g LA hv
      have hin2 := ok.1.1.inb hb
      have q := good gx c rfl (by omega) (by omega) J fun a b h1 h2 h3 h4 h5 h6 h7 => by
        rw [j3 a b (by unfold fG; omega), hc.2.2 a b (by omega) (by omega)]
      have hE4 : gEnv B J lw S := hE3.fr hl fun a b hab => j3 a b (by unfold fG; omega)
      obtain ⟨po1, po2⟩ := j1.out hb hin2 hE4.2.1
      unfold gTold at q
      by_cases k0 : x2 = 0
      · rw [if_pos k0] at q ⊢; rw [j2.1]; exact q
      rw [if_neg k0] at q ⊢
      by_cases k1 : x2 = 1
      · rw [if_pos k1] at q ⊢; rw [j2.2.1]; exact q
      rw [if_neg k1] at q ⊢
      by_cases k2 : x2 = 2
      · rw [if_pos k2] at q ⊢; rw [j2.2.2]; exact q
      rw [if_neg k2] at q ⊢
      by_cases k3 : x2 = 3
      · rw [if_pos k3] at q ⊢
        refine s_N_firstOut hW (St_30 hW) po1 ?_
        rw [po2]; exact q
      rw [if_neg k3] at q ⊢
      refine ⟨by unfold zr; omega, ?_⟩
      rw [j1.1.2.1]
      by_cases k4 : ((gGo B c H g LA).1.length : Int) ≤ x2 - 10
      · rw [if_pos k4] at q ⊢; exact q
      rw [if_neg k4] at q ⊢
      have := j1.2.1 (x2 - 10).toNat (by omega)
      rw [show J 35 (x2 - 10).toNat = _ from this]
      exact ⟨by omega, q⟩
    · exact .inr gx
  by_cases y1 : x2 < 10
  · rw [if_pos y1]
    by_cases y2 : x2 < 0
    · rw [if_pos y2]; exact bad (by omega)
    rw [if_neg y2]
    by_cases y3 : 3 < x2
    · rw [if_pos y3]; exact bad (by omega)
    rw [if_neg y3]
    exact key.elim id fun a => absurd (show 0 ≤ x2 ∧ x2 ≤ 3 ∨ 10 ≤ x2 ∧ x2 ≤ 41 by omega) a
  rw [if_neg y1]
  by_cases y2 : 42 ≤ x2
  · rw [if_pos y2, if_neg (by omega), if_pos (by omega)]; exact bad (by omega)
  rw [if_neg y2]
  exact key.elim id fun a => absurd (show 0 ≤ x2 ∧ x2 ≤ 3 ∨ 10 ≤ x2 ∧ x2 ≤ 41 by omega) a
theorem s_M_tried {I : ZI} {Q : Int → ZI → Prop} (hW : Wf sh R) {H : List Int} {g : Int} {LA : Nat → Int} (hb : bOk B S) (hE : mEnv B I) (hH : mSt I H g LA) (hv : stOk B H g LA) (hg : 0 ≤ g ∧ g ≤ 12)
    (bad : (x1 < 1 ∨ 12 < x1 ∨ 12 < g + x1 ∨ ¬ (0 ≤ x2 ∧ x2 ≤ 3 ∨ 10 ≤ x2 ∧ x2 ≤ 41)) → Q (-1) I)
    (good : (0 ≤ x2 ∧ x2 ≤ 3 ∨ 10 ≤ x2 ∧ x2 ≤ 41) → ∀ c : Nat, x1 = c → 1 ≤ c → g + c ≤ 12 → ∀ J : ZI, mBk I J → (∀ a b, ¬ (156 ≤ a ∧ a ≤ 161) → ¬ (a = 137 ∧ (36 ≤ b ∧ b ≤ 42 ∨ 1 ≤ b ∧ b ≤ 2)) → ¬ a = 141 → ¬ a = 142 → J a b = I a b) → Q (gTold B (gGo B c H g LA) x2) J) : XI (d + 7) 198 [.inr 137, .inl x1, .inl x2] n sh R I Q := by
  have hin := hv.1.inb hb
  refine b_M_tried_0 hW ?_
  rw [hH.1.2]
  by_cases g1 : x1 < 1
  · rw [if_pos g1]; exact bad (.inl g1)
  rw [if_neg g1]
  by_cases g2 : 12 < x1
  · rw [if_pos g2]; exact bad (.inr (.inl g2))
  rw [if_neg g2]
  refine ⟨by unfold zr; omega, ?_⟩
  by_cases g3 : 12 < g + x1
  · rw [if_pos g3]; exact bad (.inr (.inr (.inl g3)))
  rw [if_neg g3]
  obtain ⟨c, rfl⟩ : ∃ c : Nat, x1 = c := ⟨x1.toNat, by omega⟩
  have key : (0 ≤ x2 ∧ x2 ≤ 3 ∨ 10 ≤ x2 ∧ x2 ≤ 41) → XV (d + 6) 190 [.inr 137] n sh R I (fun I3 => XV (d + 6) 187 [.inr 137, .inl (c : Int)] n sh R I3 (fun I5 => (if ¬ x2 = 0 then (if ¬ x2 = 1 then (if ¬ x2 = 2 then (if ¬ x2 = 3 then (zr (x2 - 10)) ∧ (if I5 137 1 ≤ (x2 - 10) then XV (d + 6) 191 [.inr 137] n sh R I5 (fun I8 => Q (-2) I8) else (0 ≤ (x2 - 10) ∧ (x2 - 10) < 32) ∧ XV (d + 6) 191 [.inr 137] n sh R I5 (fun I11 => Q (I5 142 (x2 - 10).toNat) I11)) else XI (d + 6) 196 [.inr 137] n sh R I5 (fun v12 I13 => XV (d + 6) 191 [.inr 137] n sh R I13 (fun I15 => Q v12 I15))) else XV (d + 6) 191 [.inr 137] n sh R I5 (fun I17 => Q (I5 137 38) I17)) else XV (d + 6) 191 [.inr 137] n sh R I5 (fun I19 => Q (I5 137 37) I19)) else XV (d + 6) 191 [.inr 137] n sh R I5 (fun I21 => Q (I5 137 36) I21)))) := fun gx => by
    refine s_M_begins hW fun I3 a1 a2 => ?_
    have hE3 : mEnv B I3 := hE.fr fun a b hab => a2 a b (by omega) (by omega) (by omega)
    have hH3 : mSt I3 H g LA := hH.fr fun a b hab => a2 a b (by omega) (by omega) (by omega)
    refine s_M_goesBy hW hb hE3 hH3 hv (by omega) fun J j1 j2 j3 => ?_
    have ok := gGo_ok hb c H g LA hv
    have hin2 := ok.1.1.inb hb
    have hE4 : mEnv B J := hE3.fr fun a b hab => j3 a b (by unfold fM; omega)
    have aJ : mAsd I J := a1.fr fun a b hab => j3 a b (by unfold fM; omega)
    obtain ⟨po1, po2⟩ := j1.out hb hin2 hE4
    have ag : ∀ v : Int, v = gTold B (gGo B c H g LA) x2 → XV (d + 6) 191 [.inr 137] n sh R J (fun I8 => Q v I8) := fun v e => by
      refine s_M_again hW aJ fun K k1 k2 => ?_
      rw [e]
      exact good gx c rfl (by omega) (by omega) K k1 fun a b h1 h2 h3 h4 => by
        rw [k2 a b (by omega) h3 h4, j3 a b (by unfold fM; omega), a2 a b (by omega) (by omega) (by omega)]
    unfold gTold at ag
    by_cases k0 : x2 = 0
    · rw [if_pos k0] at ag; rw [if_neg (not_not_intro k0)]; exact ag _ j2.1
    rw [if_neg k0] at ag; rw [if_pos k0]
    by_cases k1 : x2 = 1
    · rw [if_pos k1] at ag; rw [if_neg (not_not_intro k1)]; exact ag _ j2.2.1
    rw [if_neg k1] at ag; rw [if_pos k1]
    by_cases k2 : x2 = 2
    · rw [if_pos k2] at ag; rw [if_neg (not_not_intro k2)]; exact ag _ j2.2.2
    rw [if_neg k2] at ag; rw [if_pos k2]
    by_cases k3 : x2 = 3
    · rw [if_pos k3] at ag; rw [if_neg (not_not_intro k3)]
      exact s_M_outOf hW po1 (ag _ po2)
    rw [if_neg k3] at ag; rw [if_pos k3]
    refine ⟨by unfold zr; omega, ?_⟩
    rw [j1.1.1]
    by_cases k4 : ((gGo B c H g LA).1.length : Int) ≤ x2 - 10
    · rw [if_pos k4] at ag ⊢; exact ag _ rfl
    rw [if_neg k4] at ag ⊢
    exact ⟨by omega, ag _ (j1.2.1 (x2 - 10).toNat (by omega))⟩
  by_cases y2 : x2 < 0
  · rw [if_pos y2, if_pos (by omega)]; exact bad (by omega)
  rw [if_neg y2]
  by_cases y3 : 3 < x2
  · rw [if_pos y3]
    by_cases y4 : x2 < 10
    · rw [if_pos y4]; exact bad (by omega)
    rw [if_neg y4]
    by_cases y5 : 41 < x2
    · rw [if_pos y5]; exact bad (by omega)
    rw [if_neg y5]; exact key (by omega)
  rw [if_neg y3]; exact key (by omega)
theorem c_tried {I : ZI} (hW : Wf sh R) (h : Rel t I R) : XI (d + 6) 105 [.inr 1, .inl x1, .inl x2] n sh R I (fun v J => XI (d + 7) 198 [.inr 137, .inl x1, .inl x2] n sh R J (fun v2 K => v2 = v ∧ Rel (t + 1) K R)) := by
  obtain ⟨lw, S, H, hl, hR, hL, hb, hE, mE, hH, mH, hv, hg⟩ := h.base hW
  refine s_N_tried hW hl hR hL hb hE hH hv hg (fun hbad => ?_) fun gx c hc c1 c2 J hJ => ?_
  · refine s_M_tried hW hb mE mH hv hg (fun _ => ⟨rfl, h.fr (by omega) fun _ _ _ => rfl⟩) fun gx c hc c1 c2 => ?_
    exact absurd hbad (by omega)
  · have mE2 : mEnv I J := mE.fr fun a b hab => hJ a b (by omega) (by omega) (by omega) (by omega) (by omega) (by omega) (by omega)
    have mH2 : mSt J H (I 18 7) (I 22) := mH.fr fun a b hab => hJ a b (by omega) (by omega) (by omega) (by omega) (by omega) (by omega) (by omega)
    have f1 : ∀ a b, 137 ≤ a → J a b = I a b := fun a b hab => hJ a b (by omega) (by omega) (by omega) (by omega) (by omega) (by omega) (by omega)
    refine s_M_tried hW hb mE2 mH2 hv hg (fun hbad => absurd hbad (by omega)) fun _ c' hc' _ _ K k1 k2 => ?_
    obtain rfl : c' = c := by omega
    refine ⟨rfl, h.same hW (fun a b hab h1 h2 h3 => ?_) ⟨?_, ?_, fun k hk => ?_⟩⟩
    · unfold fAll fNow fKept fEnv fTape fBlame fLaw at hab
      rw [k2 a b (by omega) (by omega) h2 h3, hJ a b (by omega) (by omega) (by omega) (by omega) (by omega) (by omega) (by omega)]
    · rw [k1.1]; exact f1 _ _ (by omega)
    · rw [k1.2.1]; exact f1 _ _ (by omega)
    · rw [(k1.2.2 k hk).1, (k1.2.2 k hk).2, f1 _ _ (by omega), f1 _ _ (by omega)]; exact ⟨rfl, rfl⟩
end TR
