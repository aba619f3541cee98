-- A BLUNDER, both sides
theorem place_nd {N : List Int} (h : N.Nodup) {k : Nat} (hk : k < N.length) (x : Int) : pPlace (hOd N) N.length x = (k : Int) ↔ N.getD k 0 = x := by
  constructor
  · intro e
    rcases hOd_place (H := N) (i := x) with e1 | ⟨p, e1, e2, e3⟩
    · omega
    · have : p = k := by omega
      rw [← this]; exact e3
  · intro e
    unfold pPlace
    rw [Int.toNat_natCast]
    rcases pFind_range (p := fun k => decide (hOd N k = x)) N.length 0 with ⟨a, b⟩ | ⟨p, a, a1, a2, a3, a4⟩
    · have := of_decide_eq_false (b k (by omega) (by omega))
      exact absurd e this
    · rw [a]
      have e3 : N.getD p 0 = x := of_decide_eq_true a3
      by_cases g : p = k
      · omega
      · by_cases g2 : p < k
        · exact absurd (e3.trans e.symm) (gd_inj h g2 hk)
        · exact absurd (e.trans e3.symm) (gd_inj h (by omega) (by omega))
def oth (T N : List Int) (i : Int) : Nat → Int := pSum (fun k => if T.getD k 0 = N.getD k 0 then 0 else if T.getD k 0 = i then 0 else 1)
def othM (T N : List Int) (i : Int) : Nat → Int := pSum (fun k => if T.getD k 0 = i then 0 else if pPlace (hOd N) N.length (T.getD k 0) = (k : Int) then 0 else 1)
theorem othM_eq {T N : List Int} (h : N.Nodup) (i : Int) : ∀ m : Nat, m ≤ N.length → othM T N i m = oth T N i m
  | 0, _ => rfl
  | m + 1, hm => by
    have ih := othM_eq (T := T) h i m (by omega)
    have u : ∀ f : Nat → Int, pSum f (m + 1) = pSum f m + f m := fun _ => rfl
    unfold othM oth at ih ⊢
    rw [u, u, ih]
    congr 1
    have e := place_nd h (k := m) (by omega) (T.getD m 0)
    by_cases g1 : T.getD m 0 = i
    · rw [if_pos g1]
      by_cases g2 : T.getD m 0 = N.getD m 0
      · rw [if_pos g2]
      · rw [if_neg g2, if_pos g1]
    · rw [if_neg g1]
      by_cases g2 : T.getD m 0 = N.getD m 0
      · rw [if_pos g2, if_pos (e.mpr g2.symm)]
      · rw [if_neg g2, if_neg g1, if_neg (fun a => g2 (e.mp a).symm)]
def zabs (a : Int) : Int := if 0 ≤ a then a else 0 - a
def bTell (N T : List Int) (i what : Int) : Int := if what = 0 then pPlace (hOd T) T.length i else if what = 1 then zabs (pPlace (hOd T) T.length i - pPlace (hOd N) N.length i) else oth T N i T.length
def bAns (B : ZI) (m k : Nat) (H : List Int) (g : Int) (LA : Nat → Int) (i h what : Int) : Int := match gWr B k (m - k - 1) H g LA i h with
  | none => -2
  | some r => bTell (gGo B m H g LA).1 r.1 i what
section BU
variable {d n t : Nat} {sh : ZS} {R : ZR} {B : ZI} {x1 x2 x3 x4 x5 : Int} {lw S o : Nat}
theorem l_S_oth {I : ZI} {Q : Int → ZI → Prop} {T N : List Int} {g g2 : Int} {LA LB : Nat → Int} (hW : Wf sh R) (h30 : gSt B I 30 T g LA) (h36 : gSt B I 36 N g2 LB) (hl : T.length ≤ 32) (he : N.length = T.length) (q : Q (oth T N x2 T.length) I) : ∀ (c p : Nat), p + c = T.length → XIs d 68 5 [some (.inr 30), some (.inr 36), some (.inl x2), some (.inl (oth T N x2 p)), some (.inl (p : Int))] [] n sh R I Q
  | 0, p, h => b_S_othersElsewhere_5 hW (St_30 hW) (St_36 hW) (by
      have e : p = T.length := by omega
      subst e
      rw [h30.1.2.1, if_pos (by omega)]; exact q)
  | c + 1, p, h => b_S_othersElsewhere_5 hW (St_30 hW) (St_36 hW) (by
    have rg := pSum_range (f := fun k => if T.getD k 0 = N.getD k 0 then 0 else if T.getD k 0 = x2 then 0 else 1) (c := 1) p fun k hk => by
      split
      · omega
      · split <;> omega
    have go := l_S_oth hW h30 h36 hl he q c (p + 1) (by omega)
    have u : oth T N x2 (p + 1) = oth T N x2 p + if T.getD p 0 = N.getD p 0 then 0 else if T.getD p 0 = x2 then 0 else 1 := rfl
    rw [u] at go
    rw [h30.1.2.1, if_neg (by omega), Int.toNat_natCast, h30.2.1 p (by omega), h36.2.1 p (by omega)]
    refine ⟨by omega, ?_⟩
    unfold oth at go ⊢
    by_cases g1 : T.getD p 0 = N.getD p 0
    · rw [if_pos g1]
      rw [if_pos g1, Int.add_zero] at go
      exact ⟨by unfold zr; omega, go⟩
    rw [if_neg g1]
    rw [if_neg g1] at go
    by_cases g2 : T.getD p 0 = x2
    · rw [if_pos g2]
      rw [if_pos g2, Int.add_zero] at go
      exact ⟨by unfold zr; omega, go⟩
    rw [if_neg g2]
    rw [if_neg g2] at go
    exact ⟨by unfold zr; omega, by unfold zr; omega, go⟩)
def mAs (I : ZI) (N : List Int) : Prop := I 137 64 = (N.length : Int) ∧ ∀ p, p < N.length → I 177 p = N.getD p 0
theorem l_M_placeIn {I : ZI} {Q : Int → ZI → Prop} (hW : Wf sh R) {m : Nat} (hm : m ≤ 32) : ∀ (c j : Nat), j + c = m → Q (pFind (fun k => decide (I 177 k = x2)) j c) I → XIs d 234 2 [some (.inr 177), some (.inl (m : Int)), some (.inl x2), some (.inl (j : Int))] [] n sh R I Q
  | 0, j, h, q => b_M_placeIn_2 hW (by rw [if_pos (by omega)]; exact q)
  | c + 1, j, h, q => b_M_placeIn_2 hW (by
    rw [if_neg (by omega)]
    refine ⟨by omega, ?_⟩
    rw [Int.toNat_natCast]
    unfold pFind at q
    by_cases e : I 177 j = x2
    · rw [if_neg (not_not_intro e)]; rw [if_pos (decide_eq_true e)] at q; exact q
    · rw [if_pos e]; rw [if_neg (by simpa using e)] at q
      exact ⟨by unfold zr; omega, l_M_placeIn hW hm c (j + 1) (by omega) q⟩)
theorem s_M_placeIn {I : ZI} {Q : Int → ZI → Prop} (hW : Wf sh R) {N : List Int} (hN : mAs I N) (hl : N.length ≤ 32) (q : Q (pPlace (hOd N) N.length x2) I) : XI d 234 [.inr 177, .inl (I 137 64), .inl x2] n sh R I Q := by
  rw [hN.1]
  refine b_M_placeIn_0 hW (l_M_placeIn hW hl N.length 0 (by omega) ?_)
  have e : pPlace (hOd N) N.length x2 = pFind (fun k => decide (I 177 k = x2)) 0 N.length := by
    unfold pPlace
    rw [Int.toNat_natCast]
    exact pFind_congr _ _ fun k h1 h2 => by rw [hN.2 k (by omega)]; rfl
  rw [← e]; exact q
theorem l_M_oth {I : ZI} {Q : Int → ZI → Prop} {T N : List Int} {g : Int} {LA : Nat → Int} (hW : Wf sh R) (hT : mSt I T g LA) (hN : mAs I N) (hl : T.length ≤ 32) (hl2 : N.length ≤ 32) (q : Q (othM T N x1 T.length) I) : ∀ (c p : Nat), p + c = T.length → XIs (d + 1) 235 4 [some (.inr 137), some (.inl x1), some (.inl (othM T N x1 p)), some (.inl (p : Int))] [] n sh R I Q
  | 0, p, h => b_M_othersElsewhere_4 hW (by
      have e : p = T.length := by omega
      subst e
      rw [hT.1.1, if_pos (by omega)]; exact q)
  | c + 1, p, h => b_M_othersElsewhere_4 hW (by
    have rg := pSum_range (f := fun k => if T.getD k 0 = x1 then 0 else if pPlace (hOd N) N.length (T.getD k 0) = (k : Int) then 0 else 1) (c := 1) p fun k hk => by
      split
      · omega
      · split <;> omega
    have go := l_M_oth hW hT hN hl hl2 q c (p + 1) (by omega)
    have u : othM T N x1 (p + 1) = othM T N x1 p + if T.getD p 0 = x1 then 0 else if pPlace (hOd N) N.length (T.getD p 0) = (p : Int) then 0 else 1 := rfl
    rw [u] at go
    rw [hT.1.1, if_neg (by omega), Int.toNat_natCast, hT.2.1 p (by omega)]
    refine ⟨by omega, ?_⟩
    unfold othM at go ⊢
    by_cases g1 : T.getD p 0 = x1
    · rw [if_pos g1]
      rw [if_pos g1] at go
      exact ⟨by unfold zr; omega, by unfold zr; omega, go⟩
    rw [if_neg g1]
    rw [if_neg g1] at go
    refine s_M_placeIn hW hN hl2 ?_
    by_cases g2 : pPlace (hOd N) N.length (T.getD p 0) = (p : Int)
    · rw [if_pos g2]
      rw [if_pos g2] at go
      exact ⟨by unfold zr; omega, by unfold zr; omega, go⟩
    · rw [if_neg g2]
      rw [if_neg g2] at go
      exact ⟨by unfold zr; omega, by unfold zr; omega, go⟩)
theorem s_M_laysAsItIs {I K : ZI} {Q : ZI → Prop} {H : List Int} {g : Int} {LA : Nat → Int} (hW : Wf sh R) (hb : bOk B S) {c : Nat} (hE : mEnv B I) (hH : mSt I H g LA) (hv : stOk B H g LA) (hg : 0 ≤ g ∧ g + c ≤ 12) (hA : mAsd K I) (q : ∀ J : ZI, mBk K J → mAs J (gGo B c H g LA).1 → (0 ≤ J 137 36 ∧ J 137 36 ≤ 1000000 ∧ 0 ≤ J 137 37 ∧ J 137 37 ≤ 1000000 ∧ 0 ≤ J 137 38 ∧ J 137 38 ≤ 1000000) → (∀ a b, ¬ fM 32 a b → ¬ a = 177 → ¬ (a = 137 ∧ b = 64) → ¬ a = 142 → J a b = I a b) → Q J) : XV (d + 7) 232 [.inr 137, .inl (c : Int)] n sh R I Q := by
  have ok := gGo_ok hb c H g LA hv
  have hin := ok.1.1.inb hb
  have tr := gGo_tal hb c H g LA hv
  refine b_M_laysAsItIs_0 hW (s_M_goesBy hW hb hE hH hv hg fun J j1 j2 j3 => ?_)
  refine s_M_copies hW (sh_142 hW) (sh_177 hW) (by omega) ?_
  have f1 : ∀ a b, ¬ a = 177 → ¬ (a = 137 ∧ b = 64) → (zcpy (zup J 137 64 (J 137 1)) 142 0 177 0 32) a b = J a b := fun a b h1 h2 => by rw [zcpy_ne (by omega), zup_ne (by omega)]
  have hA2 : mAsd K (zcpy (zup J 137 64 (J 137 1)) 142 0 177 0 32) := hA.fr fun a b hab => by
    rw [f1 a b (by omega) (by omega), j3 a b (by unfold fM; omega)]
  have hl := hin.1
  refine s_M_again hW hA2 fun M m1 m2 => q M m1 ⟨?_, fun p hp => ?_⟩ ?_ fun a b h1 h2 h3 h4 => ?_
  · rw [m2 _ _ (by omega) (by omega) (by omega), zcpy_ne (by omega), zup_eq (by omega)]; exact j1.1.1
  · rw [m2 _ _ (by omega) (by omega) (by omega), zcpy_to (by omega), zup_ne (by omega)]; exact j1.2.1 p hp
  · rw [m2 _ _ (by omega) (by omega) (by omega), m2 _ _ (by omega) (by omega) (by omega), m2 _ _ (by omega) (by omega) (by omega), f1 _ _ (by omega) (by omega), f1 _ _ (by omega) (by omega), f1 _ _ (by omega) (by omega), j2.1, j2.2.1, j2.2.2]
    omega
  · have h5 := h1
    unfold fM at h5
    rw [m2 a b (by omega) (by omega) (by omega), f1 a b h2 h3, j3 a b (by unfold fM; omega)]
def bGood (I : ZI) (g x1 x2 x3 x4 x5 : Int) : Prop := (0 ≤ x3 ∧ x3 < I 137 0) ∧ (0 ≤ x4 ∧ x4 < I 137 3) ∧ (0 ≤ x5 ∧ x5 ≤ 2) ∧ (1 ≤ x1 ∧ x1 ≤ 12 ∧ g + x1 ≤ 12) ∧ 0 ≤ x2 ∧ x2 < x1
theorem s_N_blunder {I : ZI} {Q : Int → ZI → Prop} (hW : Wf sh R) {H : List Int} {g : Int} {LA : Nat → Int} (hl : lw = 5 ∨ lw = 45) (hR : R 42 4 = lw) (hL : Lw sh R lw) (hb : bOk B S) (hE : gEnv B I lw S) (hH : gSt B I 18 H g LA) (hv : stOk B H g LA) (hg : 0 ≤ g ∧ g ≤ 12)
    (bad : ¬ bGood B g x1 x2 x3 x4 x5 → Q (-1) I)
    (good : bGood B g x1 x2 x3 x4 x5 → ∀ m k : Nat, x1 = m → x2 = k → ∀ J : ZI, (∀ a b, ¬ (30 ≤ a ∧ a ≤ 41) → ¬ a = 43 → ¬ a = lw + 7 → ¬ a = 44 → ¬ (a = 42 ∧ 5 ≤ b ∧ b ≤ 7) → ¬ a = 16 → ¬ a = 17 → J a b = I a b) → Q (bAns B m k H g LA x3 x4 x5) J) : XI (d + 6) 118 [.inr 1, .inl x1, .inl x2, .inl x3, .inl x4, .inl x5] n sh R I Q := by
  have hin := hv.1.inb hb
  have hL0 := hb.1
  refine b_N_blunder_0 hW ?_
  rw [hH.1.2.2, hH.1.1, hE.1.1]
  unfold bGood at bad good
  by_cases g1 : x3 < 0
  · rw [if_pos g1]; exact bad (by omega)
  rw [if_neg g1]
  by_cases g2 : B 137 0 ≤ x3
  · rw [if_pos g2]; exact bad (by omega)
  rw [if_neg g2]
  by_cases g3 : x4 < 0
  · rw [if_pos g3]; exact bad (by omega)
  rw [if_neg g3]
  by_cases g4 : B 137 3 ≤ x4
  · rw [if_pos g4]; exact bad (by omega)
  rw [if_neg g4]
  by_cases g5 : x5 < 0
  · rw [if_pos g5]; exact bad (by omega)
  rw [if_neg g5]
  by_cases g6 : 2 < x5
  · rw [if_pos g6]; exact bad (by omega)
  rw [if_neg g6]
  by_cases g7 : x1 < 1
  · rw [if_pos g7]; exact bad (by omega)
  rw [if_neg g7]
  by_cases g8 : 12 < x1
  · rw [if_pos g8]; exact bad (by omega)
  rw [if_neg g8]
  refine ⟨by unfold zr; omega, ?_⟩
  by_cases g9 : 12 < g + x1
  · rw [if_pos g9]; exact bad (by omega)
  rw [if_neg g9]
  by_cases g10 : x2 < 0
  · rw [if_pos g10]; exact bad (by omega)
  rw [if_neg g10]
  by_cases g11 : x2 < x1
  · rw [if_pos g11]
    obtain ⟨m, rfl⟩ : ∃ m : Nat, x1 = m := ⟨x1.toNat, by omega⟩
    obtain ⟨k, rfl⟩ : ∃ k : Nat, x2 = k := ⟨x2.toNat, by omega⟩
    have good2 := good (by omega) m k rfl rfl
    have er : (m : Int) - (k : Int) - 1 = ((m - k - 1 : Nat) : Int) := by omega
    refine s_S_copyFrom hW (St_30 hW) (St_18 hW) (by omega) fun I3 hc => ?_
    have hH3 := hH.cop hin.1 hc
    have hE3 : gEnv B I3 lw S := hE.fr hl fun a b hab => hc.2.2 a b (by omega) (by omega)
    have hN3 : gSt B I3 18 H g LA := hH.fr fun a b hab => hc.2.2 a b (by omega) (by omega)
    refine s_G_doGoes hW (St_30 hW) (.inr (.inr (.inl rfl))) hl hR hL hb hE3 hH3 hv (by omega) fun I5 j1 j2 j3 => ?_
    have ok5 := gGo_ok hb k H g LA hv
    have l5 := (ok5.1.1.inb hb).1
    have hE5 : gEnv B I5 lw S := hE3.fr hl fun a b hab => j3 a b (by unfold fG; omega)
    have hN5 : gSt B I5 18 H g LA := hN3.fr fun a b hab => j3 a b (by unfold fG; omega)
    have f5 : ∀ a b, ¬ (30 ≤ a ∧ a ≤ 41) → ¬ a = 43 → ¬ a = lw + 7 → ¬ a = 44 → ¬ (a = 42 ∧ 5 ≤ b ∧ b ≤ 7) → ¬ a = 16 → ¬ a = 17 → I5 a b = I a b := fun a b h1 h2 h3 h4 h5 h6 h7 => by
      rw [j3 a b (by unfold fG; omega), hc.2.2 a b (by omega) (by omega)]
    refine s_G_blunderGo hW (St_30 hW) (.inr (.inr (.inl rfl))) hl hR hL hb hE5 j1 ok5.1 (by omega) (by omega) (fun bn I7 k1 => ?_) (fun bn I7 k1 k2 => ?_)
    · rw [if_neg (by decide)]
      have e : bAns B m k H g LA x3 x4 x5 = -2 := by
        unfold bAns gWr
        rw [if_pos bn]
      rw [← e]
      refine good2 I7 fun a b h1 h2 h3 h4 h5 h6 h7 => ?_
      rw [k1 a b (by unfold fG; omega), f5 a b h1 h2 h3 h4 h5 h6 h7]
    · rw [if_pos (by decide), er]
      refine ⟨by unfold zr; omega, by unfold zr; omega, ?_⟩
      have hE7 : gEnv B I7 lw S := hE5.fr hl fun a b hab => k2 a b (by unfold fG; omega)
      have hN7 : gSt B I7 18 H g LA := hN5.fr fun a b hab => k2 a b (by unfold fG; omega)
      refine s_G_doGoes hW (St_30 hW) (.inr (.inr (.inl rfl))) hl hR hL hb hE7 k1 (ok5.1.bl hb (by omega)) (by omega) fun I9 l1 l2 l3 => ?_
      have ok9 := gGo_ok hb (m - k - 1) _ _ _ (ok5.1.bl hb (i := x3) (hl := x4) (by omega))
      have hE9 : gEnv B I9 lw S := hE7.fr hl fun a b hab => l3 a b (by have := (ok9.1.1.inb hb).1; unfold fG; omega)
      have hN9 : gSt B I9 18 H g LA := hN7.fr fun a b hab => l3 a b (by unfold fG; omega)
      refine s_S_copyFrom hW (St_36 hW) (St_18 hW) (by omega) fun I11 hd => ?_
      have hH11 := hN9.cop hin.1 hd
      have hE11 : gEnv B I11 lw S := hE9.fr hl fun a b hab => hd.2.2 a b (by omega) (by omega)
      refine s_G_doGoes hW (St_36 hW) (.inr (.inr (.inr (.inl rfl)))) hl hR hL hb hE11 hH11 hv (by omega) fun I13 o1 o2 o3 => ?_
      have ok13 := gGo_ok hb m H g LA hv
      have lT := (ok9.1.1.inb hb).1
      have lN := (ok13.1.1.inb hb).1
      have hT : gSt B I13 30 _ _ _ := (l1.fr fun a b hab => hd.2.2 a b (by omega) (by omega)).fr fun a b hab => o3 a b (by unfold fG; omega)
      have f13 : ∀ a b, ¬ (30 ≤ a ∧ a ≤ 41) → ¬ a = 43 → ¬ a = lw + 7 → ¬ a = 44 → ¬ (a = 42 ∧ 5 ≤ b ∧ b ≤ 7) → ¬ a = 16 → ¬ a = 17 → I13 a b = I a b := fun a b h1 h2 h3 h4 h5 h6 h7 => by
        rw [o3 a b (by unfold fG; omega), hd.2.2 a b (by omega) (by omega), l3 a b (by unfold fG; omega), k2 a b (by unfold fG; omega), f5 a b h1 h2 h3 h4 h5 h6 h7]
      have g13 := good2 I13 f13
      have eW : gWr B k (m - k - 1) H g LA x3 x4 = some ((gGo B (m - k - 1) (gBlH B (gGo B k H g LA).1 (g + k) (gGo B k H g LA).2.1 x3 x4) (g + k + 1) (gBlL B (gGo B k H g LA).1 (g + k) (gGo B k H g LA).2.1 x3 x4)).1, (gGo B (m - k - 1) (gBlH B (gGo B k H g LA).1 (g + k) (gGo B k H g LA).2.1 x3 x4) (g + k + 1) (gBlL B (gGo B k H g LA).1 (g + k) (gGo B k H g LA).2.1 x3 x4)).2.1) := if_neg bn
      unfold bAns at g13
      rw [eW] at g13
      dsimp only at g13
      unfold bTell at g13
      have nl : (gGo B m H g LA).1.length = (gGo B (m - k - 1) (gBlH B (gGo B k H g LA).1 (g + k) (gGo B k H g LA).2.1 x3 x4) (g + k + 1) (gBlL B (gGo B k H g LA).1 (g + k) (gGo B k H g LA).2.1 x3 x4)).1.length := by
        rw [ok13.1.1.1, ok9.1.1.1]
        rw [show g + (k : Int) + 1 + ((m - k - 1 : Nat) : Int) = g + m by omega]
      refine s_S_place hW (St_30 hW) lT hT ?_
      generalize (gGo B (m - k - 1) (gBlH B (gGo B k H g LA).1 (g + k) (gGo B k H g LA).2.1 x3 x4) (g + k + 1) (gBlL B (gGo B k H g LA).1 (g + k) (gGo B k H g LA).2.1 x3 x4)).1 = T at hT g13 lT nl ⊢
      generalize (gGo B m H g LA).1 = N at o1 g13 lN nl ⊢
      by_cases y0 : x5 = 0
      · rw [if_pos y0] at g13 ⊢; exact g13
      rw [if_neg y0] at g13 ⊢
      by_cases y1 : x5 = 1
      · rw [if_pos y1] at g13 ⊢
        refine s_S_place hW (St_36 hW) lN o1 ?_
        have r1 : -1 ≤ pPlace (hOd T) T.length x3 ∧ pPlace (hOd T) T.length x3 ≤ 32 := by
          rcases hOd_place (H := T) (i := x3) with e | ⟨p, e, e2, _⟩ <;> omega
        have r2 : -1 ≤ pPlace (hOd N) N.length x3 ∧ pPlace (hOd N) N.length x3 ≤ 32 := by
          rcases hOd_place (H := N) (i := x3) with e | ⟨p, e, e2, _⟩ <;> omega
        exact ⟨by unfold zr; omega, by unfold zr; omega, g13⟩
      rw [if_neg y1] at g13 ⊢
      exact b_S_othersElsewhere_0 hW (St_30 hW) (St_36 hW) (l_S_oth hW hT o1 lT nl g13 T.length 0 (by omega))
  · rw [if_neg g11]; exact bad (by omega)
theorem s_M_blunder {I : ZI} {Q : Int → ZI → Prop} (hW : Wf sh R) {H : List Int} {g : Int} {LA : Nat → Int} (hb : bOk B S) (hE : mEnv B I) (hH : mSt I H g LA) (hv : stOk B H g LA) (hg : 0 ≤ g ∧ g ≤ 12)
    (bad : ¬ bGood B g x1 x2 x3 x4 x5 → Q (-1) I)
    (good : bGood B g x1 x2 x3 x4 x5 → ∀ m k : Nat, x1 = m → x2 = k → ∀ J : ZI, mBk I J → (∀ a b, ¬ (156 ≤ a ∧ a ≤ 161) → ¬ a = 177 → ¬ (a = 137 ∧ (36 ≤ b ∧ b ≤ 42 ∨ 1 ≤ b ∧ b ≤ 2 ∨ b = 64)) → ¬ a = 141 → ¬ a = 142 → J a b = I a b) → Q (bAns B m k H g LA x3 x4 x5) J) : XI (d + 8) 236 [.inr 137, .inl x1, .inl x2, .inl x3, .inl x4, .inl x5] n sh R I Q := by
  have hin := hv.1.inb hb
  have hL0 := hb.1
  have hs9 := hb.2.1
  refine b_M_blunder_0 hW ?_
  rw [hH.1.2, hE.1.1, hE.1.2.1]
  unfold bGood at bad good
  by_cases g7 : x1 < 1
  · rw [if_pos g7]; exact bad (by omega)
  rw [if_neg g7]
  by_cases g8 : 12 < x1
  · rw [if_pos g8]; exact bad (by omega)
  rw [if_neg g8]
  refine ⟨by unfold zr; omega, ?_⟩
  by_cases g9 : 12 < g + x1
  · rw [if_pos g9]; exact bad (by omega)
  rw [if_neg g9]
  refine ⟨by unfold zr; omega, ?_⟩
  by_cases g10 : x2 < 0
  · rw [if_pos g10]; exact bad (by omega)
  rw [if_neg g10]
  by_cases g11 : x1 - 1 < x2
  · rw [if_pos g11]; exact bad (by omega)
  rw [if_neg g11]
  by_cases g1 : x3 < 0
  · rw [if_pos g1]; exact bad (by omega)
  rw [if_neg g1]
  by_cases g2 : B 137 0 ≤ x3
  · rw [if_pos g2]; exact bad (by omega)
  rw [if_neg g2]
  refine ⟨by unfold zr; omega, ?_⟩
  by_cases g3 : x4 < 0
  · rw [if_pos g3]; exact bad (by omega)
  rw [if_neg g3]
  by_cases g4 : B 137 3 - 1 < x4
  · rw [if_pos g4]; exact bad (by omega)
  rw [if_neg g4]
  by_cases g5 : x5 < 0
  · rw [if_pos g5]; exact bad (by omega)
  rw [if_neg g5]
  by_cases g6 : 2 < x5
  · rw [if_pos g6]; exact bad (by omega)
  rw [if_neg g6]
  obtain ⟨m, rfl⟩ : ∃ m : Nat, x1 = m := ⟨x1.toNat, by omega⟩
  obtain ⟨k, rfl⟩ : ∃ k : Nat, x2 = k := ⟨x2.toNat, by omega⟩
  have good2 := good (by omega) m k rfl rfl
  refine s_M_begins hW fun I3 a1 a2 => ?_
  have hE3 : mEnv B I3 := hE.fr fun a b hab => a2 a b (by omega) (by omega) (by omega)
  have hH3 : mSt I3 H g LA := hH.fr fun a b hab => a2 a b (by omega) (by omega) (by omega)
  refine s_M_laysAsItIs hW hb hE3 hH3 hv (by omega) a1 fun I5 b1 b2 b3 b4 => ?_
  have hE5 : mEnv B I5 := hE3.fr fun a b hab => b4 a b (by unfold fM; omega) (by omega) (by omega) (by omega)
  have hH5 : mSt I5 H g LA := hH.bk hin.1 b1
  have aA : mAsd I I5 := a1.fr fun a b hab => b4 a b (by unfold fM; omega) (by omega) (by omega) (by omega)
  have ok13 := gGo_ok hb m H g LA hv
  have lN := (ok13.1.1.inb hb).1
  -- put back, and the answer
  have ag : ∀ (M : ZI) (v : Int), (∀ a b, ¬ fM 32 a b → M a b = I5 a b) → v = bAns B m k H g LA x3 x4 x5 → XV (d + 7) 191 [.inr 137] n sh R M (fun I8 => Q v I8) := fun M v hM e => by
    refine s_M_again hW (aA.fr fun a b hab => hM a b (by unfold fM; omega)) fun K k1 k2 => ?_
    rw [e]
    exact good2 K k1 fun a b h1 h2 h3 h4 h5 => by
      rw [k2 a b (by omega) h4 h5, hM a b (by unfold fM; omega), b4 a b (by unfold fM; omega) h2 (by omega) h5, a2 a b (by omega) (by omega) (by omega)]
  refine b_M_goesWrong_0 hW (l_M_wr1 (r := m - k - 1) hW hb (by omega) (by omega) (by omega) k 0 I5 H g LA 1000000 _ (by omega) hE5 hH5 hv (by omega) (by omega) (by omega) (fun J n1 _ n2 => ?_) fun J T L2 n1 n2 _ n3 => ?_)
  · rw [if_pos rfl]
    refine ag J _ n2 ?_
    unfold bAns
    rw [n1]
  · rw [if_neg (by decide)]
    have okT : stOk B T (g + (k + 1 + (m - k - 1 : Nat))) L2 := gWr_ok hb hv (by omega) n1
    have lT := (okT.1.inb hb).1
    have nl : (gGo B m H g LA).1.length = T.length := by
      rw [ok13.1.1.1, okT.1.1]
      rw [show g + ((k : Int) + 1 + ((m - k - 1 : Nat) : Int)) = g + m by omega]
    have aJ : mAs J (gGo B m H g LA).1 := ⟨by rw [n3 _ _ (by unfold fM; omega)]; exact b2.1, fun p hp => by rw [n3 _ _ (by unfold fM; omega)]; exact b2.2 p hp⟩
    have e : bAns B m k H g LA x3 x4 x5 = bTell (gGo B m H g LA).1 T x3 x5 := by
      unfold bAns
      rw [n1]
    rw [e] at ag
    have nd := ok13.1.1.2.2
    generalize (gGo B m H g LA).1 = N at aJ ag lN nl nd
    unfold bTell at ag
    refine s_M_place hW lT n2 (s_M_placeIn hW aJ lN ?_)
    by_cases y0 : x5 = 0
    · rw [if_pos y0] at ag; rw [if_neg (not_not_intro y0)]; exact ag J _ n3 rfl
    rw [if_neg y0] at ag; rw [if_pos y0]
    by_cases y1 : x5 = 1
    · rw [if_pos y1] at ag; rw [if_neg (not_not_intro y1)]
      have r1 : -1 ≤ pPlace (hOd T) T.length x3 ∧ pPlace (hOd T) T.length x3 ≤ 32 := by
        rcases hOd_place (H := T) (i := x3) with e | ⟨p, e, e2, _⟩ <;> omega
      have r2 : -1 ≤ pPlace (hOd N) N.length x3 ∧ pPlace (hOd N) N.length x3 ≤ 32 := by
        rcases hOd_place (H := N) (i := x3) with e | ⟨p, e, e2, _⟩ <;> omega
      refine ⟨by unfold zr; omega, by unfold zr; omega, ?_⟩
      by_cases y2 : pPlace (hOd T) T.length x3 - pPlace (hOd N) N.length x3 ≤ pPlace (hOd N) N.length x3 - pPlace (hOd T) T.length x3
      · rw [if_pos y2]
        refine ag J _ n3 ?_
        unfold zabs
        split <;> omega
      · rw [if_neg y2]
        refine ag J _ n3 ?_
        unfold zabs
        split <;> omega
    rw [if_neg y1] at ag; rw [if_pos y1]
    refine b_M_othersElsewhere_0 hW (l_M_oth hW n2 aJ lT lN ?_ T.length 0 (by omega))
    exact ag J _ n3 (othM_eq nd x3 _ (by omega))
theorem c_blunder {I : ZI} (hW : Wf sh R) (h : Rel t I R) : XI (d + 6) 118 [.inr 1, .inl x1, .inl x2, .inl x3, .inl x4, .inl x5] n sh R I (fun v J => XI (d + 8) 236 [.inr 137, .inl x1, .inl x2, .inl x3, .inl x4, .inl x5] n sh R J (fun v2 K => v2 = v ∧ Rel (t + 1) K R)) := by
  obtain ⟨lw, S, H, hl, hR, hL, hb, hE, mE, hH, mH, hv, hg⟩ := h.base hW
  refine s_N_blunder hW hl hR hL hb hE hH hv hg (fun hbad => ?_) fun gx m k hm hk J hJ => ?_
  · exact s_M_blunder hW hb mE mH hv hg (fun _ => ⟨rfl, h.fr (by omega) fun _ _ _ => rfl⟩) fun gx => absurd gx hbad
  · have f1 : ∀ a b, 137 ≤ a → J a b = I a b := fun a b hab => hJ a b (by omega) (by omega) (by omega) (by omega) (by omega) (by omega) (by omega)
    have mE2 : mEnv I J := mE.fr fun a b hab => f1 a b (by omega)
    have mH2 : mSt J H (I 18 7) (I 22) := mH.fr fun a b hab => f1 a b (by omega)
    refine s_M_blunder hW hb mE2 mH2 hv hg (fun hbad => absurd gx hbad) fun _ m' k' hm' hk' K k1 k2 => ?_
    obtain rfl : m' = m := by omega
    obtain rfl : k' = k := by omega
    refine ⟨rfl, h.same hW (fun a b hab h1 h2 h3 => ?_) ⟨?_, ?_, fun j hj => ?_⟩⟩
    · unfold fAll fNow fKept fEnv fTape fBlame fLaw at hab
      rw [k2 a b (by omega) (by omega) (by omega) h2 h3, hJ a b (by omega) (by omega) (by omega) (by omega) (by omega) (by omega) (by omega)]
    · rw [k1.1]; exact f1 _ _ (by omega)
    · rw [k1.2.1]; exact f1 _ _ (by omega)
    · rw [(k1.2.2 j hj).1, (k1.2.2 j hj).2, f1 _ _ (by omega), f1 _ _ (by omega)]; exact ⟨rfl, rfl⟩
end BU
