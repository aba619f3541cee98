-- GOES, many; from what holds between two calls and back
def lsf (f : Nat → Int) : Nat → List Int
  | 0 => []
  | m + 1 => lsf f m ++ [f m]
theorem lsf_len {f : Nat → Int} : ∀ m, (lsf f m).length = m
  | 0 => rfl
  | m + 1 => by unfold lsf; rw [List.length_append, lsf_len m]; rfl
theorem lsf_gd {f : Nat → Int} : ∀ (m k : Nat), k < m → (lsf f m).getD k 0 = f k
  | 0, k, h => absurd h (Nat.not_lt_zero k)
  | m + 1, k, h => by
    unfold lsf
    by_cases g : k < m
    · rw [gd_l (by rw [lsf_len]; exact g)]; exact lsf_gd m k g
    · have e : k = m := by omega
      subst e
      have := gd_last (l := lsf f k) (x := f k)
      rw [lsf_len] at this; exact this
theorem lsf_mem {f : Nat → Int} {x : Int} : ∀ m : Nat, x ∈ lsf f m → ∃ k, k < m ∧ f k = x
  | 0, h => by cases h
  | m + 1, h => by
    unfold lsf at h
    rcases List.mem_append.mp h with h | h
    · obtain ⟨k, h1, h2⟩ := lsf_mem m h
      exact ⟨k, by omega, h2⟩
    · exact ⟨m, by omega, (List.mem_singleton.mp h).symm⟩
theorem lsf_nodup {f : Nat → Int} : ∀ m : Nat, (∀ j k : Nat, j < k → k < m → ¬ f j = f k) → (lsf f m).Nodup
  | 0, _ => List.nodup_nil
  | m + 1, h => by
    unfold lsf
    refine List.nodup_append.mpr ⟨lsf_nodup m fun j k h1 h2 => h j k h1 (by omega), List.pairwise_singleton _ _, fun a ha b hb e => ?_⟩
    obtain ⟨k, h1, h2⟩ := lsf_mem m ha
    have h3 := List.mem_singleton.mp hb
    exact h k m h1 (by omega) (by rw [h2, e, h3])
theorem gd_inj {H : List Int} (h : H.Nodup) {j k : Nat} (hj : j < k) (hk : k < H.length) : ¬ H.getD j 0 = H.getD k 0 := fun e => by
  have := List.pairwise_iff_getElem.mp h j k (by omega) hk hj
  rw [List.getD_eq_getElem?_getD, List.getD_eq_getElem?_getD, List.getElem?_eq_getElem hk, List.getElem?_eq_getElem (show j < H.length by omega)] at e
  exact this e
def stOk (B : ZI) (H : List Int) (g : Int) (LA : Nat → Int) : Prop := hInv B H g ∧ ∀ k : Nat, (k : Int) < B 137 0 → 0 ≤ LA k ∧ LA k ≤ 9
def gI1 (B : ZI) (H : List Int) (g : Int) (LA : Nat → Int) : Nat → Int := gInto B (gCome B H g) g LA
def gH1 (B : ZI) (H : List Int) (g : Int) (LA : Nat → Int) : List Int := gNext B (gCome B H g) (gI1 B H g LA)
def gL1 (B : ZI) (H : List Int) (g : Int) (LA : Nat → Int) : Nat → Int := pThr (hOd (gCome B H g)) (gI1 B H g LA) LA (gCome B H g).length
def gT1 (B : ZI) (H : List Int) (g : Int) (LA : Nat → Int) : Int × Int × Int := gTal B (gCome B H g) g LA (gCome B H g).length
theorem iOk_into {B : ZI} {S : Nat} (hb : bOk B S) {H : List Int} {g : Int} {LA : Nat → Int} : iOk B H (gInto B H g LA) := fun _ _ => gHole_range hb.2.1.1
/-- the state behind any throws of those that have come -/
theorem stOk.thr {B : ZI} {S : Nat} (hb : bOk B S) {H : List Int} {g : Int} {LA into : Nat → Int} (h : stOk B H g LA) (hi : iOk B (gCome B H g) into) : stOk B (gNext B (gCome B H g) into) (g + 1) (pThr (hOd (gCome B H g)) into LA (gCome B H g).length) :=
  ⟨h.1.come.perm (gNext_perm hi), pThr_range hb.2.1.2.1 _ hi h.2⟩
theorem stOk.go {B : ZI} {S : Nat} (hb : bOk B S) {H : List Int} {g : Int} {LA : Nat → Int} (h : stOk B H g LA) : stOk B (gH1 B H g LA) (g + 1) (gL1 B H g LA) := h.thr hb (iOk_into hb)
def gGo (B : ZI) : Nat → List Int → Int → (Nat → Int) → List Int × (Nat → Int) × (Int × Int × Int)
  | 0, H, _, LA => (H, LA, (0, 0, 0))
  | c + 1, H, g, LA => ((gGo B c (gH1 B H g LA) (g + 1) (gL1 B H g LA)).1, (gGo B c (gH1 B H g LA) (g + 1) (gL1 B H g LA)).2.1, ((gT1 B H g LA).1 + (gGo B c (gH1 B H g LA) (g + 1) (gL1 B H g LA)).2.2.1, (gT1 B H g LA).2.1 + (gGo B c (gH1 B H g LA) (g + 1) (gL1 B H g LA)).2.2.2.1, (gT1 B H g LA).2.2 + (gGo B c (gH1 B H g LA) (g + 1) (gL1 B H g LA)).2.2.2.2))
theorem gCome_len {B : ZI} {H : List Int} {g : Int} : H.length ≤ (gCome B H g).length := by unfold gCome; rw [List.length_append]; omega
theorem gGo_ok {B : ZI} {S : Nat} (hb : bOk B S) : ∀ (c : Nat) (H : List Int) (g : Int) (LA : Nat → Int), stOk B H g LA → stOk B (gGo B c H g LA).1 (g + c) (gGo B c H g LA).2.1 ∧ H.length ≤ (gGo B c H g LA).1.length
  | 0, H, g, LA, h => by rw [show g + ((0 : Nat) : Int) = g by omega]; exact ⟨h, Nat.le_refl _⟩
  | c + 1, H, g, LA, h => by
    have ih := gGo_ok hb c (gH1 B H g LA) (g + 1) (gL1 B H g LA) (h.go hb)
    rw [show g + ((c + 1 : Nat) : Int) = g + 1 + c by omega]
    refine ⟨ih.1, Nat.le_trans ?_ ih.2⟩
    unfold gH1 gI1
    rw [gNext_len (iOk_into hb)]; exact gCome_len
/-- the class's cells that goes change -/
def fG (o lw N a b : Nat) : Prop := a = 43 ∨ a = lw + 7 ∨ a = 44 ∨ (a = 42 ∧ 5 ≤ b ∧ b ≤ 7) ∨ a = 16 ∨ a = 17 ∨ (a = o ∧ 6 ≤ b ∧ b ≤ 7) ∨ a = o + 4 ∨ (a = o + 5 ∧ b < N)
/-- the model's -/
def fM (N a b : Nat) : Prop := a = 156 ∨ a = 157 ∨ a = 158 ∨ a = 159 ∨ (a = 137 ∧ (36 ≤ b ∧ b ≤ 38 ∨ b = 1 ∨ b = 2)) ∨ a = 141 ∨ (a = 142 ∧ b < N)
section GG
variable {d n t : Nat} {sh : ZS} {R : ZR} {B : ZI} {x1 x2 x3 x4 x5 : Int} {lw S o : Nat}
theorem l_G_doGoes {Q : ZI → Prop} (hW : Wf sh R) (hS : St sh R o) (ho : sPl o) (hl : lw = 5 ∨ lw = 45) (hR : R 42 4 = lw) (hL : Lw sh R lw) (hb : bOk B S) {m : Nat} : ∀ (c k : Nat) (I : ZI) (H : List Int) (g : Int) (LA : Nat → Int), k + c = m → m ≤ 12 → gEnv B I lw S → gSt B I o H g LA → stOk B H g LA → 0 ≤ g ∧ g + c ≤ 12 → (0 ≤ I 42 5 ∧ I 42 5 ≤ 3168 * k ∧ 0 ≤ I 42 6 ∧ I 42 6 ≤ 3168 * k ∧ 0 ≤ I 42 7 ∧ I 42 7 ≤ 3168 * k) → (∀ J : ZI, gSt B J o (gGo B c H g LA).1 (g + c) (gGo B c H g LA).2.1 → (J 42 5 = I 42 5 + (gGo B c H g LA).2.2.1 ∧ J 42 6 = I 42 6 + (gGo B c H g LA).2.2.2.1 ∧ J 42 7 = I 42 7 + (gGo B c H g LA).2.2.2.2) → (∀ a b, ¬ fG o lw (gGo B c H g LA).1.length a b → J a b = I a b) → Q J) → XVs (d + 5) 55 17 [some (.inr 42), some (.inr o), some (.inl (m : Int)), some (.inl (k : Int))] [] n sh R I Q
  | 0, k, I, H, g, LA, h, hm, hE, hH, hv, hg, h3, q => b_G_doGoes_17 hW hS (by
      rw [if_pos (by omega)]
      refine q I ?_ ⟨(Int.add_zero _).symm, (Int.add_zero _).symm, (Int.add_zero _).symm⟩ fun _ _ _ => rfl
      rw [show g + ((0 : Nat) : Int) = g by omega]; exact hH)
  | c + 1, k, I, H, g, LA, h, hm, hE, hH, hv, hg, h3, q => b_G_doGoes_17 hW hS (by
    have ho' := ho
    unfold sPl at ho'
    rw [if_neg (by omega)]
    refine s_S_comeIn hW hS hb hv.1 (by omega) hH fun I1 i1 i2 => ?_
    have hin := hv.1.come.inb hb
    have hE1 : gEnv B I1 lw S := hE.fr hl fun a b hab => i2 a b (by omega) (by omega)
    refine s_G_askAll hW hS ho hl hR hL hb hin hE1 i1 fun I2 j1 j2 => ?_
    have hE2 : gEnv B I2 lw S := hE1.fr hl fun a b hab => j2 a b (by omega) (by omega) (by omega)
    have hH2 : gSt B I2 o (gCome B H g) g LA := i1.fr fun a b hab => j2 a b (by omega) (by omega) (by omega)
    have e42 : ∀ b, 5 ≤ b ∧ b ≤ 7 → I2 42 b = I 42 b := fun b hb => by rw [j2 _ _ (by omega) (by omega) (by omega), i2 _ _ (by omega) (by omega)]
    refine s_G_tally hW hS ho hl hR hL hb hin (by rw [e42 5 (by omega), e42 6 (by omega), e42 7 (by omega)]; omega) hE2 hH2 j1 fun I3 k1 k2 => ?_
    have hH3 : gSt B I3 o (gCome B H g) g LA := hH2.fr fun a b hab => k2 a b (by omega) (by omega) (by omega)
    have hE3 : gEnv B I3 lw S := hE2.fr hl fun a b hab => k2 a b (by omega) (by omega) (by omega)
    have rg := gTal_range (g := g) (LA := LA) hb hin (p := (gCome B H g).length) (Nat.le_refl _)
    refine s_G_throwAll hW hS ho hb hin (iOk_into hb) hE3.1 (by omega) hH3 (fun k hk => by rw [k2 _ _ (by omega) (by omega) (by omega)]; exact j1 k hk) fun I4 l1 l2 => ?_
    have hE4 : gEnv B I4 lw S := hE3.fr hl fun a b hab => l2 a b (by omega) (by omega) (by omega) (by omega) (by omega)
    have f42 : ∀ b, 5 ≤ b ∧ b ≤ 7 → I4 42 b = I3 42 b := fun b hb => l2 _ _ (by omega) (by omega) (by omega) (by omega) (by omega)
    rw [e42 5 (by omega), e42 6 (by omega), e42 7 (by omega)] at k1
    have m5 := f42 5 (by omega)
    have m6 := f42 6 (by omega)
    have m7 := f42 7 (by omega)
    have ok := gGo_ok hb c (gH1 B H g LA) (g + 1) (gL1 B H g LA) (hv.go hb)
    have nl : (gH1 B H g LA).length = (gCome B H g).length := gNext_len (iOk_into hb)
    refine ⟨by unfold zr; omega, l_G_doGoes hW hS ho hl hR hL hb c (k + 1) I4 (gH1 B H g LA) (g + 1) (gL1 B H g LA) (by omega) hm hE4 l1 (hv.go hb) (by omega) (by omega) fun J n1 n2 n3 => q J ?_ ?_ fun a b hab => ?_⟩
    · rw [show g + ((c + 1 : Nat) : Int) = g + 1 + c by omega]; exact n1
    · show _ = I 42 5 + ((gT1 B H g LA).1 + _) ∧ _ = I 42 6 + ((gT1 B H g LA).2.1 + _) ∧ _ = I 42 7 + ((gT1 B H g LA).2.2 + _)
      unfold gT1
      omega
    · have hab1 : ¬ fG o lw (gGo B c (gH1 B H g LA) (g + 1) (gL1 B H g LA)).1.length a b := hab
      rw [n3 a b hab1]
      unfold fG at hab1
      rw [l2 a b (by omega) (by omega) (by omega) (by omega) (by omega), k2 a b (by omega) (by omega) (by omega), j2 a b (by omega) (by omega) (by omega), i2 a b (by omega) (by omega)])
theorem s_G_doGoes {Q : ZI → Prop} (hW : Wf sh R) (hS : St sh R o) (ho : sPl o) (hl : lw = 5 ∨ lw = 45) (hR : R 42 4 = lw) (hL : Lw sh R lw) (hb : bOk B S) {c : Nat} {I : ZI} {H : List Int} {g : Int} {LA : Nat → Int} (hE : gEnv B I lw S) (hH : gSt B I o H g LA) (hv : stOk B H g LA) (hg : 0 ≤ g ∧ g + c ≤ 12) (q : ∀ J : ZI, gSt B J o (gGo B c H g LA).1 (g + c) (gGo B c H g LA).2.1 → (J 42 5 = (gGo B c H g LA).2.2.1 ∧ J 42 6 = (gGo B c H g LA).2.2.2.1 ∧ J 42 7 = (gGo B c H g LA).2.2.2.2) → (∀ a b, ¬ fG o lw (gGo B c H g LA).1.length a b → J a b = I a b) → Q J) : XV (d + 5) 55 [.inr 42, .inr o, .inl (c : Int)] n sh R I Q := by
  have ho' := ho
  unfold sPl at ho'
  have z5 : (zup (zup (zup I 42 5 0) 42 6 0) 42 7 0) 42 5 = 0 := by rw [zup_ne (by omega), zup_ne (by omega), zup_eq (by omega)]
  have z6 : (zup (zup (zup I 42 5 0) 42 6 0) 42 7 0) 42 6 = 0 := by rw [zup_ne (by omega), zup_eq (by omega)]
  have z7 : (zup (zup (zup I 42 5 0) 42 6 0) 42 7 0) 42 7 = 0 := by rw [zup_eq (by omega)]
  have ff : ∀ a b, ¬ (a = 42 ∧ 5 ≤ b ∧ b ≤ 7) → (zup (zup (zup I 42 5 0) 42 6 0) 42 7 0) a b = I a b := fun a b h => by rw [zup_ne (by omega), zup_ne (by omega), zup_ne (by omega)]
  refine b_G_doGoes_0 hW hS (l_G_doGoes hW hS ho hl hR hL hb c 0 _ H g LA (by omega) (by omega) (hE.fr hl fun a b hab => ff a b (by omega)) (hH.fr fun a b hab => ff a b (by omega)) hv hg (by rw [z5, z6, z7]; omega) fun J j1 j2 j3 => q J j1 ?_ fun a b hab => ?_)
  · rw [z5, z6, z7] at j2; omega
  · rw [j3 a b hab]
    unfold fG at hab
    exact ff a b (by omega)
theorem l_M_goesBy {Q : ZI → Prop} (hW : Wf sh R) (hb : bOk B S) {m : Nat} : ∀ (c k : Nat) (I : ZI) (H : List Int) (g : Int) (LA : Nat → Int), k + c = m → m ≤ 12 → mEnv B I → mSt I H g LA → stOk B H g LA → 0 ≤ g ∧ g + c ≤ 12 → (0 ≤ I 137 36 ∧ I 137 36 ≤ 3168 * k ∧ 0 ≤ I 137 37 ∧ I 137 37 ≤ 3168 * k ∧ 0 ≤ I 137 38 ∧ I 137 38 ≤ 3168 * k) → (∀ J : ZI, mSt J (gGo B c H g LA).1 (g + c) (gGo B c H g LA).2.1 → (J 137 36 = I 137 36 + (gGo B c H g LA).2.2.1 ∧ J 137 37 = I 137 37 + (gGo B c H g LA).2.2.2.1 ∧ J 137 38 = I 137 38 + (gGo B c H g LA).2.2.2.2) → (∀ a b, ¬ fM (gGo B c H g LA).1.length a b → J a b = I a b) → Q J) → XVs (d + 6) 187 17 [some (.inr 137), some (.inl (m : Int)), some (.inl (k : Int))] [] n sh R I Q
  | 0, k, I, H, g, LA, h, hm, hE, hH, hv, hg, h3, q => b_M_goesBy_17 hW (by
      rw [if_pos (by omega)]
      refine q I ?_ ⟨(Int.add_zero _).symm, (Int.add_zero _).symm, (Int.add_zero _).symm⟩ fun _ _ _ => rfl
      rw [show g + ((0 : Nat) : Int) = g by omega]; exact hH)
  | c + 1, k, I, H, g, LA, h, hm, hE, hH, hv, hg, h3, q => b_M_goesBy_17 hW (by
    rw [if_neg (by omega)]
    refine b_M_goesOnce_0 hW (s_M_comeAhead hW hb hv.1 (by omega) hE hH fun I1 i1 i2 => ?_)
    have hin := hv.1.come.inb hb
    have hE1 : mEnv B I1 := hE.fr fun a b hab => i2 a b (by omega) (by omega)
    have e42 : ∀ b, 36 ≤ b ∧ b ≤ 38 → I1 137 b = I 137 b := fun b hb => i2 _ _ (by omega) (by omega)
    refine s_M_asksAll hW hb hin (by rw [e42 36 (by omega), e42 37 (by omega), e42 38 (by omega)]; omega) hE1 i1 fun I2 j0 j1 j2 => ?_
    have hE2 : mEnv B I2 := hE1.fr fun a b hab => j2 a b (by omega) (by omega) (by omega) (by omega)
    have hH2 : mSt I2 (gCome B H g) g LA := i1.fr fun a b hab => j2 a b (by omega) (by omega) (by omega) (by omega)
    have rg := gTal_range (g := g) (LA := LA) hb hin (p := (gCome B H g).length) (Nat.le_refl _)
    refine s_M_throwsAll hW hb hin (iOk_into hb) ⟨hE2.1.2.1, hE2.1.2.2⟩ (by omega) hH2 j0 fun I4 l1 l2 => ?_
    have hE4 : mEnv B I4 := hE2.fr fun a b hab => l2 a b (by omega) (by omega) (by omega) (by omega)
    have f42 : ∀ b, 36 ≤ b ∧ b ≤ 38 → I4 137 b = I2 137 b := fun b hb => l2 _ _ (by omega) (by omega) (by omega) (by omega)
    rw [e42 36 (by omega), e42 37 (by omega), e42 38 (by omega)] at j1
    have m5 := f42 36 (by omega)
    have m6 := f42 37 (by omega)
    have m7 := f42 38 (by omega)
    have ok := gGo_ok hb c (gH1 B H g LA) (g + 1) (gL1 B H g LA) (hv.go hb)
    have nl : (gH1 B H g LA).length = (gCome B H g).length := gNext_len (iOk_into hb)
    refine ⟨by unfold zr; omega, l_M_goesBy hW hb c (k + 1) I4 (gH1 B H g LA) (g + 1) (gL1 B H g LA) (by omega) hm hE4 l1 (hv.go hb) (by omega) (by omega) fun J n1 n2 n3 => q J ?_ ?_ fun a b hab => ?_⟩
    · rw [show g + ((c + 1 : Nat) : Int) = g + 1 + c by omega]; exact n1
    · show _ = I 137 36 + ((gT1 B H g LA).1 + _) ∧ _ = I 137 37 + ((gT1 B H g LA).2.1 + _) ∧ _ = I 137 38 + ((gT1 B H g LA).2.2 + _)
      unfold gT1
      omega
    · have hab1 : ¬ fM (gGo B c (gH1 B H g LA) (g + 1) (gL1 B H g LA)).1.length a b := hab
      rw [n3 a b hab1]
      unfold fM at hab1
      rw [l2 a b (by omega) (by omega) (by omega) (by omega), j2 a b (by omega) (by omega) (by omega) (by omega), i2 a b (by omega) (by omega)])
theorem s_M_goesBy {Q : ZI → Prop} (hW : Wf sh R) (hb : bOk B S) {c : Nat} {I : ZI} {H : List Int} {g : Int} {LA : Nat → Int} (hE : mEnv B I) (hH : mSt I H g LA) (hv : stOk B H g LA) (hg : 0 ≤ g ∧ g + c ≤ 12) (q : ∀ J : ZI, mSt J (gGo B c H g LA).1 (g + c) (gGo B c H g LA).2.1 → (J 137 36 = (gGo B c H g LA).2.2.1 ∧ J 137 37 = (gGo B c H g LA).2.2.2.1 ∧ J 137 38 = (gGo B c H g LA).2.2.2.2) → (∀ a b, ¬ fM (gGo B c H g LA).1.length a b → J a b = I a b) → Q J) : XV (d + 6) 187 [.inr 137, .inl (c : Int)] n sh R I Q := by
  have z5 : (zup (zup (zup I 137 36 0) 137 37 0) 137 38 0) 137 36 = 0 := by rw [zup_ne (by omega), zup_ne (by omega), zup_eq (by omega)]
  have z6 : (zup (zup (zup I 137 36 0) 137 37 0) 137 38 0) 137 37 = 0 := by rw [zup_ne (by omega), zup_eq (by omega)]
  have z7 : (zup (zup (zup I 137 36 0) 137 37 0) 137 38 0) 137 38 = 0 := by rw [zup_eq (by omega)]
  have ff : ∀ a b, ¬ (a = 137 ∧ 36 ≤ b ∧ b ≤ 38) → (zup (zup (zup I 137 36 0) 137 37 0) 137 38 0) a b = I a b := fun a b h => by rw [zup_ne (by omega), zup_ne (by omega), zup_ne (by omega)]
  refine b_M_goesBy_0 hW (l_M_goesBy hW hb c 0 _ H g LA (by omega) (by omega) (hE.fr fun a b hab => ff a b (by omega)) (hH.fr fun a b hab => ff a b (by omega)) hv hg (by rw [z5, z6, z7]; omega) fun J j1 j2 j3 => q J j1 ?_ fun a b hab => ?_)
  · rw [z5, z6, z7] at j2; omega
  · rw [j3 a b hab]
    unfold fM at hab
    exact ff a b (by omega)
-- between two calls
theorem Rel.base {I : ZI} (hW : Wf sh R) (h : Rel t I R) : ∃ lw S H, (lw = 5 ∨ lw = 45) ∧ R 42 4 = lw ∧ Lw sh R lw ∧ bOk I S ∧ gEnv I I lw S ∧ mEnv I I ∧ gSt I I 18 H (I 18 7) (I 22) ∧ mSt I H (I 18 7) (I 22) ∧ stOk I H (I 18 7) (I 22) ∧ (0 ≤ I 18 7 ∧ I 18 7 ≤ 12) := by
  obtain ⟨⟨o1, o2, o3, o4, o5, o6, o7⟩, od, lt, di⟩ := h.1.od
  obtain ⟨⟨n1, n2, n3, n4, n5⟩, b1, b2, b3, b4, b5, b6⟩ := h.1
  obtain ⟨lw, md, hl, l1, l2, ⟨c1, c2, c3⟩⟩ := h.2.2.2.2.2.1
  obtain ⟨v1, v2, v3⟩ := h.2.2.1
  have hL : Lw sh R lw := by
    rcases hl with ⟨a, _⟩ | ⟨a, _⟩ <;> rw [a]
    · exact Lw_5 hW
    · exact Lw_45 hW
  refine ⟨lw, (I lw 8).toNat, lsf (I 23) (I 18 6).toNat, by omega, l1, hL, ⟨by omega, ⟨by omega, by omega, by omega, ?_⟩, fun k hk => ?_, fun k hk => ?_, ?_⟩, ⟨⟨v1.1, v2.1⟩, fun k hk => (v3 k hk).1, c1.1, fun c hc => (c3 c (by omega)).1, fun k hk => ?_⟩, ⟨⟨rfl, rfl, rfl⟩, ⟨rfl, rfl, rfl, rfl⟩, rfl, rfl, rfl, rfl, rfl, rfl⟩, ⟨⟨o4.symm, by rw [lsf_len]; omega, rfl⟩, fun p hp => ?_, fun k hk => ⟨(n5 k hk).1, (n5 k hk).2.1, (n5 k hk).2.2.1, rfl⟩⟩, ⟨⟨by rw [lsf_len]; omega, o6⟩, fun p hp => ?_, fun k hk => ((n5 k hk).2.2.2.1).symm⟩, ⟨⟨?_, fun x hx => ?_, ?_⟩, fun k hk => ?_⟩, by omega⟩
  · rw [← v2.1, ← v1.1]; exact v2.2.2
  · have := lt k (by omega); omega
  · have := v3 k hk; omega
  · refine ⟨⟨by omega, by omega, by omega⟩, fun k hk => ?_, fun c hc => ?_⟩
    · have := c2 k (by omega); exact ⟨this.1, this.2.1⟩
    · have := c3 c (by omega)
      refine ⟨by omega, this.2.2.2.1, this.2.2.2.2⟩
  · have := c2 k (by omega)
    exact ⟨this.2.2.1, this.2.2.2.1⟩
  · rw [lsf_len] at hp
    rw [lsf_gd _ _ hp]
  · rw [lsf_len] at hp
    rw [lsf_gd _ _ hp]; exact (od p (by omega)).2
  · rw [lsf_len]
    have e : (I 137 0).toNat = (I 18 5).toNat := by omega
    rw [e]
    have : pCount (fun k => decide (I 140 k ≤ I 18 7)) (I 18 5).toNat = pCount (fun k => decide (I 21 k ≤ I 18 7)) (I 18 5).toNat := pCount_congr _ fun k hk => by rw [(lt k (by omega)).1.2.2.1]
    rw [this]; omega
  · obtain ⟨k, h1, h2⟩ := lsf_mem _ hx
    have r1 := (od k (by omega)).1
    have r2 := b6 k (by omega)
    rw [h2] at r1 r2
    rw [(lt x.toNat (by omega)).1.2.2.1]
    omega
  · exact lsf_nodup _ fun j k h1 h2 => di j k h1 (by omega)
  · have := lt k (by omega); omega
theorem rNow.mk {J : ZI} {H : List Int} {g : Int} {LA : Nat → Int} (hb : bOk B S) (hE : mEnv B J) (hC : gSt B J 18 H g LA) (hM : mSt J H g LA) (hv : stOk B H g LA) (hg : 0 ≤ g ∧ g ≤ 12) (ht : ∀ k, H.length ≤ k → k < 32 → J 23 k = J 142 k) (hx : J 18 8 = J 137 5 ∧ 0 ≤ J 18 8 ∧ J 18 8 ≤ 65535) : rNow J := by
  obtain ⟨⟨c1, c2, c3⟩, c4, c5⟩ := hC
  obtain ⟨⟨m1, m2⟩, m3, m4⟩ := hM
  obtain ⟨⟨e1, e2, e3⟩, ⟨e4, e5, e6, e7⟩, e8⟩ := hE
  have hin := hv.1.inb hb
  have hb0 := hb.1
  refine ⟨⟨by omega, by omega, by omega, hx.1, fun k hk => ?_⟩, ⟨by omega, by omega, by omega, by omega, hx.2⟩, ?_, fun k hk => ?_, fun k hk => ?_, fun j k hj hk => ?_, fun k hk => ?_⟩
  · obtain ⟨a1, a2, a3, a4⟩ := c5 k hk
    refine ⟨?_, ?_, ?_, ?_, ?_⟩
    · rw [e4]; exact a1
    · show _ = J 139 k; rw [e5]; exact a2
    · show _ = J 140 k; rw [e6]; exact a3
    · show _ = J 141 k; rw [m4 k hk]; exact a4
    · show J 23 k = J 142 k
      by_cases q : k < H.length
      · rw [m3 k q]; exact c4 k q
      · exact ht k (by omega) hk
  · have e : (J 18 5).toNat = (B 137 0).toNat := by omega
    rw [e, c3]
    have : pCount (fun k => decide (J 21 k ≤ g)) (B 137 0).toNat = pCount (fun k => decide (B 140 k ≤ g)) (B 137 0).toNat := pCount_congr _ fun k hk => by
      have := (c5 k (by omega)).2.2.1
      rw [show J 21 k = B 140 k from this]
    rw [this, ← hv.1.1]; exact c2
  · obtain ⟨a1, a2, a3, a4⟩ := c5 k (by omega)
    have st := hb.2.2.1 k (by omega)
    have la := hv.2 k (by omega)
    rw [show J 19 k = B 138 k from a1, show J 20 k = B 139 k from a2, show J 21 k = B 140 k from a3, show J 22 k = LA k from a4]
    omega
  · rw [show J 23 k = H.getD k 0 from c4 k (by omega)]
    have := hin.2 k (by omega)
    omega
  · rw [show J 23 j = H.getD j 0 from c4 j (by omega), show J 23 k = H.getD k 0 from c4 k (by omega)]
    exact gd_inj hv.1.2.2 hj (by omega)
  · rw [show J 23 k = H.getD k 0 from c4 k (by omega)]
    have := hv.1.2.1 _ (gd_mem (show k < H.length by omega))
    rw [show J 21 (H.getD k 0).toNat = B 140 (H.getD k 0).toNat from (c5 _ (by omega)).2.2.1, c3]
    exact this.2
theorem c_goes {I : ZI} (hW : Wf sh R) (h : Rel t I R) : XI (d + 6) 104 [.inr 1, .inl x1] n sh R I (fun v J => XI (d + 7) 195 [.inr 137, .inl x1] n sh R J (fun v2 K => v2 = v ∧ Rel (t + 1) K R)) := by
  obtain ⟨lw, S, H, hl, hR, hL, hb, hE, mE, hH, mH, hv, hg⟩ := h.base hW
  refine b_N_goes_0 hW ?_
  have bad : (x1 < 1 ∨ 12 < x1 ∨ 12 < I 18 7 + x1) → XI (d + 7) 195 [.inr 137, .inl x1] n sh R I (fun v2 K => v2 = -1 ∧ Rel (t + 1) K R) := fun hbad => by
    refine b_M_goes_0 hW ?_
    by_cases g1 : x1 < 1
    · rw [if_pos g1]; exact ⟨rfl, h.fr (by omega) fun _ _ _ => rfl⟩
    rw [if_neg g1]
    by_cases g2 : 12 < x1
    · rw [if_pos g2]; exact ⟨rfl, h.fr (by omega) fun _ _ _ => rfl⟩
    rw [if_neg g2, mH.1.2]
    refine ⟨by unfold zr; omega, ?_⟩
    rw [if_pos (by omega)]
    exact ⟨rfl, h.fr (by omega) fun _ _ _ => rfl⟩
  by_cases g1 : x1 < 1
  · rw [if_pos g1]; exact bad (.inl g1)
  rw [if_neg g1]
  by_cases g2 : 12 < x1
  · rw [if_pos g2]; exact bad (.inr (.inl g2))
  rw [if_neg g2]
  refine ⟨by unfold zr; omega, ?_⟩
  by_cases g3 : 12 < I 18 7 + x1
  · rw [if_pos g3]; exact bad (.inr (.inr g3))
  rw [if_neg g3]
  obtain ⟨c, rfl⟩ : ∃ c : Nat, x1 = c := ⟨x1.toNat, by omega⟩
  refine s_G_doGoes hW (St_18 hW) (.inl rfl) hl hR hL hb hE hH hv (by omega) fun J j1 j2 j3 => ?_
  have fJ : ∀ a b, 57 ≤ a → J a b = I a b := fun a b hab => j3 a b (by unfold fG; omega)
  have mEJ : mEnv I J := mE.fr fun a b hab => fJ a b (by omega)
  have mHJ : mSt J H (I 18 7) (I 22) := mH.fr fun a b hab => fJ a b (by omega)
  refine b_M_goes_0 hW ?_
  rw [if_neg (by omega), if_neg (by omega), mHJ.1.2]
  refine ⟨by unfold zr; omega, ?_⟩
  rw [if_neg (by omega)]
  refine s_M_goesBy hW hb mEJ mHJ hv (by omega) fun K k1 k2 k3 => ⟨by rw [k2.1, j2.1], ?_⟩
  have ok := gGo_ok hb c H (I 18 7) (I 22) hv
  have ff : ∀ a b, ¬ fG 18 lw (gGo I c H (I 18 7) (I 22)).1.length a b → ¬ fM (gGo I c H (I 18 7) (I 22)).1.length a b → K a b = I a b := fun a b h1 h2 => by rw [k3 a b h2, j3 a b h1]
  have fK : ∀ a b, a ≤ 136 → K a b = J a b := fun a b hab => k3 a b (by unfold fM; omega)
  have nx := h.1.2.1
  have e8 : K 18 8 = I 18 8 := ff 18 8 (by unfold fG; omega) (by unfold fM; omega)
  have e5 : K 137 5 = I 137 5 := ff 137 5 (by unfold fG; omega) (by unfold fM; omega)
  have xx := h.1.1.2.2.2.1
  refine h.up (by omega) (.inl (rNow.mk hb (mEJ.fr fun a b hab => k3 a b (by unfold fM; omega)) (j1.fr fun a b hab => fK a b (by omega)) k1 ok.1 (by omega) (fun k h1 h2 => ?_) ⟨by omega, by omega, by omega⟩)) (.inr fun a k hk => ?_) (.inr fun a k hk => ?_) (.inr fun a k hk => ?_) (.inr fun a k hk => ?_) (.inr fun a k hk => ?_)
  · rw [ff 23 k (by unfold fG; omega) (by unfold fM; omega), ff 142 k (by unfold fG; omega) (by unfold fM; omega)]
    exact (h.1.1.2.2.2.2 k h2).2.2.2.2
  · unfold fKept at hk; exact ff a k (by unfold fG; omega) (by unfold fM; omega)
  · unfold fEnv at hk; exact ff a k (by unfold fG; omega) (by unfold fM; omega)
  · unfold fTape at hk; exact ff a k (by unfold fG; omega) (by unfold fM; omega)
  · unfold fBlame at hk; exact ff a k (by unfold fG; omega) (by unfold fM; omega)
  · unfold fLaw at hk; exact ff a k (by unfold fG; omega) (by unfold fM; omega)
end GG
