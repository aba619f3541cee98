-- ALL THROWN; WHO COMES; GOES
def pThr (od into : Nat → Int) (LA : Nat → Int) : Nat → (Nat → Int)
  | 0 => LA
  | p + 1 => if into p = -1 then pThr od into LA p else fun k => if k = (od p).toNat then into p else pThr od into LA p k
theorem pThr_range {od into LA : Nat → Int} {L h : Int} (hh : h ≤ 9) : ∀ m : Nat, (∀ p, p < m → -1 ≤ into p ∧ into p < h) → (∀ k : Nat, (k : Int) < L → 0 ≤ LA k ∧ LA k ≤ 9) → ∀ k : Nat, (k : Int) < L → 0 ≤ pThr od into LA m k ∧ pThr od into LA m k ≤ 9
  | 0, _, h2 => h2
  | m + 1, h1, h2 => fun k hk => by
    have ih := pThr_range (od := od) hh m (fun p hp => h1 p (by omega)) h2 k hk
    have := h1 m (by omega)
    unfold pThr
    by_cases g : into m = -1
    · rw [if_pos g]; exact ih
    · rw [if_neg g]
      by_cases g2 : k = (od m).toNat
      · rw [if_pos g2]; omega
      · rw [if_neg g2]; exact ih
def hOd (H : List Int) : Nat → Int := fun p => H.getD p 0
def gIx (into : Nat → Int) : Nat → Nat := fun p => (into p + 1).toNat
/-- the heap behind a go in which so much is thrown into holes -/
def gNext (B : ZI) (H : List Int) (into : Nat → Int) : List Int := gBack (hOd H) (gIx into) (gPi (B 137 4)) H.length ((B 137 3).toNat + 1)
def iOk (B : ZI) (H : List Int) (into : Nat → Int) : Prop := ∀ p, p < H.length → -1 ≤ into p ∧ into p < B 137 3
theorem gNext_perm {B : ZI} {H : List Int} {into : Nat → Int} (h : iOk B H into) : (gNext B H into).Perm H :=
  gBack_H fun p hp => by have := h p hp; unfold gIx; omega
theorem gNext_len {B : ZI} {H : List Int} {into : Nat → Int} (h : iOk B H into) : (gNext B H into).length = H.length := (gNext_perm h).length_eq
theorem gBack_congr {od od2 : Nat → Int} {ix ix2 : Nat → Nat} {pi : Nat → Bool} {m : Nat} (h : ∀ p, p < m → od p = od2 p ∧ ix p = ix2 p) : ∀ e, gBack od ix pi m e = gBack od2 ix2 pi m e := by
  have s : ∀ e p, p ≤ m → gSel od ix e p = gSel od2 ix2 e p := by
    intro e p
    induction p with
    | zero => intro _; rfl
    | succ p ih =>
      intro hp
      unfold gSel
      rw [ih (by omega), (h p (by omega)).1, (h p (by omega)).2]
  intro e
  induction e with
  | zero => rfl
  | succ e ih =>
    unfold gBack gSeg
    rw [ih, s e m (Nat.le_refl m)]
theorem gNext_congr {B : ZI} {H : List Int} {into into2 : Nat → Int} (h : ∀ p, p < H.length → into p = into2 p) : gNext B H into = gNext B H into2 :=
  gBack_congr (fun p hp => ⟨rfl, by unfold gIx; rw [h p hp]⟩) _
theorem pThr_congr {od into into2 LA : Nat → Int} : ∀ m : Nat, (∀ p, p < m → into p = into2 p) → pThr od into LA m = pThr od into2 LA m
  | 0, _ => rfl
  | m + 1, h => by unfold pThr; rw [h m (by omega), pThr_congr m fun p hp => h p (by omega)]
def gCm (co : Nat → Int) (g : Int) : Nat → List Int
  | 0 => []
  | i + 1 => if co i = g + 1 then gCm co g i ++ [(i : Int)] else gCm co g i
/-- the heap with those that come ahead of the go -/
def gCome (B : ZI) (H : List Int) (g : Int) : List Int := H ++ gCm (B 140) g (B 137 0).toNat
theorem gCm_pre {co : Nat → Int} {g : Int} {i : Nat} : ∀ c, ∃ t, gCm co g (i + c) = gCm co g i ++ t
  | 0 => ⟨[], (List.append_nil _).symm⟩
  | c + 1 => by
    obtain ⟨t, ht⟩ := gCm_pre (co := co) (g := g) (i := i) c
    have u : gCm co g (i + (c + 1)) = if co (i + c) = g + 1 then gCm co g (i + c) ++ [((i + c : Nat) : Int)] else gCm co g (i + c) := rfl
    rw [u]
    by_cases h : co (i + c) = g + 1
    · rw [if_pos h, ht]; exact ⟨t ++ [((i + c : Nat) : Int)], by rw [List.append_assoc]⟩
    · rw [if_neg h]; exact ⟨t, ht⟩
theorem gCm_len {co : Nat → Int} {g : Int} : ∀ i, (gCm co g i).length + pCount (fun k => decide (co k ≤ g)) i = pCount (fun k => decide (co k ≤ g + 1)) i
  | 0 => rfl
  | i + 1 => by
    have ih := gCm_len (co := co) (g := g) i
    unfold gCm pCount
    by_cases h : co i = g + 1
    · rw [if_pos h, List.length_append, List.length_singleton, if_neg (by simp; omega), if_pos (by simp; omega)]; omega
    · rw [if_neg h]
      by_cases h2 : co i ≤ g
      · rw [if_pos (decide_eq_true h2), if_pos (by simp; omega)]; omega
      · rw [if_neg (by simpa using h2), if_neg (by simp; omega)]; omega
theorem gCm_mem {co : Nat → Int} {g : Int} : ∀ i (x : Int), x ∈ gCm co g i → 0 ≤ x ∧ x < i ∧ co x.toNat = g + 1
  | 0, x, h => by cases h
  | i + 1, x, h => by
    unfold gCm at h
    by_cases h1 : co i = g + 1
    · rw [if_pos h1] at h
      rcases List.mem_append.mp h with h | h
      · have := gCm_mem i x h; omega
      · have e : x = (i : Int) := List.mem_singleton.mp h
        rw [e, Int.toNat_natCast]; omega
    · rw [if_neg h1] at h
      have := gCm_mem i x h; omega
theorem gCm_nodup {co : Nat → Int} {g : Int} : ∀ i, (gCm co g i).Nodup
  | 0 => List.nodup_nil
  | i + 1 => by
    unfold gCm
    by_cases h1 : co i = g + 1
    · rw [if_pos h1]
      refine List.nodup_append.mpr ⟨gCm_nodup i, List.pairwise_singleton _ _, fun a ha b hb e => ?_⟩
      have e2 : b = (i : Int) := List.mem_singleton.mp hb
      have := gCm_mem i a ha
      omega
    · rw [if_neg h1]; exact gCm_nodup i
theorem gd_mem {H : List Int} {p : Nat} (h : p < H.length) : H.getD p 0 ∈ H := by
  rw [List.getD_eq_getElem?_getD, List.getElem?_eq_getElem h]
  exact List.getElem_mem h
theorem mem_gd {H : List Int} {x : Int} (h : x ∈ H) : ∃ p, p < H.length ∧ H.getD p 0 = x := by
  obtain ⟨p, hp, e⟩ := List.mem_iff_getElem.mp h
  exact ⟨p, hp, by rw [List.getD_eq_getElem?_getD, List.getElem?_eq_getElem hp]; exact e⟩
/-- a heap as it may be, behind g goes -/
def hInv (B : ZI) (H : List Int) (g : Int) : Prop := H.length = pCount (fun k => decide (B 140 k ≤ g)) (B 137 0).toNat ∧ (∀ x, x ∈ H → (0 ≤ x ∧ x < B 137 0) ∧ B 140 x.toNat ≤ g) ∧ H.Nodup
theorem hInv.inb {B : ZI} {H : List Int} {g : Int} {S : Nat} (h : hInv B H g) (hb : bOk B S) : hIn B H := by
  have := pCount_le (p := fun k => decide (B 140 k ≤ g)) (B 137 0).toNat
  have h1 := h.1
  have h2 := hb.1
  exact ⟨by omega, fun p hp => (h.2.1 _ (gd_mem hp)).1⟩
theorem hInv.come {B : ZI} {H : List Int} {g : Int} (h : hInv B H g) : hInv B (gCome B H g) (g + 1) := by
  have l := gCm_len (co := B 140) (g := g) (B 137 0).toNat
  have h1 := h.1
  unfold gCome
  refine ⟨by rw [List.length_append]; omega, fun x hx => ?_, List.nodup_append.mpr ⟨h.2.2, gCm_nodup _, fun a ha b hb e => ?_⟩⟩
  · rcases List.mem_append.mp hx with hx | hx
    · have := h.2.1 x hx; omega
    · have := gCm_mem _ x hx; omega
  · have h2 := h.2.1 a ha
    have h3 := gCm_mem _ b hb
    rw [e] at h2; omega
theorem hInv.perm {B : ZI} {H H2 : List Int} {g : Int} (h : hInv B H g) (p : H2.Perm H) : hInv B H2 g :=
  ⟨p.length_eq.trans h.1, fun x hx => h.2.1 x (p.mem_iff.mp hx), p.symm.nodup h.2.2⟩
section GO
variable {d n t : Nat} {sh : ZS} {R : ZR} {B I : ZI} {x1 x2 x3 x4 x5 : Int} {H : List Int} {g : Int} {LA into : Nat → Int} {lw S o : Nat}
theorem l_G_throw {Q : ZI → Prop} (hW : Wf sh R) (hS : St sh R o) (ho : sPl o) (hb : bOk B S) (hh : hIn B H) (hi : iOk B H into) : ∀ (c p : Nat) (I : ZI), p + c = H.length → gSt B I o H g (pThr (hOd H) into LA p) → (∀ k, k < H.length → I 44 k = into k) → (∀ J : ZI, gSt B J o H g (pThr (hOd H) into LA H.length) → (∀ k, k < H.length → J 44 k = into k) → (∀ a b, ¬ a = o + 4 → J a b = I a b) → XV (d + 1) 42 [.inr 15, .inr o, .inr 44] n sh R J (fun I2 => (zr (I2 o 7 + 1)) ∧ Q (zup I2 o 7 (I2 o 7 + 1)))) → XVs (d + 2) 59 2 [some (.inr 42), some (.inr o), some (.inl (p : Int))] [] n sh R I Q
  | 0, p, I, h, hH, hI, q => b_G_throwAll_2 hW hS (by
      have e : p = H.length := by omega
      subst e
      rw [hH.1.2.1, if_pos (by omega)]
      exact q I hH hI fun _ _ _ => rfl)
  | c + 1, p, I, h, hH, hI, q => b_G_throwAll_2 hW hS (by
    have hl9 := hh.1
    have hL9 := hb.1
    unfold sPl at ho
    have hx := hh.2 p (by omega)
    rw [hH.1.2.1, if_neg (by omega), Int.toNat_natCast, hI p (by omega)]
    refine ⟨by omega, ?_⟩
    by_cases e : into p = -1
    · rw [if_pos e]
      refine ⟨by unfold zr; omega, l_G_throw hW hS ho hb hh hi c (p + 1) I (by omega) ?_ hI q⟩
      unfold pThr
      rw [if_pos e]; exact hH
    · rw [if_neg e, hH.2.1 p (by omega)]
      refine ⟨by omega, by unfold zr; omega, l_G_throw hW hS ho hb hh hi c (p + 1) _ (by omega) ?_ (fun k hk => by rw [zup_ne (by omega)]; exact hI k hk) fun J j1 j2 j3 => q J j1 j2 fun a b hab => by rw [j3 a b hab, zup_ne (by omega)]⟩
      refine ⟨by rw [zup_ne (by omega), zup_ne (by omega), zup_ne (by omega)]; exact hH.1, fun k hk => by rw [zup_ne (by omega)]; exact hH.2.1 k hk, fun k hk => ?_⟩
      have := hH.2.2 k hk
      rw [zup_ne (a := o + 1) (by omega), zup_ne (a := o + 2) (by omega), zup_ne (a := o + 3) (by omega)]
      refine ⟨this.1, this.2.1, this.2.2.1, ?_⟩
      unfold pThr
      rw [if_neg e]
      show _ = if k = (H.getD p 0).toNat then into p else pThr (hOd H) into LA p k
      by_cases q : k = (H.getD p 0).toNat
      · rw [if_pos q, zup_eq (by omega)]
      · rw [if_neg q, zup_ne (by omega)]; exact this.2.2.2)
theorem s_G_throwAll {Q : ZI → Prop} (hW : Wf sh R) (hS : St sh R o) (ho : sPl o) (hb : bOk B S) (hh : hIn B H) (hi : iOk B H into) (h15 : I 15 0 = B 137 3 ∧ I 15 1 = B 137 4) (hg : 0 ≤ g ∧ g ≤ 1000) (hH : gSt B I o H g LA) (hI : ∀ k, k < H.length → I 44 k = into k) (q : ∀ J : ZI, gSt B J o (gNext B H into) (g + 1) (pThr (hOd H) into LA H.length) → (∀ a b, ¬ a = 16 → ¬ a = 17 → ¬ (a = o ∧ b = 7) → ¬ a = o + 4 → ¬ (a = o + 5 ∧ b < H.length) → J a b = I a b) → Q J) : XV (d + 2) 59 [.inr 42, .inr o] n sh R I Q := by
  have ho' := ho
  unfold sPl at ho'
  have hl9 := hh.1
  have hs9 := hb.2.1
  refine b_G_throwAll_0 hW hS (l_G_throw hW hS ho hb hh hi H.length 0 I (by omega) hH hI fun J j1 j2 j3 => ?_)
  have hln := gNext_len hi
  refine s_K_giveBack (m := H.length) (hs := (B 137 3).toNat) (od := hOd H) (ix := gIx into) (w := B 137 4) hW hS ho ⟨⟨j1.1.2.1, by omega, by omega, ?_⟩, fun p hp => ⟨?_, ?_, ?_⟩⟩ ?_ fun K k1 k2 => ?_
  · rw [j3 _ _ (by omega), h15.1]; omega
  · rw [j2 p hp]; have := hi p hp; unfold gIx; omega
  · have := hi p hp; unfold gIx; omega
  · exact j1.2.1 p hp
  · rw [j3 _ _ (by omega), h15.2]
  have k7 : K o 7 = g := by rw [k2 _ _ (by omega) (by omega) (by omega)]; exact j1.1.2.2
  rw [k7]
  refine ⟨by unfold zr; omega, q _ ⟨⟨?_, ?_, ?_⟩, fun p hp => ?_, fun k hk => ?_⟩ fun a b g1 g2 g3 g4 g5 => ?_⟩
  · rw [zup_ne (by omega), k2 _ _ (by omega) (by omega) (by omega)]; exact j1.1.1
  · rw [zup_ne (by omega), k2 _ _ (by omega) (by omega) (by omega), hln]; exact j1.1.2.1
  · rw [zup_eq (by omega)]
  · rw [zup_ne (by omega)]; exact k1 p hp (by omega)
  · rw [zup_ne (by omega), zup_ne (by omega), zup_ne (by omega), zup_ne (by omega), k2 _ _ (by omega) (by omega) (by omega), k2 _ _ (by omega) (by omega) (by omega), k2 _ _ (by omega) (by omega) (by omega), k2 _ _ (by omega) (by omega) (by omega)]
    exact j1.2.2 k hk
  · rw [zup_ne (by omega), k2 a b g1 g2 g5, j3 a b g4]
theorem l_M_throw {Q : ZI → Prop} (hW : Wf sh R) (hb : bOk B S) (hh : hIn B H) (hi : iOk B H into) : ∀ (c p : Nat) (I : ZI), p + c = H.length → mSt I H g (pThr (hOd H) into LA p) → (∀ k, k < H.length → I 158 k = into k) → (∀ J : ZI, mSt J H g (pThr (hOd H) into LA H.length) → (∀ k, k < H.length → J 158 k = into k) → (∀ a b, ¬ a = 141 → J a b = I a b) → XV (d + 1) 183 [.inr 137] n sh R J (fun I2 => (zr (I2 137 2 + 1)) ∧ Q (zup I2 137 2 (I2 137 2 + 1)))) → XVs (d + 2) 185 2 [some (.inr 137), some (.inl (p : Int))] [] n sh R I Q
  | 0, p, I, h, hH, hI, q => b_M_throwsAll_2 hW (by
      have e : p = H.length := by omega
      subst e
      rw [hH.1.1, if_pos (by omega)]
      exact q I hH hI fun _ _ _ => rfl)
  | c + 1, p, I, h, hH, hI, q => b_M_throwsAll_2 hW (by
    have hl9 := hh.1
    have hL9 := hb.1
    have hx := hh.2 p (by omega)
    rw [hH.1.1, if_neg (by omega), Int.toNat_natCast, hI p (by omega)]
    refine ⟨by omega, ?_⟩
    by_cases e : into p = -1
    · rw [if_pos e]
      refine ⟨by unfold zr; omega, l_M_throw hW hb hh hi c (p + 1) I (by omega) ?_ hI q⟩
      unfold pThr
      rw [if_pos e]; exact hH
    · rw [if_neg e, hH.2.1 p (by omega)]
      refine ⟨by omega, by unfold zr; omega, l_M_throw hW hb hh hi c (p + 1) _ (by omega) ?_ (fun k hk => by rw [zup_ne (by omega)]; exact hI k hk) fun J j1 j2 j3 => q J j1 j2 fun a b hab => by rw [j3 a b hab, zup_ne (by omega)]⟩
      refine ⟨by rw [zup_ne (by omega), zup_ne (by omega)]; exact hH.1, fun k hk => by rw [zup_ne (by omega)]; exact hH.2.1 k hk, fun k hk => ?_⟩
      have := hH.2.2 k hk
      unfold pThr
      rw [if_neg e]
      show _ = if k = (H.getD p 0).toNat then into p else pThr (hOd H) into LA p k
      by_cases q : k = (H.getD p 0).toNat
      · rw [if_pos q, zup_eq (by omega)]
      · rw [if_neg q, zup_ne (by omega)]; exact this)
theorem s_M_throwsAll {Q : ZI → Prop} (hW : Wf sh R) (hb : bOk B S) (hh : hIn B H) (hi : iOk B H into) (h15 : I 137 3 = B 137 3 ∧ I 137 4 = B 137 4) (hg : 0 ≤ g ∧ g ≤ 1000) (hH : mSt I H g LA) (hI : ∀ k, k < H.length → I 158 k = into k) (q : ∀ J : ZI, mSt J (gNext B H into) (g + 1) (pThr (hOd H) into LA H.length) → (∀ a b, ¬ a = 141 → ¬ (a = 142 ∧ b < H.length) → ¬ a = 159 → ¬ (a = 137 ∧ b = 2) → J a b = I a b) → Q J) : XV (d + 2) 185 [.inr 137] n sh R I Q := by
  have hl9 := hh.1
  have hs9 := hb.2.1
  refine b_M_throwsAll_0 hW (l_M_throw hW hb hh hi H.length 0 I (by omega) hH hI fun J j1 j2 j3 => ?_)
  have hln := gNext_len hi
  refine s_M_givesBack (m := H.length) (hs := (B 137 3).toNat) (od := hOd H) (ix := gIx into) (w := B 137 4) hW ⟨⟨j1.1.1, by omega, by omega, ?_, ?_⟩, fun p hp => ⟨?_, ?_, ?_⟩⟩ fun K k1 k2 => ?_
  · rw [j3 _ _ (by omega), h15.1]; omega
  · rw [j3 _ _ (by omega), h15.2]
  · rw [j2 p hp]; have := hi p hp; unfold gIx; omega
  · have := hi p hp; unfold gIx; omega
  · exact j1.2.1 p hp
  have k7 : K 137 2 = g := by rw [k2 _ _ (by omega) (by omega)]; exact j1.1.2
  rw [k7]
  refine ⟨by unfold zr; omega, q _ ⟨⟨?_, ?_⟩, fun p hp => ?_, fun k hk => ?_⟩ fun a b g1 g2 g3 g4 => ?_⟩
  · rw [zup_ne (by omega), k2 _ _ (by omega) (by omega), hln]; exact j1.1.1
  · rw [zup_eq (by omega)]
  · rw [zup_ne (by omega)]; exact k1 p hp
  · rw [zup_ne (by omega), k2 _ _ (by omega) (by omega)]
    exact j1.2.2 k hk
  · rw [zup_ne (by omega), k2 a b g2 g3, j3 a b g1]
-- who comes
theorem l_S_come {Q : ZI → Prop} (hW : Wf sh R) (hS : St sh R o) (hb : bOk B S) (hv : hInv B H g) (hg : 0 ≤ g ∧ g ≤ 1000) : ∀ (c i : Nat) (I : ZI), i + c = (B 137 0).toNat → gSt B I o (H ++ gCm (B 140) g i) g LA → (∀ J : ZI, gSt B J o (gCome B H g) g LA → (∀ a b, ¬ (a = o ∧ b = 6) → ¬ (a = o + 5 ∧ b < (gCome B H g).length) → J a b = I a b) → Q J) → XVs (d + 1) 65 2 [some (.inr o), some (.inl (i : Int))] [] n sh R I Q
  | 0, i, I, h, hH, q => b_S_comeIn_2 hW hS (by
      have hb0 := hb.1
      rw [hH.1.1, if_pos (by omega)]
      have e : i = (B 137 0).toNat := by omega
      rw [e] at hH
      exact q I hH fun _ _ _ _ => rfl)
  | c + 1, i, I, h, hH, q => b_S_comeIn_2 hW hS (by
    have hb0 := hb.1
    have l := gCm_len (co := B 140) (g := g) (B 137 0).toNat
    have l2 := pCount_le (p := fun k => decide (B 140 k ≤ g + 1)) (B 137 0).toNat
    have hv1 := hv.1
    obtain ⟨t, ht⟩ := gCm_pre (co := B 140) (g := g) (i := i) (c + 1)
    rw [h] at ht
    have l3 := congrArg List.length ht
    rw [List.length_append] at l3
    rw [hH.1.1, if_neg (by omega), hH.1.2.1]
    by_cases g1 : B 137 0 ≤ ((H ++ gCm (B 140) g i).length : Int)
    · rw [if_pos g1]
      rw [List.length_append] at g1
      have t0 : t = [] := List.eq_nil_of_length_eq_zero (by omega)
      rw [t0, List.append_nil] at ht
      refine q I ?_ fun _ _ _ _ => rfl
      unfold gCome
      rw [ht]; exact hH
    · rw [if_neg g1]
      rw [hH.1.2.2, Int.toNat_natCast, (hH.2.2 i (by omega)).2.2.1]
      refine ⟨by omega, by unfold zr; omega, ?_⟩
      by_cases g2 : B 140 i = g + 1
      · rw [if_neg (not_not_intro g2), if_neg (by omega), Int.toNat_natCast]
        have e6 : (zup I (o + 5) (H ++ gCm (B 140) g i).length (i : Int)) o 6 = ((H ++ gCm (B 140) g i).length : Int) := by rw [zup_ne (by omega)]; exact hH.1.2.1
        rw [e6]
        have e7 : gCm (B 140) g (i + 1) = gCm (B 140) g i ++ [(i : Int)] := if_pos g2
        have l5 : (H ++ gCm (B 140) g i).length < (gCome B H g).length := by
          obtain ⟨t2, ht2⟩ := gCm_pre (co := B 140) (g := g) (i := i + 1) c
          rw [show i + 1 + c = (B 137 0).toNat by omega, e7] at ht2
          have := congrArg List.length ht2
          rw [List.length_append, List.length_append, List.length_singleton] at this
          unfold gCome
          rw [List.length_append, List.length_append]; omega
        refine ⟨by omega, by unfold zr; omega, by unfold zr; omega, l_S_come hW hS hb hv hg c (i + 1) _ (by omega) ?_ fun J j1 j2 => q J j1 fun a b h1 h2 => by rw [j2 a b h1 h2, zup_ne (by omega), zup_ne (by omega)]⟩
        rw [e7, ← List.append_assoc]
        refine ⟨⟨?_, ?_, ?_⟩, fun p hp => ?_, fun k hk => ?_⟩
        · rw [zup_ne (by omega), zup_ne (by omega)]; exact hH.1.1
        · rw [zup_eq (by omega), List.length_append (bs := [(i : Int)]), List.length_singleton, Int.natCast_add _ 1]; rfl
        · rw [zup_ne (by omega), zup_ne (by omega)]; exact hH.1.2.2
        · rw [List.length_append (bs := [(i : Int)]), List.length_singleton] at hp
          rw [zup_ne (by omega)]
          by_cases e : p = (H ++ gCm (B 140) g i).length
          · rw [zup_eq (by omega), e, show (H ++ gCm (B 140) g i).length = (H ++ gCm (B 140) g i).length + 0 by omega, gd_r]; rfl
          · rw [zup_ne (by omega), gd_l (by omega)]; exact hH.2.1 p (by omega)
        · rw [zup_ne (by omega), zup_ne (by omega), zup_ne (by omega), zup_ne (by omega), zup_ne (by omega), zup_ne (by omega), zup_ne (by omega), zup_ne (by omega)]
          exact hH.2.2 k hk
      · rw [if_pos g2]
        have e7 : gCm (B 140) g (i + 1) = gCm (B 140) g i := if_neg g2
        exact ⟨by unfold zr; omega, l_S_come hW hS hb hv hg c (i + 1) I (by omega) (by rw [e7]; exact hH) q⟩)
theorem s_S_comeIn {Q : ZI → Prop} (hW : Wf sh R) (hS : St sh R o) (hb : bOk B S) (hv : hInv B H g) (hg : 0 ≤ g ∧ g ≤ 1000) (hH : gSt B I o H g LA) (q : ∀ J : ZI, gSt B J o (gCome B H g) g LA → (∀ a b, ¬ (a = o ∧ b = 6) → ¬ (a = o + 5 ∧ b < (gCome B H g).length) → J a b = I a b) → Q J) : XV (d + 1) 65 [.inr o] n sh R I Q :=
  b_S_comeIn_0 hW hS (l_S_come hW hS hb hv hg (B 137 0).toNat 0 I (by omega) (by rw [show gCm (B 140) g 0 = [] from rfl, List.append_nil]; exact hH) q)
theorem l_M_come {Q : ZI → Prop} (hW : Wf sh R) (hb : bOk B S) (hv : hInv B H g) (hg : 0 ≤ g ∧ g ≤ 1000) : ∀ (c i : Nat) (I : ZI), i + c = (B 137 0).toNat → mEnv B I → mSt I (H ++ gCm (B 140) g i) g LA → (∀ J : ZI, mSt J (gCome B H g) g LA → (∀ a b, ¬ (a = 137 ∧ b = 1) → ¬ (a = 142 ∧ b < (gCome B H g).length) → J a b = I a b) → Q J) → XVs (d + 1) 182 2 [some (.inr 137), some (.inl (i : Int))] [] n sh R I Q
  | 0, i, I, h, hE, hH, q => b_M_comeAhead_2 hW (by
      have hb0 := hb.1
      rw [hE.1.1, if_pos (by omega)]
      have e : i = (B 137 0).toNat := by omega
      rw [e] at hH
      exact q I hH fun _ _ _ _ => rfl)
  | c + 1, i, I, h, hE, hH, q => b_M_comeAhead_2 hW (by
    have hb0 := hb.1
    have l := gCm_len (co := B 140) (g := g) (B 137 0).toNat
    have l2 := pCount_le (p := fun k => decide (B 140 k ≤ g + 1)) (B 137 0).toNat
    have hv1 := hv.1
    obtain ⟨t, ht⟩ := gCm_pre (co := B 140) (g := g) (i := i + 1) c
    rw [show i + 1 + c = (B 137 0).toNat by omega] at ht
    have l3 := congrArg List.length ht
    rw [List.length_append] at l3
    rw [hE.1.1, if_neg (by omega), hH.1.2, Int.toNat_natCast, hE.2.1.2.2.1]
    refine ⟨by omega, by unfold zr; omega, ?_⟩
    by_cases g2 : B 140 i = g + 1
    · have e7 : gCm (B 140) g (i + 1) = gCm (B 140) g i ++ [(i : Int)] := if_pos g2
      rw [e7, List.length_append, List.length_singleton] at l3
      have l4 : (H ++ gCm (B 140) g i).length = H.length + (gCm (B 140) g i).length := List.length_append
      have l5 : (H ++ gCm (B 140) g i).length < (gCome B H g).length := by
        unfold gCome
        rw [List.length_append, List.length_append]; omega
      rw [if_neg (not_not_intro g2), hH.1.1, Int.toNat_natCast]
      refine ⟨by omega, by unfold zr; omega, by unfold zr; omega, l_M_come hW hb hv hg c (i + 1) _ (by omega) (hE.fr fun a b hab => by rw [zup_ne (by omega), zup_ne (by omega)]) ?_ fun J j1 j2 => q J j1 fun a b h1 h2 => by rw [j2 a b h1 h2, zup_ne (by omega), zup_ne (by omega)]⟩
      rw [e7, ← List.append_assoc]
      refine ⟨⟨?_, ?_⟩, fun p hp => ?_, fun k hk => ?_⟩
      · rw [zup_eq (by omega), List.length_append (bs := [(i : Int)]), List.length_singleton, Int.natCast_add _ 1]; rfl
      · rw [zup_ne (by omega), zup_ne (by omega)]; exact hH.1.2
      · rw [List.length_append (bs := [(i : Int)]), List.length_singleton] at hp
        rw [zup_ne (by omega)]
        by_cases e : p = (H ++ gCm (B 140) g i).length
        · rw [zup_eq (by omega), e, show (H ++ gCm (B 140) g i).length = (H ++ gCm (B 140) g i).length + 0 by omega, gd_r]; rfl
        · rw [zup_ne (by omega), gd_l (by omega)]; exact hH.2.1 p (by omega)
      · rw [zup_ne (by omega), zup_ne (by omega)]
        exact hH.2.2 k hk
    · rw [if_pos g2]
      have e7 : gCm (B 140) g (i + 1) = gCm (B 140) g i := if_neg g2
      exact ⟨by unfold zr; omega, l_M_come hW hb hv hg c (i + 1) I (by omega) hE (by rw [e7]; exact hH) q⟩)
theorem s_M_comeAhead {Q : ZI → Prop} (hW : Wf sh R) (hb : bOk B S) (hv : hInv B H g) (hg : 0 ≤ g ∧ g ≤ 1000) (hE : mEnv B I) (hH : mSt I H g LA) (q : ∀ J : ZI, mSt J (gCome B H g) g LA → (∀ a b, ¬ (a = 137 ∧ b = 1) → ¬ (a = 142 ∧ b < (gCome B H g).length) → J a b = I a b) → Q J) : XV (d + 1) 182 [.inr 137] n sh R I Q :=
  b_M_comeAhead_0 hW (l_M_come hW hb hv hg (B 137 0).toNat 0 I (by omega) hE (by rw [show gCm (B 140) g 0 = [] from rfl, List.append_nil]; exact hH) q)
end GO
