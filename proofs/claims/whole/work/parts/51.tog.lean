-- TOGETHER: the model's way
def sK (B : ZI) (H : List Int) (p : Nat) : Int := B 138 (H.getD p 0).toNat
theorem sK_range {B : ZI} {S : Nat} (hb : bOk B S) {H : List Int} (hh : hIn B H) {p : Nat} (hp : p < H.length) : (0 ≤ H.getD p 0 ∧ H.getD p 0 < 32) ∧ 0 ≤ sK B H p ∧ sK B H p < 20 := by
  have h1 := hh.2 p hp
  have h2 := hb.1
  have h3 := hb.2.2.1 (H.getD p 0).toNat (by omega)
  unfold sK
  omega
/-- how many of the first m places have key r -/
def qCt (K : Nat → Int) (r : Int) (m : Nat) : Nat := pCount (fun p => decide (K p = r)) m
theorem qCt_step {K : Nat → Int} {r : Int} (m : Nat) : qCt K r (m + 1) = qCt K r m + if K m = r then 1 else 0 := by
  show _ + _ = _
  unfold qCt
  by_cases h : K m = r
  · rw [if_pos h, if_pos (decide_eq_true h)]
  · rw [if_neg h, if_neg (by simpa using h)]
theorem qCt_0 {K : Nat → Int} {r : Int} : ∀ m, qCt K r m = 0 ↔ qL K r 0 m = -1
  | 0 => ⟨fun _ => rfl, fun _ => rfl⟩
  | m + 1 => by
    have ih := qCt_0 (K := K) (r := r) m
    rw [qCt_step, qL_up, Nat.zero_add]
    by_cases h : K m = r
    · rw [if_pos h, if_pos h]; omega
    · rw [if_neg h, if_neg h]; omega
theorem qKs_mono {K : Nat → Int} {m : Nat} (r : Nat) : ∀ k, (qKs K m r).length ≤ (qKs K m (r + k)).length
  | 0 => Nat.le_refl _
  | k + 1 => by
    have ih := qKs_mono (K := K) (m := m) r k
    have e : qKs K m (r + (k + 1)) = if 0 ≤ qL K ((r + k : Nat) : Int) 0 m then qKs K m (r + k) ++ [((r + k : Nat) : Int)] else qKs K m (r + k) := rfl
    rw [e]
    split
    · rw [List.length_append]; omega
    · exact ih
section TM
variable {d n t : Nat} {sh : ZS} {R : ZR} {B : ZI} {x1 x2 x3 x4 x5 : Int} {lw S o : Nat} {H : List Int} {g : Int} {LA : Nat → Int}
theorem l_M_st1 {Q : ZI → Prop} (hW : Wf sh R) : ∀ (c s : Nat) (I : ZI), s + c = 20 → (∀ k, k < s → I 167 k = 0) → (∀ J : ZI, (∀ k, k < 20 → J 167 k = 0) → (∀ a b, ¬ a = 167 → J a b = I a b) → XVs d 211 23 [some (.inr 137), some (.inl 0)] [] n sh R J Q) → XVs d 211 2 [some (.inr 137), some (.inl (s : Int))] [] n sh R I Q
  | 0, s, I, h, h0, q => b_M_laysStreets_2 hW (by
    rw [if_pos (by omega)]
    exact q I (fun k hk => h0 k (by omega)) fun _ _ _ => rfl)
  | c + 1, s, I, h, h0, q => b_M_laysStreets_2 hW (by
    rw [if_neg (by omega), Int.toNat_natCast]
    refine ⟨by omega, by unfold zr; omega, ?_⟩
    rw [show (s : Int) + 1 = ((s + 1 : Nat) : Int) by omega]
    refine l_M_st1 hW c (s + 1) _ (by omega) (fun k hk => ?_) fun J j1 j2 => q J j1 fun a b hab => by rw [j2 a b hab, zup_ne (by omega)]
    by_cases e : k = s
    · subst e; exact zup_eq ⟨rfl, rfl⟩
    · rw [zup_ne (by omega)]; exact h0 k (by omega))
theorem l_M_st2 {Q : ZI → Prop} (hW : Wf sh R) (hb : bOk B S) (hh : hIn B H) : ∀ (c p : Nat) (I : ZI), p + c = H.length → mEnv B I → mSt I H g LA → (∀ k : Nat, k < 20 → I 167 k = (qCt (sK B H) k p : Int)) → (∀ J : ZI, (∀ k : Nat, k < 20 → J 167 k = (qCt (sK B H) k H.length : Int)) → (∀ a b, ¬ a = 167 → J a b = I a b) → Q J) → XVs d 211 23 [some (.inr 137), some (.inl (p : Int))] [] n sh R I Q
  | 0, p, I, h, hE, hH, h0, q => b_M_laysStreets_23 hW (by
    obtain rfl : p = H.length := by omega
    rw [hH.1.1, if_pos (by omega)]
    exact q I h0 fun _ _ _ => rfl)
  | c + 1, p, I, h, hE, hH, h0, q => b_M_laysStreets_23 hW (by
    have r := sK_range hb hh (p := p) (by omega)
    have l9 := hh.1
    have e1 : I 142 p = H.getD p 0 := hH.2.1 p (by omega)
    have e2 : I 138 (H.getD p 0).toNat = sK B H p := by rw [hE.2.1.1]; rfl
    have cl := pCount_le (p := fun q => decide (sK B H q = ((sK B H p).toNat : Nat))) p
    have h0p := h0 (sK B H p).toNat (by omega)
    unfold qCt at h0p
    rw [hH.1.1, if_neg (by omega), Int.toNat_natCast, e1, e2]
    refine ⟨by omega, by omega, by omega, by unfold zr; omega, by unfold zr; omega, ?_⟩
    rw [show (p : Int) + 1 = ((p + 1 : Nat) : Int) by omega]
    refine l_M_st2 hW hb hh c (p + 1) _ (by omega) (hE.fr fun a b hab => zup_ne (by omega)) (hH.fr fun a b hab => zup_ne (by omega)) (fun k hk => ?_) fun J j1 j2 => q J j1 fun a b hab => by rw [j2 a b hab, zup_ne (by omega)]
    rw [qCt_step]
    have h0k := h0 k hk
    by_cases e : sK B H p = (k : Int)
    · have ek : k = (sK B H p).toNat := by omega
      rw [if_pos e, zup_eq ⟨rfl, ek⟩, ← ek, h0k]; omega
    · rw [if_neg e, zup_ne (by omega), h0k]; omega)
theorem s_M_laysStreets {I : ZI} {Q : ZI → Prop} (hW : Wf sh R) (hb : bOk B S) (hh : hIn B H) (hE : mEnv B I) (hH : mSt I H g LA) (q : ∀ J : ZI, (∀ k : Nat, k < 20 → J 167 k = (qCt (sK B H) k H.length : Int)) → (∀ a b, ¬ a = 167 → J a b = I a b) → Q J) : XV d 211 [.inr 137] n sh R I Q :=
  b_M_laysStreets_0 hW (l_M_st1 hW 20 0 I (by omega) (fun k hk => absurd hk (by omega)) fun J j1 j2 => l_M_st2 hW hb hh H.length 0 J (by omega) (hE.fr fun a b hab => j2 a b (by omega)) (hH.fr fun a b hab => j2 a b (by omega)) (fun k hk => by rw [j1 k hk]; rfl) fun M m1 m2 => q M m1 fun a b hab => by rw [m2 a b hab, j2 a b hab])
-- the streets that are there
def qT (I : ZI) (c : Nat) (ks F L : Nat → Int) : Prop := I 137 58 = (c : Int) ∧ ∀ i, i < c → I 173 i = ks i ∧ I 174 i = F i ∧ I 175 i = L i
theorem l_M_tg57 {Q : Int → ZI → Prop} {r l : Nat} (hW : Wf sh R) (hb : bOk B S) (hh : hIn B H) (hl : l < 8) : ∀ (j c : Nat) (I : ZI), j + c = H.length → I 137 58 = (l : Int) → mEnv B I → mSt I H g LA → (qF (sK B H) r j c = -1 ∨ I 174 l = qF (sK B H) r j c) → (∀ J : ZI, (qF (sK B H) r 0 H.length = -1 ∨ J 174 l = qF (sK B H) r 0 H.length) → (∀ a b, ¬ (a = 174 ∧ b = l) → J a b = I a b) → XIs (d + 1) 227 94 [some (.inr 137), some (.inl (r : Int)), some (.inl 0)] [] n sh R J Q) → XIs (d + 1) 227 57 [some (.inr 137), some (.inl (r : Int)), some (.inl ((j : Int) - 1))] [] n sh R I Q
  | 0, c, I, h, h58, hE, hH, hF, q => b_M_laysTogether_57 hW (by
    obtain rfl : c = H.length := by omega
    rw [if_pos (by omega)]
    exact q I hF fun _ _ _ => rfl)
  | j + 1, c, I, h, h58, hE, hH, hF, q => b_M_laysTogether_57 hW (by
    have rr := sK_range hb hh (p := j) (by omega)
    have l9 := hh.1
    have e0 : ((j + 1 : Nat) : Int) - 1 = (j : Int) := by omega
    have e1 : I 142 j = H.getD j 0 := hH.2.1 j (by omega)
    have e2 : I 138 (H.getD j 0).toNat = sK B H j := by rw [hE.2.1.1]; rfl
    have e4 : (j : Int) + -1 = (j : Int) - 1 := by omega
    have ef := qF_step (K := sK B H) (r := r) j c
    rw [e0, if_neg (by omega), Int.toNat_natCast, e1, e2, h58, Int.toNat_natCast, e4]
    refine ⟨by omega, by omega, ?_⟩
    by_cases g1 : sK B H j = (r : Int)
    · rw [if_neg (not_not_intro g1)]
      rw [if_pos g1] at ef
      refine ⟨by omega, by unfold zr; omega, l_M_tg57 hW hb hh hl j (c + 1) _ (by omega) (by rw [zup_ne (by omega)]; exact h58) (hE.fr fun a b hab => zup_ne (by omega)) (hH.fr fun a b hab => zup_ne (by omega)) (.inr ?_) fun J j1 j2 => q J j1 fun a b hab => by rw [j2 a b hab, zup_ne (by omega)]⟩
      rw [zup_eq ⟨rfl, rfl⟩, ef]
    · rw [if_pos g1]
      rw [if_neg g1] at ef
      exact ⟨by unfold zr; omega, l_M_tg57 hW hb hh hl j (c + 1) I (by omega) h58 hE hH (by rw [ef]; exact hF) q⟩)
theorem l_M_tg94 {Q : Int → ZI → Prop} {r l : Nat} (hW : Wf sh R) (hb : bOk B S) (hh : hIn B H) (hl : l < 8) (hr : r < 20) : ∀ (c k : Nat) (I : ZI), k + c = H.length → I 137 58 = (l : Int) → mEnv B I → mSt I H g LA → (qL (sK B H) r 0 k = -1 ∨ I 175 l = qL (sK B H) r 0 k) → (∀ J : ZI, J 137 58 = ((l + 1 : Nat) : Int) → (qL (sK B H) r 0 H.length = -1 ∨ J 175 l = qL (sK B H) r 0 H.length) → (∀ a b, ¬ (a = 175 ∧ b = l) → ¬ (a = 137 ∧ b = 58) → J a b = I a b) → ∀ u, XIs (d + 1) 227 11 [some (.inr 137), some (.inl ((r + 1 : Nat) : Int)), u] [] n sh R J Q) → XIs (d + 1) 227 94 [some (.inr 137), some (.inl (r : Int)), some (.inl (k : Int))] [] n sh R I Q
  | 0, k, I, h, h58, hE, hH, hF, q => b_M_laysTogether_94 hW (by
    obtain rfl : k = H.length := by omega
    rw [hH.1.1, if_pos (by omega), h58, show (r : Int) + 1 = ((r + 1 : Nat) : Int) by omega]
    exact ⟨by unfold zr; omega, by unfold zr; omega, q _ (by rw [zup_eq ⟨rfl, rfl⟩]; omega) (by rw [zup_ne (by omega)]; exact hF) (fun a b h1 h2 => zup_ne h2) _⟩)
  | c + 1, k, I, h, h58, hE, hH, hF, q => b_M_laysTogether_94 hW (by
    have rr := sK_range hb hh (p := k) (by omega)
    have l9 := hh.1
    have e1 : I 142 k = H.getD k 0 := hH.2.1 k (by omega)
    have e2 : I 138 (H.getD k 0).toNat = sK B H k := by rw [hE.2.1.1]; rfl
    have ef := qL_up (K := sK B H) (r := r) k 0
    rw [Nat.zero_add] at ef
    rw [hH.1.1, if_neg (by omega), Int.toNat_natCast, e1, e2, h58, Int.toNat_natCast, show (k : Int) + 1 = ((k + 1 : Nat) : Int) by omega]
    refine ⟨by omega, by omega, ?_⟩
    by_cases g1 : sK B H k = (r : Int)
    · rw [if_neg (not_not_intro g1)]
      rw [if_pos g1] at ef
      refine ⟨by omega, by unfold zr; omega, l_M_tg94 hW hb hh hl hr c (k + 1) _ (by omega) (by rw [zup_ne (by omega)]; exact h58) (hE.fr fun a b hab => zup_ne (by omega)) (hH.fr fun a b hab => zup_ne (by omega)) (.inr ?_) fun J j0 j1 j2 => q J j0 j1 fun a b h1 h2 => by rw [j2 a b h1 h2, zup_ne h1]⟩
      rw [zup_eq ⟨rfl, rfl⟩, ef]
    · rw [if_pos g1]
      rw [if_neg g1] at ef
      exact ⟨by unfold zr; omega, l_M_tg94 hW hb hh hl hr c (k + 1) I (by omega) h58 hE hH (by rw [ef]; exact hF) q⟩)
theorem l_M_tg11 {Q : Int → ZI → Prop} (hW : Wf sh R) (hb : bOk B S) (hh : hIn B H) : ∀ (c r : Nat) (I : ZI) (u : Option AV), r + c = 20 → (qKs (sK B H) H.length r).length ≤ 8 → mEnv B I → mSt I H g LA → (∀ k : Nat, k < 20 → I 167 k = (qCt (sK B H) k H.length : Int)) → I 137 58 = ((qKs (sK B H) H.length r).length : Int) → (∀ i, i < (qKs (sK B H) H.length r).length → I 173 i = (qKs (sK B H) H.length r).getD i 0 ∧ I 174 i = qF (sK B H) ((qKs (sK B H) H.length r).getD i 0) 0 H.length ∧ I 175 i = qL (sK B H) ((qKs (sK B H) H.length r).getD i 0) 0 H.length) → (∀ J : ZI, ((1 ≤ (qKs (sK B H) H.length 20).length ∧ (qKs (sK B H) H.length 20).length ≤ 8) → qT J (qKs (sK B H) H.length 20).length (fun i => (qKs (sK B H) H.length 20).getD i 0) (qKF (sK B H) H.length) (qKL (sK B H) H.length)) → (∀ a b, ¬ (a = 137 ∧ b = 58) → ¬ (173 ≤ a ∧ a ≤ 175) → J a b = I a b) → Q (if 1 ≤ (qKs (sK B H) H.length 20).length ∧ (qKs (sK B H) H.length 20).length ≤ 8 then 1 else 0) J) → XIs (d + 1) 227 11 [some (.inr 137), some (.inl (r : Int)), u] [] n sh R I Q
  | 0, r, I, u, h, h8, hE, hH, h0, hc, hi, q => b_M_laysTogether_11 hW (by
    obtain rfl : r = 20 := by omega
    rw [if_pos (by omega), hc]
    have q1 := q I (fun _ => ⟨hc, hi⟩) fun _ _ _ _ => rfl
    by_cases g1 : (qKs (sK B H) H.length 20).length = 0
    · rw [if_neg (by omega)] at q1
      rw [if_pos (by omega)]; exact q1
    · rw [if_pos (by omega)] at q1
      rw [if_neg (by omega)]; exact q1)
  | c + 1, r, I, u, h, h8, hE, hH, h0, hc, hi, q => b_M_laysTogether_11 hW (by
    have l9 := hh.1
    have rl := qL_range (K := sK B H) (r := r) H.length 0
    have fl := qFL (K := sK B H) (r := r) H.length 0
    have c0 := qCt_0 (K := sK B H) (r := r) H.length
    have e2 : qKs (sK B H) H.length (r + 1) = if 0 ≤ qL (sK B H) r 0 H.length then qKs (sK B H) H.length r ++ [(r : Int)] else qKs (sK B H) H.length r := rfl
    have mo := qKs_mono (K := sK B H) (m := H.length) (r + 1) c
    rw [show r + 1 + c = 20 by omega] at mo
    rw [if_neg (by omega), Int.toNat_natCast, h0 r (by omega), hc]
    refine ⟨by omega, ?_⟩
    by_cases g1 : qL (sK B H) r 0 H.length = -1
    · rw [if_neg (not_not_intro (by omega)), show (r : Int) + 1 = ((r + 1 : Nat) : Int) by omega]
      rw [if_neg (by omega)] at e2
      exact ⟨by unfold zr; omega, l_M_tg11 hW hb hh c (r + 1) I u (by omega) (by rw [e2]; exact h8) hE hH h0 (by rw [e2]; exact hc) (by rw [e2]; exact hi) q⟩
    · rw [if_pos (by omega)]
      rw [if_pos (by omega)] at e2
      have e3 : (qKs (sK B H) H.length (r + 1)).length = (qKs (sK B H) H.length r).length + 1 := by rw [e2, List.length_append]; rfl
      by_cases g2 : (qKs (sK B H) H.length r).length = 8
      · rw [if_neg (not_not_intro (by omega))]
        have q1 := q I (fun c => by omega) fun _ _ _ _ => rfl
        rw [if_neg (by omega)] at q1
        exact q1
      · rw [if_pos (by omega), hH.1.1]
        refine ⟨by omega, by unfold zr; omega, ?_⟩
        rw [Int.toNat_natCast]
        refine l_M_tg57 (r := r) (l := (qKs (sK B H) H.length r).length) hW hb hh (by omega) H.length 0 _ (by omega) (by rw [zup_ne (by omega)]; exact hc) (hE.fr fun a b hab => zup_ne (by omega)) (hH.fr fun a b hab => zup_ne (by omega)) (.inl rfl) fun J j1 j2 => ?_
        have hE2 : mEnv B J := hE.fr fun a b hab => by rw [j2 a b (by omega), zup_ne (by omega)]
        have hH2 : mSt J H g LA := hH.fr fun a b hab => by rw [j2 a b (by omega), zup_ne (by omega)]
        refine l_M_tg94 (r := r) (l := (qKs (sK B H) H.length r).length) hW hb hh (by omega) (by omega) H.length 0 J (by omega) (by rw [j2 _ _ (by omega), zup_ne (by omega)]; exact hc) hE2 hH2 (.inl rfl) fun M m0 m1 m2 u => ?_
        refine l_M_tg11 hW hb hh c (r + 1) M u (by omega) (by omega) (hE2.fr fun a b hab => m2 a b (by omega) (by omega)) (hH2.fr fun a b hab => m2 a b (by omega) (by omega)) (fun k hk => by rw [m2 _ _ (by omega) (by omega), j2 _ _ (by omega), zup_ne (by omega)]; exact h0 k hk) (by rw [m0, e3]) (fun i hi2 => ?_) fun M2 o1 o2 => q M2 o1 fun a b h1 h2 => by rw [o2 a b h1 h2, m2 a b (by omega) h1, j2 a b (by omega), zup_ne (by omega)]
        rw [e3] at hi2
        rw [e2]
        by_cases e : i = (qKs (sK B H) H.length r).length
        · subst e
          rw [gd_last, m2 _ _ (by omega) (by omega), j2 _ _ (by omega), zup_eq ⟨rfl, rfl⟩, m2 174 _ (by omega) (by omega)]
          exact ⟨rfl, j1.resolve_left (by omega), m1.resolve_left g1⟩
        · rw [gd_l (by omega), m2 _ _ (by omega) (by omega), j2 _ _ (by omega), zup_ne (by omega), m2 174 _ (by omega) (by omega), j2 _ _ (by omega), zup_ne (by omega), m2 175 _ (by omega) (by omega), j2 _ _ (by omega), zup_ne (by omega)]
          exact hi i (by omega))
theorem s_M_laysTogether {I : ZI} {Q : Int → ZI → Prop} (hW : Wf sh R) (hb : bOk B S) (hh : hIn B H) (hE : mEnv B I) (hH : mSt I H g LA) (q : ∀ J : ZI, ((1 ≤ (qKs (sK B H) H.length 20).length ∧ (qKs (sK B H) H.length 20).length ≤ 8) → qT J (qKs (sK B H) H.length 20).length (fun i => (qKs (sK B H) H.length 20).getD i 0) (qKF (sK B H) H.length) (qKL (sK B H) H.length)) → (∀ a b, ¬ (a = 137 ∧ b = 58) → ¬ (173 ≤ a ∧ a ≤ 175) → ¬ a = 167 → J a b = I a b) → Q (if 1 ≤ (qKs (sK B H) H.length 20).length ∧ (qKs (sK B H) H.length 20).length ≤ 8 then 1 else 0) J) : XI (d + 1) 227 [.inr 137] n sh R I Q :=
  b_M_laysTogether_0 hW (s_M_laysStreets hW hb hh hE hH fun J j1 j2 => l_M_tg11 hW hb hh 20 0 _ _ (by omega) (by show 0 ≤ 8; omega) (hE.fr fun a b hab => by rw [zup_ne (by omega), j2 a b (by omega)]) (hH.fr fun a b hab => by rw [zup_ne (by omega), j2 a b (by omega)]) (fun k hk => by rw [zup_ne (by omega)]; exact j1 k hk) (by rw [zup_eq ⟨rfl, rfl⟩]; rfl) (fun i hi => absurd hi (by show ¬ i < 0; omega)) fun M m1 m2 => q M m1 fun a b h1 h2 h3 => by rw [m2 a b h1 h2, zup_ne h1, j2 a b h3])
end TM
