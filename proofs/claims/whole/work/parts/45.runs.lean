-- WHERE EACH RANK LIES; runs
/-- first and last place of key r, of places j .. j + c - 1 -/
def qF (K : Nat → Int) (r : Int) (j c : Nat) : Int := pFind (fun p => decide (K p = r)) j c
def qL (K : Nat → Int) (r : Int) : Nat → Nat → Int
  | _, 0 => -1
  | j, c + 1 => if qL K r (j + 1) c = -1 then (if K j = r then (j : Int) else -1) else qL K r (j + 1) c
theorem qF_step {K : Nat → Int} {r : Int} (j c : Nat) : qF K r j (c + 1) = if K j = r then (j : Int) else qF K r (j + 1) c := by
  unfold qF
  rw [show pFind (fun p => decide (K p = r)) j (c + 1) = if decide (K j = r) = true then (j : Int) else pFind (fun p => decide (K p = r)) (j + 1) c from rfl]
  by_cases h : K j = r
  · rw [if_pos (decide_eq_true h), if_pos h]
  · rw [if_neg (by simpa using h), if_neg h]
theorem qF_up {K : Nat → Int} {r : Int} : ∀ (c j : Nat), qF K r j (c + 1) = if qF K r j c = -1 then (if K (j + c) = r then ((j + c : Nat) : Int) else -1) else qF K r j c
  | 0, j => by
    rw [qF_step]
    show (if K j = r then (j : Int) else -1) = if (-1 : Int) = -1 then (if K (j + 0) = r then ((j + 0 : Nat) : Int) else -1) else -1
    rw [if_pos rfl]; rfl
  | c + 1, j => by
    rw [qF_step j (c + 1), qF_step j c, qF_up c (j + 1), show j + 1 + c = j + (c + 1) by omega]
    by_cases h : K j = r
    · rw [if_pos h, if_pos h, if_neg (by omega)]
    · rw [if_neg h, if_neg h]
theorem qL_range {K : Nat → Int} {r : Int} : ∀ (c j : Nat), qL K r j c = -1 ∨ (j : Int) ≤ qL K r j c ∧ qL K r j c < ((j + c : Nat) : Int)
  | 0, _ => .inl rfl
  | c + 1, j => by
    have := qL_range (K := K) (r := r) c (j + 1)
    unfold qL
    split <;> (try split) <;> omega
theorem qL_up {K : Nat → Int} {r : Int} : ∀ (c j : Nat), qL K r j (c + 1) = if K (j + c) = r then ((j + c : Nat) : Int) else qL K r j c
  | 0, j => by
    show (if (-1 : Int) = -1 then (if K j = r then (j : Int) else -1) else -1) = _
    rw [if_pos rfl]; rfl
  | c + 1, j => by
    have e : qL K r j (c + 1 + 1) = if qL K r (j + 1) (c + 1) = -1 then (if K j = r then (j : Int) else -1) else qL K r (j + 1) (c + 1) := rfl
    have e2 : qL K r j (c + 1) = if qL K r (j + 1) c = -1 then (if K j = r then (j : Int) else -1) else qL K r (j + 1) c := rfl
    rw [e, qL_up c (j + 1), e2, show j + 1 + c = j + (c + 1) by omega]
    by_cases h : K (j + (c + 1)) = r
    · rw [if_pos h, if_pos h, if_neg (by omega)]
    · rw [if_neg h, if_neg h]
theorem qFL {K : Nat → Int} {r : Int} : ∀ (c j : Nat), (qF K r j c = -1 ↔ qL K r j c = -1) ∧ (qF K r j c = -1 ∨ (j : Int) ≤ qF K r j c ∧ qF K r j c < ((j + c : Nat) : Int))
  | 0, _ => ⟨Iff.rfl, .inl rfl⟩
  | c + 1, j => by
    have ih := qFL (K := K) (r := r) c (j + 1)
    have rl := qL_range (K := K) (r := r) c (j + 1)
    rw [qF_step]
    have e2 : qL K r j (c + 1) = if qL K r (j + 1) c = -1 then (if K j = r then (j : Int) else -1) else qL K r (j + 1) c := rfl
    rw [e2]
    by_cases h : K j = r
    · rw [if_pos h, if_pos h]
      split <;> omega
    · rw [if_neg h, if_neg h]
      split <;> omega
theorem qL_mem {K : Nat → Int} {r : Int} : ∀ (c j p : Nat), j ≤ p → p < j + c → K p = r → 0 ≤ qL K r j c
  | 0, _, _, h1, h2, _ => by omega
  | c + 1, j, p, h1, h2, e => by
    have rl := qL_range (K := K) (r := r) c (j + 1)
    unfold qL
    by_cases q : p = j
    · subst q
      rw [if_pos e]
      split <;> omega
    · have := qL_mem c (j + 1) p (by omega) (by omega) e
      rw [if_neg (by omega)]; exact this
/-- the keys that are there, ascending -/
def qKs (K : Nat → Int) (m : Nat) : Nat → List Int
  | 0 => []
  | r + 1 => if 0 ≤ qL K r 0 m then qKs K m r ++ [(r : Int)] else qKs K m r
theorem qKs_len {K : Nat → Int} {m : Nat} : ∀ r, (qKs K m r).length ≤ r
  | 0 => Nat.le_refl 0
  | r + 1 => by
    have := qKs_len (K := K) (m := m) r
    unfold qKs
    split
    · rw [List.length_append]; show _ + 1 ≤ _; omega
    · omega
theorem qKs_mem {K : Nat → Int} {m : Nat} {x : Int} : ∀ r : Nat, x ∈ qKs K m r ↔ (0 ≤ x ∧ x < r) ∧ 0 ≤ qL K x 0 m
  | 0 => by
    constructor
    · intro h; cases h
    · intro h; omega
  | r + 1 => by
    have ih := qKs_mem (K := K) (m := m) (x := x) r
    unfold qKs
    by_cases h : 0 ≤ qL K r 0 m
    · rw [if_pos h, List.mem_append, ih, List.mem_singleton]
      constructor
      · rintro (a | a)
        · omega
        · subst a; omega
      · intro a
        by_cases q : x = r
        · exact .inr q
        · exact .inl (by omega)
    · rw [if_neg h, ih]
      constructor
      · intro a; omega
      · intro a
        by_cases q : x = r
        · subst q; omega
        · omega
theorem qKs_nodup {K : Nat → Int} {m : Nat} : ∀ r : Nat, (qKs K m r).Nodup
  | 0 => List.nodup_nil
  | r + 1 => by
    unfold qKs
    split
    · rw [List.nodup_append]
      refine ⟨qKs_nodup r, by simp, fun a ha b hb e => ?_⟩
      rw [List.mem_singleton] at hb
      have := ((qKs_mem r).mp ha).1
      omega
    · exact qKs_nodup r
/-- both sides' rows of ranks: c ranks ks, their first and last places -/
def qC (I : ZI) (c : Nat) (ks F L : Nat → Int) : Prop := I 53 2 = (c : Int) ∧ ∀ i, i < c → I 54 i = ks i ∧ I 56 (ks i).toNat = F i ∧ I 57 (ks i).toNat = L i
def qM (I : ZI) (c : Nat) (ks F L : Nat → Int) : Prop := I 137 45 = (c : Int) ∧ ∀ i, i < c → I 162 i = ks i ∧ I 163 i = F i ∧ I 164 i = L i
def qOk (K : Nat → Int) (m c : Nat) (ks F L : Nat → Int) : Prop := c ≤ 20 ∧ (∀ i, i < c → 0 ≤ ks i ∧ ks i < 20 ∧ F i = qF K (ks i) 0 m ∧ L i = qL K (ks i) 0 m ∧ 0 ≤ L i ∧ L i < m ∧ 0 ≤ F i ∧ F i < m) ∧ (∀ i j, i < j → j < c → ¬ ks i = ks j) ∧ (∀ p, p < m → 0 ≤ K p ∧ K p < 20 → ∃ i, i < c ∧ ks i = K p)
def qKF (K : Nat → Int) (m : Nat) (i : Nat) : Int := qF K ((qKs K m 20).getD i 0) 0 m
def qKL (K : Nat → Int) (m : Nat) (i : Nat) : Int := qL K ((qKs K m 20).getD i 0) 0 m
theorem qOk_all {K : Nat → Int} {m : Nat} : qOk K m (qKs K m 20).length (fun i => (qKs K m 20).getD i 0) (qKF K m) (qKL K m) := by
  refine ⟨qKs_len 20, fun i hi => ?_, fun i j hij hj => gd_inj (qKs_nodup 20) hij hj, fun p hp hk => ?_⟩
  · have hm := (qKs_mem 20).mp (gd_mem hi)
    have r1 := qL_range (K := K) (r := (qKs K m 20).getD i 0) m 0
    have r2 := qFL (K := K) (r := (qKs K m 20).getD i 0) m 0
    refine ⟨hm.1.1, hm.1.2, rfl, rfl, ?_⟩
    unfold qKF qKL
    omega
  · obtain ⟨i, h1, h2⟩ := mem_gd ((qKs_mem (K := K) (m := m) (x := K p) 20).mpr ⟨hk, qL_mem m 0 p (by omega) (by omega) rfl⟩)
    exact ⟨i, h1, h2⟩
def qG (F L : Nat → Int) (fw : Bool) (i : Nat) : Bool := if fw = true then decide (L i < F (i + 1)) else decide (L (i + 1) < F i)
def rK (B : ZI) (H : List Int) (p : Nat) : Int := B 143 (B 138 (H.getD p 0).toNat).toNat
theorem rK_range {B : ZI} {S : Nat} (hb : bOk B S) {H : List Int} (hh : hIn B H) {p : Nat} (hp : p < H.length) : (0 ≤ H.getD p 0 ∧ H.getD p 0 < 32) ∧ (0 ≤ B 138 (H.getD p 0).toNat ∧ B 138 (H.getD p 0).toNat < 20) ∧ 0 ≤ rK B H p ∧ rK B H p < 20 := by
  have h1 := hh.2 p hp
  have h2 := hb.1
  have h3 := hb.2.2.1 (H.getD p 0).toNat (by omega)
  have h4 := hb.2.2.2.1 (B 138 (H.getD p 0).toNat).toNat (by omega)
  unfold rK
  omega
section RN
variable {d n t : Nat} {sh : ZS} {R : ZR} {B : ZI} {x1 x2 x3 x4 x5 : Int} {lw S o : Nat} {H : List Int} {g : Int} {LA : Nat → Int}
theorem l_N_putRanks {Q : ZI → Prop} (hW : Wf sh R) (hb : bOk B S) (hh : hIn B H) (hl : lw = 5 ∨ lw = 45) : ∀ (c p : Nat) (I : ZI), p + c = H.length → gEnv B I lw S → gSt B I 18 H g LA → (∀ k, k < p → I 14 k = rK B H k) → (∀ J : ZI, (∀ k, k < H.length → J 14 k = rK B H k) → (∀ a b, ¬ a = 14 → J a b = I a b) → Q J) → XVs (d + 1) 134 2 [some (.inr 1), some (.inl (p : Int))] [] n sh R I Q
  | 0, p, I, h, hE, hH, hk, q => b_N_putRanks_2 hW (by
    rw [hH.1.2.1, if_pos (by omega)]
    exact q I (fun k hk2 => hk k (by omega)) fun _ _ _ => rfl)
  | c + 1, p, I, h, hE, hH, hk, q => b_N_putRanks_2 hW (by
    have r := rK_range hb hh (p := p) (by omega)
    have l9 := hh.1
    have e1 : I 23 p = H.getD p 0 := hH.2.1 p (by omega)
    have e2 : I 19 (H.getD p 0).toNat = B 138 (H.getD p 0).toNat := (hH.2.2 _ (by omega)).1
    have e3 : I 13 (B 138 (H.getD p 0).toNat).toNat = rK B H p := hE.2.1 _ (by omega)
    rw [hH.1.2.1, if_neg (by omega), Int.toNat_natCast, e1, e2, e3]
    refine ⟨by omega, by omega, by omega, by unfold zr; omega, ?_⟩
    refine l_N_putRanks hW hb hh hl c (p + 1) _ (by omega) (hE.fr hl fun a b hab => zup_ne (by omega)) (hH.fr fun a b hab => zup_ne (by omega)) (fun k hk2 => ?_) fun J j1 j2 => q J j1 fun a b hab => by rw [j2 a b hab, zup_ne (by omega)]
    by_cases e : k = p
    · subst e; rw [zup_eq (by omega)]
    · rw [zup_ne (by omega)]; exact hk k (by omega))
theorem l_O_read1 {m : Nat} {K : Nat → Int} {Q : ZI → Prop} {u2 : Option AV} (hW : Wf sh R) (hm : m ≤ 32) (hK : ∀ p, p < m → 0 ≤ K p ∧ K p < 20) : ∀ (j c : Nat) (I : ZI) (u4 : Option AV), j + c = m → (∀ k, k < m → I 14 k = K k) → (∀ r : Nat, r < 20 → I 57 r = qL K r j c ∧ (0 ≤ qL K r j c → I 56 r = qF K r j c)) → (∀ (J : ZI) (u4 : Option AV), (∀ r : Nat, r < 20 → J 57 r = qL K r 0 m ∧ (0 ≤ qL K r 0 m → J 56 r = qF K r 0 m)) → (∀ a b, ¬ a = 56 → ¬ a = 57 → J a b = I a b) → XVs (d + 1) 44 60 [some (.inr 53), some (.inr 14), u2, some (.inl 0), u4] [] n sh R (zup J 53 2 0) Q) → XVs (d + 1) 44 12 [some (.inr 53), some (.inr 14), u2, some (.inl ((j : Int) - 1)), u4] [] n sh R I Q
  | 0, c, I, u4, h, h14, hi, q => b_O_read_12 hW (by
    rw [if_pos (by omega)]
    obtain rfl : c = m := by omega
    exact q I u4 hi fun _ _ _ _ => rfl)
  | j + 1, c, I, u4, h, h14, hi, q => b_O_read_12 hW (by
    have k1 := hK j (by omega)
    have ej : ((j + 1 : Nat) : Int) - 1 = (j : Int) := by omega
    rw [ej, if_neg (by omega), Int.toNat_natCast, h14 j (by omega)]
    refine ⟨by omega, by omega, by unfold zr; omega, ?_⟩
    rw [show (j : Int) + -1 = (j : Int) - 1 by omega]
    have hkey := hi (K j).toNat (by omega)
    rw [show ((K j).toNat : Int) = K j by omega] at hkey
    have rl := qL_range (K := K) (r := K j) c (j + 1)
    refine l_O_read1 hW hm hK j (c + 1) _ _ (by omega) (fun k hk => ?_) (fun r hr => ?_) fun J u4 j1 j2 => q J u4 j1 fun a b h1 h2 => by rw [j2 a b h1 h2, zup_ne (by omega), zup_ne (by omega)]
    · rw [zup_ne (by omega), zup_ne (by omega)]; exact h14 k hk
    · have hir := hi r hr
      have e2 : qL K r j (c + 1) = if qL K r (j + 1) c = -1 then (if K j = r then (j : Int) else -1) else qL K r (j + 1) c := rfl
      rw [e2, qF_step]
      by_cases e : K j = (r : Int)
      · rw [if_pos e, if_pos e]
        rw [e] at hkey rl
        have er : r = (K j).toNat := by omega
        refine ⟨?_, fun _ => ?_⟩
        · rw [zup_eq ⟨rfl, er⟩, e, Int.toNat_natCast, hir.1]
          by_cases q1 : qL K r (j + 1) c = -1
          · rw [if_pos q1, if_pos (by omega)]
          · rw [if_neg q1, if_neg (by omega)]
        · rw [zup_ne (by omega), zup_eq ⟨rfl, er⟩]
      · rw [if_neg e, if_neg e]
        rw [zup_ne (by omega), zup_ne (by omega), zup_ne (by omega), zup_ne (by omega)]
        rw [show (if qL K r (j + 1) c = -1 then (-1 : Int) else qL K r (j + 1) c) = qL K r (j + 1) c by split <;> omega]
        exact hir)
theorem l_O_read2 {m : Nat} {K : Nat → Int} {Q : ZI → Prop} {u1 u2 u4 : Option AV} (hW : Wf sh R) : ∀ (c r : Nat) (I : ZI), r + c = 20 → (∀ r : Nat, r < 20 → I 57 r = qL K r 0 m ∧ (0 ≤ qL K r 0 m → I 56 r = qF K r 0 m)) → I 53 2 = ((qKs K m r).length : Int) → pLs I 54 (qKs K m r) → (∀ J : ZI, qC J (qKs K m 20).length (fun i => (qKs K m 20).getD i 0) (qKF K m) (qKL K m) → (∀ a b, ¬ a = 54 → ¬ (a = 53 ∧ b = 2) → J a b = I a b) → Q J) → XVs (d + 1) 44 60 [some (.inr 53), u1, u2, some (.inl (r : Int)), u4] [] n sh R I Q
  | 0, r, I, h, hi, hc, hl, q => b_O_read_60 hW (by
    rw [if_pos (by omega)]
    obtain rfl : r = 20 := by omega
    refine q I ⟨hc, fun i hi2 => ?_⟩ fun _ _ _ _ => rfl
    have hm := (qKs_mem 20).mp (gd_mem hi2)
    have e := hi ((qKs K m 20).getD i 0).toNat (by omega)
    rw [show ((((qKs K m 20).getD i 0).toNat : Nat) : Int) = (qKs K m 20).getD i 0 by omega] at e
    exact ⟨hl i hi2, e.2 hm.2, e.1⟩)
  | c + 1, r, I, h, hi, hc, hl, q => b_O_read_60 hW (by
    have e := hi r (by omega)
    have l9 := qKs_len (K := K) (m := m) r
    have rl := qL_range (K := K) (r := r) m 0
    rw [if_neg (by omega), Int.toNat_natCast, e.1, hc, Int.toNat_natCast]
    refine ⟨by omega, ?_⟩
    have e2 : qKs K m (r + 1) = if 0 ≤ qL K r 0 m then qKs K m r ++ [(r : Int)] else qKs K m r := rfl
    by_cases g1 : qL K r 0 m < 0
    · rw [if_pos g1]
      rw [if_neg (by omega)] at e2
      exact ⟨by unfold zr; omega, l_O_read2 hW c (r + 1) I (by omega) hi (by rw [e2]; exact hc) (by rw [e2]; exact hl) q⟩
    · rw [if_neg g1]
      rw [if_pos (by omega)] at e2
      refine ⟨by omega, by unfold zr; omega, by unfold zr; omega, ?_⟩
      refine l_O_read2 hW c (r + 1) _ (by omega) (fun k hk => ?_) ?_ ?_ fun J j1 j2 => q J j1 fun a b h1 h2 => by rw [j2 a b h1 h2, zup_ne (by omega), zup_ne (by omega)]
      · rw [zup_ne (by omega), zup_ne (by omega), zup_ne (by omega), zup_ne (by omega)]; exact hi k hk
      · rw [zup_eq (by omega), e2, List.length_append]; show _ = ((_ + 1 : Nat) : Int); omega
      · rw [e2]
        intro i hi2
        rw [zup_ne (by omega)]
        exact hl.push (r : Int) i hi2)
theorem s_O_read {I : ZI} {m : Nat} {K : Nat → Int} {Q : ZI → Prop} (hW : Wf sh R) (hm : m ≤ 32) (hK : ∀ p, p < m → 0 ≤ K p ∧ K p < 20) (h14 : ∀ k, k < m → I 14 k = K k) (q : ∀ J : ZI, qC J (qKs K m 20).length (fun i => (qKs K m 20).getD i 0) (qKF K m) (qKL K m) → (∀ a b, ¬ (a = 53 ∧ b = 2) → ¬ a = 54 → ¬ a = 56 → ¬ a = 57 → J a b = I a b) → Q J) : XV (d + 1) 44 [.inr 53, .inr 14, .inl (m : Int)] n sh R I Q :=
  b_O_read_0 hW (s_fill (sh_57 hW) (by omega) fun I1 i1 i2 => ⟨by unfold zr; omega, l_O_read1 hW hm hK m 0 I1 _ (by omega) (fun k hk => by rw [i2 _ _ (by omega)]; exact h14 k hk) (fun r hr => ⟨by rw [i1 r hr]; rfl, fun c => absurd c (by show ¬ (0 : Int) ≤ -1; omega)⟩) fun I2 u4 j1 j2 => l_O_read2 hW 20 0 _ (by omega) (fun r hr => by rw [zup_ne (by omega), zup_ne (by omega)]; exact j1 r hr) (by rw [zup_eq (by omega)]; rfl) (fun i hi => absurd hi (by show ¬ i < 0; omega)) fun J k1 k2 => q J k1 fun a b h1 h2 h3 h4 => by rw [k2 a b h2 h1, zup_ne (by omega), j2 a b h3 h4, i2 a b h4]⟩)
theorem s_N_readRanks {I : ZI} {Q : ZI → Prop} (hW : Wf sh R) (hl : lw = 5 ∨ lw = 45) (hb : bOk B S) (hh : hIn B H) (hE : gEnv B I lw S) (hH : gSt B I 18 H g LA) (q : ∀ J : ZI, qC J (qKs (rK B H) H.length 20).length (fun i => (qKs (rK B H) H.length 20).getD i 0) (qKF (rK B H) H.length) (qKL (rK B H) H.length) → (∀ a b, ¬ (a = 53 ∧ b = 2) → ¬ a = 54 → ¬ a = 56 → ¬ a = 57 → ¬ a = 14 → J a b = I a b) → Q J) : XV (d + 2) 135 [.inr 1] n sh R I Q := by
  refine b_N_readRanks_0 hW (b_N_putRanks_0 hW (l_N_putRanks hW hb hh hl H.length 0 I (by omega) hE hH (fun k hk => absurd hk (by omega)) fun J j1 j2 => ?_))
  rw [j2 18 6 (by omega), hH.1.2.1]
  exact s_O_read hW hh.1 (fun p hp => (rK_range hb hh hp).2.2) j1 fun K k1 k2 => q K k1 fun a b h1 h2 h3 h4 h5 => by rw [k2 a b h1 h2 h3 h4, j2 a b h5]
-- the model's
theorem l_M_lays2 {Q : ZI → Prop} {I : ZI} {r : Nat} (hW : Wf sh R) (hb : bOk B S) (hh : hIn B H) (hE : mEnv B I) (hH : mSt I H g LA) (q : XVs (d + 1) 200 20 [some (.inr 137), some (.inl (r : Int)), some (.inl (qF (rK B H) r 0 H.length)), some (.inl (qL (rK B H) r 0 H.length)), some (.inl (H.length : Int))] [] n sh R I Q) : ∀ (c k : Nat), k + c = H.length → XVs (d + 1) 200 20 [some (.inr 137), some (.inl (r : Int)), some (.inl (qF (rK B H) r 0 k)), some (.inl (qL (rK B H) r 0 k)), some (.inl (k : Int))] [] n sh R I Q
  | 0, k, h => by
    obtain rfl : k = H.length := by omega
    exact q
  | c + 1, k, h => b_M_laysRanks_20 hW (by
    have rr := rK_range hb hh (p := k) (by omega)
    have l9 := hh.1
    have e1 : I 142 k = H.getD k 0 := hH.2.1 k (by omega)
    have e2 : I 138 = B 138 := hE.2.1.1
    have e3 : I 143 (B 138 (H.getD k 0).toNat).toNat = rK B H k := by rw [hE.2.1.2.2.2]; rfl
    rw [hH.1.1, if_neg (by omega), Int.toNat_natCast, e1, e2, e3]
    have ih := l_M_lays2 hW hb hh hE hH q c (k + 1) (by omega)
    rw [qF_up, qL_up, Nat.zero_add] at ih
    refine ⟨by omega, by omega, by omega, ?_⟩
    by_cases g1 : rK B H k = (r : Int)
    · rw [if_pos g1]
      rw [if_pos g1, if_pos g1] at ih
      by_cases g2 : qF (rK B H) r 0 k = -1
      · rw [if_pos g2] at ih
        rw [if_neg (not_not_intro g2)]
        exact ⟨by unfold zr; omega, ih⟩
      · rw [if_neg g2] at ih
        rw [if_pos g2]
        exact ⟨by unfold zr; omega, ih⟩
    · rw [if_neg g1]
      rw [if_neg g1, if_neg g1] at ih
      rw [show (if qF (rK B H) r 0 k = -1 then (-1 : Int) else qF (rK B H) r 0 k) = qF (rK B H) r 0 k by split <;> omega] at ih
      exact ⟨by unfold zr; omega, ih⟩)
theorem l_M_lays1 {Q : ZI → Prop} (hW : Wf sh R) (hb : bOk B S) (hh : hIn B H) : ∀ (c r : Nat) (I : ZI) (u2 u3 u4 : Option AV), r + c = 20 → mEnv B I → mSt I H g LA → I 137 45 = ((qKs (rK B H) H.length r).length : Int) → (∀ i, i < (qKs (rK B H) H.length r).length → I 162 i = (qKs (rK B H) H.length r).getD i 0 ∧ I 163 i = qF (rK B H) ((qKs (rK B H) H.length r).getD i 0) 0 H.length ∧ I 164 i = qL (rK B H) ((qKs (rK B H) H.length r).getD i 0) 0 H.length) → (∀ J : ZI, qM J (qKs (rK B H) H.length 20).length (fun i => (qKs (rK B H) H.length 20).getD i 0) (qKF (rK B H) H.length) (qKL (rK B H) H.length) → (∀ a b, ¬ (a = 137 ∧ b = 45) → ¬ (162 ≤ a ∧ a ≤ 164) → J a b = I a b) → Q J) → XVs (d + 1) 200 7 [some (.inr 137), some (.inl (r : Int)), u2, u3, u4] [] n sh R I Q
  | 0, r, I, u2, u3, u4, h, hE, hH, hc, hi, q => b_M_laysRanks_7 hW (by
    rw [if_pos (by omega)]
    obtain rfl : r = 20 := by omega
    exact q I ⟨hc, hi⟩ fun _ _ _ _ => rfl)
  | c + 1, r, I, u2, u3, u4, h, hE, hH, hc, hi, q => b_M_laysRanks_7 hW (by
    have l9 := qKs_len (K := rK B H) (m := H.length) r
    have l8 := hh.1
    have rl := qL_range (K := rK B H) (r := r) H.length 0
    have fl := qFL (K := rK B H) (r := r) H.length 0
    rw [if_neg (by omega)]
    refine l_M_lays2 (r := r) hW hb hh hE hH (b_M_laysRanks_20 hW ?_) H.length 0 (by omega)
    rw [hH.1.1, if_pos (by omega), hc, Int.toNat_natCast]
    have e2 : qKs (rK B H) H.length (r + 1) = if 0 ≤ qL (rK B H) r 0 H.length then qKs (rK B H) H.length r ++ [(r : Int)] else qKs (rK B H) H.length r := rfl
    by_cases g1 : qF (rK B H) r 0 H.length = -1
    · rw [if_neg (not_not_intro g1)]
      rw [if_neg (by omega)] at e2
      exact ⟨by unfold zr; omega, l_M_lays1 hW hb hh c (r + 1) I _ _ _ (by omega) hE hH (by rw [e2]; exact hc) (by rw [e2]; exact hi) q⟩
    · rw [if_pos g1]
      rw [if_pos (by omega)] at e2
      refine ⟨by omega, by unfold zr; omega, by unfold zr; omega, ?_⟩
      refine l_M_lays1 hW hb hh c (r + 1) _ _ _ _ (by omega) (hE.fr fun a b hab => by rw [zup_ne (by omega), zup_ne (by omega), zup_ne (by omega), zup_ne (by omega)]) (hH.fr fun a b hab => by rw [zup_ne (by omega), zup_ne (by omega), zup_ne (by omega), zup_ne (by omega)]) ?_ ?_ fun J j1 j2 => q J j1 fun a b h1 h2 => by rw [j2 a b h1 h2, zup_ne (by omega), zup_ne (by omega), zup_ne (by omega), zup_ne (by omega)]
      · rw [zup_eq (by omega), e2, List.length_append]; show _ = ((_ + 1 : Nat) : Int); omega
      · rw [e2]
        intro i hi2
        rw [List.length_append] at hi2
        have hi3 : i < (qKs (rK B H) H.length r).length + 1 := hi2
        by_cases e : i = (qKs (rK B H) H.length r).length
        · subst e
          rw [gd_last, zup_ne (by omega), zup_ne (by omega), zup_ne (by omega), zup_eq (by omega), zup_ne (by omega), zup_ne (by omega), zup_eq (by omega), zup_ne (by omega), zup_eq (by omega)]
          exact ⟨rfl, rfl, rfl⟩
        · rw [gd_l (by omega), zup_ne (by omega), zup_ne (by omega), zup_ne (by omega), zup_ne (by omega), zup_ne (by omega), zup_ne (by omega), zup_ne (by omega), zup_ne (by omega), zup_ne (by omega), zup_ne (by omega), zup_ne (by omega), zup_ne (by omega)]
          exact hi i (by omega))
theorem s_M_laysRanks {I : ZI} {Q : ZI → Prop} (hW : Wf sh R) (hb : bOk B S) (hh : hIn B H) (hE : mEnv B I) (hH : mSt I H g LA) (q : ∀ J : ZI, qM J (qKs (rK B H) H.length 20).length (fun i => (qKs (rK B H) H.length 20).getD i 0) (qKF (rK B H) H.length) (qKL (rK B H) H.length) → (∀ a b, ¬ (a = 137 ∧ b = 45) → ¬ (162 ≤ a ∧ a ≤ 164) → J a b = I a b) → Q J) : XV (d + 1) 200 [.inr 137] n sh R I Q :=
  b_M_laysRanks_0 hW (l_M_lays1 hW hb hh 20 0 _ _ _ _ (by omega) (hE.fr fun a b hab => zup_ne (by omega)) (hH.fr fun a b hab => zup_ne (by omega)) (by rw [zup_eq (by omega)]; rfl) (fun i hi => absurd hi (by show ¬ i < 0; omega)) fun J j1 j2 => q J j1 fun a b h1 h2 => by rw [j2 a b h1 h2, zup_ne (by omega)])
-- runs
def qR (F L : Nat → Int) (fw : Bool) : Nat → Int := pSum (fun i => if qG F L fw i = true then 0 else 1)
theorem qR_range {F L : Nat → Int} {fw : Bool} (k : Nat) : 0 ≤ qR F L fw k ∧ qR F L fw k ≤ k := by
  have := pSum_range (f := fun i => if qG F L fw i = true then 0 else 1) (c := 1) k fun k hk => by split <;> omega
  unfold qR; omega
theorem l_O_fewest {I : ZI} {Q : Int → ZI → Prop} {K ks F L : Nat → Int} {c m : Nat} {fw : Bool} (hW : Wf sh R) (hq : qOk K m c ks F L) (hC : qC I c ks F L) (q : Q (1 + qR F L fw (c - 1)) I) : ∀ (f i : Nat), i + 1 + f = c → XIs (d + 1) 46 15 [some (.inr 53), some (.inl (if fw = true then 1 else 0)), some (.inl (1 + qR F L fw i)), some (.inl ((i + 1 : Nat) : Int))] [] n sh R I Q
  | 0, i, h => b_O_fewest_15 hW (by
    rw [hC.1, if_pos (by omega)]
    obtain rfl : c - 1 = i := by omega
    exact q)
  | f + 1, i, h => b_O_fewest_15 hW (by
    have c9 := hq.1
    have r := qR_range (F := F) (L := L) (fw := fw) i
    have a0 := hC.2 i (by omega)
    have a1 := hC.2 (i + 1) (by omega)
    have b0 := hq.2.1 i (by omega)
    have b1 := hq.2.1 (i + 1) (by omega)
    have es : qR F L fw (i + 1) = qR F L fw i + if qG F L fw i = true then 0 else 1 := rfl
    have ih := l_O_fewest hW hq hC q f (i + 1) (by omega)
    rw [es] at ih
    have e1 : (((i + 1 : Nat) : Int) - 1).toNat = i := by omega
    have e2 : (((i + 1 : Nat) : Int)).toNat = i + 1 := by omega
    rw [hC.1, if_neg (by omega), e1, e2, a0.1, a1.1, a0.2.1, a0.2.2, a1.2.1, a1.2.2]
    refine ⟨by unfold zr; omega, ?_⟩
    have e3 : ((i + 1 : Nat) : Int) + 1 = ((i + 1 + 1 : Nat) : Int) := by omega
    have c1 : ∀ y : Int, y = 1 + (qR F L fw i + if qG F L fw i = true then 0 else 1) → XIs (d + 1) 46 15 [some (.inr 53), some (.inl (if fw = true then 1 else 0)), some (.inl y), some (.inl (((i + 1 : Nat) : Int) + 1))] [] n sh R I Q := fun y e => by rw [e, e3]; exact ih
    cases fw with
    | true =>
      rw [if_neg (by rw [if_pos rfl]; decide)]
      refine ⟨by omega, by omega, by omega, by omega, ?_⟩
      have eg : qG F L true i = decide (L i < F (i + 1)) := rfl
      by_cases g1 : F (i + 1) ≤ L i
      · rw [if_pos g1]
        exact ⟨by unfold zr; omega, by unfold zr; omega, c1 _ (by rw [eg, if_neg (by simpa using g1)]; omega)⟩
      · rw [if_neg g1]
        exact ⟨by unfold zr; omega, c1 _ (by rw [eg, if_pos (by simpa using (by omega : L i < F (i + 1)))]; omega)⟩
    | false =>
      rw [if_pos (by rw [if_neg (by decide)])]
      refine ⟨by omega, by omega, by omega, by omega, ?_⟩
      have eg : qG F L false i = decide (L (i + 1) < F i) := rfl
      by_cases g1 : F i ≤ L (i + 1)
      · rw [if_pos g1]
        exact ⟨by unfold zr; omega, by unfold zr; omega, c1 _ (by rw [eg, if_neg (by simpa using g1)]; omega)⟩
      · rw [if_neg g1]
        exact ⟨by unfold zr; omega, c1 _ (by rw [eg, if_pos (by simpa using (by omega : L (i + 1) < F i))]; omega)⟩)
/-- how many runs -/
def qN (F L : Nat → Int) (fw : Bool) (c : Nat) : Int := if c = 0 then 0 else 1 + qR F L fw (c - 1)
theorem s_O_fewest {I : ZI} {Q : Int → ZI → Prop} {K ks F L : Nat → Int} {c m : Nat} {fw : Bool} (hW : Wf sh R) (hq : qOk K m c ks F L) (hC : qC I c ks F L) (q : Q (qN F L fw c) I) : XI (d + 1) 46 [.inr 53, .inl (if fw = true then 1 else 0)] n sh R I Q := by
  refine b_O_fewest_0 hW ?_
  rw [hC.1]
  unfold qN at q
  by_cases g : c = 0
  · rw [if_pos g] at q
    rw [if_pos (by omega)]
    refine b_O_fewest_15 hW ?_
    rw [hC.1, if_pos (by omega)]
    exact q
  · rw [if_neg g] at q
    rw [if_neg (by omega)]
    exact l_O_fewest hW hq hC q (c - 1) 0 (by omega)
theorem s_M_goTogether {I : ZI} {Q : Int → ZI → Prop} {K ks F L : Nat → Int} {c m i : Nat} {fw : Bool} (hW : Wf sh R) (hq : qOk K m c ks F L) (hM : qM I c ks F L) (hi : i + 1 < c) (hx : x2 = if fw = true then 0 else 1) (q : Q (if qG F L fw i = true then 1 else 0) I) : XI d 201 [.inr 137, .inl (i : Int), .inl x2] n sh R I Q := by
  have c9 := hq.1
  have a0 := hM.2 i (by omega)
  have a1 := hM.2 (i + 1) (by omega)
  refine b_M_goTogether_0 hW ?_
  have e1 : ((i : Int) + 1).toNat = i + 1 := by omega
  rw [Int.toNat_natCast, e1, a0.2.1, a0.2.2, a1.2.1, a1.2.2]
  cases fw with
  | true =>
    rw [if_pos rfl] at hx
    rw [if_pos hx]
    refine ⟨by omega, by unfold zr; omega, by omega, ?_⟩
    have eg : qG F L true i = decide (L i < F (i + 1)) := rfl
    rw [eg] at q
    by_cases g1 : F (i + 1) ≤ L i
    · rw [if_pos g1]; rw [if_neg (by simpa using g1)] at q; exact q
    · rw [if_neg g1]; rw [if_pos (by simpa using (by omega : L i < F (i + 1)))] at q; exact q
  | false =>
    rw [if_neg (by decide)] at hx
    rw [if_neg (by omega)]
    refine ⟨by omega, by unfold zr; omega, by omega, ?_⟩
    have eg : qG F L false i = decide (L (i + 1) < F i) := rfl
    rw [eg] at q
    by_cases g1 : F i ≤ L (i + 1)
    · rw [if_pos g1]; rw [if_neg (by simpa using g1)] at q; exact q
    · rw [if_neg g1]; rw [if_pos (by simpa using (by omega : L (i + 1) < F i))] at q; exact q
theorem l_M_runs {I : ZI} {Q : Int → ZI → Prop} {K ks F L : Nat → Int} {c m : Nat} {fw : Bool} (hW : Wf sh R) (hq : qOk K m c ks F L) (hM : qM I c ks F L) (hx : x1 = if fw = true then 0 else 1) (q : Q (1 + qR F L fw (c - 1)) I) : ∀ (f i : Nat), i + 1 + f = c → XIs (d + 2) 202 30 [some (.inr 137), some (.inl x1), some (.inl (1 + qR F L fw i)), some (.inl (i : Int))] [] n sh R I Q
  | 0, i, h => b_M_runs_30 hW (by
    have c9 := hq.1
    rw [hM.1, if_pos (by omega)]
    obtain rfl : c - 1 = i := by omega
    exact ⟨by unfold zr; omega, q⟩)
  | f + 1, i, h => b_M_runs_30 hW (by
    have c9 := hq.1
    have r := qR_range (F := F) (L := L) (fw := fw) i
    have es : qR F L fw (i + 1) = qR F L fw i + if qG F L fw i = true then 0 else 1 := rfl
    have ih := l_M_runs hW hq hM hx q f (i + 1) (by omega)
    rw [es] at ih
    have e3 : (i : Int) + 1 = ((i + 1 : Nat) : Int) := by omega
    have c1 : ∀ y : Int, y = 1 + (qR F L fw i + if qG F L fw i = true then 0 else 1) → XIs (d + 2) 202 30 [some (.inr 137), some (.inl x1), some (.inl y), some (.inl ((i : Int) + 1))] [] n sh R I Q := fun y e => by rw [e, e3]; exact ih
    have tail : (if (if qG F L fw i = true then (1 : Int) else 0) = 0 then (zr (1 + qR F L fw i + 1)) ∧ XIs (d + 2) 202 30 [some (.inr 137), some (.inl x1), some (.inl (1 + qR F L fw i + 1)), some (.inl ((i : Int) + 1))] [] n sh R I Q else (zr (1 + qR F L fw i + 0)) ∧ XIs (d + 2) 202 30 [some (.inr 137), some (.inl x1), some (.inl (1 + qR F L fw i + 0)), some (.inl ((i : Int) + 1))] [] n sh R I Q) := by
      by_cases g1 : qG F L fw i = true
      · rw [if_pos g1, if_neg (by decide)]
        exact ⟨by unfold zr; omega, c1 _ (by rw [if_pos g1]; omega)⟩
      · rw [if_neg g1, if_pos rfl]
        exact ⟨by unfold zr; omega, c1 _ (by rw [if_neg g1]; omega)⟩
    rw [hM.1, if_neg (by omega)]
    refine ⟨by unfold zr; omega, ?_⟩
    cases fw with
    | true =>
      rw [if_pos rfl] at hx
      rw [if_pos (by omega)]
      exact s_M_goTogether (fw := true) hW hq hM (by omega) rfl tail
    | false =>
      rw [if_neg (by decide)] at hx
      rw [if_neg (by omega)]
      exact s_M_goTogether (fw := false) hW hq hM (by omega) rfl tail)
theorem c_runs {I : ZI} (hW : Wf sh R) (h : Rel t I R) : XI (d + 3) 108 [.inr 1, .inl x1] n sh R I (fun v J => XI (d + 2) 202 [.inr 137, .inl x1] n sh R J (fun v2 K => v2 = v ∧ Rel (t + 1) K R)) := by
  obtain ⟨lw, S, H, hl, hR, hL, hb, hE, mE, hH, mH, hv, hg⟩ := h.base hW
  have hin := hv.1.inb hb
  have sm : Rel (t + 1) I R := h.fr (by omega) fun _ _ _ => rfl
  have ok := qOk_all (K := rK I H) (m := H.length)
  have md : ∀ (J : ZI) (fw : Bool), x1 = (if fw = true then 0 else 1) → (∀ a b, ¬ (a = 53 ∧ b = 2) → ¬ a = 54 → ¬ a = 56 → ¬ a = 57 → ¬ a = 14 → J a b = I a b) → XI (d + 2) 202 [.inr 137, .inl x1] n sh R J (fun v2 K => v2 = qN (qKF (rK I H) H.length) (qKL (rK I H) H.length) fw (qKs (rK I H) H.length 20).length ∧ Rel (t + 1) K R) := fun J fw hx hJ => by
    have hx2 : x1 = 0 ∨ x1 = 1 := by cases fw <;> simp at hx <;> omega
    refine b_M_runs_0 hW ?_
    rw [if_neg (by omega), if_neg (by omega)]
    refine s_M_laysRanks (B := I) (g := I 18 7) (LA := I 22) hW hb hin (mE.fr fun a b hab => hJ a b (by omega) (by omega) (by omega) (by omega) (by omega)) (mH.fr fun a b hab => hJ a b (by omega) (by omega) (by omega) (by omega) (by omega)) fun K k1 k2 => ?_
    have fin : Rel (t + 1) K R := h.fr (by omega) fun a b hab => by
      unfold fAll fNow fKept fEnv fTape fBlame fLaw at hab
      rw [k2 a b (by omega) (by omega), hJ a b (by omega) (by omega) (by omega) (by omega) (by omega)]
    rw [k1.1]
    unfold qN
    by_cases g : (qKs (rK I H) H.length 20).length = 0
    · rw [if_pos (by omega)]
      refine b_M_runs_30 hW ?_
      rw [k1.1, if_pos (by omega), if_pos g]
      exact ⟨by unfold zr; omega, rfl, fin⟩
    · rw [if_neg (by omega), if_neg g]
      exact l_M_runs (fw := fw) hW ok k1 hx ⟨rfl, fin⟩ ((qKs (rK I H) H.length 20).length - 1) 0 (by omega)
  refine b_N_runs_0 hW ?_
  by_cases g0 : x1 = 0
  · rw [if_pos g0]
    refine s_N_readRanks (B := I) (g := I 18 7) (LA := I 22) hW hl hb hin hE hH fun J j1 j2 => ?_
    rw [if_neg (not_not_intro g0)]
    exact s_O_fewest (fw := true) hW ok j1 (md J true g0 j2)
  rw [if_neg g0]
  by_cases g1 : x1 = 1
  · rw [if_pos g1]
    refine s_N_readRanks (B := I) (g := I 18 7) (LA := I 22) hW hl hb hin hE hH fun J j1 j2 => ?_
    rw [if_pos g0]
    exact s_O_fewest (fw := false) hW ok j1 (md J false g1 j2)
  rw [if_neg g1]
  refine b_M_runs_0 hW ?_
  by_cases g2 : x1 < 0
  · rw [if_pos g2]; exact ⟨rfl, sm⟩
  · rw [if_neg g2, if_pos (by omega)]; exact ⟨rfl, sm⟩
end RN
