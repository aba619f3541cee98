-- WHAT HOLES GIVE BACK: the model's way
def gSelB (od : Nat → Int) (ix : Nat → Nat) (m e : Nat) : Nat → List Int
  | 0 => []
  | q + 1 => if ix (m - 1 - q) = e then gSelB od ix m e q ++ [od (m - 1 - q)] else gSelB od ix m e q
theorem gSelB_rev {od : Nat → Int} {ix : Nat → Nat} {m e : Nat} : ∀ q, q ≤ m → gSelB od ix m e q ++ (gSel od ix e (m - q)).reverse = (gSel od ix e m).reverse
  | 0, _ => rfl
  | q + 1, h => by
    have ih := gSelB_rev (od := od) (ix := ix) (m := m) (e := e) q (by omega)
    rw [show m - q = (m - 1 - q) + 1 by omega] at ih
    rw [show m - (q + 1) = m - 1 - q by omega, ← ih]
    have u : gSelB od ix m e (q + 1) = if ix (m - 1 - q) = e then gSelB od ix m e q ++ [od (m - 1 - q)] else gSelB od ix m e q := rfl
    rw [u]
    by_cases g : ix (m - 1 - q) = e
    · rw [if_pos g, gSel_step g, List.reverse_append, List.append_assoc]; rfl
    · rw [if_neg g, gSel_skip g]
theorem gSelB_len {od : Nat → Int} {ix : Nat → Nat} {m e q : Nat} (h : q ≤ m) : (gSelB od ix m e q).length ≤ (gSel od ix e m).length := by
  have := congrArg List.length (gSelB_rev (od := od) (ix := ix) (e := e) q h)
  rw [List.length_append, List.length_reverse, List.length_reverse] at this
  omega
theorem gSelB_all {od : Nat → Int} {ix : Nat → Nat} {m e : Nat} : gSelB od ix m e m = (gSel od ix e m).reverse := by
  have := gSelB_rev (od := od) (ix := ix) (e := e) m (Nat.le_refl m)
  rw [Nat.sub_self] at this
  rw [← this]
  exact (List.append_nil _).symm
def pLs (I : ZI) (a : Nat) (L : List Int) : Prop := ∀ i, i < L.length → I a i = L.getD i 0
theorem pLs.push {I : ZI} {a : Nat} {L : List Int} (h : pLs I a L) (x : Int) : pLs (zup I a L.length x) a (L ++ [x]) := fun i hi => by
  rw [List.length_append, List.length_singleton] at hi
  by_cases g : i < L.length
  · rw [gd_l g, zup_ne (by omega)]; exact h i g
  · have e : i = L.length + 0 := by omega
    rw [e, gd_r, zup_eq (by omega)]; rfl
theorem gBack_1 {od : Nat → Int} {ix : Nat → Nat} {m : Nat} {w : Int} : gBack od ix (gPi w) m 1 = gSel od ix 0 m := by
  show [] ++ gSeg od ix (gPi w) m 0 = _
  unfold gSeg gPi
  rw [List.nil_append, decide_eq_false (show ¬ 1 ≤ 0 by omega), Bool.false_and, if_neg (by decide)]
section BM
variable {d n t : Nat} {sh : ZS} {R : ZR} {B : ZI} {x1 x2 x3 x4 x5 : Int} {m hs : Nat} {od : Nat → Int} {ix : Nat → Nat} {w : Int}
def mIn (I : ZI) (m hs : Nat) (w : Int) (od : Nat → Int) (ix : Nat → Nat) : Prop := (I 137 1 = (m : Int) ∧ m ≤ 32 ∧ hs ≤ 9 ∧ I 137 3 = (hs : Int) ∧ I 137 4 = w) ∧ ∀ p, p < m → I 158 p = (ix p : Int) - 1 ∧ ix p ≤ hs ∧ I 142 p = od p
theorem mIn.fr {I J : ZI} (h : mIn I m hs w od ix) (e : ∀ a b, ¬ a = 159 → J a b = I a b) : mIn J m hs w od ix := by
  refine ⟨?_, fun p hp => ?_⟩
  · rw [e _ _ (by omega), e _ _ (by omega), e _ _ (by omega)]; exact h.1
  · rw [e _ _ (by omega), e _ _ (by omega)]; exact h.2 p hp
theorem l_GB_4 {Q : ZI → Prop} (hW : Wf sh R) {u3 u4 : Option AV} : ∀ (c k : Nat) (I : ZI), k + c = m → mIn I m hs w od ix → pLs I 159 (gSel od ix 0 k) → (∀ J : ZI, pLs J 159 (gSel od ix 0 m) → (∀ a b, ¬ a = 159 → J a b = I a b) → XVs (d + 1) 183 49 [some (.inr 137), some (.inl ((gSel od ix 0 m).length : Int)), some (.inl 0), u3, u4] [] n sh R J Q) → XVs (d + 1) 183 4 [some (.inr 137), some (.inl ((gSel od ix 0 k).length : Int)), some (.inl (k : Int)), u3, u4] [] n sh R I Q
  | 0, k, I, h, hI, hp, q => b_M_givesBack_4 hW (by
      have e : k = m := by omega
      subst e
      rw [hI.1.1, if_pos (by omega)]
      exact q I hp fun _ _ _ => rfl)
  | c + 1, k, I, h, hI, hp, q => b_M_givesBack_4 hW (by
    obtain ⟨i1, i2, i3⟩ := hI.2 k (by omega)
    have i0 := hI.1
    have sl : (gSel od ix 0 k).length ≤ k := by
      have h1 := gLt_len (od := od) (ix := ix) (e := 0) (m := k)
      have h2 := gLt_le (od := od) (ix := ix) (e := 0 + 1) k
      omega
    rw [hI.1.1, if_neg (by omega), Int.toNat_natCast, Int.toNat_natCast, i1, i3]
    refine ⟨by omega, ?_⟩
    by_cases g : ix k = 0
    · rw [if_pos (by omega)]
      refine ⟨by omega, by unfold zr; omega, by unfold zr; omega, ?_⟩
      have := l_GB_4 (Q := Q) hW (u3 := u3) (u4 := u4) c (k + 1) (zup I 159 (gSel od ix 0 k).length (od k)) (by omega) (hI.fr fun a b hab => zup_ne (by omega)) (by rw [gSel_step g]; exact hp.push _) fun J j1 j2 => q J j1 fun a b hab => by rw [j2 a b hab, zup_ne (by omega)]
      rw [gSel_step g, List.length_append, List.length_singleton, Int.natCast_add, Int.natCast_add] at this
      exact this
    · rw [if_neg (by omega)]
      refine ⟨by unfold zr; omega, ?_⟩
      have := l_GB_4 (Q := Q) hW (u3 := u3) (u4 := u4) c (k + 1) I (by omega) hI (by rw [gSel_skip g]; exact hp) q
      rw [gSel_skip g, Int.natCast_add] at this
      exact this)
/-- the inner loop of a hole h: what has come so far -/
def gIn (od : Nat → Int) (ix : Nat → Nat) (pi : Nat → Bool) (m e q : Nat) : List Int := if pi e = true then gSelB od ix m e q else gSel od ix e q
theorem gIn_len {pi : Nat → Bool} {e q : Nat} (h : q ≤ m) : (gBack od ix pi m e ++ gIn od ix pi m e q).length ≤ m := by
  have h1 := gLt_len (od := od) (ix := ix) (e := e) (m := m)
  have h2 := gLt_le (od := od) (ix := ix) (e := e + 1) m
  have h3 := gBack_len (od := od) (ix := ix) (pi := pi) (m := m) (e := e)
  have h4 := gSel_mono (od := od) (ix := ix) (e := e) (p := q) (m - q)
  rw [show q + (m - q) = m by omega] at h4
  have h5 := gSelB_len (od := od) (ix := ix) (e := e) h
  rw [List.length_append]
  unfold gIn
  split <;> omega
theorem gIn_all {pi : Nat → Bool} {e : Nat} : gBack od ix pi m e ++ gIn od ix pi m e m = gBack od ix pi m (e + 1) := by
  show _ = gBack od ix pi m e ++ gSeg od ix pi m e
  unfold gIn gSeg
  rw [gSelB_all]
theorem l_GB_59 {Q : ZI → Prop} (hW : Wf sh R) {h : Nat} (hh : h < hs) : ∀ (c q : Nat) (I : ZI) (u : Option AV), q + c = m → mIn I m hs w od ix → pLs I 159 (gBack od ix (gPi w) m (h + 1) ++ gIn od ix (gPi w) m (h + 1) q) → (∀ (J : ZI) (u3 u4 : Option AV), pLs J 159 (gBack od ix (gPi w) m (h + 1 + 1)) → (∀ a b, ¬ a = 159 → J a b = I a b) → XVs (d + 1) 183 49 [some (.inr 137), some (.inl ((gBack od ix (gPi w) m (h + 1 + 1)).length : Int)), some (.inl ((h + 1 : Nat) : Int)), u3, u4] [] n sh R J Q) → XVs (d + 1) 183 59 [some (.inr 137), some (.inl ((gBack od ix (gPi w) m (h + 1) ++ gIn od ix (gPi w) m (h + 1) q).length : Int)), some (.inl (h : Int)), some (.inl (q : Int)), u] [] n sh R I Q
  | 0, q, I, u, hq, hI, hp, k => b_M_givesBack_59 hW (by
      have e : q = m := by omega
      have i0 := hI.1
      subst e
      rw [hI.1.1, if_pos (by omega)]
      rw [gIn_all] at hp ⊢
      exact ⟨by unfold zr; omega, k I _ _ hp fun _ _ _ => rfl⟩)
  | c + 1, q, I, u, hq, hI, hp, k => b_M_givesBack_59 hW (by
    have i0 := hI.1
    have ln := gIn_len (od := od) (ix := ix) (pi := gPi w) (m := m) (e := h + 1) (q := q + 1) (by omega)
    have eh : ((h + 1 : Nat) : Int) - 1 = (h : Int) := by omega
    have z01 := zand_1 (zshr w (h : Int))
    rw [hI.1.1, if_neg (by omega), hI.1.2.2.2.2]
    -- one letter more, or none
    have add : ∀ (j : Nat) (u : Option AV), j < m → gIn od ix (gPi w) m (h + 1) (q + 1) = (if ix j = h + 1 then gIn od ix (gPi w) m (h + 1) q ++ [od j] else gIn od ix (gPi w) m (h + 1) q) → (if I 158 j = (h : Int) then (0 ≤ ((gBack od ix (gPi w) m (h + 1) ++ gIn od ix (gPi w) m (h + 1) q).length : Int) ∧ ((gBack od ix (gPi w) m (h + 1) ++ gIn od ix (gPi w) m (h + 1) q).length : Int) < 32) ∧ (zr (((gBack od ix (gPi w) m (h + 1) ++ gIn od ix (gPi w) m (h + 1) q).length : Int) + 1)) ∧ (zr ((q : Int) + 1)) ∧ XVs (d + 1) 183 59 [some (.inr 137), some (.inl (((gBack od ix (gPi w) m (h + 1) ++ gIn od ix (gPi w) m (h + 1) q).length : Int) + 1)), some (.inl (h : Int)), some (.inl ((q : Int) + 1)), u] [] n sh R (zup I 159 (((gBack od ix (gPi w) m (h + 1) ++ gIn od ix (gPi w) m (h + 1) q).length : Int)).toNat (I 142 j)) Q else (zr ((q : Int) + 1)) ∧ XVs (d + 1) 183 59 [some (.inr 137), some (.inl ((gBack od ix (gPi w) m (h + 1) ++ gIn od ix (gPi w) m (h + 1) q).length : Int)), some (.inl (h : Int)), some (.inl ((q : Int) + 1)), u] [] n sh R I Q) := fun j u hj e => by
      obtain ⟨i1, i2, i3⟩ := hI.2 j hj
      rw [i1, i3, Int.toNat_natCast]
      by_cases g : ix j = h + 1
      · rw [if_pos g] at e
        rw [e, ← List.append_assoc, List.length_append, List.length_singleton] at ln
        rw [if_pos (by omega)]
        refine ⟨by omega, by unfold zr; omega, by unfold zr; omega, ?_⟩
        have := l_GB_59 (Q := Q) hW hh c (q + 1) (zup I 159 (gBack od ix (gPi w) m (h + 1) ++ gIn od ix (gPi w) m (h + 1) q).length (od j)) u (by omega) (hI.fr fun a b hab => zup_ne (by omega)) (by rw [e, ← List.append_assoc]; exact hp.push _) fun J u3 u4 j1 j2 => k J u3 u4 j1 fun a b hab => by rw [j2 a b hab, zup_ne (by omega)]
        rw [e, ← List.append_assoc, List.length_append (bs := [od j]), List.length_singleton, Int.natCast_add _ 1, Int.natCast_add q 1] at this
        exact this
      · rw [if_neg g] at e
        rw [if_neg (by omega)]
        refine ⟨by unfold zr; omega, ?_⟩
        have := l_GB_59 (Q := Q) hW hh c (q + 1) I u (by omega) hI (by rw [e]; exact hp) k
        rw [e, Int.natCast_add q 1] at this
        exact this
    by_cases g : zand (zshr w (h : Int)) 1 = 1
    · have gp : gPi w (h + 1) = true := by
        unfold gPi
        rw [eh, decide_eq_true g, decide_eq_true (show 1 ≤ h + 1 by omega)]; rfl
      rw [if_neg (not_not_intro g)]
      have ej : (m : Int) - 1 - (q : Int) = ((m - 1 - q : Nat) : Int) := by omega
      rw [ej, Int.toNat_natCast (m - 1 - q)]
      refine ⟨by unfold zr; omega, by unfold zr; omega, by omega, add (m - 1 - q) _ (by omega) ?_⟩
      unfold gIn
      rw [if_pos gp, if_pos gp]; rfl
    · have gp : ¬ gPi w (h + 1) = true := by
        unfold gPi
        rw [eh, decide_eq_false g, Bool.and_false]; decide
      rw [if_pos g, Int.toNat_natCast q]
      refine ⟨by omega, add q _ (by omega) ?_⟩
      unfold gIn
      rw [if_neg gp, if_neg gp]; rfl)
theorem l_GB_49 {Q : ZI → Prop} (hW : Wf sh R) : ∀ (c h : Nat) (I : ZI) (u3 u4 : Option AV), h + c = hs → mIn I m hs w od ix → pLs I 159 (gBack od ix (gPi w) m (h + 1)) → (∀ (J : ZI) (u3 u4 : Option AV), pLs J 159 (gBack od ix (gPi w) m (hs + 1)) → (∀ a b, ¬ a = 159 → J a b = I a b) → XVs (d + 1) 183 137 [some (.inr 137), some (.inl ((gBack od ix (gPi w) m (hs + 1)).length : Int)), some (.inl 0), u3, u4] [] n sh R J Q) → XVs (d + 1) 183 49 [some (.inr 137), some (.inl ((gBack od ix (gPi w) m (h + 1)).length : Int)), some (.inl (h : Int)), u3, u4] [] n sh R I Q
  | 0, h, I, u3, u4, hq, hI, hp, k => b_M_givesBack_49 hW (by
      have e : h = hs := by omega
      subst e
      rw [hI.1.2.2.2.1, if_pos (by omega)]
      exact k I _ _ hp fun _ _ _ => rfl)
  | c + 1, h, I, u3, u4, hq, hI, hp, k => b_M_givesBack_49 hW (by
    rw [hI.1.2.2.2.1, if_neg (by omega)]
    have e0 : gIn od ix (gPi w) m (h + 1) 0 = [] := by unfold gIn; split <;> rfl
    have := l_GB_59 (Q := Q) (d := d) (n := n) hW (h := h) (hs := hs) (by omega) m 0 I u4 (by omega) hI (by rw [e0, List.append_nil]; exact hp) fun J u3 u4 j1 j2 => l_GB_49 hW c (h + 1) J u3 u4 (by omega) (hI.fr j2) j1 fun K u3 u4 k1 k2 => k K u3 u4 k1 fun a b hab => by rw [k2 a b hab, j2 a b hab]
    rw [e0, List.append_nil] at this
    exact this)
theorem l_GB_137 {Q : ZI → Prop} (hW : Wf sh R) {L : List Int} (hL : L.length ≤ 32) {u3 u4 : Option AV} : ∀ (c k : Nat) (I : ZI), k + c = L.length → pLs I 159 L → (∀ i, i < k → I 142 i = L.getD i 0) → (∀ J : ZI, pLs J 142 L → (∀ a b, ¬ (a = 142 ∧ b < L.length) → J a b = I a b) → Q J) → XVs (d + 1) 183 137 [some (.inr 137), some (.inl (L.length : Int)), some (.inl (k : Int)), u3, u4] [] n sh R I Q
  | 0, k, I, h, hp, hi, q => b_M_givesBack_137 hW (by rw [if_pos (by omega)]; exact q I (fun i h2 => hi i (by omega)) fun _ _ _ => rfl)
  | c + 1, k, I, h, hp, hi, q => b_M_givesBack_137 hW (by
    rw [if_neg (by omega), Int.toNat_natCast, hp k (by omega)]
    refine ⟨by omega, by unfold zr; omega, l_GB_137 hW hL c (k + 1) _ (by omega) (fun i h2 => ?_) (fun i h2 => ?_) fun J j1 j2 => q J j1 fun a b hab => by rw [j2 a b hab, zup_ne (by omega)]⟩
    · rw [zup_ne (by omega)]; exact hp i h2
    · by_cases e : i = k
      · rw [zup_eq (by omega), e]
      · rw [zup_ne (by omega)]; exact hi i (by omega))
theorem s_M_givesBack {I : ZI} {Q : ZI → Prop} (hW : Wf sh R) (hI : mIn I m hs w od ix) (q : ∀ J : ZI, pLs J 142 (gBack od ix (gPi w) m (hs + 1)) → (∀ a b, ¬ (a = 142 ∧ b < m) → ¬ a = 159 → J a b = I a b) → Q J) : XV (d + 1) 183 [.inr 137] n sh R I Q := by
  have i0 := hI.1
  have ln := gLt_le (od := od) (ix := ix) (e := hs + 1) m
  refine b_M_givesBack_0 hW (l_GB_4 hW m 0 I (by omega) hI (fun i hi => absurd hi (Nat.not_lt_zero i)) fun J j1 j2 => ?_)
  have fin := l_GB_49 (Q := Q) (d := d) (n := n) (hs := hs) (w := w) (m := m) (od := od) (ix := ix) hW hs 0 J none none (by omega) (hI.fr j2) (by rw [gBack_1]; exact j1) fun K u3 u4 k1 k2 => l_GB_137 hW (by rw [gBack_len]; omega) (gBack od ix (gPi w) m (hs + 1)).length 0 K (by omega) k1 (fun i hi => by omega) fun M m1 m2 => q M m1 fun a b g1 g2 => by rw [m2 a b (by have := gBack_len (od := od) (ix := ix) (pi := gPi w) (m := m) (e := hs + 1); omega), k2 a b g2, j2 a b g2]
  rw [gBack_1] at fin
  exact fin
end BM
