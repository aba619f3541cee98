-- WHAT HOLES GIVE BACK
theorem gd_l {l t : List Int} {i : Nat} (h : i < l.length) : (l ++ t).getD i 0 = l.getD i 0 := by
  rw [List.getD_eq_getElem?_getD, List.getD_eq_getElem?_getD, List.getElem?_append_left h]
theorem gd_r {l t : List Int} (i : Nat) : (l ++ t).getD (l.length + i) 0 = t.getD i 0 := by
  rw [List.getD_eq_getElem?_getD, List.getD_eq_getElem?_getD, List.getElem?_append_right (by omega), Nat.add_sub_cancel_left]
theorem gd_last {l : List Int} {x : Int} : (l ++ [x]).getD l.length 0 = x := gd_r (l := l) (t := [x]) 0
theorem gd_rev {l : List Int} {i : Nat} (h : i < l.length) : l.reverse.getD i 0 = l.getD (l.length - 1 - i) 0 := by
  rw [List.getD_eq_getElem?_getD, List.getD_eq_getElem?_getD, List.getElem?_reverse h]
def gSel (od : Nat → Int) (ix : Nat → Nat) (e : Nat) : Nat → List Int
  | 0 => []
  | p + 1 => if ix p = e then gSel od ix e p ++ [od p] else gSel od ix e p
def gLt (od : Nat → Int) (ix : Nat → Nat) (e : Nat) : Nat → List Int
  | 0 => []
  | p + 1 => if ix p < e then gLt od ix e p ++ [od p] else gLt od ix e p
def gSeg (od : Nat → Int) (ix : Nat → Nat) (pi : Nat → Bool) (m e : Nat) : List Int := if pi e = true then (gSel od ix e m).reverse else gSel od ix e m
def gBack (od : Nat → Int) (ix : Nat → Nat) (pi : Nat → Bool) (m : Nat) : Nat → List Int
  | 0 => []
  | e + 1 => gBack od ix pi m e ++ gSeg od ix pi m e
theorem gLt_0 {od : Nat → Int} {ix : Nat → Nat} : ∀ m, gLt od ix 0 m = []
  | 0 => rfl
  | m + 1 => by unfold gLt; rw [if_neg (by omega), gLt_0 m]
theorem gLt_succ {od : Nat → Int} {ix : Nat → Nat} {e : Nat} : ∀ m, (gLt od ix (e + 1) m).Perm (gLt od ix e m ++ gSel od ix e m)
  | 0 => List.Perm.refl _
  | m + 1 => by
    have ih := gLt_succ (od := od) (ix := ix) (e := e) m
    unfold gLt gSel
    by_cases h1 : ix m < e
    · rw [if_pos (by omega), if_pos h1, if_neg (by omega)]
      refine (ih.append_right [od m]).trans ?_
      rw [List.append_assoc, List.append_assoc]
      exact List.perm_append_comm.append_left _
    · by_cases h2 : ix m = e
      · rw [if_pos (by omega), if_neg h1, if_pos h2]
        refine (ih.append_right [od m]).trans ?_
        rw [List.append_assoc]
      · rw [if_neg (by omega), if_neg h1, if_neg h2]; exact ih
theorem gBack_perm {od : Nat → Int} {ix : Nat → Nat} {pi : Nat → Bool} {m : Nat} : ∀ e, (gBack od ix pi m e).Perm (gLt od ix e m)
  | 0 => by rw [gLt_0]; exact List.Perm.refl _
  | e + 1 => by
    refine List.Perm.trans ?_ (gLt_succ m).symm
    unfold gBack
    refine (gBack_perm e).append ?_
    unfold gSeg
    split
    · exact List.reverse_perm _
    · exact List.Perm.refl _
theorem gLt_le {od : Nat → Int} {ix : Nat → Nat} {e : Nat} : ∀ m, (gLt od ix e m).length ≤ m
  | 0 => Nat.le_refl 0
  | m + 1 => by
    have := gLt_le (od := od) (ix := ix) (e := e) m
    unfold gLt
    split
    · rw [List.length_append, List.length_singleton]; omega
    · omega
theorem gLt_len {od : Nat → Int} {ix : Nat → Nat} {e m : Nat} : (gLt od ix (e + 1) m).length = (gLt od ix e m).length + (gSel od ix e m).length := by
  rw [(gLt_succ m).length_eq, List.length_append]
theorem gLt_mono {od : Nat → Int} {ix : Nat → Nat} {e m : Nat} : ∀ k, (gLt od ix e m).length ≤ (gLt od ix (e + k) m).length
  | 0 => Nat.le_refl _
  | k + 1 => by
    have := gLt_mono (od := od) (ix := ix) (e := e) (m := m) k
    rw [show e + (k + 1) = (e + k) + 1 by omega, gLt_len]; omega
theorem gBack_len {od : Nat → Int} {ix : Nat → Nat} {pi : Nat → Bool} {m e : Nat} : (gBack od ix pi m e).length = (gLt od ix e m).length := (gBack_perm e).length_eq
theorem gSel_step {od : Nat → Int} {ix : Nat → Nat} {e p : Nat} (h : ix p = e) : gSel od ix e (p + 1) = gSel od ix e p ++ [od p] := if_pos h
theorem gSel_skip {od : Nat → Int} {ix : Nat → Nat} {e p : Nat} (h : ¬ ix p = e) : gSel od ix e (p + 1) = gSel od ix e p := if_neg h
theorem gSel_mono {od : Nat → Int} {ix : Nat → Nat} {e p : Nat} : ∀ k, (gSel od ix e p).length ≤ (gSel od ix e (p + k)).length
  | 0 => Nat.le_refl _
  | k + 1 => by
    have := gSel_mono (od := od) (ix := ix) (e := e) (p := p) k
    rw [show p + (k + 1) = (p + k) + 1 by omega]
    by_cases g : ix (p + k) = e
    · rw [gSel_step g, List.length_append, List.length_singleton]; omega
    · rw [gSel_skip g]; exact this
theorem gLt_all {H : List Int} {ix : Nat → Nat} {e : Nat} : ∀ m, m ≤ H.length → (∀ p, p < m → ix p < e) → gLt (fun p => H.getD p 0) ix e m = H.take m
  | 0, _, _ => by rw [List.take_zero]; rfl
  | m + 1, h, hp => by
    have ih := gLt_all (H := H) (ix := ix) (e := e) m (by omega) fun p hp2 => hp p (by omega)
    unfold gLt
    rw [if_pos (hp m (by omega)), ih, List.take_succ]
    congr 1
    rw [List.getD_eq_getElem?_getD, List.getElem?_eq_getElem (by omega)]; rfl
/-- the heap that the holes give back is the heap in another order -/
theorem gBack_H {H : List Int} {ix : Nat → Nat} {pi : Nat → Bool} {e : Nat} (h : ∀ p, p < H.length → ix p < e) : (gBack (fun p => H.getD p 0) ix pi H.length e).Perm H := by
  refine (gBack_perm e).trans ?_
  rw [gLt_all H.length (Nat.le_refl _) h, List.take_length]
def gPi (w : Int) (e : Nat) : Bool := decide (1 ≤ e) && decide (zand (zshr w ((e : Int) - 1)) 1 = 1)
/-- where the i-th letter of a hole comes to lie -/
def gAt (od : Nat → Int) (ix : Nat → Nat) (pi : Nat → Bool) (m e i : Nat) : Int := if pi e = true then ((gLt od ix e m).length : Int) + (gSel od ix e m).length - 1 - i else ((gLt od ix e m).length : Int) + i
theorem gAt_range {od : Nat → Int} {ix : Nat → Nat} {pi : Nat → Bool} {m e i : Nat} (h : i < (gSel od ix e m).length) : ((gLt od ix e m).length : Int) ≤ gAt od ix pi m e i ∧ gAt od ix pi m e i < (gLt od ix (e + 1) m).length ∧ gAt od ix pi m e i < m := by
  have h1 := gLt_len (od := od) (ix := ix) (e := e) (m := m)
  have h2 := gLt_le (od := od) (ix := ix) (e := e + 1) m
  unfold gAt
  split <;> omega
theorem gAt_inj {od : Nat → Int} {ix : Nat → Nat} {pi : Nat → Bool} {m e i e2 i2 : Nat} (h : i < (gSel od ix e m).length) (h2 : i2 < (gSel od ix e2 m).length) (hq : gAt od ix pi m e i = gAt od ix pi m e2 i2) : e = e2 ∧ i = i2 := by
  have r := gAt_range (pi := pi) h
  have r2 := gAt_range (pi := pi) h2
  rcases Nat.lt_trichotomy e e2 with g | g | g
  · have := gLt_mono (od := od) (ix := ix) (e := e + 1) (m := m) (e2 - (e + 1))
    rw [show e + 1 + (e2 - (e + 1)) = e2 by omega] at this
    omega
  · subst g
    unfold gAt at hq
    split at hq
    · exact ⟨rfl, by omega⟩
    · exact ⟨rfl, by omega⟩
  · have := gLt_mono (od := od) (ix := ix) (e := e2 + 1) (m := m) (e - (e2 + 1))
    rw [show e2 + 1 + (e - (e2 + 1)) = e by omega] at this
    omega
/-- cells that hold what each hole's letters are to be at hold what the holes give back -/
theorem gBack_at {od : Nat → Int} {ix : Nat → Nat} {pi : Nat → Bool} {m N : Nat} {T : Nat → Int} (h : ∀ e, e < N → ∀ i, i < (gSel od ix e m).length → T (gAt od ix pi m e i).toNat = (gSel od ix e m).getD i 0) : ∀ e, e ≤ N → ∀ j, j < (gBack od ix pi m e).length → T j = (gBack od ix pi m e).getD j 0
  | 0, _, j, hj => absurd hj (Nat.not_lt_zero j)
  | e + 1, he, j, hj => by
    unfold gBack at hj ⊢
    by_cases g : j < (gBack od ix pi m e).length
    · rw [gd_l g]; exact gBack_at h e (by omega) j g
    · rw [List.length_append] at hj
      obtain ⟨i, hi⟩ : ∃ i, j = (gBack od ix pi m e).length + i := ⟨j - (gBack od ix pi m e).length, by omega⟩
      rw [hi, gd_r]
      have hl := gBack_len (od := od) (ix := ix) (pi := pi) (m := m) (e := e)
      unfold gSeg at hj ⊢
      by_cases gp : pi e = true
      · rw [if_pos gp, List.length_reverse] at hj
        rw [if_pos gp, gd_rev (by omega)]
        have := h e (by omega) ((gSel od ix e m).length - 1 - i) (by omega)
        unfold gAt at this
        rw [if_pos gp] at this
        rw [← this]
        congr 1
        omega
      · rw [if_neg gp] at hj
        rw [if_neg gp]
        have := h e (by omega) i (by omega)
        unfold gAt at this
        rw [if_neg gp] at this
        rw [← this]
        congr 1
        omega
section BK
variable {d n t : Nat} {sh : ZS} {R : ZR} {B : ZI} {x1 x2 x3 x4 x5 : Int} {o m hs : Nat} {od : Nat → Int} {ix : Nat → Nat} {w : Int}
theorem zFill_eq {I : ZI} {a ln j : Nat} {v : Int} : ∀ c, j + c = ln → ∀ {Q : ZI → Prop}, sh a = (0, ln) → ln ≤ 100000 → Q (fun o k => if o = a ∧ j ≤ k ∧ k < ln then v else I o k) → XVs d 251 5 [some (.inr a), some (.inl v), some (.inl (j : Int)), some (.inl (ln : Int))] [] n sh R I Q := by
  intro c
  induction c generalizing j I with
  | zero =>
    intro h Q hs h9 q
    unfold XVs
    refine x_iload_n d251_5 rfl ?_
    refine x_iload_n d251_6 rfl ?_
    refine x_if2 (pc2 := 20) d251_7 rfl (fun c => ?_) (fun c => ?_)
    · refine x_vret d251_20 gR_251 ⟨_, rfl, rfl, ?_⟩
      have e : (fun o k => if o = a ∧ j ≤ k ∧ k < ln then v else I o k) = I := by
        funext o k; rw [if_neg (by omega)]
      rw [e] at q; exact q
    · exact absurd (show (ln : Int) ≤ (j : Int) by omega) c
  | succ c ih =>
    intro h Q hs h9 q
    unfold XVs
    refine x_iload_n d251_5 rfl ?_
    refine x_iload_n d251_6 rfl ?_
    refine x_if2 (pc2 := 20) d251_7 rfl (fun c => ?_) (fun c => ?_)
    · exact absurd (show (ln : Int) ≤ (j : Int) from c) (by omega)
    · refine x_aload_n d251_10 rfl ?_
      refine x_iload_n d251_11 rfl ?_
      refine x_iload_n d251_12 rfl ?_
      refine x_iast d251_13 hs (by omega) (by omega) ?_
      refine x_iinc (ls2 := [some (.inr a), some (.inl v), some (.inl ((j : Int) + 1)), some (.inl (ln : Int))]) d251_14 rfl (by unfold zr; omega) rfl ?_
      refine x_goto (pc2 := 5) d251_17 rfl ?_
      rw [Int.toNat_natCast]
      refine ih (j := j + 1) (by omega) (Q := Q) hs h9 ?_
      have e : (fun o k => if o = a ∧ j + 1 ≤ k ∧ k < ln then v else (zup I a j v) o k) = (fun o k => if o = a ∧ j ≤ k ∧ k < ln then v else I o k) := by
        funext o k
        by_cases g : o = a ∧ j ≤ k ∧ k < ln
        · rw [if_pos g]
          by_cases g2 : k = j
          · rw [if_neg (by omega), zup_eq (by omega)]
          · rw [if_pos (by omega)]
        · rw [if_neg g, if_neg (by omega), zup_ne (by omega)]
      rw [e]; exact q
theorem s_fill {I : ZI} {a ln : Nat} {v : Int} {Q : ZI → Prop} (hs : sh a = (0, ln)) (h9 : ln ≤ 100000) (q : ∀ J : ZI, (∀ k, k < ln → J a k = v) → (∀ o k, ¬ o = a → J o k = I o k) → Q J) : XV d 251 [.inr a, .inl v] n sh R I Q := by
  refine XV.of (ls := [some (.inr a), some (.inl v), none, none]) (zloc_eq gY_251.2.2.1) ?_
  unfold XVs
  refine x_iconst d251_0 rfl ?_
  refine x_istore_n (ls2 := [some (.inr a), some (.inl v), some (.inl 0), none]) d251_1 rfl rfl ?_
  refine x_aload_n d251_2 rfl ?_
  refine x_alen d251_3 hs (by decide) ?_
  refine x_istore_n (ls2 := [some (.inr a), some (.inl v), some (.inl 0), some (.inl (ln : Int))]) d251_4 rfl rfl ?_
  refine zFill_eq (j := 0) ln (by omega) (Q := Q) hs h9 (q _ (fun k hk => if_pos (by omega)) (fun o k h => if_neg (by omega)))
/-- letters at o, thrown into holes at 44: what the class's counting needs -/
def kIn (I : ZI) (o m hs : Nat) (od : Nat → Int) (ix : Nat → Nat) : Prop := (I o 6 = (m : Int) ∧ m ≤ 32 ∧ hs ≤ 9 ∧ I 15 0 = (hs : Int)) ∧ ∀ p, p < m → I 44 p = (ix p : Int) - 1 ∧ ix p ≤ hs ∧ I (o + 5) p = od p
theorem kIn.fr {I J : ZI} (ho : sPl o) (h : kIn I o m hs od ix) (e : ∀ a b, ¬ a = 16 → ¬ a = 17 → J a b = I a b) : kIn J o m hs od ix := by
  unfold sPl at ho
  refine ⟨?_, fun p hp => ?_⟩
  · rw [e _ _ (by omega) (by omega), e _ _ (by omega) (by omega)]; exact h.1
  · rw [e _ _ (by omega) (by omega), e _ _ (by omega) (by omega)]; exact h.2 p hp
theorem l_K_1 {Q : ZI → Prop} (hW : Wf sh R) (hS : St sh R o) (ho : sPl o) {u4 u5 : Option AV} : ∀ (c p : Nat) (I : ZI), p + c = m → kIn I o m hs od ix → (∀ e, e ≤ hs → I 16 e = (gSel od ix e p).length) → (∀ J : ZI, (∀ e, e ≤ hs → J 16 e = (gSel od ix e m).length) → (∀ a b, ¬ a = 16 → J a b = I a b) → XVs (d + 1) 42 43 [some (.inr 15), some (.inr o), some (.inr 44), some (.inl 0), some (.inl (-1)), u5] [] n sh R J Q) → XVs (d + 1) 42 10 [some (.inr 15), some (.inr o), some (.inr 44), some (.inl (p : Int)), u4, u5] [] n sh R I Q
  | 0, p, I, h, hI, hc, q => b_K_giveBack_10 hW hS (by
      rw [hI.1.1, if_pos (by omega)]
      have e : p = m := by omega
      rw [e] at hc
      exact q I hc fun _ _ _ => rfl)
  | c + 1, p, I, h, hI, hc, q => b_K_giveBack_10 hW hS (by
    obtain ⟨i1, i2, i3⟩ := hI.2 p (by omega)
    have i0 := hI.1
    have e0 : ((ix p : Int) - 1 + 1) = (ix p : Int) := by omega
    have sm := gSel_mono (od := od) (ix := ix) (e := ix p) (p := p) 0
    have sl : (gSel od ix (ix p) p).length ≤ p := by
      have h1 := gLt_len (od := od) (ix := ix) (e := ix p) (m := p)
      have h2 := gLt_le (od := od) (ix := ix) (e := ix p + 1) p
      omega
    rw [hI.1.1, if_neg (by omega), Int.toNat_natCast, i1, e0, Int.toNat_natCast, hc _ i2]
    refine ⟨by omega, by unfold zr; omega, by omega, by unfold zr; omega, by unfold zr; omega, ?_⟩
    refine l_K_1 hW hS ho c (p + 1) _ (by omega) (hI.fr ho fun a b h1 h2 => zup_ne (by omega)) (fun e he => ?_) fun J j1 j2 => q J j1 fun a b hab => by rw [j2 a b hab, zup_ne (by omega)]
    by_cases g : ix p = e
    · rw [gSel_step g, zup_eq (by omega), List.length_append, List.length_singleton, ← g]; omega
    · rw [gSel_skip g, zup_ne (by omega)]; exact hc e he)
theorem l_K_2 {Q : ZI → Prop} (hW : Wf sh R) (hS : St sh R o) (ho : sPl o) : ∀ (c e : Nat) (I : ZI) (u5 : Option AV), e + c = hs + 1 → kIn I o m hs od ix → I 15 1 = w → (∀ f, f < e → I 16 f = gAt od ix (gPi w) m f 0) → (∀ f, e ≤ f → f ≤ hs → I 16 f = (gSel od ix f m).length) → (∀ (J : ZI) (u4 u5 : Option AV), (∀ f, f ≤ hs → J 16 f = gAt od ix (gPi w) m f 0) → (∀ a b, ¬ a = 16 → J a b = I a b) → XVs (d + 1) 42 105 [some (.inr 15), some (.inr o), some (.inr 44), u4, some (.inl 0), u5] [] n sh R J Q) → XVs (d + 1) 42 43 [some (.inr 15), some (.inr o), some (.inr 44), some (.inl ((gLt od ix e m).length : Int)), some (.inl ((e : Int) - 1)), u5] [] n sh R I Q
  | 0, e, I, u5, h, hI, hw, h1, h2, q => b_K_giveBack_43 hW hS (by
      have i0 := hI.1
      rw [hI.1.2.2.2, if_pos (by omega)]
      exact q I _ _ (fun f hf => h1 f (by omega)) fun _ _ _ => rfl)
  | c + 1, e, I, u5, h, hI, hw, h1, h2, q => b_K_giveBack_43 hW hS (by
    have i0 := hI.1
    have e0 : ((e : Int) - 1 + 1) = (e : Int) := by omega
    have e2 : (e : Int) = ((e + 1 : Nat) : Int) - 1 := by omega
    have l1 := gLt_len (od := od) (ix := ix) (e := e) (m := m)
    have l2 := gLt_le (od := od) (ix := ix) (e := e + 1) m
    have e3 : ((gLt od ix e m).length : Int) + (gSel od ix e m).length = ((gLt od ix (e + 1) m).length : Int) := by omega
    rw [hI.1.2.2.2, if_neg (by omega), e0, Int.toNat_natCast, h2 e (by omega) (by omega), hw, e3]
    refine ⟨by unfold zr; omega, by omega, ?_⟩
    have go : ∀ v : Int, v = gAt od ix (gPi w) m e 0 → XVs (d + 1) 42 43 [some (.inr 15), some (.inr o), some (.inr 44), some (.inl ((gLt od ix (e + 1) m).length : Int)), some (.inl (e : Int)), some (.inl ((gSel od ix e m).length : Int))] [] n sh R (zup I 16 e v) Q := fun v hv => by
      rw [e2]
      refine l_K_2 hW hS ho c (e + 1) _ _ (by omega) (hI.fr ho fun a b h1 h2 => zup_ne (by omega)) (by rw [zup_ne (by omega)]; exact hw) (fun f hf => ?_) (fun f f1 f2 => ?_) fun J u4 u5 j1 j2 => q J u4 u5 j1 fun a b hab => by rw [j2 a b hab, zup_ne (by omega)]
      · by_cases g : f = e
        · rw [zup_eq (by omega), hv, g]
        · rw [zup_ne (by omega)]; exact h1 f (by omega)
      · rw [zup_ne (by omega)]; exact h2 f (by omega) f2
    by_cases g : (e : Int) - 1 < 0
    · rw [if_pos g]
      refine ⟨by unfold zr; omega, go _ ?_⟩
      unfold gAt gPi
      rw [decide_eq_false (show ¬ 1 ≤ e by omega), Bool.false_and, if_neg (by decide)]; omega
    · rw [if_neg g]
      have z01 := zand_1 (zshr w ((e : Int) - 1))
      by_cases g2 : zand (zshr w ((e : Int) - 1)) 1 = 0
      · rw [if_pos g2]
        refine ⟨by unfold zr; omega, go _ ?_⟩
        unfold gAt gPi
        rw [decide_eq_false (show ¬ zand (zshr w ((e : Int) - 1)) 1 = 1 by omega), Bool.and_false, if_neg (by decide)]; omega
      · rw [if_neg g2]
        refine ⟨by unfold zr; omega, by unfold zr; omega, go _ ?_⟩
        unfold gAt gPi
        rw [decide_eq_true (show zand (zshr w ((e : Int) - 1)) 1 = 1 by omega), decide_eq_true (show 1 ≤ e by omega), Bool.and_true, if_pos rfl]; omega)
theorem l_K_3 {Q : ZI → Prop} (hW : Wf sh R) (hS : St sh R o) (ho : sPl o) {u3 : Option AV} : ∀ (c p : Nat) (I : ZI) (u5 : Option AV), p + c = m → kIn I o m hs od ix → I 15 1 = w → (∀ f, f ≤ hs → I 16 f = gAt od ix (gPi w) m f (gSel od ix f p).length) → (∀ f, f ≤ hs → ∀ i, i < (gSel od ix f p).length → I 17 (gAt od ix (gPi w) m f i).toNat = (gSel od ix f p).getD i 0) → (∀ J : ZI, (∀ j, j < (gBack od ix (gPi w) m (hs + 1)).length → j < m → J (o + 5) j = (gBack od ix (gPi w) m (hs + 1)).getD j 0) → (∀ a b, ¬ a = 16 → ¬ a = 17 → ¬ (a = o + 5 ∧ b < m) → J a b = I a b) → Q J) → XVs (d + 1) 42 105 [some (.inr 15), some (.inr o), some (.inr 44), u3, some (.inl (p : Int)), u5] [] n sh R I Q
  | 0, p, I, u5, h, hI, hw, h1, h2, q => b_K_giveBack_105 hW hS (by
      have i0 := hI.1
      have e : p = m := by omega
      rw [hI.1.1, if_pos (by omega)]
      refine ⟨by omega, q _ (fun j hj hj2 => ?_) fun a b g1 g2 g3 => zcpy_ne (by omega)⟩
      rw [zcpy_to (by omega)]
      refine gBack_at (N := hs + 1) (fun f hf i hi => ?_) (hs + 1) (Nat.le_refl _) j hj
      rw [e] at h2
      exact h2 f (by omega) i hi)
  | c + 1, p, I, u5, h, hI, hw, h1, h2, q => b_K_giveBack_105 hW hS (by
    obtain ⟨i1, i2, i3⟩ := hI.2 p (by omega)
    have i0 := hI.1
    have e0 : ((ix p : Int) - 1 + 1) = (ix p : Int) := by omega
    have sm := gSel_mono (od := od) (ix := ix) (e := ix p) (p := p + 1) c
    rw [show p + 1 + c = m by omega, gSel_step rfl, List.length_append, List.length_singleton] at sm
    have rg := gAt_range (pi := gPi w) (od := od) (ix := ix) (e := ix p) (m := m) (i := (gSel od ix (ix p) p).length) (by omega)
    rw [hI.1.1, if_neg (by omega), Int.toNat_natCast, i1, e0, Int.toNat_natCast, h1 _ i2, i3, hw]
    refine ⟨by omega, by unfold zr; omega, by omega, by omega, ?_⟩
    have go : ∀ (v : Int) (u5 : Option AV), v = gAt od ix (gPi w) m (ix p) ((gSel od ix (ix p) p).length + 1) → XVs (d + 1) 42 105 [some (.inr 15), some (.inr o), some (.inr 44), u3, some (.inl ((p : Int) + 1)), u5] [] n sh R (zup (zup I 17 (gAt od ix (gPi w) m (ix p) (gSel od ix (ix p) p).length).toNat (od p)) 16 (ix p) v) Q := fun v u5 hv => by
      unfold sPl at ho
      refine l_K_3 hW hS ho c (p + 1) _ _ (by omega) (hI.fr ho fun a b g1 g2 => by rw [zup_ne (by omega), zup_ne (by omega)]) (by rw [zup_ne (by omega), zup_ne (by omega)]; exact hw) (fun f hf => ?_) (fun f hf i hi => ?_) fun J j1 j2 => q J j1 fun a b g1 g2 g3 => by rw [j2 a b g1 g2 g3, zup_ne (by omega), zup_ne (by omega)]
      · by_cases g : ix p = f
        · rw [zup_eq (by omega), hv, ← g, gSel_step rfl, List.length_append, List.length_singleton]
        · rw [zup_ne (by omega), zup_ne (by omega), gSel_skip g]; exact h1 f hf
      · have sm2 := gSel_mono (od := od) (ix := ix) (e := f) (p := p + 1) c
        rw [show p + 1 + c = m by omega] at sm2
        have hi2 : i < (gSel od ix f m).length := by omega
        have rg2 := gAt_range (pi := gPi w) (od := od) (ix := ix) (e := f) (m := m) (i := i) hi2
        rw [zup_ne (by omega)]
        by_cases g : ix p = f
        · rw [← g, gSel_step rfl] at hi ⊢
          rw [List.length_append, List.length_singleton] at hi
          by_cases g2 : i < (gSel od ix (ix p) p).length
          · have := h2 (ix p) i2 i g2
            rw [gd_l g2, zup_ne, this]
            intro c2
            have := gAt_inj (pi := gPi w) (od := od) (ix := ix) (m := m) (e := ix p) (e2 := ix p) (i := i) (i2 := (gSel od ix (ix p) p).length) (by omega) (by omega) (by rw [← g] at rg2; omega)
            omega
          · have e : i = (gSel od ix (ix p) p).length := by omega
            subst e
            rw [gd_last, g, zup_eq ⟨rfl, rfl⟩]
        · rw [gSel_skip g] at hi ⊢
          rw [zup_ne]
          · exact h2 f hf i hi
          intro c2
          have := gAt_inj (pi := gPi w) (od := od) (ix := ix) (m := m) (e := f) (e2 := ix p) (i := i) (i2 := (gSel od ix (ix p) p).length) (by omega) (by omega) (by omega)
          omega
    by_cases g : (ix p : Int) - 1 < 0
    · rw [if_pos g]
      refine ⟨by unfold zr; omega, by unfold zr; omega, go _ _ ?_⟩
      unfold gAt gPi
      rw [decide_eq_false (show ¬ 1 ≤ ix p by omega), Bool.false_and, if_neg (by decide), if_neg (by decide)]; omega
    · rw [if_neg g]
      have z01 := zand_1 (zshr w ((ix p : Int) - 1))
      by_cases g2 : zand (zshr w ((ix p : Int) - 1)) 1 = 0
      · rw [if_pos g2]
        refine ⟨by unfold zr; omega, by unfold zr; omega, go _ _ ?_⟩
        unfold gAt gPi
        rw [decide_eq_false (show ¬ zand (zshr w ((ix p : Int) - 1)) 1 = 1 by omega), Bool.and_false, if_neg (by decide), if_neg (by decide)]; omega
      · rw [if_neg g2]
        refine ⟨by unfold zr; omega, by unfold zr; omega, go _ _ ?_⟩
        unfold gAt gPi
        rw [decide_eq_true (show zand (zshr w ((ix p : Int) - 1)) 1 = 1 by omega), decide_eq_true (show 1 ≤ ix p by omega), Bool.and_true, if_pos rfl, if_pos rfl]; omega)
theorem s_K_giveBack {I : ZI} {Q : ZI → Prop} (hW : Wf sh R) (hS : St sh R o) (ho : sPl o) (hI : kIn I o m hs od ix) (hw : I 15 1 = w) (q : ∀ J : ZI, (∀ j, j < (gBack od ix (gPi w) m (hs + 1)).length → j < m → J (o + 5) j = (gBack od ix (gPi w) m (hs + 1)).getD j 0) → (∀ a b, ¬ a = 16 → ¬ a = 17 → ¬ (a = o + 5 ∧ b < m) → J a b = I a b) → Q J) : XV (d + 1) 42 [.inr 15, .inr o, .inr 44] n sh R I Q := by
  have i0 := hI.1
  refine b_K_giveBack_0 hW hS (s_fill (sh_16 hW) (by decide) fun J j1 j2 => ?_)
  have hJ : kIn J o m hs od ix := hI.fr ho fun a b h1 h2 => j2 a b h1
  refine l_K_1 hW hS ho m 0 J (by omega) hJ (fun e he => j1 e (by omega)) fun K k1 k2 => ?_
  have hK : kIn K o m hs od ix := hJ.fr ho fun a b h1 h2 => k2 a b h1
  have key : ∀ (M : ZI) (u4 u5 : Option AV), (∀ f, f ≤ hs → M 16 f = gAt od ix (gPi w) m f 0) → (∀ a b, ¬ a = 16 → M a b = K a b) → XVs (d + 1) 42 105 [some (.inr 15), some (.inr o), some (.inr 44), u4, some (.inl 0), u5] [] n sh R M Q := fun M u4 u5 m1 m2 =>
    l_K_3 hW hS ho m 0 M u5 (by omega) (hK.fr ho fun a b h1 h2 => m2 a b h1) (by rw [m2 _ _ (by omega), k2 _ _ (by omega), j2 _ _ (by omega)]; exact hw) (fun f hf => m1 f hf) (fun f hf i hi => absurd hi (Nat.not_lt_zero i)) fun N n1 n2 => q N n1 fun a b g1 g2 g3 => by rw [n2 a b g1 g2 g3, m2 a b g1, k2 a b g1, j2 a b g1]
  have fin := l_K_2 (w := w) (Q := Q) (d := d) (n := n) hW hS ho (hs + 1) 0 K none (by omega) hK (by rw [k2 _ _ (by omega), j2 _ _ (by omega)]; exact hw) (fun f hf => by omega) (fun f _ hf => k1 f hf) key
  have e1 : (((gLt od ix 0 m).length : Nat) : Int) = 0 := by rw [gLt_0]; rfl
  have e2 : ((0 : Nat) : Int) - 1 = -1 := by decide
  rw [e1, e2] at fin
  exact fin
end BK
