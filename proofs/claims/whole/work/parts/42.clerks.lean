-- LETTERS WANTED; TWO CLERKS
def wIs (B : ZI) (H : List Int) (x1 : Int) (p : Nat) : Bool := decide (zand (zshr x1 (B 138 (H.getD p 0).toNat)) 1 = 1)
def wA (B : ZI) (H : List Int) (g : Int) (LA : Nat → Int) (p : Nat) : Int := pSum (gSecs B H g LA) p
def wB (B : ZI) (H : List Int) (g : Int) (LA : Nat → Int) (x1 : Int) (p : Nat) : Int := pSum (fun p => if wIs B H x1 p = true then gSecs B H g LA p else 1) p
def zmin (a b : Int) : Int := if a < b then a else b
def wS (B : ZI) (H : List Int) (g : Int) (LA : Nat → Int) (x1 : Int) : Nat → Int
  | 0 => -2
  | p + 1 => if wIs B H x1 p = true then zmin (wA B H g LA (p + 1)) (wB B H g LA x1 (p + 1)) else wS B H g LA x1 p
def wL (B : ZI) (H : List Int) (x1 : Int) : Nat → Int
  | 0 => -1
  | p + 1 => if wIs B H x1 p = true then (p : Int) else wL B H x1 p
theorem wL_range {B : ZI} {H : List Int} {x1 : Int} : ∀ p : Nat, -1 ≤ wL B H x1 p ∧ wL B H x1 p < p
  | 0 => by unfold wL; omega
  | p + 1 => by
    have := wL_range (B := B) (H := H) (x1 := x1) p
    unfold wL
    split <;> omega
theorem wS_eq {B : ZI} {H : List Int} {g : Int} {LA : Nat → Int} {x1 : Int} : ∀ p : Nat, wS B H g LA x1 p = if wL B H x1 p = -1 then -2 else zmin (wA B H g LA ((wL B H x1 p).toNat + 1)) (wB B H g LA x1 ((wL B H x1 p).toNat + 1))
  | 0 => rfl
  | p + 1 => by
    have ih := wS_eq (B := B) (H := H) (g := g) (LA := LA) (x1 := x1) p
    have e1 : wS B H g LA x1 (p + 1) = if wIs B H x1 p = true then zmin (wA B H g LA (p + 1)) (wB B H g LA x1 (p + 1)) else wS B H g LA x1 p := rfl
    have e2 : wL B H x1 (p + 1) = if wIs B H x1 p = true then (p : Int) else wL B H x1 p := rfl
    rw [e1, e2]
    by_cases h : wIs B H x1 p = true
    · rw [if_pos h, if_pos h, if_neg (by omega), Int.toNat_natCast]
    · rw [if_neg h, if_neg h]; exact ih
section WA
variable {d n t : Nat} {sh : ZS} {R : ZR} {B : ZI} {x1 x2 x3 x4 x5 : Int} {lw S o : Nat} {H : List Int} {g : Int} {LA : Nat → Int}
theorem wA_range {p : Nat} (hp : p ≤ 32) : 0 ≤ wA B H g LA p ∧ wA B H g LA p ≤ 3168 := by
  have := pSum_range (f := gSecs B H g LA) (c := 99) p fun k hk => gSec_range
  unfold wA; omega
theorem wB_range {p : Nat} (hp : p ≤ 32) : 0 ≤ wB B H g LA x1 p ∧ wB B H g LA x1 p ≤ 3168 := by
  have := pSum_range (f := fun p => if wIs B H x1 p = true then gSecs B H g LA p else 1) (c := 99) p fun k hk => by
    have : 0 ≤ gSecs B H g LA k ∧ gSecs B H g LA k ≤ 99 := gSec_range
    split <;> omega
  unfold wB; omega
theorem l_N_wanted {I0 : ZI} {Q : Int → ZI → Prop} (hW : Wf sh R) (hl : lw = 5 ∨ lw = 45) (hR : R 42 4 = lw) (hL : Lw sh R lw) (hb : bOk B S) (hh : hIn B H) (q : ∀ J : ZI, (∀ a b, ¬ a = 43 → ¬ a = lw + 7 → J a b = I0 a b) → Q (wS B H g LA x1 H.length) J) : ∀ (c p : Nat) (I : ZI) (u6 u7 : Option AV), p + c = H.length → gEnv B I lw S → gSt B I 18 H g LA → (∀ a b, ¬ a = 43 → ¬ a = lw + 7 → I a b = I0 a b) → XIs (d + 4) 121 25 [some (.inr 1), some (.inl x1), some (.inl (wA B H g LA p)), some (.inl (wB B H g LA x1 p)), some (.inl (wS B H g LA x1 p)), some (.inl (p : Int)), u6, u7] [] n sh R I Q
  | 0, p, I, u6, u7, h, hE, hH, f => b_N_wanted_25 hW (by
      have e : p = H.length := by omega
      subst e
      rw [hH.1.2.1, if_pos (by omega)]
      exact q I f)
  | c + 1, p, I, u6, u7, h, hE, hH, f => b_N_wanted_25 hW (by
    have hl9 := hh.1
    have hL9 := hb.1
    have hx := hh.2 p (by omega)
    have st := hb.2.2.1 (H.getD p 0).toNat (by omega)
    rw [hH.1.2.1, if_neg (by omega)]
    refine s_G_secondsFor hW (St_18 hW) (.inl rfl) hl hR hL hb hE hH hh (p := p) (by omega) fun J hJ => ?_
    have hE2 : gEnv B J lw S := hE.fr hl fun a b hab => hJ a b (by omega) (by omega)
    have hH2 : gSt B J 18 H g LA := hH.fr fun a b hab => hJ a b (by omega) (by omega)
    have f5 : J 23 p = H.getD p 0 := hH2.2.1 p (by omega)
    have f1 : J 19 (H.getD p 0).toNat = B 138 (H.getD p 0).toNat := (hH2.2.2 _ (by omega)).1
    have ra := wA_range (B := B) (H := H) (g := g) (LA := LA) (p := p) (by omega)
    have rb := wB_range (B := B) (H := H) (g := g) (LA := LA) (x1 := x1) (p := p) (by omega)
    have sr : 0 ≤ gSecs B H g LA p ∧ gSecs B H g LA p ≤ 99 := gSec_range
    have ea : wA B H g LA (p + 1) = wA B H g LA p + gSecs B H g LA p := rfl
    have eb : wB B H g LA x1 (p + 1) = wB B H g LA x1 p + if wIs B H x1 p = true then gSecs B H g LA p else 1 := rfl
    have es : wS B H g LA x1 (p + 1) = if wIs B H x1 p = true then zmin (wA B H g LA (p + 1)) (wB B H g LA x1 (p + 1)) else wS B H g LA x1 p := rfl
    have z01 := zand_1 (zshr x1 (B 138 (H.getD p 0).toNat))
    rw [Int.toNat_natCast, f5, f1]
    refine ⟨by omega, by omega, ?_⟩
    have go := l_N_wanted (I0 := I0) hW hl hR hL hb hh q c (p + 1) J (some (.inl (gSecs B H g LA p))) (some (.inl (if zand (zshr x1 (B 138 (H.getD p 0).toNat)) 1 = 0 then 0 else 1))) (by omega) hE2 hH2 fun a b h1 h2 => by rw [hJ a b h1 h2, f a b h1 h2]
    by_cases g0 : zand (zshr x1 (B 138 (H.getD p 0).toNat)) 1 = 0
    · have w0 : ¬ wIs B H x1 p = true := by unfold wIs; rw [decide_eq_false (by omega)]; decide
      rw [if_pos g0]
      rw [if_pos g0, ea, eb, es, if_neg w0, if_neg w0] at go
      exact ⟨by unfold zr; omega, by unfold zr; omega, by unfold zr; omega, go⟩
    · have w0 : wIs B H x1 p = true := decide_eq_true (by omega)
      rw [if_neg g0]
      rw [if_neg g0, es, ea, eb, if_pos w0, if_pos w0] at go
      refine ⟨by unfold zr; omega, by unfold zr; omega, by unfold zr; omega, ?_⟩
      have em : zmin (wA B H g LA p + gSecs B H g LA p) (wB B H g LA x1 p + gSecs B H g LA p) = if wB B H g LA x1 p + gSecs B H g LA p < wA B H g LA p + gSecs B H g LA p then wB B H g LA x1 p + gSecs B H g LA p else wA B H g LA p + gSecs B H g LA p := by
        unfold zmin
        split <;> split <;> omega
      rw [em] at go
      exact go)
theorem l_M_wanted2 {I0 : ZI} {Q : Int → ZI → Prop} (hW : Wf sh R) (hb : bOk B S) (hh : hIn B H) {m : Nat} (hm : m < H.length) (q : ∀ J : ZI, (∀ a b, ¬ a = 156 → ¬ a = 157 → J a b = I0 a b) → Q (zmin (wA B H g LA (m + 1)) (wB B H g LA x1 (m + 1))) J) : ∀ (c p : Nat) (I : ZI) (u6 : Option AV), p + c = m + 1 → mEnv B I → mSt I H g LA → (∀ a b, ¬ a = 156 → ¬ a = 157 → I a b = I0 a b) → XIs (d + 4) 240 67 [some (.inr 137), some (.inl x1), some (.inl (m : Int)), some (.inl (wA B H g LA p)), some (.inl (wB B H g LA x1 p)), some (.inl (p : Int)), u6] [] n sh R I Q
  | 0, p, I, u6, h, hE, hH, f => b_M_wanted_67 hW (by
      have e : p = m + 1 := by omega
      subst e
      rw [if_pos (by omega)]
      have := q I f
      unfold zmin at this
      by_cases g1 : wB B H g LA x1 (m + 1) ≤ wA B H g LA (m + 1)
      · rw [if_pos g1]
        rw [if_neg (by omega)] at this; exact this
      · rw [if_neg g1]
        rw [if_pos (by omega)] at this; exact this)
  | c + 1, p, I, u6, h, hE, hH, f => b_M_wanted_67 hW (by
    have hl9 := hh.1
    have hL9 := hb.1
    have hx := hh.2 p (by omega)
    have st := hb.2.2.1 (H.getD p 0).toNat (by omega)
    rw [if_neg (by omega)]
    refine s_M_secondsFor hW hb hE hH hh (p := p) (by omega) fun J hJ => ?_
    have hE2 : mEnv B J := hE.fr fun a b hab => hJ a b (by omega) (by omega)
    have hH2 : mSt J H g LA := hH.fr fun a b hab => hJ a b (by omega) (by omega)
    have f5 : J 142 p = H.getD p 0 := hH2.2.1 p (by omega)
    have ra := wA_range (B := B) (H := H) (g := g) (LA := LA) (p := p) (by omega)
    have rb := wB_range (B := B) (H := H) (g := g) (LA := LA) (x1 := x1) (p := p) (by omega)
    have sr : 0 ≤ gSecs B H g LA p ∧ gSecs B H g LA p ≤ 99 := gSec_range
    have ea : wA B H g LA (p + 1) = wA B H g LA p + gSecs B H g LA p := rfl
    have eb : wB B H g LA x1 (p + 1) = wB B H g LA x1 p + if wIs B H x1 p = true then gSecs B H g LA p else 1 := rfl
    rw [Int.toNat_natCast, f5, hE2.2.1.1]
    refine ⟨by unfold zr; omega, by omega, by omega, ?_⟩
    have go := l_M_wanted2 (I0 := I0) hW hb hh hm q c (p + 1) J (some (.inl (gSecs B H g LA p))) (by omega) hE2 hH2 fun a b h1 h2 => by rw [hJ a b h1 h2, f a b h1 h2]
    by_cases g0 : zand (zshr x1 (B 138 (H.getD p 0).toNat)) 1 = 1
    · have w0 : wIs B H x1 p = true := decide_eq_true g0
      rw [if_neg (not_not_intro g0)]
      rw [ea, eb, if_pos w0] at go
      exact ⟨by unfold zr; omega, by unfold zr; omega, go⟩
    · have w0 : ¬ wIs B H x1 p = true := by unfold wIs; rw [decide_eq_false g0]; decide
      rw [if_pos g0]
      rw [ea, eb, if_neg w0] at go
      exact ⟨by unfold zr; omega, by unfold zr; omega, go⟩)
theorem l_M_wanted1 {Q : Int → ZI → Prop} {I : ZI} (hW : Wf sh R) (hb : bOk B S) (hh : hIn B H) (hE : mEnv B I) (hH : mSt I H g LA) (q : ∀ J : ZI, (∀ a b, ¬ a = 156 → ¬ a = 157 → J a b = I a b) → Q (wS B H g LA x1 H.length) J) : ∀ (c p : Nat) (u4 u5 u6 : Option AV), p + c = H.length → XIs (d + 4) 240 17 [some (.inr 137), some (.inl x1), some (.inl (wL B H x1 p)), some (.inl (p : Int)), u4, u5, u6] [] n sh R I Q
  | 0, p, u4, u5, u6, h => b_M_wanted_17 hW (by
      have e : p = H.length := by omega
      subst e
      rw [hH.1.1, if_pos (by omega)]
      have rg := wL_range (B := B) (H := H) (x1 := x1) H.length
      rw [wS_eq] at q
      by_cases g0 : wL B H x1 H.length = -1
      · rw [if_neg (not_not_intro g0)]
        rw [if_pos g0] at q
        exact q I fun _ _ _ _ => rfl
      · rw [if_pos g0]
        rw [if_neg g0] at q
        obtain ⟨m, hm⟩ : ∃ m : Nat, wL B H x1 H.length = m := ⟨(wL B H x1 H.length).toNat, by omega⟩
        rw [hm, Int.toNat_natCast] at q
        rw [hm]
        exact l_M_wanted2 (I0 := I) hW hb hh (by omega) q (m + 1) 0 I u6 (by omega) hE hH fun _ _ _ _ => rfl)
  | c + 1, p, u4, u5, u6, h => b_M_wanted_17 hW (by
    have hl9 := hh.1
    have hL9 := hb.1
    have hx := hh.2 p (by omega)
    have st := hb.2.2.1 (H.getD p 0).toNat (by omega)
    rw [hH.1.1, if_neg (by omega), Int.toNat_natCast, hH.2.1 p (by omega), hE.2.1.1]
    refine ⟨by omega, by omega, ?_⟩
    have go := l_M_wanted1 hW hb hh hE hH q c (p + 1) u4 u5 u6 (by omega)
    have e2 : wL B H x1 (p + 1) = if wIs B H x1 p = true then (p : Int) else wL B H x1 p := rfl
    by_cases g0 : zand (zshr x1 (B 138 (H.getD p 0).toNat)) 1 = 1
    · have w0 : wIs B H x1 p = true := decide_eq_true g0
      rw [if_neg (not_not_intro g0)]
      rw [e2, if_pos w0] at go
      exact ⟨by unfold zr; omega, go⟩
    · have w0 : ¬ wIs B H x1 p = true := by unfold wIs; rw [decide_eq_false g0]; decide
      rw [if_pos g0]
      rw [e2, if_neg w0] at go
      exact ⟨by unfold zr; omega, go⟩)
theorem c_wanted {I : ZI} (hW : Wf sh R) (h : Rel t I R) : XI (d + 4) 121 [.inr 1, .inl x1] n sh R I (fun v J => XI (d + 4) 240 [.inr 137, .inl x1] n sh R J (fun v2 K => v2 = v ∧ Rel (t + 1) K R)) := by
  obtain ⟨lw, S, H, hl, hR, hL, hb, hE, mE, hH, mH, hv, hg⟩ := h.base hW
  have hin := hv.1.inb hb
  have sm : Rel (t + 1) I R := h.fr (by omega) fun _ _ _ => rfl
  refine b_N_wanted_0 hW ?_
  by_cases g1 : x1 < 1
  · rw [if_pos g1]; refine b_M_wanted_0 hW ?_; rw [if_pos g1]; exact ⟨rfl, sm⟩
  rw [if_neg g1]
  by_cases g2 : x1 < 1048576
  · rw [if_pos g2]
    refine l_N_wanted (I0 := I) (B := I) (g := I 18 7) (LA := I 22) hW hl hR hL hb hin (fun J hJ => ?_) H.length 0 I none none (by omega) hE hH fun _ _ _ _ => rfl
    refine b_M_wanted_0 hW ?_
    rw [if_neg g1, if_pos g2]
    refine l_M_wanted1 (B := I) (g := I 18 7) (LA := I 22) hW hb hin (mE.fr fun a b hab => hJ a b (by omega) (by omega)) (mH.fr fun a b hab => hJ a b (by omega) (by omega)) (fun K hK => ⟨rfl, ?_⟩) H.length 0 none none none (by omega)
    refine h.fr (by omega) fun a b hab => ?_
    unfold fAll fNow fKept fEnv fTape fBlame fLaw at hab
    rw [hK a b (by omega) (by omega), hJ a b (by omega) (by omega)]
  · rw [if_neg g2]; refine b_M_wanted_0 hW ?_; rw [if_neg g1, if_neg g2]; exact ⟨rfl, sm⟩
-- clerks
def kT (B : ZI) (H : List Int) (g : Int) (LA : Nat → Int) (p : Nat) : Int := gIf B H g LA (gSecs B H g LA) p
def kS (B : ZI) (H : List Int) (g : Int) (LA : Nat → Int) (p : Nat) : Int := pSum (kT B H g LA) p
/-- when both are done, if the first one takes k -/
def kB (B : ZI) (H : List Int) (g : Int) (LA : Nat → Int) (k : Nat) : Int := if kS B H g LA k < kS B H g LA H.length - kS B H g LA k then kS B H g LA H.length - kS B H g LA k else kS B H g LA k
def kL (B : ZI) (H : List Int) (g : Int) (LA : Nat → Int) : Nat → Int × Int
  | 0 => (0, kB B H g LA 0)
  | k + 1 => if kB B H g LA (k + 1) < (kL B H g LA k).2 then (((k + 1 : Nat) : Int), kB B H g LA (k + 1)) else kL B H g LA k
theorem kT_range {p : Nat} : 0 ≤ kT B H g LA p ∧ kT B H g LA p ≤ 99 := by
  have : 0 ≤ gSecs B H g LA p ∧ gSecs B H g LA p ≤ 99 := gSec_range
  unfold kT gIf
  split <;> omega
theorem kS_range {p : Nat} (hp : p ≤ 32) : 0 ≤ kS B H g LA p ∧ kS B H g LA p ≤ 3168 := by
  have := pSum_range (f := kT B H g LA) (c := 99) p fun k hk => kT_range
  unfold kS; omega
theorem kB_0 (h : H.length ≤ 32) : kB B H g LA 0 = kS B H g LA H.length := by
  have r := kS_range (B := B) (H := H) (g := g) (LA := LA) h
  have e : kS B H g LA 0 = 0 := rfl
  unfold kB
  rw [e]
  by_cases q : 0 < kS B H g LA H.length - 0
  · rw [if_pos q]; omega
  · rw [if_neg q]; omega
theorem l_N_first {I0 : ZI} {Q : Int → ZI → Prop} (hW : Wf sh R) (hl : lw = 5 ∨ lw = 45) (hR : R 42 4 = lw) (hL : Lw sh R lw) (hb : bOk B S) (hh : hIn B H) {m : Nat} (hm : m ≤ H.length) (q : ∀ J : ZI, (∀ a b, ¬ a = 43 → ¬ a = lw + 7 → J a b = I0 a b) → Q (kS B H g LA m) J) : ∀ (c p : Nat) (I : ZI), p + c = m → gEnv B I lw S → gSt B I 30 H g LA → (∀ k, k < H.length → I 44 k = gInto B H g LA k) → (∀ a b, ¬ a = 43 → ¬ a = lw + 7 → I a b = I0 a b) → XIs (d + 4) 137 4 [some (.inr 1), some (.inl (m : Int)), some (.inl (kS B H g LA p)), some (.inl (p : Int))] [] n sh R I Q
  | 0, p, I, h, hE, hH, hI, f => b_N_secondsOfFirst_4 hW (by
      have e : p = m := by omega
      subst e
      rw [if_pos (by omega)]
      exact q I f)
  | c + 1, p, I, h, hE, hH, hI, f => b_N_secondsOfFirst_4 hW (by
    have hl9 := hh.1
    have rs := kS_range (B := B) (H := H) (g := g) (LA := LA) (p := p) (by omega)
    have es : kS B H g LA (p + 1) = kS B H g LA p + kT B H g LA p := rfl
    rw [if_neg (by omega), Int.toNat_natCast, hI p (by omega)]
    refine ⟨by omega, ?_⟩
    unfold kT gIf at es
    by_cases e : gInto B H g LA p = -1
    · rw [if_pos e]
      rw [if_pos e, Int.add_zero] at es
      have go := l_N_first (I0 := I0) hW hl hR hL hb hh hm q c (p + 1) I (by omega) hE hH hI f
      rw [es] at go
      exact ⟨by unfold zr; omega, go⟩
    · rw [if_neg e]
      rw [if_neg e] at es
      refine s_G_secondsFor hW (St_30 hW) (.inr (.inr (.inl rfl))) hl hR hL hb hE hH hh (p := p) (by omega) fun J hJ => ?_
      have sr : 0 ≤ gSecs B H g LA p ∧ gSecs B H g LA p ≤ 99 := gSec_range
      have go := l_N_first (I0 := I0) hW hl hR hL hb hh hm q c (p + 1) J (by omega) (hE.fr hl fun a b hab => hJ a b (by omega) (by omega)) (hH.fr fun a b hab => hJ a b (by omega) (by omega)) (fun k hk => by rw [hJ _ _ (by omega) (by omega)]; exact hI k hk) fun a b h1 h2 => by rw [hJ a b h1 h2, f a b h1 h2]
      rw [es] at go
      exact ⟨by unfold zr; omega, by unfold zr; omega, go⟩)
theorem l_N_best {I0 : ZI} {Q : Int → ZI → Prop} (hW : Wf sh R) (hl : lw = 5 ∨ lw = 45) (hR : R 42 4 = lw) (hL : Lw sh R lw) (hb : bOk B S) (hh : hIn B H) (q : ∀ J : ZI, (∀ a b, ¬ a = 43 → ¬ a = lw + 7 → J a b = I0 a b) → Q (kL B H g LA H.length).1 J) : ∀ (c p : Nat) (I : ZI) (u : Option AV), p + c = H.length → gEnv B I lw S → gSt B I 30 H g LA → (∀ k, k < H.length → I 44 k = gInto B H g LA k) → (∀ a b, ¬ a = 43 → ¬ a = lw + 7 → I a b = I0 a b) → XIs (d + 4) 138 10 [some (.inr 1), some (.inl (kS B H g LA H.length)), some (.inl (kL B H g LA p).1), some (.inl (kL B H g LA p).2), some (.inl (kS B H g LA p)), some (.inl (p : Int)), u] [] n sh R I Q
  | 0, p, I, u, h, hE, hH, hI, f => b_N_bestShare_10 hW (by
      have e : p = H.length := by omega
      subst e
      rw [hH.1.2.1, if_pos (by omega)]
      exact q I f)
  | c + 1, p, I, u, h, hE, hH, hI, f => b_N_bestShare_10 hW (by
    have hl9 := hh.1
    have rs := kS_range (B := B) (H := H) (g := g) (LA := LA) (p := p) (by omega)
    have rs1 := kS_range (B := B) (H := H) (g := g) (LA := LA) (p := p + 1) (by omega)
    have ra := kS_range (B := B) (H := H) (g := g) (LA := LA) (p := H.length) (by omega)
    have es : kS B H g LA (p + 1) = kS B H g LA p + kT B H g LA p := rfl
    have el : kL B H g LA (p + 1) = if kB B H g LA (p + 1) < (kL B H g LA p).2 then (((p + 1 : Nat) : Int), kB B H g LA (p + 1)) else kL B H g LA p := rfl
    have eb : kB B H g LA (p + 1) = if kS B H g LA (p + 1) < kS B H g LA H.length - kS B H g LA (p + 1) then kS B H g LA H.length - kS B H g LA (p + 1) else kS B H g LA (p + 1) := rfl
    rw [hH.1.2.1, if_neg (by omega), Int.toNat_natCast, hI p (by omega)]
    refine ⟨by omega, ?_⟩
    unfold kT gIf at es
    by_cases e : gInto B H g LA p = -1
    · rw [if_pos e]
      rw [if_pos e, Int.add_zero] at es
      refine ⟨by unfold zr; omega, ?_⟩
      rw [← es, ← eb]
      have go := fun u => l_N_best (I0 := I0) hW hl hR hL hb hh q c (p + 1) I u (by omega) hE hH hI f
      rw [el] at go
      by_cases k0 : (kL B H g LA p).2 ≤ kB B H g LA (p + 1)
      · rw [if_pos k0]
        rw [if_neg (by omega)] at go
        exact ⟨by unfold zr; omega, go _⟩
      · rw [if_neg k0]
        rw [if_pos (by omega)] at go
        exact ⟨by unfold zr; omega, go _⟩
    · rw [if_neg e]
      rw [if_neg e] at es
      refine s_G_secondsFor hW (St_30 hW) (.inr (.inr (.inl rfl))) hl hR hL hb hE hH hh (p := p) (by omega) fun J hJ => ?_
      have sr : 0 ≤ gSecs B H g LA p ∧ gSecs B H g LA p ≤ 99 := gSec_range
      rw [← es]
      refine ⟨by unfold zr; omega, by unfold zr; omega, ?_⟩
      rw [← eb]
      have go := fun u => l_N_best (I0 := I0) hW hl hR hL hb hh q c (p + 1) J u (by omega) (hE.fr hl fun a b hab => hJ a b (by omega) (by omega)) (hH.fr fun a b hab => hJ a b (by omega) (by omega)) (fun k hk => by rw [hJ _ _ (by omega) (by omega)]; exact hI k hk) fun a b h1 h2 => by rw [hJ a b h1 h2, f a b h1 h2]
      rw [el] at go
      by_cases k0 : (kL B H g LA p).2 ≤ kB B H g LA (p + 1)
      · rw [if_pos k0]
        rw [if_neg (by omega)] at go
        exact ⟨by unfold zr; omega, go _⟩
      · rw [if_neg k0]
        rw [if_pos (by omega)] at go
        exact ⟨by unfold zr; omega, go _⟩)
def kM (B : ZI) (H : List Int) (g : Int) (LA : Nat → Int) : Nat → Int × Int
  | 0 => (0, 1000000000)
  | k + 1 => kL B H g LA k
theorem kM_step (hl : H.length ≤ 32) (q : Nat) : kM B H g LA (q + 1) = if kB B H g LA q < (kM B H g LA q).2 then ((q : Int), kB B H g LA q) else kM B H g LA q := by
  cases q with
  | zero =>
    have r := kS_range (B := B) (H := H) (g := g) (LA := LA) hl
    rw [show (kM B H g LA 0).2 = 1000000000 from rfl, if_pos (by rw [kB_0 hl]; omega)]; rfl
  | succ q => rfl
theorem l_M_clerks2 {I : ZI} {Q : Int → ZI → Prop} (hW : Wf sh R) (hl9 : H.length ≤ 32) (hI : ∀ k, k < H.length → I 179 k = kT B H g LA k) (hx : -1 ≤ x1 ∧ x1 ≤ H.length) (q : Q (if x1 = -1 then (kL B H g LA H.length).1 else kB B H g LA x1.toNat) I) : ∀ (c p : Nat) (y : Int) (u : Option AV), p + c = H.length + 1 → (x1 = -1 ∨ (p : Int) ≤ x1) → (p ≤ H.length → y = kS B H g LA p) → XIs (d + 4) 239 122 [some (.inr 137), some (.inl x1), some (.inl (H.length : Int)), some (.inl (kS B H g LA H.length)), some (.inl (kM B H g LA p).1), some (.inl (kM B H g LA p).2), some (.inl y), some (.inl (p : Int)), u] [] n sh R I Q
  | 0, p, y, u, h, hk, hy => b_M_clerks_122 hW (by
      have e : p = H.length + 1 := by omega
      subst e
      rw [if_pos (by omega)]
      rw [if_pos (by omega)] at q
      exact q)
  | c + 1, p, y, u, h, hk, hy => b_M_clerks_122 hW (by
    have rs := kS_range (B := B) (H := H) (g := g) (LA := LA) (p := p) (by omega)
    have ra := kS_range (B := B) (H := H) (g := g) (LA := LA) (p := H.length) hl9
    have es : kS B H g LA (p + 1) = kS B H g LA p + kT B H g LA p := rfl
    have rt := kT_range (B := B) (H := H) (g := g) (LA := LA) (p := p)
    have eb : kB B H g LA p = if kS B H g LA p < kS B H g LA H.length - kS B H g LA p then kS B H g LA H.length - kS B H g LA p else kS B H g LA p := rfl
    have em := kM_step (B := B) (g := g) (LA := LA) hl9 p
    obtain rfl := hy (by omega)
    rw [if_neg (by omega)]
    refine ⟨by unfold zr; omega, ?_⟩
    have go := fun y u (k : p + 1 ≤ H.length → y = kS B H g LA (p + 1)) (hk2 : x1 = -1 ∨ ((p + 1 : Nat) : Int) ≤ x1) => l_M_clerks2 hW hl9 hI hx q c (p + 1) y u (by omega) hk2 k
    rw [em] at go
    -- the time of this share
    have rest : ∀ T : Int, T = kB B H g LA p → (if ¬ (p : Int) = x1 then (if (kM B H g LA p).2 ≤ T then (if (H.length : Int) ≤ (p : Int) then (zr (kS B H g LA p + 0)) ∧ (zr ((p : Int) + 1)) ∧ XIs (d + 4) 239 122 [some (.inr 137), some (.inl x1), some (.inl (H.length : Int)), some (.inl (kS B H g LA H.length)), some (.inl (kM B H g LA p).1), some (.inl (kM B H g LA p).2), some (.inl (kS B H g LA p + 0)), some (.inl ((p : Int) + 1)), some (.inl T)] [] n sh R I Q else (0 ≤ (p : Int) ∧ (p : Int) < 32) ∧ (zr (kS B H g LA p + I 179 ((p : Int)).toNat)) ∧ (zr ((p : Int) + 1)) ∧ XIs (d + 4) 239 122 [some (.inr 137), some (.inl x1), some (.inl (H.length : Int)), some (.inl (kS B H g LA H.length)), some (.inl (kM B H g LA p).1), some (.inl (kM B H g LA p).2), some (.inl (kS B H g LA p + I 179 ((p : Int)).toNat)), some (.inl ((p : Int) + 1)), some (.inl T)] [] n sh R I Q) else (if (H.length : Int) ≤ (p : Int) then (zr (kS B H g LA p + 0)) ∧ (zr ((p : Int) + 1)) ∧ XIs (d + 4) 239 122 [some (.inr 137), some (.inl x1), some (.inl (H.length : Int)), some (.inl (kS B H g LA H.length)), some (.inl (p : Int)), some (.inl T), some (.inl (kS B H g LA p + 0)), some (.inl ((p : Int) + 1)), some (.inl T)] [] n sh R I Q else (0 ≤ (p : Int) ∧ (p : Int) < 32) ∧ (zr (kS B H g LA p + I 179 ((p : Int)).toNat)) ∧ (zr ((p : Int) + 1)) ∧ XIs (d + 4) 239 122 [some (.inr 137), some (.inl x1), some (.inl (H.length : Int)), some (.inl (kS B H g LA H.length)), some (.inl (p : Int)), some (.inl T), some (.inl (kS B H g LA p + I 179 ((p : Int)).toNat)), some (.inl ((p : Int) + 1)), some (.inl T)] [] n sh R I Q)) else Q T I) := fun T hT => by
      rw [hT]
      by_cases k1 : (p : Int) = x1
      · rw [if_neg (not_not_intro k1)]
        rw [if_neg (by omega), ← k1, Int.toNat_natCast] at q
        exact q
      rw [if_pos k1]
      by_cases k2 : (kM B H g LA p).2 ≤ kB B H g LA p
      · rw [if_pos k2]
        rw [if_neg (by omega)] at go
        by_cases k3 : (H.length : Int) ≤ (p : Int)
        · rw [if_pos k3]
          exact ⟨by unfold zr; omega, by unfold zr; omega, go _ _ (fun k => by omega) (by omega)⟩
        · rw [if_neg k3, Int.toNat_natCast, hI p (by omega)]
          exact ⟨by omega, by unfold zr; omega, by unfold zr; omega, go _ _ (fun k => by omega) (by omega)⟩
      · rw [if_neg k2]
        rw [if_pos (by omega)] at go
        by_cases k3 : (H.length : Int) ≤ (p : Int)
        · rw [if_pos k3]
          exact ⟨by unfold zr; omega, by unfold zr; omega, go _ _ (fun k => by omega) (by omega)⟩
        · rw [if_neg k3, Int.toNat_natCast, hI p (by omega)]
          exact ⟨by omega, by unfold zr; omega, by unfold zr; omega, go _ _ (fun k => by omega) (by omega)⟩
    by_cases k0 : kS B H g LA p ≤ kS B H g LA H.length - kS B H g LA p
    · rw [if_pos k0]
      refine rest _ ?_
      rw [eb]
      split <;> omega
    · rw [if_neg k0]
      refine rest _ ?_
      rw [eb]
      split <;> omega)
theorem l_M_clerks1 {Q : Int → ZI → Prop} {K I0 : ZI} (hW : Wf sh R) (hb : bOk B S) (hh : hIn B H) (hx : -1 ≤ x1) {u5 u6 u7 : Option AV} (q : ∀ J : ZI, mBk K J → (∀ a b, ¬ a = 156 → ¬ a = 157 → ¬ a = 179 → ¬ (a = 137 ∧ 1 ≤ b ∧ b ≤ 2) → ¬ a = 141 → ¬ a = 142 → J a b = I0 a b) → Q (if x1 ≤ (H.length : Int) then (if x1 = -1 then (kL B H g LA H.length).1 else kB B H g LA x1.toNat) else -2) J) : ∀ (c p : Nat) (I : ZI) (u8 : Option AV), p + c = H.length → mEnv B I → mSt I H g LA → mAsd K I → (∀ k, k < p → I 179 k = kT B H g LA k) → (∀ a b, ¬ a = 156 → ¬ a = 157 → ¬ a = 179 → I a b = I0 a b) → XIs (d + 4) 239 48 [some (.inr 137), some (.inl x1), some (.inl (H.length : Int)), some (.inl (kS B H g LA p)), some (.inl (p : Int)), u5, u6, u7, u8] [] n sh R I Q
  | 0, p, I, u8, h, hE, hH, hA, hI, f => b_M_clerks_48 hW (by
      have e : p = H.length := by omega
      subst e
      rw [if_pos (by omega)]
      refine s_M_again hW hA fun J j1 j2 => ?_
      have qq := q J j1 fun a b h1 h2 h3 h4 h5 h6 => by rw [j2 a b h4 h5 h6, f a b h1 h2 h3]
      by_cases g1 : x1 ≤ (H.length : Int)
      · rw [if_pos g1]
        rw [if_pos g1] at qq
        exact l_M_clerks2 hW hh.1 (fun k hk => by rw [j2 _ _ (by omega) (by omega) (by omega)]; exact hI k hk) ⟨hx, g1⟩ qq (H.length + 1) 0 0 u8 (by omega) (by omega) (fun _ => rfl)
      · rw [if_neg g1]
        rw [if_neg g1] at qq
        exact qq)
  | c + 1, p, I, u8, h, hE, hH, hA, hI, f => b_M_clerks_48 hW (by
    have hl9 := hh.1
    have rs := kS_range (B := B) (H := H) (g := g) (LA := LA) (p := p) (by omega)
    have es : kS B H g LA (p + 1) = kS B H g LA p + kT B H g LA p := rfl
    have rt := kT_range (B := B) (H := H) (g := g) (LA := LA) (p := p)
    have et : kT B H g LA p = if gInto B H g LA p = -1 then 0 else gSecs B H g LA p := rfl
    rw [if_neg (by omega)]
    refine s_M_isLeftOut hW hb hE hH hh (p := p) (by omega) fun J hJ => ?_
    have hEJ : mEnv B J := hE.fr fun a b hab => hJ a b (by omega) (by omega)
    have hHJ : mSt J H g LA := hH.fr fun a b hab => hJ a b (by omega) (by omega)
    -- one letter's time is put down
    have put : ∀ (K2 : ZI) (v : Int), v = kT B H g LA p → (∀ a b, ¬ a = 156 → ¬ a = 157 → K2 a b = I a b) → (0 ≤ (p : Int) ∧ (p : Int) < 32) ∧ (zr (kS B H g LA p + (zup K2 179 ((p : Int)).toNat v) 179 ((p : Int)).toNat)) ∧ (zr ((p : Int) + 1)) ∧ XIs (d + 4) 239 48 [some (.inr 137), some (.inl x1), some (.inl (H.length : Int)), some (.inl (kS B H g LA p + (zup K2 179 ((p : Int)).toNat v) 179 ((p : Int)).toNat)), some (.inl ((p : Int) + 1)), u5, u6, u7, u8] [] n sh R (zup K2 179 ((p : Int)).toNat v) Q := fun K2 v hv hK => by
      rw [hv, Int.toNat_natCast, zup_eq (show (179 : Nat) = 179 ∧ p = p from ⟨rfl, rfl⟩)]
      have ff : ∀ a b, ¬ a = 156 → ¬ a = 157 → ¬ a = 179 → (zup K2 179 p (kT B H g LA p)) a b = I a b := fun a b h1 h2 h3 => by rw [zup_ne (by omega), hK a b h1 h2]
      have go := l_M_clerks1 (u5 := u5) (u6 := u6) (u7 := u7) hW hb hh hx q c (p + 1) (zup K2 179 p (kT B H g LA p)) u8 (by omega) (hE.fr fun a b hab => ff a b (by omega) (by omega) (by omega)) (hH.fr fun a b hab => ff a b (by omega) (by omega) (by omega)) (hA.fr fun a b hab => ff a b (by omega) (by omega) (by omega)) (fun k hk => by
        by_cases e : k = p
        · rw [zup_eq (by omega), e]
        · rw [zup_ne (by omega), hK _ _ (by omega) (by omega)]; exact hI k (by omega)) fun a b h1 h2 h3 => by rw [ff a b h1 h2 h3, f a b h1 h2 h3]
      rw [es] at go
      exact ⟨by omega, by unfold zr; omega, by unfold zr; omega, go⟩
    rcases gInto_cases hb (H := H) (g := g) (LA := LA) (p := p) with ⟨v1, v2, v3⟩ | ⟨v1, v2⟩
    · rw [if_pos v1]
      rw [if_neg (by omega)] at et
      refine s_M_secondsFor hW hb hEJ hHJ hh (p := p) (by omega) fun M hM => ?_
      exact put M _ et.symm fun a b h1 h2 => by rw [hM a b h1 h2, hJ a b h1 h2]
    · rw [if_neg v1]
      rw [if_pos v2] at et
      exact put J _ et.symm hJ)
theorem c_clerks {I : ZI} (hW : Wf sh R) (h : Rel t I R) : XI (d + 5) 120 [.inr 1, .inl x1] n sh R I (fun v J => XI (d + 4) 239 [.inr 137, .inl x1] n sh R J (fun v2 K => v2 = v ∧ Rel (t + 1) K R)) := by
  obtain ⟨lw, S, H, hl, hR, hL, hb, hE, mE, hH, mH, hv, hg⟩ := h.base hW
  have hin := hv.1.inb hb
  have hin1 := hv.1.come.inb hb
  have sm : Rel (t + 1) I R := h.fr (by omega) fun _ _ _ => rfl
  have m2 := mH.1.2
  refine b_N_clerks_0 hW ⟨by unfold zr; omega, ?_⟩
  by_cases g1 : 12 < I 18 7 + 1
  · rw [if_pos g1]; refine b_M_clerks_0 hW ?_; rw [if_pos (by omega), if_neg (not_not_intro (by omega))]; exact ⟨rfl, sm⟩
  rw [if_neg g1]
  refine s_S_copyFrom hW (St_30 hW) (St_18 hW) (by omega) fun I3 hc => ?_
  refine s_S_comeIn hW (St_30 hW) hb hv.1 (by omega) (hH.cop hin.1 hc) fun I5 i1 i2 => ?_
  have f5 : ∀ a b, ¬ (30 ≤ a ∧ a ≤ 35) → I5 a b = I a b := fun a b hab => by rw [i2 a b (by omega) (by omega), hc.2.2 a b (by omega) (by omega)]
  have hE5 : gEnv I I5 lw S := hE.fr hl fun a b hab => f5 a b (by omega)
  -- the model's side, whatever is told
  have mod : ∀ (J : ZI), (∀ a b, ¬ (30 ≤ a ∧ a ≤ 35) → ¬ a = 43 → ¬ a = lw + 7 → ¬ a = 44 → J a b = I a b) → ∀ w : Int, (w = if x1 < -1 then -2 else if x1 ≤ ((gCome I H (I 18 7)).length : Int) then (if x1 = -1 then (kL I (gCome I H (I 18 7)) (I 18 7) (I 22) (gCome I H (I 18 7)).length).1 else kB I (gCome I H (I 18 7)) (I 18 7) (I 22) x1.toNat) else -2) → XI (d + 4) 239 [.inr 137, .inl x1] n sh R J (fun v2 K => v2 = w ∧ Rel (t + 1) K R) := fun J hJ w hw => by
    have fJ : ∀ a b, 57 ≤ a → J a b = I a b := fun a b hab => hJ a b (by omega) (by omega) (by omega) (by omega)
    have mEJ : mEnv I J := mE.fr fun a b hab => fJ a b (by omega)
    have mHJ : mSt J H (I 18 7) (I 22) := mH.fr fun a b hab => fJ a b (by omega)
    refine b_M_clerks_0 hW ?_
    rw [mHJ.1.2, if_neg (by omega)]
    by_cases g2 : x1 < -1
    · rw [if_pos g2] at hw
      rw [if_neg (by omega), if_pos (by omega)]
      refine ⟨hw.symm, h.fr (by omega) fun a b hab => ?_⟩
      unfold fAll fNow fKept fEnv fTape fBlame fLaw at hab
      exact hJ a b (by omega) (by omega) (by omega) (by omega)
    rw [if_neg g2] at hw
    rw [if_pos (by omega)]
    refine s_M_begins hW fun K1 a1 a2 => ?_
    have mE1 : mEnv I K1 := mEJ.fr fun a b hab => a2 a b (by omega) (by omega) (by omega)
    refine s_M_comeAhead hW hb hv.1 (by omega) mE1 (mHJ.fr fun a b hab => a2 a b (by omega) (by omega) (by omega)) fun K2 b1 b2 => ?_
    have mE2 : mEnv I K2 := mE1.fr fun a b hab => b2 a b (by omega) (by omega)
    rw [b1.1.1]
    refine l_M_clerks1 (K := J) (I0 := K2) (B := I) (H := gCome I H (I 18 7)) (g := I 18 7) (LA := I 22) hW hb hin1 (by omega) (fun M m1 m2 => ⟨hw.symm, h.same hW (fun a b hab h1 h2 h3 => ?_) ⟨?_, ?_, fun k hk => ?_⟩⟩) (gCome I H (I 18 7)).length 0 K2 _ (by omega) mE2 b1 (a1.fr fun a b hab => b2 a b (by omega) (by omega)) (fun k hk => by omega) fun _ _ _ _ _ => rfl
    · unfold fAll fNow fKept fEnv fTape fBlame fLaw at hab
      rw [m2 a b (by omega) (by omega) (by omega) (by omega) h2 h3, b2 a b (by omega) (by omega), a2 a b (by omega) (by omega) (by omega), hJ a b (by omega) (by omega) (by omega) (by omega)]
    · rw [m1.1]; exact fJ _ _ (by omega)
    · rw [m1.2.1]; exact fJ _ _ (by omega)
    · rw [(m1.2.2 k hk).1, (m1.2.2 k hk).2, fJ _ _ (by omega), fJ _ _ (by omega)]; exact ⟨rfl, rfl⟩
  by_cases g2 : x1 < -1
  · rw [if_pos g2]
    exact mod I5 (fun a b h1 _ _ _ => f5 a b h1) _ (by rw [if_pos g2])
  rw [if_neg g2, i1.1.2.1]
  by_cases g3 : x1 ≤ ((gCome I H (I 18 7)).length : Int)
  · rw [if_pos g3]
    refine s_G_askAll hW (St_30 hW) (.inr (.inr (.inl rfl))) hl hR hL hb hin1 hE5 i1 fun I7 j1 j2 => ?_
    have hE7 : gEnv I I7 lw S := hE5.fr hl fun a b hab => j2 a b (by omega) (by omega) (by omega)
    have hH7 : gSt I I7 30 (gCome I H (I 18 7)) (I 18 7) (I 22) := i1.fr fun a b hab => j2 a b (by omega) (by omega) (by omega)
    rw [hH7.1.2.1]
    have ra := kS_range (B := I) (H := gCome I H (I 18 7)) (g := I 18 7) (LA := I 22) (p := (gCome I H (I 18 7)).length) hin1.1
    refine b_N_secondsOfFirst_0 hW (l_N_first (I0 := I7) (B := I) (H := gCome I H (I 18 7)) (g := I 18 7) (LA := I 22) hW hl hR hL hb hin1 (Nat.le_refl _) (fun I9 k1 => ?_) (gCome I H (I 18 7)).length 0 I7 (by omega) hE7 hH7 j1 fun _ _ _ _ => rfl)
    have hE9 : gEnv I I9 lw S := hE7.fr hl fun a b hab => k1 a b (by omega) (by omega)
    have hH9 : gSt I I9 30 (gCome I H (I 18 7)) (I 18 7) (I 22) := hH7.fr fun a b hab => k1 a b (by omega) (by omega)
    have h44 : ∀ k, k < (gCome I H (I 18 7)).length → I9 44 k = gInto I (gCome I H (I 18 7)) (I 18 7) (I 22) k := fun k hk => by rw [k1 _ _ (by omega) (by omega)]; exact j1 k hk
    have f9 : ∀ a b, ¬ (30 ≤ a ∧ a ≤ 35) → ¬ a = 43 → ¬ a = lw + 7 → ¬ a = 44 → I9 a b = I a b := fun a b h1 h2 h3 h4 => by rw [k1 a b h2 h3, j2 a b h2 h3 h4, f5 a b h1]
    by_cases g4 : x1 = -1
    · rw [if_pos g4]
      refine b_N_bestShare_0 hW ?_
      have go := l_N_best (d := d) (n := n) (I0 := I9) (B := I) (H := gCome I H (I 18 7)) (g := I 18 7) (LA := I 22) (Q := fun v J => XI (d + 4) 239 [.inr 137, .inl x1] n sh R J (fun v2 K => v2 = v ∧ Rel (t + 1) K R)) hW hl hR hL hb hin1 (fun J hJ => mod J (fun a b h1 h2 h3 h4 => by rw [hJ a b h2 h3, f9 a b h1 h2 h3 h4]) _ (by rw [if_neg g2, if_pos g3, if_pos g4])) (gCome I H (I 18 7)).length 0 I9 none (by omega) hE9 hH9 h44 fun _ _ _ _ => rfl
      have e0 : (kL I (gCome I H (I 18 7)) (I 18 7) (I 22) 0).2 = kS I (gCome I H (I 18 7)) (I 18 7) (I 22) (gCome I H (I 18 7)).length := kB_0 hin1.1
      rw [e0] at go
      exact go
    · rw [if_neg g4]
      obtain ⟨k, rfl⟩ : ∃ k : Nat, x1 = k := ⟨x1.toNat, by omega⟩
      have rk := kS_range (B := I) (H := gCome I H (I 18 7)) (g := I 18 7) (LA := I 22) (p := k) (by have := hin1.1; omega)
      refine b_N_secondsOfFirst_0 hW (l_N_first (I0 := I9) (B := I) (H := gCome I H (I 18 7)) (g := I 18 7) (LA := I 22) hW hl hR hL hb hin1 (m := k) (by omega) (fun J hJ => ⟨by unfold zr; omega, mod J (fun a b h1 h2 h3 h4 => by rw [hJ a b h2 h3, f9 a b h1 h2 h3 h4]) _ ?_⟩) k 0 I9 (by omega) hE9 hH9 h44 fun _ _ _ _ => rfl)
      rw [if_neg g2, if_pos g3, if_neg g4, Int.toNat_natCast]; rfl
  · rw [if_neg g3]
    exact mod I5 (fun a b h1 _ _ _ => f5 a b h1) _ (by rw [if_neg g2, if_neg g3])
end WA
