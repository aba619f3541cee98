-- a YARD with any holes: what can be, and the class's way
def dFit (pp : Int) (L : Nat → Int) (h : Nat) (r : Int) : Prop := if wPi pp h = true then r ≤ L h else L h ≤ r
def dPut (L : Nat → Int) (h : Nat) (r : Int) : Nat → Int := fun q => if q = h then r else L q
def dFe (hs : Nat) (pp : Int) (K : Nat → Int) : Nat → Nat → (Nat → Int) → Prop
  | 0, _, _ => True
  | c + 1, p, L => ∃ h : Nat, h < hs ∧ dFit pp L h (K p) ∧ dFe hs pp K c (p + 1) (dPut L h (K p))
def dOk (hs : Nat) (pp : Int) (K : Nat → Int) (c p : Nat) (L : Nat → Int) (h : Nat) : Prop := dFit pp L h (K p) ∧ dFe hs pp K c (p + 1) (dPut L h (K p))
/-- the least row of holes for c letters from place p -/
def dLR (hs : Nat) (pp : Int) (K : Nat → Int) : Nat → Nat → (Nat → Int) → (Nat → Int) → Prop
  | 0, _, _, _ => True
  | c + 1, p, L, ρ => ∃ h : Nat, ρ p = (h : Int) ∧ h < hs ∧ dOk hs pp K c p L h ∧ (∀ j, j < h → ¬ dOk hs pp K c p L j) ∧ dLR hs pp K c (p + 1) (dPut L h (K p)) ρ
theorem dLR_congr {hs : Nat} {pp : Int} {K : Nat → Int} {ρ τ : Nat → Int} : ∀ (c p : Nat) (L : Nat → Int), (∀ q, p ≤ q → q < p + c → τ q = ρ q) → dLR hs pp K c p L ρ → dLR hs pp K c p L τ
  | 0, _, _, _, _ => trivial
  | c + 1, p, L, e, h => by
    obtain ⟨g, h1, h2, h3, h4, h5⟩ := h
    exact ⟨g, by rw [e p (by omega) (by omega)]; exact h1, h2, h3, h4, dLR_congr c (p + 1) _ (fun q a b => e q (by omega) (by omega)) h5⟩
theorem dLR_uniq {hs : Nat} {pp : Int} {K : Nat → Int} {ρ τ : Nat → Int} : ∀ (c p : Nat) (L : Nat → Int), dLR hs pp K c p L ρ → dLR hs pp K c p L τ → ∀ q, p ≤ q → q < p + c → (τ q = ρ q ∧ 0 ≤ ρ q)
  | 0, p, _, _, _, q, a, b => by omega
  | c + 1, p, L, h, i, q, a, b => by
    obtain ⟨g, h1, h2, h3, h4, h5⟩ := h
    obtain ⟨f, i1, i2, i3, i4, i5⟩ := i
    have e : f = g := by
      rcases Nat.lt_trichotomy f g with l | l | l
      · exact absurd i3 (h4 f l)
      · exact l
      · exact absurd h3 (i4 g l)
    subst e
    by_cases x : q = p
    · rw [x]; exact ⟨by rw [i1, h1], by rw [h1]; omega⟩
    · exact dLR_uniq c (p + 1) _ h5 i5 q (by omega) (by omega)
theorem dFe_dom {hs : Nat} {pp : Int} {K : Nat → Int} {σ : Nat → Nat} (hσ : ∀ h, h < hs → σ h < hs ∧ wPi pp (σ h) = wPi pp h) (hi : ∀ h g, h < hs → g < hs → σ h = σ g → h = g) : ∀ (c p : Nat) (L M : Nat → Int), (∀ h, h < hs → if wPi pp h = true then L h ≤ M (σ h) else M (σ h) ≤ L h) → dFe hs pp K c p L → dFe hs pp K c p M
  | 0, _, _, _, _, _ => trivial
  | c + 1, p, L, M, hd, h => by
    obtain ⟨g, h1, h2, h3⟩ := h
    have a := hσ g h1
    have b := hd g h1
    refine ⟨σ g, a.1, ?_, dFe_dom hσ hi c (p + 1) (dPut L g (K p)) _ (fun x hx => ?_) h3⟩
    · unfold dFit at h2 ⊢
      rw [a.2]
      by_cases w : wPi pp g = true
      · rw [if_pos w] at h2 b ⊢; omega
      · rw [if_neg w] at h2 b ⊢; omega
    · unfold dPut
      by_cases y : x = g
      · rw [if_pos y, if_pos (show σ x = σ g by rw [y])]
        split <;> omega
      · rw [if_neg y, if_neg (show ¬ σ x = σ g from fun c => y (hi x g hx h1 c))]
        exact hd x hx
theorem dFe_swap {hs : Nat} {pp : Int} {K : Nat → Int} {c p h g : Nat} {L : Nat → Int} {r : Int} (hh : h < hs) (hg : g < hs) (hp : wPi pp h = wPi pp g) (hn : if wPi pp g = true then L g ≤ L h else L h ≤ L g) (q : dFe hs pp K c p (dPut L h r)) : dFe hs pp K c p (dPut L g r) := by
  refine dFe_dom (σ := fun x => if x = h then g else if x = g then h else x) (fun x hx => ?_) (fun x y hx hy e => ?_) c p (dPut L h r) _ (fun x hx => ?_) q
  · show (if x = h then g else if x = g then h else x) < hs ∧ wPi pp ((if x = h then g else if x = g then h else x : Nat) : Int) = _
    by_cases a : x = h
    · rw [if_pos a, a]; exact ⟨hg, hp.symm⟩
    · rw [if_neg a]
      by_cases b : x = g
      · rw [if_pos b, b]; exact ⟨hh, hp⟩
      · rw [if_neg b]; exact ⟨hx, rfl⟩
  · have e2 : (if x = h then g else if x = g then h else x) = (if y = h then g else if y = g then h else y) := e
    revert e2
    repeat' split
    all_goals (intro e2; omega)
  · show if wPi pp x = true then dPut L h r x ≤ dPut L g r (if x = h then g else if x = g then h else x) else dPut L g r (if x = h then g else if x = g then h else x) ≤ dPut L h r x
    unfold dPut
    by_cases a : x = h
    · rw [if_pos a, if_pos a, if_pos rfl]; split <;> omega
    · rw [if_neg a, if_neg a]
      by_cases b : x = g
      · rw [if_pos b, b]
        by_cases y : h = g
        · exact absurd (b.trans y.symm) a
        · rw [if_neg y]; exact hn
      · rw [if_neg b, if_neg b]; split <;> omega
/-- f is the hole of a kind whose last rank is nearest among the first j, if one fits -/
def dNr (pp : Int) (L : Nat → Int) (r : Int) (pk : Bool) (j : Nat) (f : Int) : Prop := (f = -1 ∧ ∀ h : Nat, h < j → wPi pp h = pk → ¬ dFit pp L h r) ∨ ∃ g : Nat, f = (g : Int) ∧ g < j ∧ wPi pp g = pk ∧ dFit pp L g r ∧ ∀ h : Nat, h < j → wPi pp h = pk → dFit pp L h r → (if pk = true then L g ≤ L h else L h ≤ L g)
theorem dNr_skip {pp : Int} {L : Nat → Int} {r : Int} {pk : Bool} {j : Nat} {f : Int} (h : dNr pp L r pk j f) (hn : ¬ (wPi pp j = pk ∧ dFit pp L j r)) : dNr pp L r pk (j + 1) f := by
  rcases h with ⟨a, b⟩ | ⟨g, a, b, c, e, f⟩
  · refine .inl ⟨a, fun h hh hp hf => ?_⟩
    by_cases x : h = j
    · subst x; exact hn ⟨hp, hf⟩
    · exact b h (by omega) hp hf
  · refine .inr ⟨g, a, by omega, c, e, fun h hh hp hf => ?_⟩
    by_cases x : h = j
    · subst x; exact absurd ⟨hp, hf⟩ hn
    · exact f h (by omega) hp hf
theorem dNr_first {pp : Int} {L : Nat → Int} {r : Int} {pk : Bool} {j : Nat} {f : Int} (h : dNr pp L r pk j f) (hf : f < 0) (hj : wPi pp j = pk ∧ dFit pp L j r) : dNr pp L r pk (j + 1) j := by
  rcases h with ⟨a, b⟩ | ⟨g, a, b, c, e, f⟩
  · refine .inr ⟨j, rfl, by omega, hj.1, hj.2, fun h hh hp hf => ?_⟩
    by_cases x : h = j
    · subst x; split <;> omega
    · exact absurd hf (b h (by omega) hp)
  · omega
theorem dNr_keep {pp : Int} {L : Nat → Int} {r : Int} {pk : Bool} {j g : Nat} (h : dNr pp L r pk j (g : Int)) (hn : if pk = true then L g ≤ L j else L j ≤ L g) : dNr pp L r pk (j + 1) g := by
  rcases h with ⟨a, b⟩ | ⟨g2, a, b, c, e, f⟩
  · omega
  · obtain rfl : g = g2 := by omega
    refine .inr ⟨g, rfl, by omega, c, e, fun h hh hp hf => ?_⟩
    by_cases x : h = j
    · subst x; exact hn
    · exact f h (by omega) hp hf
theorem dNr_take {pp : Int} {L : Nat → Int} {r : Int} {pk : Bool} {j g : Nat} (h : dNr pp L r pk j (g : Int)) (hj : wPi pp j = pk ∧ dFit pp L j r) (hn : if pk = true then L j ≤ L g else L g ≤ L j) : dNr pp L r pk (j + 1) j := by
  rcases h with ⟨a, b⟩ | ⟨g2, a, b, c, e, f⟩
  · omega
  · obtain rfl : g = g2 := by omega
    refine .inr ⟨j, rfl, by omega, hj.1, hj.2, fun h hh hp hf => ?_⟩
    by_cases x : h = j
    · subst x; split <;> omega
    · have y := f h (by omega) hp hf
      revert y hn
      split <;> (intro y hn; omega)
theorem zup_back {I : ZI} {a k : Nat} {v : Int} : zup (zup I a k v) a k (I a k) = I := by
  funext x y
  by_cases h : x = a ∧ y = k
  · rw [zup_eq h, h.1, h.2]
  · rw [zup_ne h, zup_ne h]
section YD
variable {d n t : Nat} {sh : ZS} {R : ZR} {B : ZI} {lw S : Nat} {H : List Int} {g : Int} {LA : Nat → Int} {hs m : Nat} {pp : Int} {K : Nat → Int}
def dY (hs m : Nat) (pp : Int) (K L : Nat → Int) (I : ZI) : Prop := (I 15 0 = (hs : Int) ∧ I 15 1 = pp) ∧ (∀ q, q < m → I 14 q = K q) ∧ ∀ h, h < hs → I 118 h = L h ∧ -1 ≤ L h ∧ L h ≤ 20
theorem dY.put {L : Nat → Int} {I : ZI} {h : Nat} {r : Int} (y : dY hs m pp K L I) (hr : 0 ≤ r ∧ r < 20) : dY hs m pp K (dPut L h r) (zup I 118 h r) := by
  refine ⟨⟨by rw [zup_ne (by omega)]; exact y.1.1, by rw [zup_ne (by omega)]; exact y.1.2⟩, fun q hq => by rw [zup_ne (by omega)]; exact y.2.1 q hq, fun x hx => ?_⟩
  unfold dPut
  by_cases a : x = h
  · rw [if_pos a, zup_eq ⟨rfl, a⟩]; omega
  · rw [if_neg a, zup_ne (by omega)]; exact y.2.2 x hx
theorem dY.fr {L : Nat → Int} {I J : ZI} (y : dY hs m pp K L I) (e : ∀ a b, a = 14 ∨ a = 15 ∨ a = 118 → J a b = I a b) : dY hs m pp K L J :=
  ⟨⟨by rw [e _ _ (by omega)]; exact y.1.1, by rw [e _ _ (by omega)]; exact y.1.2⟩, fun q hq => by rw [e _ _ (by omega)]; exact y.2.1 q hq, fun x hx => by rw [e _ _ (by omega)]; exact y.2.2 x hx⟩
theorem s_Y_fits {L : Nat → Int} {I : ZI} {Q : Int → ZI → Prop} {h : Nat} {r : Int} (hW : Wf sh R) (hh : hs ≤ 9) (hl : h < hs) (y : dY hs m pp K L I) (q : ∀ v : Int, (v = 1 ∧ dFit pp L h r) ∨ (v = 0 ∧ ¬ dFit pp L h r) → Q v I) : XI (d + 1) 91 [.inr 117, .inl (h : Int), .inl r] n sh R I Q :=
  b_Y_fits_0 hW (by
    have yl := y.2.2 h hl
    rw [if_neg (by omega), y.1.2, Int.toNat_natCast, yl.1]
    unfold dFit at q
    by_cases g : wPi pp h = true
    · rw [if_neg (fun c => wPi_0.mp c g)]
      rw [if_pos g] at q
      refine ⟨by omega, ?_⟩
      by_cases g1 : L h < r
      · rw [if_pos g1]; exact q 0 (.inr ⟨rfl, by omega⟩)
      · rw [if_neg g1]; exact q 1 (.inl ⟨rfl, by omega⟩)
    · rw [if_pos (wPi_0.mpr g)]
      rw [if_neg g] at q
      refine ⟨by omega, ?_⟩
      by_cases g1 : r < L h
      · rw [if_pos g1]; exact q 0 (.inr ⟨rfl, by omega⟩)
      · rw [if_neg g1]; exact q 1 (.inl ⟨rfl, by omega⟩))
theorem l_Y_near {L : Nat → Int} {I : ZI} {Q : Int → ZI → Prop} {r b : Int} {pk : Bool} (hW : Wf sh R) (hh : hs ≤ 9) (y : dY hs m pp K L I) (hr : 0 ≤ r ∧ r < 20) (hb : b = if pk = true then 1 else 0) (q : ∀ f : Int, dNr pp L r pk hs f → Q f I) : ∀ (c j : Nat) (f : Int), j + c = hs → dNr pp L r pk j f → XIs (d + 2) 94 5 [some (.inr 117), some (.inl r), some (.inl b), some (.inl f), some (.inl (j : Int))] [] n sh R I Q
  | 0, j, f, h, hf => b_Y_nearest_5 hW (by
    obtain rfl : j = hs := by omega
    rw [y.1.1, if_pos (by omega)]
    exact q f hf)
  | c + 1, j, f, h, hf => b_Y_nearest_5 hW (by
    have jl : j < hs := by omega
    have yl := y.2.2 j jl
    have nx : ∀ f2 : Int, dNr pp L r pk (j + 1) f2 → zr (((j + 1 : Nat) : Int)) ∧ XIs (d + 2) 94 5 [some (.inr 117), some (.inl r), some (.inl b), some (.inl f2), some (.inl ((j + 1 : Nat) : Int))] [] n sh R I Q := fun f2 h2 => ⟨by unfold zr; omega, l_Y_near hW hh y hr hb q c (j + 1) f2 (by omega) h2⟩
    rw [y.1.1, if_neg (by omega), if_neg (by omega), y.1.2, Int.toNat_natCast, show (j : Int) + 1 = ((j + 1 : Nat) : Int) by omega]
    have core : wPi pp j = pk → XI (d + 1) 91 [.inr 117, .inl (j : Int), .inl r] n sh R I (fun v2 I3 => (if v2 = 0 then zr (((j + 1 : Nat) : Int)) ∧ XIs (d + 2) 94 5 [some (.inr 117), some (.inl r), some (.inl b), some (.inl f), some (.inl ((j + 1 : Nat) : Int))] [] n sh R I3 Q else (if f < 0 then zr (((j + 1 : Nat) : Int)) ∧ XIs (d + 2) 94 5 [some (.inr 117), some (.inl r), some (.inl b), some (.inl (j : Int)), some (.inl ((j + 1 : Nat) : Int))] [] n sh R I3 Q else (0 ≤ (j : Int) ∧ (j : Int) < 9) ∧ (zr (I3 118 j - r)) ∧ (zr (0 - (I3 118 j - r))) ∧ (0 ≤ f ∧ f < 9) ∧ (zr (I3 118 (f).toNat - r)) ∧ (zr (0 - (I3 118 (f).toNat - r))) ∧ (if (if 0 ≤ (I3 118 (f).toNat - r) then (I3 118 (f).toNat - r) else 0 - (I3 118 (f).toNat - r)) ≤ (if 0 ≤ (I3 118 j - r) then (I3 118 j - r) else 0 - (I3 118 j - r)) then zr (((j + 1 : Nat) : Int)) ∧ XIs (d + 2) 94 5 [some (.inr 117), some (.inl r), some (.inl b), some (.inl f), some (.inl ((j + 1 : Nat) : Int))] [] n sh R I3 Q else zr (((j + 1 : Nat) : Int)) ∧ XIs (d + 2) 94 5 [some (.inr 117), some (.inl r), some (.inl b), some (.inl (j : Int)), some (.inl ((j + 1 : Nat) : Int))] [] n sh R I3 Q)))) := fun hp => by
      refine s_Y_fits (d := d) hW hh jl y fun v hv => ?_
      rcases hv with ⟨rfl, hv⟩ | ⟨rfl, hv⟩
      · rw [if_neg (by decide)]
        by_cases g1 : f < 0
        · rw [if_pos g1]; exact nx _ (dNr_first hf g1 ⟨hp, hv⟩)
        · rw [if_neg g1]
          obtain ⟨g, rfl⟩ : ∃ g : Nat, f = (g : Int) := ⟨f.toNat, by omega⟩
          have gb : g < j ∧ wPi pp g = pk ∧ dFit pp L g r := by
            rcases hf with ⟨a, _⟩ | ⟨g2, a, b, c, e, _⟩
            · omega
            · obtain rfl : g = g2 := by omega
              exact ⟨b, c, e⟩
          have yg := y.2.2 g (by omega)
          rw [Int.toNat_natCast, yl.1, yg.1]
          refine ⟨by omega, by unfold zr; omega, by unfold zr; omega, by omega, by unfold zr; omega, by unfold zr; omega, ?_⟩
          have f1 := hv
          have f2 := gb.2.2
          unfold dFit at f1 f2
          rw [hp] at f1
          rw [gb.2.1] at f2
          have kt := dNr_keep (g := g) hf
          have tk := dNr_take (g := g) hf ⟨hp, hv⟩
          cases pk with
          | true =>
            rw [if_pos rfl] at f1 f2 kt tk
            rw [if_pos (show 0 ≤ L g - r by omega), if_pos (show 0 ≤ L j - r by omega)]
            by_cases g2 : L g - r ≤ L j - r
            · rw [if_pos g2]; exact nx _ (kt (by omega))
            · rw [if_neg g2]; exact nx _ (tk (by omega))
          | false =>
            rw [if_neg (by decide)] at f1 f2 kt tk
            have e1 : (if 0 ≤ L g - r then L g - r else 0 - (L g - r)) = r - L g := by split <;> omega
            have e2 : (if 0 ≤ L j - r then L j - r else 0 - (L j - r)) = r - L j := by split <;> omega
            rw [e1, e2]
            by_cases g2 : r - L g ≤ r - L j
            · rw [if_pos g2]; exact nx _ (kt (by omega))
            · rw [if_neg g2]; exact nx _ (tk (by omega))
      · rw [if_pos rfl]; exact nx _ (dNr_skip hf fun c => hv c.2)
    by_cases g1 : wPi pp j = true
    · rw [if_neg (fun c => wPi_0.mp c g1)]
      cases pk with
      | true =>
        rw [if_pos rfl] at hb
        rw [if_neg (by omega)]
        exact core g1
      | false =>
        rw [if_neg (by decide)] at hb
        rw [if_pos (by omega)]
        exact nx _ (dNr_skip hf fun c => absurd (g1.symm.trans c.1) (by decide))
    · rw [if_pos (wPi_0.mpr g1)]
      cases pk with
      | true =>
        rw [if_pos rfl] at hb
        rw [if_pos (by omega)]
        exact nx _ (dNr_skip hf fun c => g1 c.1)
      | false =>
        rw [if_neg (by decide)] at hb
        rw [if_neg (by omega)]
        exact core (by revert g1; cases wPi pp j <;> intro g1 <;> first | rfl | exact absurd rfl g1))
theorem s_Y_near {L : Nat → Int} {I : ZI} {Q : Int → ZI → Prop} {r b : Int} {pk : Bool} (hW : Wf sh R) (hh : hs ≤ 9) (y : dY hs m pp K L I) (hr : 0 ≤ r ∧ r < 20) (hb : b = if pk = true then 1 else 0) (q : ∀ f : Int, dNr pp L r pk hs f → Q f I) : XI (d + 2) 94 [.inr 117, .inl r, .inl b] n sh R I Q :=
  b_Y_nearest_0 hW (l_Y_near hW hh y hr hb q hs 0 (-1) (by omega) (.inl ⟨rfl, fun h hl => absurd hl (by omega)⟩))
theorem s_Y_into {L : Nat → Int} {I : ZI} {Q : Int → ZI → Prop} {c p h : Nat} (hW : Wf sh R) (hh : hs ≤ 9) (hm : m ≤ 32) (hK : ∀ q, q < m → 0 ≤ K q ∧ K q < 20) (hp : p < m) (hl : h < hs) (y : dY hs m pp K L I) (ih : ∀ (M : Nat → Int) (J : ZI) (P : Int → ZI → Prop), dY hs m pp K M J → (∀ v : Int, (v = 1 ∧ dFe hs pp K c (p + 1) M) ∨ (v = 0 ∧ ¬ dFe hs pp K c (p + 1) M) → P v J) → XI (d + 1) 93 [.inr 117, .inr 14, .inl ((p + 1 : Nat) : Int), .inl (m : Int)] n sh R J P) (q : ∀ v : Int, (v = 1 ∧ dOk hs pp K c p L h) ∨ (v = 0 ∧ ¬ dOk hs pp K c p L h) → Q v I) : XI (d + 2) 92 [.inr 117, .inl (h : Int), .inr 14, .inl (p : Int), .inl (m : Int)] n sh R I Q :=
  b_Y_canPutInto_0 hW (by
    have kp := hK p hp
    rw [if_neg (by omega), Int.toNat_natCast, Int.toNat_natCast, y.2.1 p hp, show (p : Int) + 1 = ((p + 1 : Nat) : Int) by omega]
    refine ⟨by omega, s_Y_fits (d := d) hW hh hl y fun v hv => ?_⟩
    rcases hv with ⟨rfl, hv⟩ | ⟨rfl, hv⟩
    · rw [if_pos (by decide), y.2.1 p hp]
      refine ⟨by omega, by unfold zr; omega, ih _ _ _ (y.put kp) fun v hw => ?_⟩
      rw [zup_back]
      rcases hw with ⟨rfl, hw⟩ | ⟨rfl, hw⟩
      · exact ⟨.inr rfl, q 1 (.inl ⟨rfl, hv, hw⟩)⟩
      · exact ⟨.inl rfl, q 0 (.inr ⟨rfl, fun c => hw c.2⟩)⟩
    · rw [if_neg (by decide)]
      exact q 0 (.inr ⟨rfl, fun c => hv c.1⟩))
theorem s_Y_canPut (hW : Wf sh R) (hh : hs ≤ 9) (hm : m ≤ 32) (hK : ∀ q, q < m → 0 ≤ K q ∧ K q < 20) : ∀ (c p : Nat) (L : Nat → Int) (I : ZI) (Q : Int → ZI → Prop), p + c = m → dY hs m pp K L I → (∀ v : Int, (v = 1 ∧ dFe hs pp K c p L) ∨ (v = 0 ∧ ¬ dFe hs pp K c p L) → Q v I) → XI (d + 2 * c + 1) 93 [.inr 117, .inr 14, .inl (p : Int), .inl (m : Int)] n sh R I Q
  | 0, p, L, I, Q, h, y, q => b_Y_canPut_0 hW (by
    rw [if_neg (by omega)]
    exact q 1 (.inl ⟨rfl, trivial⟩))
  | c + 1, p, L, I, Q, h, y, q => b_Y_canPut_0 hW (by
    have kp := hK p (by omega)
    have ih : ∀ (M : Nat → Int) (J : ZI) (P : Int → ZI → Prop), dY hs m pp K M J → (∀ v : Int, (v = 1 ∧ dFe hs pp K c (p + 1) M) ∨ (v = 0 ∧ ¬ dFe hs pp K c (p + 1) M) → P v J) → XI (d + 2 * c + 1) 93 [.inr 117, .inr 14, .inl ((p + 1 : Nat) : Int), .inl (m : Int)] n sh R J P := fun M J P yM hP => s_Y_canPut hW hh hm hK c (p + 1) M J P (by omega) yM hP
    rw [if_pos (by omega), Int.toNat_natCast, y.2.1 p (by omega)]
    refine ⟨by omega, s_Y_near (d := d + 2 * c) (pk := false) hW hh y kp rfl fun f1 h1 => ?_⟩
    have second : (∀ h : Nat, h < hs → wPi pp h = false → ¬ dOk hs pp K c p L h) → XI (d + 2 * (c + 1)) 94 [.inr 117, .inl (I 14 p), .inl 1] n sh R I (fun v6 I7 => XI (d + 2 * (c + 1)) 92 [.inr 117, .inl v6, .inr 14, .inl (p : Int), .inl (m : Int)] n sh R I7 (fun v8 I9 => (if v8 = 0 then Q 0 I9 else Q 1 I9))) := fun no => by
      rw [y.2.1 p (by omega)]
      refine s_Y_near (d := d + 2 * c) (pk := true) hW hh y kp rfl fun f2 h2 => ?_
      rcases h2 with ⟨rfl, h2⟩ | ⟨e, rfl, e1, e2, e3, e4⟩
      · refine b_Y_canPutInto_0 (d := d + 2 * c + 1) hW ?_
        rw [if_pos (by decide), if_pos rfl]
        refine q 0 (.inr ⟨rfl, fun ⟨h, a, b, x⟩ => ?_⟩)
        by_cases w : wPi pp h = true
        · exact h2 h a w b
        · exact no h a (by revert w; cases wPi pp h <;> intro w <;> first | rfl | exact absurd rfl w) ⟨b, x⟩
      · refine s_Y_into (d := d + 2 * c) (c := c) hW hh hm hK (by omega) e1 y ih fun v hv => ?_
        rcases hv with ⟨rfl, hv⟩ | ⟨rfl, hv⟩
        · rw [if_neg (by decide)]; exact q 1 (.inl ⟨rfl, e, e1, hv.1, hv.2⟩)
        · rw [if_pos rfl]
          refine q 0 (.inr ⟨rfl, fun ⟨h, a, b, x⟩ => ?_⟩)
          by_cases w : wPi pp h = true
          · have e5 := e4 h a w b
            rw [if_pos rfl] at e5
            exact hv ⟨e3, dFe_swap a e1 (w.trans e2.symm) (by rw [if_pos e2]; exact e5) x⟩
          · exact no h a (by revert w; cases wPi pp h <;> intro w <;> first | rfl | exact absurd rfl w) ⟨b, x⟩
    rcases h1 with ⟨rfl, h1⟩ | ⟨e, rfl, e1, e2, e3, e4⟩
    · refine b_Y_canPutInto_0 (d := d + 2 * c + 1) hW ?_
      rw [if_pos (by decide), if_neg (by decide)]
      exact second fun h a w x => h1 h a w x.1
    · refine s_Y_into (d := d + 2 * c) (c := c) hW hh hm hK (by omega) e1 y ih fun v hv => ?_
      rcases hv with ⟨rfl, hv⟩ | ⟨rfl, hv⟩
      · rw [if_pos (by decide)]; exact q 1 (.inl ⟨rfl, e, e1, hv.1, hv.2⟩)
      · rw [if_neg (by decide)]
        refine second fun h a w x => ?_
        have e5 := e4 h a w x.1
        rw [if_neg (by decide)] at e5
        exact hv ⟨e3, dFe_swap a e1 (w.trans e2.symm) (by rw [if_neg (by rw [e2]; decide)]; exact e5) x.2⟩)
end YD
