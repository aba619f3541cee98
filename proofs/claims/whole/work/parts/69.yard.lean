-- the model searches a yard's row
def dE (pp : Int) (h : Nat) : Int := if wPi pp h = true then 20 else -1
def dSk (pp : Int) (L : Nat → Int) (r : Int) (h : Nat) : Prop := ¬ dFit pp L h r ∨ ∃ j : Nat, j < h ∧ wPi pp j = wPi pp h ∧ L j = dE pp j ∧ L h = dE pp h
def dNx (hs : Nat) (pp : Int) (L : Nat → Int) (r : Int) (f : Nat) (v : Int) : Prop := (v = -1 ∧ ∀ h, f ≤ h → h < hs → dSk pp L r h) ∨ ∃ g : Nat, v = (g : Int) ∧ f ≤ g ∧ g < hs ∧ dFit pp L g r ∧ ∀ h, f ≤ h → h < g → dSk pp L r h
theorem dSk_no {hs : Nat} {pp : Int} {K : Nat → Int} {c p h : Nat} {L : Nat → Int} (hh : h < hs) (hs2 : dSk pp L (K p) h) (hn : ∀ j, j < h → ¬ dOk hs pp K c p L j) : ¬ dOk hs pp K c p L h := fun x => by
  rcases hs2 with a | ⟨j, a, b, e, f⟩
  · exact a x.1
  · have el : L j = L h := by
      rw [e, f]; unfold dE; rw [b]
    refine hn j a ⟨?_, dFe_swap hh (by omega) b.symm (by rw [el]; split <;> omega) x.2⟩
    have x1 := x.1
    unfold dFit at x1 ⊢
    rw [b, el]; exact x1
theorem dSk_nos {hs : Nat} {pp : Int} {K : Nat → Int} {c p f e : Nat} {L : Nat → Int} (he : e ≤ hs) (hn : ∀ j, j < f → ¬ dOk hs pp K c p L j) (hk : ∀ h, f ≤ h → h < e → dSk pp L (K p) h) : ∀ k, k ≤ e → ∀ j, j < k → ¬ dOk hs pp K c p L j
  | 0, _, j, hj => by omega
  | k + 1, hk2, j, hj => by
    have ih := dSk_nos he hn hk k (by omega)
    by_cases a : j = k
    · subst a
      by_cases b : j < f
      · exact hn j b
      · exact dSk_no (by omega) (hk j (by omega) (by omega)) ih
    · exact ih j (by omega)
theorem dLR_fe {hs : Nat} {pp : Int} {K : Nat → Int} {c p : Nat} {L ρ : Nat → Int} (h : dLR hs pp K c p L ρ) : dFe hs pp K c p L := by
  cases c with
  | zero => trivial
  | succ c =>
    obtain ⟨x, _, a, b, _, _⟩ := h
    exact ⟨x, a, b.1, b.2⟩
section YM
variable {d n t : Nat} {sh : ZS} {R : ZR} {B : ZI} {lw S : Nat} {H : List Int} {g : Int} {LA : Nat → Int} {hs m : Nat} {pp : Int}
def dM (hs : Nat) (pp : Int) (k : Nat) (L : Nat → Int) (I : ZI) : Prop := (I 137 3 = (hs : Int) ∧ I 137 4 = pp) ∧ ∀ h, h < hs → I 172 (10 * k + h) = (if L h = dE pp h then -1 else L h) ∧ -1 ≤ L h ∧ L h ≤ 20 ∧ (wPi pp h = true → 0 ≤ L h)
theorem l_M_nh58 {Q : Int → ZI → Prop} {k h : Nat} {L : Nat → Int} {u2 : Option AV} {r : Int} {I : ZI} (hW : Wf sh R) (hh : hs ≤ 9) (hk : k < 10) (hl : h < hs) (y : dM hs pp k L I) (hv : dFit pp L h r) (q1 : Q h I) (q2 : dSk pp L r h → ∀ x6 x7 : Int, XIs (d + 2) 224 14 [some (.inr 137), some (.inl (k : Int)), u2, some (.inl r), some (.inl ((h + 1 : Nat) : Int)), some (.inl (if L h = dE pp h then -1 else L h)), some (.inl x6), some (.inl x7)] [] n sh R I Q) : ∀ (c j : Nat) (b : Bool), j + c = h → (b = true → L h = dE pp h ∧ ∃ i : Nat, i < h ∧ wPi pp i = wPi pp h ∧ L i = dE pp i) → XIs (d + 2) 224 58 [some (.inr 137), some (.inl (k : Int)), u2, some (.inl r), some (.inl (h : Int)), some (.inl (if L h = dE pp h then -1 else L h)), some (.inl (if b = true then 1 else 0)), some (.inl (j : Int))] [] n sh R I Q := fun c j b hj hb => by
  have fin : ∀ j : Nat, if ¬ (if b = true then (1 : Int) else 0) = 0 then (zr ((h : Int) + 1)) ∧ XIs (d + 2) 224 14 [some (.inr 137), some (.inl (k : Int)), u2, some (.inl r), some (.inl ((h : Int) + 1)), some (.inl (if L h = dE pp h then -1 else L h)), some (.inl (if b = true then 1 else 0)), some (.inl (j : Int))] [] n sh R I Q else Q h I := fun j => by
    cases b with
    | true =>
      rw [if_pos rfl, if_pos (by decide)]
      obtain ⟨a, i, b, e, f⟩ := hb rfl
      exact ⟨by unfold zr; omega, q2 (.inr ⟨i, b, e, f, a⟩) _ _⟩
    | false =>
      rw [if_neg (by decide)]; exact q1
  induction c generalizing j b with
  | zero =>
    refine b_M_nextHole_58 hW ?_
    rw [if_pos (by omega)]
    exact fin j
  | succ c ih =>
    refine b_M_nextHole_58 hW ?_
    have yl := y.2 h hl
    have yj := y.2 j (by omega)
    rw [if_neg (by omega)]
    by_cases g0 : L h = dE pp h
    · rw [if_neg (show ¬ ¬ (if L h = dE pp h then -1 else L h) = -1 by rw [if_pos g0]; decide)]
      rw [y.1.2]
      have nx : ∀ b2 : Bool, (b2 = true → L h = dE pp h ∧ ∃ i : Nat, i < h ∧ wPi pp i = wPi pp h ∧ L i = dE pp i) → zr ((j : Int) + 1) ∧ XIs (d + 2) 224 58 [some (.inr 137), some (.inl (k : Int)), u2, some (.inl r), some (.inl (h : Int)), some (.inl (if L h = dE pp h then -1 else L h)), some (.inl (if b2 = true then 1 else 0)), some (.inl ((j : Int) + 1))] [] n sh R I Q := fun b2 hb2 => ⟨by unfold zr; omega, ih (j + 1) b2 (by omega) hb2 fun j => by
        cases b2 with
        | true =>
          rw [if_pos rfl, if_pos (by decide)]
          obtain ⟨a, i, b, e, f⟩ := hb2 rfl
          exact ⟨by unfold zr; omega, q2 (.inr ⟨i, b, e, f, a⟩) _ _⟩
        | false =>
          rw [if_neg (by decide)]; exact q1⟩
      cases b with
      | true => rw [if_pos (show ¬ (if true = true then (1 : Int) else 0) = 0 by decide)]; exact nx true hb
      | false =>
        rw [if_neg (show ¬ ¬ (if false = true then (1 : Int) else 0) = 0 by decide)]
        have e1 : ((10 * (k : Int)) + (j : Int)).toNat = 10 * k + j := by omega
        rw [e1, yj.1]
        have t1 := nx true
        have t0 := nx false
        rw [if_pos rfl] at t1
        rw [if_neg (show ¬ (false = true) by decide)] at t0
        refine ⟨by unfold zr; omega, by unfold zr; omega, by omega, ?_⟩
        by_cases g1 : L j = dE pp j
        · rw [if_neg (show ¬ ¬ (if L j = dE pp j then -1 else L j) = -1 by rw [if_pos g1]; decide)]
          have w1 : zand (zshr pp (j : Int)) 1 = 1 ↔ wPi pp j = true := by unfold wPi; rw [decide_eq_true_iff]
          have w2 : zand (zshr pp (h : Int)) 1 = 1 ↔ wPi pp h = true := by unfold wPi; rw [decide_eq_true_iff]
          by_cases p1 : wPi pp j = true
          · rw [if_neg (fun c => c (w1.mpr p1))]
            by_cases p2 : wPi pp h = true
            · rw [if_neg (fun c => c (w2.mpr p2))]; exact t1 fun _ => ⟨g0, j, by omega, p1.trans p2.symm, g1⟩
            · rw [if_pos (fun c => p2 (w2.mp c))]; exact t0 fun c => absurd c (by decide)
          · rw [if_pos (fun c => p1 (w1.mp c))]
            by_cases p2 : wPi pp h = true
            · rw [if_neg (fun c => c (w2.mpr p2))]; exact t0 fun c => absurd c (by decide)
            · rw [if_pos (fun c => p2 (w2.mp c))]; exact t1 fun _ => ⟨g0, j, by omega, by revert p1 p2; cases wPi pp j <;> cases wPi pp h <;> intro p1 p2 <;> first | rfl | exact absurd rfl p1 | exact absurd rfl p2, g1⟩
        · have ne : ¬ (if L j = dE pp j then -1 else L j) = -1 := by
            rw [if_neg g1]
            intro x
            unfold dE at g1
            by_cases p1 : wPi pp j = true
            · have := yj.2.2.2 p1; omega
            · rw [if_neg p1] at g1; omega
          rw [if_pos ne]; exact t0 fun c => absurd c (by decide)
    · have ne : ¬ (if L h = dE pp h then -1 else L h) = -1 := by
        rw [if_neg g0]
        intro x
        unfold dE at g0
        by_cases p1 : wPi pp h = true
        · have := yl.2.2.2 p1; omega
        · rw [if_neg p1] at g0; omega
      rw [if_pos ne]
      exact fin j
theorem l_M_nh14 {Q : Int → ZI → Prop} {k f : Nat} {L : Nat → Int} {u2 : Option AV} {r : Int} {I : ZI} (hW : Wf sh R) (hh : hs ≤ 9) (hk : k < 10) (hr : 0 ≤ r ∧ r < 20) (y : dM hs pp k L I) (q : ∀ v : Int, dNx hs pp L r f v → Q v I) : ∀ (c h : Nat) (u5 u6 u7 : Option AV), h + c = hs → f ≤ h → (∀ j, f ≤ j → j < h → dSk pp L r j) → XIs (d + 2) 224 14 [some (.inr 137), some (.inl (k : Int)), u2, some (.inl r), some (.inl (h : Int)), u5, u6, u7] [] n sh R I Q
  | 0, h, u5, u6, u7, hc, hf, hn => b_M_nextHole_14 hW (by
    rw [y.1.1, if_pos (by omega)]
    exact q (-1) (.inl ⟨rfl, fun j a b => hn j a (by omega)⟩))
  | c + 1, h, u5, u6, u7, hc, hf, hn => b_M_nextHole_14 hW (by
    have yl := y.2 h (by omega)
    have e1 : ((10 * (k : Int)) + (h : Int)).toNat = 10 * k + h := by omega
    rw [y.1.1, if_neg (by omega), e1, yl.1, y.1.2]
    have sk : dSk pp L r h → ∀ u6 u7 : Option AV, XIs (d + 2) 224 14 [some (.inr 137), some (.inl (k : Int)), u2, some (.inl r), some (.inl ((h + 1 : Nat) : Int)), some (.inl (if L h = dE pp h then -1 else L h)), u6, u7] [] n sh R I Q := fun hs2 u6 u7 => l_M_nh14 hW hh hk hr y q c (h + 1) _ u6 u7 (by omega) (by omega) fun j a b => by
      by_cases x : j = h
      · rw [x]; exact hs2
      · exact hn j a (by omega)
    have go : dFit pp L h r → XIs (d + 2) 224 58 [some (.inr 137), some (.inl (k : Int)), u2, some (.inl r), some (.inl (h : Int)), some (.inl (if L h = dE pp h then -1 else L h)), some (.inl 0), some (.inl 0)] [] n sh R I Q := fun hv =>
      l_M_nh58 (b := false) hW hh hk (by omega) y hv (q h (.inr ⟨h, rfl, hf, by omega, hv, hn⟩)) (fun hs2 x6 x7 => sk hs2 _ _) h 0 (by omega) fun c => absurd c (by decide)
    rw [show (h : Int) + 1 = ((h + 1 : Nat) : Int) by omega]
    have w2 : zand (zshr pp (h : Int)) 1 = 1 ↔ wPi pp h = true := by unfold wPi; rw [decide_eq_true_iff]
    refine ⟨by unfold zr; omega, by unfold zr; omega, by omega, ?_⟩
    unfold dFit at go
    by_cases g0 : L h = dE pp h
    · rw [if_pos g0] at go ⊢
      rw [if_pos rfl]
      refine go ?_
      rw [g0]; unfold dE
      by_cases p1 : wPi pp h = true
      · rw [if_pos p1, if_pos p1]; omega
      · rw [if_neg p1, if_neg p1]; omega
    · rw [if_neg g0] at sk go ⊢
      have ne : ¬ L h = -1 := by
        intro x
        unfold dE at g0
        by_cases p1 : wPi pp h = true
        · have := yl.2.2.2 p1; omega
        · rw [if_neg p1] at g0; omega
      rw [if_neg ne]
      by_cases p1 : wPi pp h = true
      · rw [if_neg (fun c => c (w2.mpr p1))]
        rw [if_pos p1] at go
        by_cases g1 : L h < r
        · rw [if_pos g1]; exact ⟨by unfold zr; omega, sk (.inl fun x => by unfold dFit at x; first | (rw [if_pos p1] at x; omega) | (rw [if_neg p1] at x; omega)) _ _⟩
        · rw [if_neg g1]; exact go (by omega)
      · rw [if_pos (fun c => p1 (w2.mp c))]
        rw [if_neg p1] at go
        by_cases g1 : r < L h
        · rw [if_pos g1]; exact ⟨by unfold zr; omega, sk (.inl fun x => by unfold dFit at x; first | (rw [if_pos p1] at x; omega) | (rw [if_neg p1] at x; omega)) _ _⟩
        · rw [if_neg g1]; exact go (by omega))
theorem s_M_nextHole {Q : Int → ZI → Prop} {k f : Nat} {L : Nat → Int} {I : ZI} {x2 : Int} (hW : Wf sh R) (hh : hs ≤ 9) (hb : bOk B S) (hi : hIn B H) (hk : k < 10) (hl : k < H.length) (hx : x2 = (f : Int)) (hf : f ≤ hs) (hE : mEnv B I) (hH : mSt I H g LA) (y : dM hs pp k L I) (q : ∀ v : Int, dNx hs pp L (rK B H k) f v → Q v I) : XI (d + 2) 224 [.inr 137, .inl (k : Int), .inl x2] n sh R I Q :=
  b_M_nextHole_0 hW (by
    have rk := rK_range hb hi hl
    have m1 : I 142 k = H.getD k 0 := hH.2.1 k hl
    have m2 : I 138 = B 138 := hE.2.1.1
    have m3 : I 143 (B 138 (H.getD k 0).toNat).toNat = rK B H k := by rw [hE.2.1.2.2.2]; rfl
    rw [Int.toNat_natCast, m1, m2, m3, hx]
    exact ⟨by omega, by omega, by omega, l_M_nh14 hW hh hk rk.2.2 y q (hs - f) f _ _ _ (by omega) (by omega) fun j a b => absurd b (by omega)⟩)
theorem l_M_cp79 {Q : Int → ZI → Prop} {k : Nat} {x1 x3 : Int} (hW : Wf sh R) (hh : hs ≤ 9) (hk : k + 1 < 10) (hx3 : 0 ≤ x3 ∧ x3 < hs) {I0 : ZI} (hm : (0 ≤ I0 142 k ∧ I0 142 k < 32) ∧ (0 ≤ I0 138 (I0 142 k).toNat ∧ I0 138 (I0 142 k).toNat < 20)) {r : Int} (hr : I0 143 (I0 138 (I0 142 k).toNat).toNat = r)
    (q : ∀ (J : ZI) (u : Option AV), (∀ h, h < hs → J 172 (10 * (k + 1) + h) = if (h : Int) = x3 then r else I0 172 (10 * k + h)) → J 171 (k + 1) = -1 → (∀ a b, ¬ (a = 171 ∧ k + 1 ≤ b) → ¬ (a = 172 ∧ 10 * (k + 1) ≤ b) → J a b = I0 a b) → XIs (d + 3) 225 30 [some (.inr 137), some (.inl x1), some (.inl ((k + 1 : Nat) : Int)), some (.inl x3), u] [] n sh R J Q) : ∀ (c j : Nat) (I : ZI), j + c = hs → I 137 3 = (hs : Int) → (∀ h, h < j → I 172 (10 * (k + 1) + h) = I0 172 (10 * k + h)) → (∀ a b, ¬ (a = 172 ∧ 10 * (k + 1) ≤ b) → I a b = I0 a b) → XIs (d + 3) 225 79 [some (.inr 137), some (.inl x1), some (.inl (k : Int)), some (.inl x3), some (.inl (j : Int))] [] n sh R I Q
  | 0, j, I, hj, h3, h8, hf => b_M_canYard_79 hW (by
    obtain rfl : j = hs := by omega
    obtain ⟨x, rfl⟩ : ∃ x : Nat, x3 = (x : Int) := ⟨x3.toNat, by omega⟩
    have e1 : ((10 * ((k : Int) + 1)) + (x : Int)).toNat = 10 * (k + 1) + x := by omega
    have e2 : ((k : Int) + 1).toNat = k + 1 := by omega
    have f1 : I 142 = I0 142 := funext fun b => hf _ _ (by omega)
    have f2 : I 138 = I0 138 := funext fun b => hf _ _ (by omega)
    have f3 : I 143 = I0 143 := funext fun b => hf _ _ (by omega)
    rw [h3, if_pos (by omega), e1, e2, Int.toNat_natCast, f1, f2, f3, hr, show (k : Int) + 1 = ((k + 1 : Nat) : Int) by omega]
    refine ⟨by unfold zr; omega, by unfold zr; omega, by unfold zr; omega, by omega, hm.1, hm.2, by omega, by omega, q _ _ (fun h hl => ?_) (zup_eq ⟨rfl, rfl⟩) fun a b g1 g2 => ?_⟩
    · rw [zup_ne (by omega)]
      by_cases a : h = x
      · rw [zup_eq (by omega), if_pos (by omega)]
      · rw [zup_ne (by omega), if_neg (by omega)]; exact h8 h hl
    · rw [zup_ne (by omega), zup_ne (by omega)]; exact hf a b g2)
  | c + 1, j, I, hj, h3, h8, hf => b_M_canYard_79 hW (by
    have e1 : ((10 * ((k : Int) + 1)) + (j : Int)).toNat = 10 * (k + 1) + j := by omega
    have e2 : ((10 * (k : Int)) + (j : Int)).toNat = 10 * k + j := by omega
    rw [h3, if_neg (by omega), e1, e2, show (j : Int) + 1 = ((j + 1 : Nat) : Int) by omega]
    refine ⟨by unfold zr; omega, by unfold zr; omega, by unfold zr; omega, by unfold zr; omega, by unfold zr; omega, by omega, by omega, by unfold zr; omega, l_M_cp79 hW hh hk hx3 hm hr q c (j + 1) _ (by omega) (by rw [zup_ne (by omega)]; exact h3) (fun h hl => ?_) fun a b g2 => by rw [zup_ne (by omega)]; exact hf a b g2⟩
    by_cases a : h = j
    · rw [zup_eq (by omega), a]; exact hf _ _ (by omega)
    · rw [zup_ne (by omega)]; exact h8 h (by omega))
/-- a search at place k for c + 1 letters -/
def dSea (d n : Nat) (sh : ZS) (R : ZR) (B : ZI) (H : List Int) (g : Int) (LA : Nat → Int) (hs : Nat) (pp : Int) (m : Nat) (Q : Int → ZI → Prop) (c : Nat) : Prop :=
  ∀ (k f : Nat) (L : Nat → Int) (I : ZI) (u3 u4 : Option AV), k + c + 1 = m → f ≤ hs → mEnv B I → mSt I H g LA → dM hs pp k L I → I 171 k = (f : Int) - 1 → (∀ j, j < f → ¬ dOk hs pp (rK B H) c k L j) →
  (∀ J : ZI, dLR hs pp (rK B H) (c + 1) k L (J 171) → (∀ a b, ¬ (a = 171 ∧ k ≤ b) → ¬ (a = 172 ∧ 10 * (k + 1) ≤ b) → J a b = I a b) → Q 1 J) →
  (∀ (J : ZI) (u3 u4 : Option AV), (∀ j, j < hs → ¬ dOk hs pp (rK B H) c k L j) → (∀ a b, ¬ (a = 171 ∧ k ≤ b) → ¬ (a = 172 ∧ 10 * (k + 1) ≤ b) → J a b = I a b) → XIs (d + 3) 225 30 [some (.inr 137), some (.inl (m : Int)), some (.inl ((k : Int) - 1)), u3, u4] [] n sh R J Q) →
  XIs (d + 3) 225 30 [some (.inr 137), some (.inl (m : Int)), some (.inl (k : Int)), u3, u4] [] n sh R I Q
theorem l_M_sea1 {Q : Int → ZI → Prop} (hW : Wf sh R) (hh : hs ≤ 9) (hb : bOk B S) (hi : hIn B H) (hm : m ≤ 10) (hl : m ≤ H.length) (c : Nat) (ihc : ∀ c', c = c' + 1 → dSea d n sh R B H g LA hs pp m Q c') : ∀ (e k f : Nat) (L : Nat → Int) (I : ZI) (u3 u4 : Option AV), hs ≤ f + e → k + c + 1 = m → f ≤ hs → mEnv B I → mSt I H g LA → dM hs pp k L I → I 171 k = (f : Int) - 1 → (∀ j, j < f → ¬ dOk hs pp (rK B H) c k L j) →
  (∀ J : ZI, dLR hs pp (rK B H) (c + 1) k L (J 171) → (∀ a b, ¬ (a = 171 ∧ k ≤ b) → ¬ (a = 172 ∧ 10 * (k + 1) ≤ b) → J a b = I a b) → Q 1 J) →
  (∀ (J : ZI) (u3 u4 : Option AV), (∀ j, j < hs → ¬ dOk hs pp (rK B H) c k L j) → (∀ a b, ¬ (a = 171 ∧ k ≤ b) → ¬ (a = 172 ∧ 10 * (k + 1) ≤ b) → J a b = I a b) → XIs (d + 3) 225 30 [some (.inr 137), some (.inl (m : Int)), some (.inl ((k : Int) - 1)), u3, u4] [] n sh R J Q) →
  XIs (d + 3) 225 30 [some (.inr 137), some (.inl (m : Int)), some (.inl (k : Int)), u3, u4] [] n sh R I Q := by
  intro e
  induction e with
  | zero =>
    intro k f L I u3 u4 he hk hf hE hH y h1 hn yes no
    refine b_M_canYard_30 hW ?_
    rw [if_neg (by omega), Int.toNat_natCast, h1]
    refine ⟨by omega, by unfold zr; omega, s_M_nextHole (f := f) (B := B) (g := g) (LA := LA) hW hh hb hi (by omega) (by omega) (by omega) hf hE hH y fun v hv => ?_⟩
    rcases hv with ⟨rfl, hv⟩ | ⟨x, rfl, a, b, _, hv⟩
    · rw [if_neg (by decide)]
      exact ⟨by unfold zr; omega, no I _ _ (dSk_nos (Nat.le_refl hs) hn hv hs (Nat.le_refl hs)) fun _ _ _ _ => rfl⟩
    · omega
  | succ e ihe =>
    intro k f L I u3 u4 he hk hf hE hH y h1 hn yes no
    refine b_M_canYard_30 hW ?_
    rw [if_neg (by omega), Int.toNat_natCast, h1]
    refine ⟨by omega, by unfold zr; omega, s_M_nextHole (f := f) (B := B) (g := g) (LA := LA) hW hh hb hi (by omega) (by omega) (by omega) hf hE hH y fun v hv => ?_⟩
    rcases hv with ⟨rfl, hv⟩ | ⟨x, rfl, xa, xb, xf, hv⟩
    · rw [if_neg (by decide)]
      exact ⟨by unfold zr; omega, no I _ _ (dSk_nos (Nat.le_refl hs) hn hv hs (Nat.le_refl hs)) fun _ _ _ _ => rfl⟩
    · rw [if_pos (by omega)]
      have rk := rK_range hb hi (p := k) (by omega)
      have nx := dSk_nos (e := x) (Nat.le_of_lt xb) hn hv x (Nat.le_refl x)
      refine ⟨by unfold zr; omega, ?_⟩
      have z1 : zup I 171 k (x : Int) 171 k = (x : Int) := zup_eq ⟨rfl, rfl⟩
      cases c with
      | zero =>
        rw [if_neg (by omega)]
        exact yes _ ⟨x, z1, xb, ⟨xf, trivial⟩, nx, trivial⟩ fun a b g1 g2 => zup_ne (by omega)
      | succ c =>
        rw [if_pos (by omega)]
        have m1 : I 142 k = H.getD k 0 := hH.2.1 k (by omega)
        have m2 : I 138 = B 138 := hE.2.1.1
        have m3 : I 143 (B 138 (H.getD k 0).toNat).toNat = rK B H k := by rw [hE.2.1.2.2.2]; rfl
        have n1 : zup I 171 k (x : Int) 142 k = H.getD k 0 := by rw [zup_ne (by omega)]; exact m1
        have n2 : zup I 171 k (x : Int) 138 (H.getD k 0).toNat = B 138 (H.getD k 0).toNat := by rw [zup_ne (by omega), m2]
        have n3 : zup I 171 k (x : Int) 143 (B 138 (H.getD k 0).toNat).toNat = rK B H k := by rw [zup_ne (by omega)]; exact m3
        refine l_M_cp79 (d := d) (k := k) (I0 := zup I 171 k (x : Int)) (r := rK B H k) hW hh (by omega) (by omega) (by rw [n1, n2]; exact ⟨rk.1, rk.2.1⟩) (by rw [n1, n2, n3]) (fun J u j8 j1 jf => ?_) hs 0 _ (by omega) (by rw [zup_ne (by omega)]; exact y.1.1) (fun h hl => absurd hl (by omega)) fun _ _ _ => rfl
        have jf2 : ∀ a b, ¬ (a = 171 ∧ k ≤ b) → ¬ (a = 172 ∧ 10 * (k + 1) ≤ b) → J a b = I a b := fun a b g1 g2 => by rw [jf a b (by omega) g2, zup_ne (by omega)]
        have y2 : dM hs pp (k + 1) (dPut L x (rK B H k)) J := ⟨⟨by rw [jf2 _ _ (by omega) (by omega)]; exact y.1.1, by rw [jf2 _ _ (by omega) (by omega)]; exact y.1.2⟩, fun h hl => by
          have yl := y.2 h hl
          rw [j8 h hl]
          unfold dPut
          by_cases a : h = x
          · rw [if_pos (by omega), if_pos a, if_neg (by unfold dE; split <;> omega)]; omega
          · rw [if_neg (by omega), if_neg a, zup_ne (by omega)]; exact yl⟩
        refine ihc c rfl (k + 1) 0 (dPut L x (rK B H k)) J _ _ (by omega) (by omega) (hE.fr fun a b hab => jf2 a b (by omega) (by omega)) (hH.fr fun a b hab => jf2 a b (by omega) (by omega)) y2 (by rw [j1]; rfl) (fun j hj => absurd hj (by omega)) (fun J2 l1 l2 => yes J2 ⟨x, ?_, xb, ⟨xf, dLR_fe l1⟩, nx, l1⟩ fun a b g1 g2 => ?_) (fun J2 v3 v4 l1 l2 => ?_)
        · rw [l2 171 k (by omega) (by omega), jf 171 k (by omega) (by omega)]; exact z1
        · rw [l2 a b (by omega) (by omega)]; exact jf2 a b g1 g2
        · have jf3 : ∀ a b, ¬ (a = 171 ∧ k ≤ b) → ¬ (a = 172 ∧ 10 * (k + 1) ≤ b) → J2 a b = I a b := fun a b g1 g2 => by rw [l2 a b (by omega) (by omega)]; exact jf2 a b g1 g2
          rw [show ((k + 1 : Nat) : Int) - 1 = (k : Int) by omega]
          refine ihe k (x + 1) L J2 v3 v4 (by omega) (by omega) (by omega) (hE.fr fun a b hab => jf3 a b (by omega) (by omega)) (hH.fr fun a b hab => jf3 a b (by omega) (by omega)) ⟨⟨by rw [jf3 _ _ (by omega) (by omega)]; exact y.1.1, by rw [jf3 _ _ (by omega) (by omega)]; exact y.1.2⟩, fun h hl => by rw [jf3 _ _ (by omega) (by omega)]; exact y.2 h hl⟩ ?_ (fun j hj => ?_) (fun J3 o1 o2 => yes J3 o1 fun a b g1 g2 => ?_) (fun J3 v3 v4 o1 o2 => no J3 v3 v4 o1 fun a b g1 g2 => ?_)
          · rw [l2 171 k (by omega) (by omega), jf 171 k (by omega) (by omega), z1]; omega
          · by_cases a : j = x
            · rw [a]
              intro o
              obtain ⟨h, o1, o2, o3⟩ := o.2
              exact l1 h o1 ⟨o2, o3⟩
            · exact nx j (by omega)
          · rw [o2 a b g1 g2]; exact jf3 a b g1 g2
          · rw [o2 a b g1 g2]; exact jf3 a b g1 g2
theorem l_M_sea {Q : Int → ZI → Prop} (hW : Wf sh R) (hh : hs ≤ 9) (hb : bOk B S) (hi : hIn B H) (hm : m ≤ 10) (hl : m ≤ H.length) : ∀ c : Nat, dSea d n sh R B H g LA hs pp m Q c
  | 0 => fun k f L I u3 u4 hk hf hE hH y h1 hn yes no => l_M_sea1 hW hh hb hi hm hl 0 (fun c' e => absurd e (by omega)) hs k f L I u3 u4 (by omega) hk hf hE hH y h1 hn yes no
  | c + 1 => fun k f L I u3 u4 hk hf hE hH y h1 hn yes no => l_M_sea1 hW hh hb hi hm hl (c + 1) (fun c' e => by
      obtain rfl : c = c' := by omega
      exact l_M_sea hW hh hb hi hm hl c) hs k f L I u3 u4 (by omega) hk hf hE hH y h1 hn yes no
theorem l_M_cy2 {Q : Int → ZI → Prop} {x1 : Int} (hW : Wf sh R) {I0 : ZI} (q : ∀ (J : ZI) (u3 u4 : Option AV), (∀ h, h < 10 → J 172 h = -1) → J 171 0 = -1 → (∀ a b, ¬ a = 171 → ¬ a = 172 → J a b = I0 a b) → XIs (d + 3) 225 30 [some (.inr 137), some (.inl x1), some (.inl 0), u3, u4] [] n sh R J Q) : ∀ (c j : Nat) (I : ZI) (u3 u4 : Option AV), j + c = 10 → (∀ h, h < j → I 172 h = -1) → (∀ a b, ¬ a = 172 → I a b = I0 a b) → XIs (d + 3) 225 2 [some (.inr 137), some (.inl x1), some (.inl (j : Int)), u3, u4] [] n sh R I Q
  | 0, j, I, u3, u4, hj, h8, hf => b_M_canYard_2 hW (by
    rw [if_pos (by omega)]
    exact q _ _ _ (fun h hl => by rw [zup_ne (by omega)]; exact h8 h (by omega)) (zup_eq ⟨rfl, rfl⟩) fun a b g1 g2 => by rw [zup_ne (by omega)]; exact hf a b g2)
  | c + 1, j, I, u3, u4, hj, h8, hf => b_M_canYard_2 hW (by
    rw [if_neg (by omega), Int.toNat_natCast, show (j : Int) + 1 = ((j + 1 : Nat) : Int) by omega]
    refine ⟨by omega, by unfold zr; omega, l_M_cy2 hW q c (j + 1) _ u3 u4 (by omega) (fun h hl => ?_) fun a b g => by rw [zup_ne (by omega)]; exact hf a b g⟩
    by_cases a : h = j
    · rw [zup_eq ⟨rfl, a⟩]
    · rw [zup_ne (by omega)]; exact h8 h (by omega))
theorem s_M_canYard {Q : Int → ZI → Prop} {I : ZI} (hW : Wf sh R) (hh : 1 ≤ hs ∧ hs ≤ 9) (hb : bOk B S) (hi : hIn B H) (hm : 1 ≤ m ∧ m ≤ 10) (hl : m ≤ H.length) (h3 : I 137 3 = (hs : Int)) (h4 : I 137 4 = pp) (hE : mEnv B I) (hH : mSt I H g LA) (q : ∀ (v : Int) (J : ZI), (v = 1 ∧ dFe hs pp (rK B H) m 0 (dL0 pp) ∧ dLR hs pp (rK B H) m 0 (dL0 pp) (J 171)) ∨ (v = 0 ∧ ¬ dFe hs pp (rK B H) m 0 (dL0 pp)) → (∀ a b, ¬ a = 171 → ¬ a = 172 → J a b = I a b) → Q v J) : XI (d + 3) 225 [.inr 137, .inl (m : Int)] n sh R I Q :=
  b_M_canYard_0 hW (l_M_cy2 (I0 := I) hW (fun J u3 u4 j2 j1 jf => by
    obtain ⟨c, rfl⟩ : ∃ c, m = c + 1 := ⟨m - 1, by omega⟩
    refine l_M_sea (g := g) (LA := LA) (B := B) (H := H) hW hh.2 hb hi hm.2 hl c 0 0 (dL0 pp) J u3 u4 (by omega) (by omega) (hE.fr fun a b hab => jf a b (by omega) (by omega)) (hH.fr fun a b hab => jf a b (by omega) (by omega)) ⟨⟨by rw [jf _ _ (by omega) (by omega)]; exact h3, by rw [jf _ _ (by omega) (by omega)]; exact h4⟩, fun h hl => ?_⟩ j1 (fun j hj => absurd hj (by omega)) (fun J2 k1 k2 => q 1 J2 (.inl ⟨rfl, dLR_fe k1, k1⟩) fun a b g1 g2 => ?_) (fun J2 u3 u4 k1 k2 => b_M_canYard_30 hW ?_)
    · unfold dL0 dE
      rw [Nat.mul_zero, Nat.zero_add, j2 h (by omega), if_pos rfl]
      by_cases w : wPi pp h = true
      · rw [if_pos w]; exact ⟨rfl, by decide, by decide, fun _ => by decide⟩
      · rw [if_neg w]; exact ⟨rfl, by decide, by decide, fun c => absurd c w⟩
    · rw [k2 a b (by omega) (by omega)]; exact jf a b g1 g2
    · rw [if_pos (by omega)]
      refine q 0 J2 (.inr ⟨rfl, fun ⟨h, o1, o2, o3⟩ => k1 h o1 ⟨o2, o3⟩⟩) fun a b g1 g2 => ?_
      rw [k2 a b (by omega) (by omega)]; exact jf a b g1 g2) 10 0 I none none (by omega) (fun h hl => absurd hl (by omega)) fun _ _ _ => rfl)
end YM
section YC
variable {d n t : Nat} {sh : ZS} {R : ZR} {B : ZI}
theorem c_yard {I : ZI} {x1 x2 : Int} (hW : Wf sh R) (h : Rel t I R) : XI (d + 24) 116 [.inr 1, .inl x1, .inl x2] n sh R I (fun v J => XI (d + 24) 226 [.inr 137, .inl x1, .inl x2] n sh R J (fun v2 K => v2 = v ∧ Rel (t + 1) K R)) := by
  obtain ⟨lw, S, H, hl, hR, hL, hb, hE, mE, hH, mH, hv, hg⟩ := h.base hW
  have hin := hv.1.inb hb
  have hb2 := hb.2.1
  have h6 : I 18 6 = (H.length : Int) := hH.1.2.1
  have m6 : I 137 1 = (H.length : Int) := mH.1.1
  have ei : I 15 0 = I 137 3 ∧ I 15 1 = I 137 4 := hE.1
  have same : ∀ v : Int, (∀ J : ZI, J = I → XI (d + 24) 226 [.inr 137, .inl x1, .inl x2] n sh R J (fun v2 K => v2 = v ∧ K = I)) → XI (d + 24) 226 [.inr 137, .inl x1, .inl x2] n sh R I (fun v2 K => v2 = v ∧ Rel (t + 1) K R) := fun v hJ => (hJ I rfl).mono fun v2 K k => ⟨k.1, by rw [k.2]; exact h.fr (by omega) fun _ _ _ => rfl⟩
  refine b_N_yard_0 hW ?_
  have work : 1 ≤ x1 → x1 ≤ 10 → x1 ≤ (H.length : Int) → -1 ≤ x2 → x2 < x1 → XV (d + 23) 134 [.inr 1] n sh R I (fun I2 => XI (d + 23) 90 [.inr 117, .inr 14, .inl x1] n sh R I2 (fun v3 I4 => (if ¬ x2 = (-1) then (if v3 = 0 then XI (d + 24) 226 [.inr 137, .inl x1, .inl x2] n sh R I4 (fun v2 K => v2 = -2 ∧ Rel (t + 1) K R) else (0 ≤ x2 ∧ x2 < 10) ∧ XI (d + 24) 226 [.inr 137, .inl x1, .inl x2] n sh R I4 (fun v2 K => v2 = I4 120 (x2).toNat ∧ Rel (t + 1) K R)) else (if v3 = 0 then XI (d + 24) 226 [.inr 137, .inl x1, .inl x2] n sh R I4 (fun v2 K => v2 = 0 ∧ Rel (t + 1) K R) else XI (d + 24) 226 [.inr 137, .inl x1, .inl x2] n sh R I4 (fun v2 K => v2 = 1 ∧ Rel (t + 1) K R))))) := fun a1 a2 a3 a4 a5 => by
    obtain ⟨m, rfl⟩ : ∃ m : Nat, x1 = (m : Int) := ⟨x1.toNat, by omega⟩
    refine s_N_putRanks (d := d + 22) (B := I) (g := I 18 7) (LA := I 22) hW hb hin hl hE hH fun J j1 j2 => ?_
    refine s_Y_settle (hs := (I 137 3).toNat) (pp := I 137 4) (K := rK I H) (d := d) hW (by omega) (by omega) (fun q hq => (rK_range hb hin (by omega)).2.2) (by rw [j2 _ _ (by omega)]; omega) (by rw [j2 _ _ (by omega)]; exact ei.2) (fun q hq => j1 q (by omega)) fun v J2 kv k2 => ?_
    have f : ∀ a b, ¬ a = 14 → ¬ a = 118 → ¬ a = 120 → J2 a b = I a b := fun a b g1 g2 g3 => by rw [k2 a b g2 g3, j2 a b g1]
    have fin : ∀ (w : Int), (∀ (v2 : Int) (K : ZI), (v2 = 1 ∧ dFe (I 137 3).toNat (I 137 4) (rK I H) m 0 (dL0 (I 137 4)) ∧ dLR (I 137 3).toNat (I 137 4) (rK I H) m 0 (dL0 (I 137 4)) (K 171)) ∨ (v2 = 0 ∧ ¬ dFe (I 137 3).toNat (I 137 4) (rK I H) m 0 (dL0 (I 137 4))) → (if ¬ x2 = (-1) then (if v2 = 0 then w = -2 else w = K 171 (x2).toNat ∧ 0 ≤ x2 ∧ x2 < 10) else (if v2 = 0 then w = 0 else w = 1))) → XI (d + 24) 226 [.inr 137, .inl (m : Int), .inl x2] n sh R J2 (fun v2 K => v2 = w ∧ Rel (t + 1) K R) := fun w hw => by
      refine b_M_yard_0 (d := d + 20) hW ?_
      rw [f 137 1 (by omega) (by omega) (by omega), m6, if_neg (by omega), if_neg (by omega), if_pos (by omega), if_neg (by omega), if_pos (by omega)]
      refine s_M_canYard (hs := (I 137 3).toNat) (pp := I 137 4) (B := I) (H := H) (g := I 18 7) (LA := I 22) (d := d + 20) hW (by omega) hb hin (by omega) (by omega) (by rw [f _ _ (by omega) (by omega) (by omega)]; omega) (by rw [f _ _ (by omega) (by omega) (by omega)]) (mE.fr fun a b hab => f a b (by omega) (by omega) (by omega)) (mH.fr fun a b hab => f a b (by omega) (by omega) (by omega)) fun v2 K kk kf => ?_
      have rl : Rel (t + 1) K R := h.fr (by omega) fun a b hab => by
        unfold fAll fNow fKept fEnv fTape fBlame fLaw at hab
        rw [kf a b (by omega) (by omega)]; exact f a b (by omega) (by omega) (by omega)
      have ww := hw v2 K kk
      revert ww
      by_cases g1 : ¬ x2 = -1
      · rw [if_pos g1, if_pos g1]
        by_cases g2 : v2 = 0
        · rw [if_pos g2, if_pos g2]; intro ww; exact ⟨ww.symm, rl⟩
        · rw [if_neg g2, if_neg g2]; intro ww; exact ⟨ww.2, ww.1.symm, rl⟩
      · rw [if_neg g1, if_neg g1]
        by_cases g2 : v2 = 0
        · rw [if_pos g2, if_pos g2]; intro ww; exact ⟨ww.symm, rl⟩
        · rw [if_neg g2, if_neg g2]; intro ww; exact ⟨ww.symm, rl⟩
    rcases kv with ⟨rfl, k3, k4⟩ | ⟨rfl, k3⟩
    · by_cases g1 : ¬ x2 = -1
      · rw [if_pos g1, if_neg (by decide)]
        refine ⟨by omega, fin _ fun v2 K kk => ?_⟩
        rcases kk with ⟨rfl, o1, o2⟩ | ⟨rfl, o1⟩
        · rw [if_pos g1, if_neg (by decide)]
          exact ⟨(dLR_uniq m 0 _ o2 k4 x2.toNat (by omega) (by omega)).1, by omega, by omega⟩
        · exact absurd k3 o1
      · rw [if_neg g1, if_neg (by decide)]
        refine fin _ fun v2 K kk => ?_
        rcases kk with ⟨rfl, o1, o2⟩ | ⟨rfl, o1⟩
        · rw [if_neg g1, if_neg (by decide)]
        · exact absurd k3 o1
    · by_cases g1 : ¬ x2 = -1
      · rw [if_pos g1, if_pos rfl]
        refine fin _ fun v2 K kk => ?_
        rcases kk with ⟨rfl, o1, o2⟩ | ⟨rfl, o1⟩
        · exact absurd o1 k3
        · rw [if_pos g1, if_pos rfl]
      · rw [if_neg g1, if_pos rfl]
        refine fin _ fun v2 K kk => ?_
        rcases kk with ⟨rfl, o1, o2⟩ | ⟨rfl, o1⟩
        · exact absurd o1 k3
        · rw [if_neg g1, if_pos rfl]
  by_cases g1 : x1 < 1
  · rw [if_pos g1]
    exact same _ fun J hJ => b_M_yard_0 (d := d + 20) hW (by rw [if_pos g1]; exact ⟨rfl, hJ⟩)
  rw [if_neg g1]
  by_cases g2 : 10 < x1
  · rw [if_pos g2]
    exact same _ fun J hJ => b_M_yard_0 (d := d + 20) hW (by rw [if_neg g1, if_pos g2]; exact ⟨rfl, hJ⟩)
  rw [if_neg g2, h6]
  by_cases g3 : x1 ≤ (H.length : Int)
  · rw [if_pos g3]
    by_cases g4 : x2 = -1
    · rw [if_pos g4]
      exact work (by omega) (by omega) g3 (by omega) (by omega)
    rw [if_neg g4]
    by_cases g5 : x2 < 0
    · rw [if_pos g5]
      exact same _ fun J hJ => b_M_yard_0 (d := d + 20) hW (by rw [hJ, m6, if_neg g1, if_neg g2, if_pos g3, if_pos (by omega)]; exact ⟨rfl, rfl⟩)
    rw [if_neg g5]
    by_cases g6 : x2 < x1
    · rw [if_pos g6]
      exact work (by omega) (by omega) g3 (by omega) g6
    · rw [if_neg g6]
      exact same _ fun J hJ => b_M_yard_0 (d := d + 20) hW (by rw [hJ, m6, if_neg g1, if_neg g2, if_pos g3, if_neg (by omega), if_neg g6]; exact ⟨rfl, rfl⟩)
  · rw [if_neg g3]
    exact same _ fun J hJ => b_M_yard_0 (d := d + 20) hW (by rw [hJ, m6, if_neg g1, if_neg g2, if_neg g3]; exact ⟨rfl, rfl⟩)
end YC
