-- WHAT THE LAW IS ASKED OF A LETTER; all letters of a heap
def gFa (B : ZI) (p i g : Int) (LA : Nat → Int) : Nat → Int := fun k => if k = 0 then B 138 i.toNat else if k = 1 then B 143 (B 138 i.toNat).toNat else if k = 2 then B 139 i.toNat else if k = 3 then i else if k = 4 then p else if k = 5 then g else if k = 6 then LA i.toNat else B 137 3
def gHole (B : ZI) (fa : Nat → Int) : Int := if lOut B fa = 0 then lAm B fa 104 (B 137 3 - 1) else -1
def gSec (B : ZI) (fa : Nat → Int) : Int := lAm B fa 116 99
def gInto (B : ZI) (H : List Int) (g : Int) (LA : Nat → Int) (p : Nat) : Int := gHole B (gFa B p (H.getD p 0) g LA)
def gSecs (B : ZI) (H : List Int) (g : Int) (LA : Nat → Int) (p : Nat) : Int := gSec B (gFa B p (H.getD p 0) g LA)
def gSt (B I : ZI) (o : Nat) (H : List Int) (g : Int) (LA : Nat → Int) : Prop := (I o 5 = B 137 0 ∧ I o 6 = (H.length : Int) ∧ I o 7 = g) ∧ (∀ p, p < H.length → I (o + 5) p = H.getD p 0) ∧ ∀ k, k < 32 → I (o + 1) k = B 138 k ∧ I (o + 2) k = B 139 k ∧ I (o + 3) k = B 140 k ∧ I (o + 4) k = LA k
def gEnv (B I : ZI) (lw S : Nat) : Prop := (I 15 0 = B 137 3 ∧ I 15 1 = B 137 4) ∧ (∀ k, k < 20 → I 13 k = B 143 k) ∧ cLaw B I lw S
def mEnv (B I : ZI) : Prop := (I 137 0 = B 137 0 ∧ I 137 3 = B 137 3 ∧ I 137 4 = B 137 4) ∧ (I 138 = B 138 ∧ I 139 = B 139 ∧ I 140 = B 140 ∧ I 143 = B 143) ∧ mLaw B I
def mSt (I : ZI) (H : List Int) (g : Int) (LA : Nat → Int) : Prop := (I 137 1 = (H.length : Int) ∧ I 137 2 = g) ∧ (∀ p, p < H.length → I 142 p = H.getD p 0) ∧ ∀ k, k < 32 → I 141 k = LA k
def bOk (B : ZI) (S : Nat) : Prop := (0 ≤ B 137 0 ∧ B 137 0 ≤ 32) ∧ (1 ≤ B 137 3 ∧ B 137 3 ≤ 9 ∧ 0 ≤ B 137 4 ∧ B 137 4 < 2 ^ (B 137 3).toNat) ∧ (∀ k : Nat, (k : Int) < B 137 0 → 0 ≤ B 138 k ∧ B 138 k < 20 ∧ 0 ≤ B 139 k ∧ B 139 k ≤ 99 ∧ 0 ≤ B 140 k ∧ B 140 k ≤ 12) ∧ (∀ k, k < 20 → 0 ≤ B 143 k ∧ B 143 k < 20) ∧ bLaw B S
def hOk (B : ZI) (H : List Int) (g : Int) (LA : Nat → Int) : Prop := (0 ≤ g ∧ g ≤ 12) ∧ H.length = pCount (fun k => decide (B 140 k ≤ g)) (B 137 0).toNat ∧ (∀ p, p < H.length → 0 ≤ H.getD p 0 ∧ H.getD p 0 < B 137 0) ∧ H.Nodup ∧ ∀ k : Nat, (k : Int) < B 137 0 → 0 ≤ LA k ∧ LA k ≤ 9
theorem hOk.len {B : ZI} {H : List Int} {g : Int} {LA : Nat → Int} {S : Nat} (h : hOk B H g LA) (hb : bOk B S) : (H.length : Int) ≤ B 137 0 ∧ H.length ≤ 32 := by
  have := pCount_le (p := fun k => decide (B 140 k ≤ g)) (B 137 0).toNat
  have h1 := h.2.1
  have h2 := hb.1
  omega
/-- bounds of a heap alone: what asking needs -/
def hIn (B : ZI) (H : List Int) : Prop := H.length ≤ 32 ∧ ∀ p, p < H.length → 0 ≤ H.getD p 0 ∧ H.getD p 0 < B 137 0
theorem hOk.inb {B : ZI} {H : List Int} {g : Int} {LA : Nat → Int} {S : Nat} (h : hOk B H g LA) (hb : bOk B S) : hIn B H := ⟨(h.len hb).2, h.2.2.1⟩
theorem gSt.fr {B I J : ZI} {o : Nat} {H : List Int} {g : Int} {LA : Nat → Int} (h : gSt B I o H g LA) (e : ∀ a b, o ≤ a ∧ a ≤ o + 5 → J a b = I a b) : gSt B J o H g LA := by
  refine ⟨?_, fun p hp => ?_, fun k hk => ?_⟩
  · rw [e _ _ (by omega), e _ _ (by omega), e _ _ (by omega)]; exact h.1
  · rw [e _ _ (by omega)]; exact h.2.1 p hp
  · rw [e _ _ (by omega), e _ _ (by omega), e _ _ (by omega), e _ _ (by omega)]; exact h.2.2 k hk
theorem gEnv.fr {B I J : ZI} {lw S : Nat} (h : gEnv B I lw S) (hl : lw = 5 ∨ lw = 45) (e : ∀ a b, a = 13 ∨ a = 15 ∨ 5 ≤ a ∧ a ≤ 11 ∨ 45 ≤ a ∧ a ≤ 51 → J a b = I a b) : gEnv B J lw S := by
  refine ⟨?_, fun k hk => ?_, h.2.2.fr fun a b hab => e a b (by omega)⟩
  · rw [e _ _ (by omega), e _ _ (by omega)]; exact h.1
  · rw [e _ _ (by omega)]; exact h.2.1 k hk
theorem mEnv.fr {B I J : ZI} (h : mEnv B I) (e : ∀ a b, (a = 137 ∧ (b = 0 ∨ b = 3 ∨ b = 4 ∨ b = 22)) ∨ 138 ≤ a ∧ a ≤ 140 ∨ a = 143 ∨ 151 ≤ a ∧ a ≤ 155 → J a b = I a b) : mEnv B J := by
  have f : ∀ a, 138 ≤ a ∧ a ≤ 140 ∨ a = 143 → J a = I a := fun a ha => funext fun b => e a b (by omega)
  refine ⟨?_, ?_, h.2.2.fr fun a b hab => e a b (by omega)⟩
  · rw [e _ _ (by omega), e _ _ (by omega), e _ _ (by omega)]; exact h.1
  · rw [f 138 (by omega), f 139 (by omega), f 140 (by omega), f 143 (by omega)]; exact h.2.1
theorem mSt.fr {I J : ZI} {H : List Int} {g : Int} {LA : Nat → Int} (h : mSt I H g LA) (e : ∀ a b, (a = 137 ∧ (b = 1 ∨ b = 2)) ∨ a = 141 ∨ a = 142 → J a b = I a b) : mSt J H g LA := by
  refine ⟨?_, fun p hp => ?_, fun k hk => ?_⟩
  · rw [e _ _ (by omega), e _ _ (by omega)]; exact h.1
  · rw [e _ _ (by omega)]; exact h.2.1 p hp
  · rw [e _ _ (by omega)]; exact h.2.2 k hk
theorem gHole_congr {B : ZI} {fa fb : Nat → Int} (h : ∀ k, k < 8 → fa k = fb k) : gHole B fa = gHole B fb := by
  unfold gHole; rw [lOut_congr h, lAm_congr h]
theorem gHole_range {B : ZI} {fa : Nat → Int} (h : 1 ≤ B 137 3) : -1 ≤ gHole B fa ∧ gHole B fa < B 137 3 := by
  unfold gHole
  by_cases g : lOut B fa = 0
  · rw [if_pos g]
    have := lAm_range (B := B) (fa := fa) (kind := 104) (high := B 137 3 - 1) (by omega)
    omega
  · rw [if_neg g]; omega
theorem gSec_range {B : ZI} {fa : Nat → Int} : 0 ≤ gSec B fa ∧ gSec B fa ≤ 99 := lAm_range (by decide)
def sPl (o : Nat) : Prop := o = 18 ∨ o = 24 ∨ o = 30 ∨ o = 36 ∨ o = 122 ∨ o = 128
def pSum (f : Nat → Int) : Nat → Int
  | 0 => 0
  | n + 1 => pSum f n + f n
theorem pSum_range {f : Nat → Int} {c : Int} : ∀ n : Nat, (∀ k, k < n → 0 ≤ f k ∧ f k ≤ c) → 0 ≤ pSum f n ∧ pSum f n ≤ c * n
  | 0, _ => by unfold pSum; exact ⟨Int.le_refl 0, by simp⟩
  | n + 1, h => by
    unfold pSum
    have h1 := pSum_range n fun k hk => h k (by omega)
    have h2 := h n (by omega)
    have e : c * ((n + 1 : Nat) : Int) = c * (n : Int) + c := by rw [Int.natCast_succ, Int.mul_add, Int.mul_one]
    omega
/-- what is counted of a throw -/
def gIf (B : ZI) (H : List Int) (g : Int) (LA : Nat → Int) (f : Nat → Int) (p : Nat) : Int := if gInto B H g LA p = -1 then 0 else f p
section AS
variable {d n t : Nat} {sh : ZS} {R : ZR} {B I : ZI} {x1 x2 x3 x4 x5 : Int} {H : List Int} {g : Int} {LA : Nat → Int} {lw S o : Nat}
theorem s_G_putSigns {Q : ZI → Prop} (hW : Wf sh R) (hS : St sh R o) (ho : sPl o) (hb : bOk B S) (hE : gEnv B I lw S) (hH : gSt B I o H g LA) (hh : hIn B H) {p : Nat} (hp : p < H.length) (q : ∀ J : ZI, (∀ k, k < 8 → J 43 k = gFa B p (H.getD p 0) g LA k) → (∀ a b, ¬ a = 43 → J a b = I a b) → Q J) : XV d 54 [.inr 42, .inr o, .inl (p : Int)] n sh R I Q := by
  unfold sPl at ho
  have hi := hh.2 p hp
  have hL := hb.1
  have hl := hh.1
  have e5 := hH.2.1 p hp
  obtain ⟨e1, e2, e3, e4⟩ := hH.2.2 (H.getD p 0).toNat (by omega)
  have st := hb.2.2.1 (H.getD p 0).toNat (by omega)
  refine b_G_putSigns_0 hW hS ?_
  rw [Int.toNat_natCast, e5]
  refine ⟨by omega, by omega, ?_, q _ (fun k hk => ?_) (fun a b hab => ?_)⟩
  · rw [zup_ne (by omega), e1]; omega
  · have h8 : k = 0 ∨ k = 1 ∨ k = 2 ∨ k = 3 ∨ k = 4 ∨ k = 5 ∨ k = 6 ∨ k = 7 := by omega
    rcases h8 with h | h | h | h | h | h | h | h <;> subst h
    · repeat (first | rw [zup_eq (by omega)] | rw [zup_ne (by omega)])
      exact e1
    · repeat (first | rw [zup_eq (by omega)] | rw [zup_ne (by omega)])
      rw [e1]; exact hE.2.1 _ (by omega)
    · repeat (first | rw [zup_eq (by omega)] | rw [zup_ne (by omega)])
      exact e2
    · repeat (first | rw [zup_eq (by omega)] | rw [zup_ne (by omega)])
      rfl
    · repeat (first | rw [zup_eq (by omega)] | rw [zup_ne (by omega)])
      rfl
    · repeat (first | rw [zup_eq (by omega)] | rw [zup_ne (by omega)])
      exact hH.1.2.2
    · repeat (first | rw [zup_eq (by omega)] | rw [zup_ne (by omega)])
      exact e4
    · repeat (first | rw [zup_eq (by omega)] | rw [zup_ne (by omega)])
      exact hE.1.1
  · repeat rw [zup_ne (by omega)]
theorem s_G_holeFor {Q : Int → ZI → Prop} (hW : Wf sh R) (hS : St sh R o) (ho : sPl o) (hl : lw = 5 ∨ lw = 45) (hR : R 42 4 = lw) (hL : Lw sh R lw) (hb : bOk B S) (hE : gEnv B I lw S) (hH : gSt B I o H g LA) (hh : hIn B H) {p : Nat} (hp : p < H.length) (q : ∀ J : ZI, (∀ a b, ¬ a = 43 → ¬ a = lw + 7 → J a b = I a b) → Q (gInto B H g LA p) J) : XI (d + 3) 52 [.inr 42, .inr o, .inl (p : Int)] n sh R I Q := by
  subst hR
  have hB := hb.2.2.2.2
  have m := hB.1
  refine b_G_holeFor_0 hW hS hL (s_G_putSigns hW hS ho hb hE hH hh hp fun J j1 j2 => ?_)
  have hEJ : gEnv B J (R 42 4) S := hE.fr hl fun a b hab => j2 a b (by omega)
  refine b_W_leavesOut_0 hW hL (l_W_leavesOut (FA := gFa B p (H.getD p 0) g LA) hW hL hl hB (B 137 22).toNat 0 J (by omega) hEJ.2.2 j1 fun K hK => ?_)
  have hEK : gEnv B K (R 42 4) S := hEJ.fr hl fun a b hab => hK a b (by omega)
  have q0 := fun K2 h => q K2 h
  unfold gInto gHole at q0
  unfold lOut at q0
  by_cases v : lOutO (lFirst 122 B (gFa B p (H.getD p 0) g LA) (B 137 22).toNat 0) = 0
  · rw [if_pos v]
    rw [hEK.1.1]
    refine ⟨by unfold zr; have := hb.2.1; omega, ?_⟩
    refine b_W_amount_0 hW hL (l_W_amount (FA := gFa B p (H.getD p 0) g LA) hW hL hl hB (by decide) (by have := hb.2.1; omega) (B 137 22).toNat 0 K (by omega) hEK.2.2 (fun k hk => by rw [hK _ _ (by omega)]; exact j1 k hk) fun M hM => ?_)
    have := q0 M fun a b h1 h2 => by rw [hM a b h2, hK a b h2, j2 a b h1]
    rw [if_pos v] at this
    exact this
  · rw [if_neg v]
    have := q0 K fun a b h1 h2 => by rw [hK a b h2, j2 a b h1]
    rw [if_neg v] at this
    exact this
theorem s_G_secondsFor {Q : Int → ZI → Prop} (hW : Wf sh R) (hS : St sh R o) (ho : sPl o) (hl : lw = 5 ∨ lw = 45) (hR : R 42 4 = lw) (hL : Lw sh R lw) (hb : bOk B S) (hE : gEnv B I lw S) (hH : gSt B I o H g LA) (hh : hIn B H) {p : Nat} (hp : p < H.length) (q : ∀ J : ZI, (∀ a b, ¬ a = 43 → ¬ a = lw + 7 → J a b = I a b) → Q (gSecs B H g LA p) J) : XI (d + 3) 53 [.inr 42, .inr o, .inl (p : Int)] n sh R I Q := by
  subst hR
  have hB := hb.2.2.2.2
  have m := hB.1
  refine b_G_secondsFor_0 hW hS hL (s_G_putSigns hW hS ho hb hE hH hh hp fun J j1 j2 => ?_)
  have hEJ : gEnv B J (R 42 4) S := hE.fr hl fun a b hab => j2 a b (by omega)
  refine b_W_amount_0 hW hL (l_W_amount (FA := gFa B p (H.getD p 0) g LA) hW hL hl hB (by decide) (by decide) (B 137 22).toNat 0 J (by omega) hEJ.2.2 j1 fun M hM => ?_)
  exact q M fun a b h1 h2 => by rw [hM a b h2, j2 a b h1]
theorem s_M_feels {Q : ZI → Prop} (hW : Wf sh R) (hb : bOk B S) (hE : mEnv B I) (hH : mSt I H g LA) (hh : hIn B H) {p : Nat} (hp : p < H.length) (q : ∀ J : ZI, (∀ k, k < 8 → J 157 k = gFa B p (H.getD p 0) g LA k) → (∀ a b, ¬ a = 157 → J a b = I a b) → Q J) : XV (d + 1) 178 [.inr 137, .inl (p : Int)] n sh R I Q := by
  have hi := hh.2 p hp
  have hL := hb.1
  have hl := hh.1
  have e5 := hH.2.1 p hp
  have e4 := hH.2.2 (H.getD p 0).toNat (by omega)
  have st := hb.2.2.1 (H.getD p 0).toNat (by omega)
  obtain ⟨m1, m2, m3, m4⟩ := hE.2.1
  refine b_M_feels_0 hW ?_
  rw [Int.toNat_natCast, e5, m1, m2, m4]
  refine ⟨by omega, by omega, by omega, q _ (fun k hk => ?_) (fun a b hab => ?_)⟩
  · have h8 : k = 0 ∨ k = 1 ∨ k = 2 ∨ k = 3 ∨ k = 4 ∨ k = 5 ∨ k = 6 ∨ k = 7 := by omega
    rcases h8 with h | h | h | h | h | h | h | h <;> subst h
    · repeat (first | rw [zup_eq (by omega)] | rw [zup_ne (by omega)])
      rfl
    · repeat (first | rw [zup_eq (by omega)] | rw [zup_ne (by omega)])
      rfl
    · repeat (first | rw [zup_eq (by omega)] | rw [zup_ne (by omega)])
      rfl
    · repeat (first | rw [zup_eq (by omega)] | rw [zup_ne (by omega)])
      rfl
    · repeat (first | rw [zup_eq (by omega)] | rw [zup_ne (by omega)])
      rfl
    · repeat (first | rw [zup_eq (by omega)] | rw [zup_ne (by omega)])
      exact hH.1.2
    · repeat (first | rw [zup_eq (by omega)] | rw [zup_ne (by omega)])
      exact e4
    · repeat (first | rw [zup_eq (by omega)] | rw [zup_ne (by omega)])
      exact hE.1.2.1
  · repeat rw [zup_ne (by omega)]
theorem s_M_isLeftOut {Q : Int → ZI → Prop} (hW : Wf sh R) (hb : bOk B S) (hE : mEnv B I) (hH : mSt I H g LA) (hh : hIn B H) {p : Nat} (hp : p < H.length) (q : ∀ J : ZI, (∀ a b, ¬ a = 156 → ¬ a = 157 → J a b = I a b) → Q (lOut B (gFa B p (H.getD p 0) g LA)) J) : XI (d + 2) 179 [.inr 137, .inl (p : Int)] n sh R I Q := by
  have hB := hb.2.2.2.2
  have m := hB.1
  refine b_M_isLeftOut_0 hW (s_M_feels hW hb hE hH hh hp fun J j1 j2 => ?_)
  have hEJ : mEnv B J := hE.fr fun a b hab => j2 a b (by omega)
  refine l_M_isLeftOut (FA := J 157) hW hB (B 137 22).toNat 0 J (by omega) hEJ.2.2 rfl fun K hK => ?_
  have := q K fun a b h1 h2 => by rw [hK a b h1, j2 a b h2]
  rw [← lOut_congr j1] at this
  exact this
theorem s_M_holeFor {Q : Int → ZI → Prop} (hW : Wf sh R) (hb : bOk B S) (hE : mEnv B I) (hH : mSt I H g LA) (hh : hIn B H) {p : Nat} (hp : p < H.length) (q : ∀ J : ZI, (∀ a b, ¬ a = 156 → ¬ a = 157 → J a b = I a b) → Q (lAm B (gFa B p (H.getD p 0) g LA) 104 (B 137 3 - 1)) J) : XI (d + 3) 180 [.inr 137, .inl (p : Int)] n sh R I Q := by
  have hB := hb.2.2.2.2
  have m := hB.1
  refine b_M_holeFor_0 hW (s_M_feels hW hb hE hH hh hp fun J j1 j2 => ?_)
  have hEJ : mEnv B J := hE.fr fun a b hab => j2 a b (by omega)
  rw [hEJ.1.2.1]
  refine ⟨by unfold zr; have := hb.2.1; omega, b_M_byLaw_0 hW (l_M_byLaw (FA := J 157) hW hB (by decide) (B 137 22).toNat 0 J _ (by omega) hEJ.2.2 rfl fun K hK => ?_)⟩
  have := q K fun a b h1 h2 => by rw [hK a b h1, j2 a b h2]
  rw [← lAm_congr j1] at this
  exact this
theorem s_M_secondsFor {Q : Int → ZI → Prop} (hW : Wf sh R) (hb : bOk B S) (hE : mEnv B I) (hH : mSt I H g LA) (hh : hIn B H) {p : Nat} (hp : p < H.length) (q : ∀ J : ZI, (∀ a b, ¬ a = 156 → ¬ a = 157 → J a b = I a b) → Q (gSecs B H g LA p) J) : XI (d + 3) 181 [.inr 137, .inl (p : Int)] n sh R I Q := by
  have hB := hb.2.2.2.2
  have m := hB.1
  refine b_M_secondsFor_0 hW (s_M_feels hW hb hE hH hh hp fun J j1 j2 => ?_)
  have hEJ : mEnv B J := hE.fr fun a b hab => j2 a b (by omega)
  refine b_M_byLaw_0 hW (l_M_byLaw (FA := J 157) hW hB (by decide) (B 137 22).toNat 0 J _ (by omega) hEJ.2.2 rfl fun K hK => ?_)
  have := q K fun a b h1 h2 => by rw [hK a b h1, j2 a b h2]
  unfold gSecs gSec at this
  rw [← lAm_congr j1] at this
  exact this
-- all letters
theorem l_G_askAll {Q : ZI → Prop} (hW : Wf sh R) (hS : St sh R o) (ho : sPl o) (hl : lw = 5 ∨ lw = 45) (hR : R 42 4 = lw) (hL : Lw sh R lw) (hb : bOk B S) (hh : hIn B H) : ∀ (c p : Nat) (I : ZI), p + c = H.length → gEnv B I lw S → gSt B I o H g LA → (∀ k, k < p → I 44 k = gInto B H g LA k) → (∀ J : ZI, (∀ k, k < H.length → J 44 k = gInto B H g LA k) → (∀ a b, ¬ a = 43 → ¬ a = lw + 7 → ¬ a = 44 → J a b = I a b) → Q J) → XVs (d + 4) 57 2 [some (.inr 42), some (.inr o), some (.inl (p : Int))] [] n sh R I Q
  | 0, p, I, h, hE, hH, hI, q => b_G_askAll_2 hW hS (by rw [hH.1.2.1, if_pos (by omega)]; exact q I (fun k hk => hI k (by omega)) fun _ _ _ _ _ => rfl)
  | c + 1, p, I, h, hE, hH, hI, q => b_G_askAll_2 hW hS (by
    have hl9 := hh.1
    have ho' := ho
    unfold sPl at ho'
    rw [hH.1.2.1, if_neg (by omega)]
    refine s_G_holeFor hW hS ho hl hR hL hb hE hH hh (p := p) (by omega) fun J hJ => ⟨by omega, by unfold zr; omega, ?_⟩
    rw [Int.toNat_natCast]
    refine l_G_askAll hW hS ho hl hR hL hb hh c (p + 1) _ (by omega) (hE.fr hl fun a b hab => ?_) (hH.fr fun a b hab => ?_) (fun k hk => ?_) fun K k1 k2 => q K k1 fun a b h1 h2 h3 => ?_
    · rw [zup_ne (by omega), hJ a b (by omega) (by omega)]
    · rw [zup_ne (by omega), hJ a b (by omega) (by omega)]
    · by_cases e : k = p
      · rw [zup_eq (by omega), e]
      · rw [zup_ne (by omega), hJ _ _ (by omega) (by omega)]; exact hI k (by omega)
    · rw [k2 a b h1 h2 h3, zup_ne (by omega), hJ a b h1 h2])
theorem s_G_askAll {Q : ZI → Prop} (hW : Wf sh R) (hS : St sh R o) (ho : sPl o) (hl : lw = 5 ∨ lw = 45) (hR : R 42 4 = lw) (hL : Lw sh R lw) (hb : bOk B S) (hh : hIn B H) (hE : gEnv B I lw S) (hH : gSt B I o H g LA) (q : ∀ J : ZI, (∀ k, k < H.length → J 44 k = gInto B H g LA k) → (∀ a b, ¬ a = 43 → ¬ a = lw + 7 → ¬ a = 44 → J a b = I a b) → Q J) : XV (d + 4) 57 [.inr 42, .inr o] n sh R I Q :=
  b_G_askAll_0 hW hS (l_G_askAll hW hS ho hl hR hL hb hh H.length 0 I (by omega) hE hH (fun k hk => by omega) q)
/-- what is counted of all throws of a go -/
def gTal (B : ZI) (H : List Int) (g : Int) (LA : Nat → Int) (p : Nat) : Int × Int × Int := (pSum (gIf B H g LA (gSecs B H g LA)) p, pSum (gIf B H g LA (fun p => B 139 (H.getD p 0).toNat)) p, pSum (gIf B H g LA (fun _ => 1)) p)
theorem gTal_range (hb : bOk B S) (hh : hIn B H) {p : Nat} (hp : p ≤ H.length) : (0 ≤ (gTal B H g LA p).1 ∧ (gTal B H g LA p).1 ≤ 3168) ∧ (0 ≤ (gTal B H g LA p).2.1 ∧ (gTal B H g LA p).2.1 ≤ 3168) ∧ (0 ≤ (gTal B H g LA p).2.2 ∧ (gTal B H g LA p).2.2 ≤ 3168) := by
  have hl9 := hh.1
  have hL9 := hb.1
  have r1 := pSum_range (f := gIf B H g LA (gSecs B H g LA)) (c := 99) p (fun k hk => by unfold gIf; have := gSec_range (B := B) (fa := gFa B k (H.getD k 0) g LA); split; omega; exact this)
  have r2 := pSum_range (f := gIf B H g LA (fun p => B 139 (H.getD p 0).toNat)) (c := 99) p (fun k hk => by
    unfold gIf
    have hi := hh.2 k (by omega)
    have st := hb.2.2.1 (H.getD k 0).toNat (by omega)
    dsimp only
    split <;> omega)
  have r3 := pSum_range (f := gIf B H g LA (fun _ => 1)) (c := 1) p (fun k hk => by unfold gIf; dsimp only; split <;> omega)
  unfold gTal
  dsimp only
  omega
theorem gTal_skip {p : Nat} (e : gInto B H g LA p = -1) : gTal B H g LA (p + 1) = gTal B H g LA p := by
  unfold gTal
  show (pSum _ p + gIf B H g LA _ p, pSum _ p + gIf B H g LA _ p, pSum _ p + gIf B H g LA _ p) = _
  unfold gIf
  rw [if_pos e, if_pos e, if_pos e, Int.add_zero, Int.add_zero, Int.add_zero]
theorem gTal_step {p : Nat} (e : ¬ gInto B H g LA p = -1) : gTal B H g LA (p + 1) = ((gTal B H g LA p).1 + gSecs B H g LA p, (gTal B H g LA p).2.1 + B 139 (H.getD p 0).toNat, (gTal B H g LA p).2.2 + 1) := by
  unfold gTal
  show (pSum _ p + gIf B H g LA _ p, pSum _ p + gIf B H g LA _ p, pSum _ p + gIf B H g LA _ p) = _
  unfold gIf
  rw [if_neg e, if_neg e, if_neg e]
theorem l_G_tally {Q : ZI → Prop} (hW : Wf sh R) (hS : St sh R o) (ho : sPl o) (hl : lw = 5 ∨ lw = 45) (hR : R 42 4 = lw) (hL : Lw sh R lw) (hb : bOk B S) (hh : hIn B H) {a0 b0 c0 : Int} (h0 : 0 ≤ a0 ∧ a0 ≤ 1000000000 ∧ 0 ≤ b0 ∧ b0 ≤ 1000000000 ∧ 0 ≤ c0 ∧ c0 ≤ 1000000000) : ∀ (c p : Nat) (I : ZI), p + c = H.length → gEnv B I lw S → gSt B I o H g LA → (∀ k, k < H.length → I 44 k = gInto B H g LA k) → (I 42 5 = a0 + (gTal B H g LA p).1 ∧ I 42 6 = b0 + (gTal B H g LA p).2.1 ∧ I 42 7 = c0 + (gTal B H g LA p).2.2) → (∀ J : ZI, (J 42 5 = a0 + (gTal B H g LA H.length).1 ∧ J 42 6 = b0 + (gTal B H g LA H.length).2.1 ∧ J 42 7 = c0 + (gTal B H g LA H.length).2.2) → (∀ a b, ¬ a = 43 → ¬ a = lw + 7 → ¬ (a = 42 ∧ 5 ≤ b ∧ b ≤ 7) → J a b = I a b) → Q J) → XVs (d + 4) 58 2 [some (.inr 42), some (.inr o), some (.inl (p : Int))] [] n sh R I Q
  | 0, p, I, h, hE, hH, hI, h3, q => b_G_tally_2 hW hS (by
      have e : p = H.length := by omega
      rw [e] at h3
      rw [hH.1.2.1, if_pos (by omega)]; exact q I h3 fun _ _ _ _ _ => rfl)
  | c + 1, p, I, h, hE, hH, hI, h3, q => b_G_tally_2 hW hS (by
    have hl9 := hh.1
    have hL9 := hb.1
    have ho' := ho
    unfold sPl at ho'
    have hi := hh.2 p (by omega)
    have st := hb.2.2.1 (H.getD p 0).toNat (by omega)
    have r := gTal_range (g := g) (LA := LA) hb hh (p := p) (by omega)
    rw [hH.1.2.1, if_neg (by omega), Int.toNat_natCast, hI p (by omega)]
    refine ⟨by omega, ?_⟩
    by_cases e : gInto B H g LA p = -1
    · rw [if_pos e]
      exact ⟨by unfold zr; omega, l_G_tally hW hS ho hl hR hL hb hh h0 c (p + 1) I (by omega) hE hH hI (by rw [gTal_skip e]; exact h3) q⟩
    · rw [if_neg e]
      refine s_G_secondsFor hW hS ho hl hR hL hb hE hH hh (p := p) (by omega) fun J hJ => ?_
      have sr := gSec_range (B := B) (fa := gFa B p (H.getD p 0) g LA)
      have j6 : J 42 6 = I 42 6 := hJ _ _ (by omega) (by omega)
      have j7 : J 42 7 = I 42 7 := hJ _ _ (by omega) (by omega)
      have f5 : (zup J 42 5 (I 42 5 + gSecs B H g LA p)) (o + 5) p = H.getD p 0 := by
        rw [zup_ne (by omega), hJ _ _ (by omega) (by omega)]; exact hH.2.1 p (by omega)
      have f2 : (zup J 42 5 (I 42 5 + gSecs B H g LA p)) (o + 2) (H.getD p 0).toNat = B 139 (H.getD p 0).toNat := by
        rw [zup_ne (by omega), hJ _ _ (by omega) (by omega)]; exact (hH.2.2 _ (by omega)).2.1
      rw [f5, f2, j6, j7]
      unfold gSecs at *
      refine ⟨by unfold zr; omega, by omega, by unfold zr; omega, by unfold zr; omega, by unfold zr; omega, ?_⟩
      refine l_G_tally hW hS ho hl hR hL hb hh h0 c (p + 1) _ (by omega) (hE.fr hl fun a b hab => ?_) (hH.fr fun a b hab => ?_) (fun k hk => ?_) ?_ fun K k1 k2 => q K k1 fun a b h1 h2 h3 => ?_
      · rw [zup_ne (by omega), zup_ne (by omega), zup_ne (by omega), hJ a b (by omega) (by omega)]
      · rw [zup_ne (by omega), zup_ne (by omega), zup_ne (by omega), hJ a b (by omega) (by omega)]
      · rw [zup_ne (by omega), zup_ne (by omega), zup_ne (by omega), hJ _ _ (by omega) (by omega)]; exact hI k hk
      · rw [gTal_step e]
        dsimp only
        unfold gSecs
        refine ⟨?_, ?_, ?_⟩
        · rw [zup_ne (by omega), zup_ne (by omega), zup_eq (by omega)]; omega
        · rw [zup_ne (by omega), zup_eq (by omega)]; omega
        · rw [zup_eq (by omega)]; omega
      · rw [k2 a b h1 h2 h3, zup_ne (by omega), zup_ne (by omega), zup_ne (by omega), hJ a b h1 h2])
theorem s_G_tally {Q : ZI → Prop} (hW : Wf sh R) (hS : St sh R o) (ho : sPl o) (hl : lw = 5 ∨ lw = 45) (hR : R 42 4 = lw) (hL : Lw sh R lw) (hb : bOk B S) (hh : hIn B H) (h0 : 0 ≤ I 42 5 ∧ I 42 5 ≤ 1000000000 ∧ 0 ≤ I 42 6 ∧ I 42 6 ≤ 1000000000 ∧ 0 ≤ I 42 7 ∧ I 42 7 ≤ 1000000000) (hE : gEnv B I lw S) (hH : gSt B I o H g LA) (hI : ∀ k, k < H.length → I 44 k = gInto B H g LA k) (q : ∀ J : ZI, (J 42 5 = I 42 5 + (gTal B H g LA H.length).1 ∧ J 42 6 = I 42 6 + (gTal B H g LA H.length).2.1 ∧ J 42 7 = I 42 7 + (gTal B H g LA H.length).2.2) → (∀ a b, ¬ a = 43 → ¬ a = lw + 7 → ¬ (a = 42 ∧ 5 ≤ b ∧ b ≤ 7) → J a b = I a b) → Q J) : XV (d + 4) 58 [.inr 42, .inr o] n sh R I Q :=
  b_G_tally_0 hW hS (l_G_tally hW hS ho hl hR hL hb hh h0 H.length 0 I (by omega) hE hH hI ⟨(Int.add_zero _).symm, (Int.add_zero _).symm, (Int.add_zero _).symm⟩ q)
theorem l_M_asksAll {Q : ZI → Prop} (hW : Wf sh R) (hb : bOk B S) (hh : hIn B H) {a0 b0 c0 : Int} (h0 : 0 ≤ a0 ∧ a0 ≤ 1000000000 ∧ 0 ≤ b0 ∧ b0 ≤ 1000000000 ∧ 0 ≤ c0 ∧ c0 ≤ 1000000000) : ∀ (c p : Nat) (I : ZI), p + c = H.length → mEnv B I → mSt I H g LA → (∀ k, k < p → I 158 k = gInto B H g LA k) → (I 137 36 = a0 + (gTal B H g LA p).1 ∧ I 137 37 = b0 + (gTal B H g LA p).2.1 ∧ I 137 38 = c0 + (gTal B H g LA p).2.2) → (∀ J : ZI, (∀ k, k < H.length → J 158 k = gInto B H g LA k) → (J 137 36 = a0 + (gTal B H g LA H.length).1 ∧ J 137 37 = b0 + (gTal B H g LA H.length).2.1 ∧ J 137 38 = c0 + (gTal B H g LA H.length).2.2) → (∀ a b, ¬ a = 156 → ¬ a = 157 → ¬ a = 158 → ¬ (a = 137 ∧ 36 ≤ b ∧ b ≤ 38) → J a b = I a b) → Q J) → XVs (d + 4) 184 2 [some (.inr 137), some (.inl (p : Int))] [] n sh R I Q
  | 0, p, I, h, hE, hH, hI, h3, q => b_M_asksAll_2 hW (by
      have e : p = H.length := by omega
      rw [e] at h3 hI
      rw [hH.1.1, if_pos (by omega)]; exact q I hI h3 fun _ _ _ _ _ _ => rfl)
  | c + 1, p, I, h, hE, hH, hI, h3, q => b_M_asksAll_2 hW (by
    have hl9 := hh.1
    have hL9 := hb.1
    have hi := hh.2 p (by omega)
    have st := hb.2.2.1 (H.getD p 0).toNat (by omega)
    have r := gTal_range (g := g) (LA := LA) hb hh (p := p) (by omega)
    rw [hH.1.1, if_neg (by omega)]
    refine s_M_isLeftOut hW hb hE hH hh (p := p) (by omega) fun J hJ => ?_
    have hEJ : mEnv B J := hE.fr fun a b hab => hJ a b (by omega) (by omega)
    have hHJ : mSt J H g LA := hH.fr fun a b hab => hJ a b (by omega) (by omega)
    have iv : gInto B H g LA p = if lOut B (gFa B p (H.getD p 0) g LA) = 0 then lAm B (gFa B p (H.getD p 0) g LA) 104 (B 137 3 - 1) else -1 := rfl
    have rg := lAm_range (B := B) (fa := gFa B p (H.getD p 0) g LA) (kind := 104) (high := B 137 3 - 1) (by have := hb.2.1; omega)
    -- one letter that is thrown
    by_cases v : lOut B (gFa B p (H.getD p 0) g LA) = 0
    · rw [if_pos v]
      rw [if_pos v] at iv
      refine s_M_holeFor hW hb hEJ hHJ hh (p := p) (by omega) fun K hK => ?_
      rw [← iv] at rg ⊢
      rw [Int.toNat_natCast]
      refine ⟨by omega, ?_⟩
      rw [zup_eq (show (158 : Nat) = 158 ∧ p = p from ⟨rfl, rfl⟩), if_pos (show ¬ gInto B H g LA p = -1 by omega)]
      have ff : ∀ a b, ¬ a = 156 → ¬ a = 157 → ¬ a = 158 → (zup K 158 p (gInto B H g LA p)) a b = I a b := fun a b h1 h2 h3 => by
        rw [zup_ne (by omega), hK a b h1 h2, hJ a b h1 h2]
      refine s_M_secondsFor hW hb (hE.fr fun a b hab => ff a b (by omega) (by omega) (by omega)) (hH.fr fun a b hab => ff a b (by omega) (by omega) (by omega)) hh (p := p) (by omega) fun M hM => ?_
      have sr := gSec_range (B := B) (fa := gFa B p (H.getD p 0) g LA)
      have fm : ∀ a b, ¬ a = 156 → ¬ a = 157 → ¬ a = 158 → M a b = I a b := fun a b h1 h2 h3 => by rw [hM a b h1 h2, ff a b h1 h2 h3]
      have k36 : K 137 36 = I 137 36 := by rw [hK _ _ (by omega) (by omega), hJ _ _ (by omega) (by omega)]
      have f5 : M 142 p = H.getD p 0 := by rw [fm _ _ (by omega) (by omega) (by omega)]; exact hH.2.1 p (by omega)
      have f2 : M 139 = B 139 := by rw [← hE.2.1.2.1]; exact funext fun b => fm _ _ (by omega) (by omega) (by omega)
      have f158 : ∀ k, k < p + 1 → M 158 k = gInto B H g LA k := fun k hk => by
        rw [hM _ _ (by omega) (by omega)]
        by_cases e : k = p
        · rw [zup_eq (by omega), e]
        · rw [zup_ne (by omega), hK _ _ (by omega) (by omega), hJ _ _ (by omega) (by omega)]; exact hI k (by omega)
      rw [f5, f2, k36, fm 137 37 (by omega) (by omega) (by omega), fm 137 38 (by omega) (by omega) (by omega)]
      unfold gSecs at *
      refine ⟨by unfold zr; omega, by omega, by unfold zr; omega, by unfold zr; omega, by unfold zr; omega, ?_⟩
      refine l_M_asksAll hW hb hh h0 c (p + 1) _ (by omega) (hE.fr fun a b hab => ?_) (hH.fr fun a b hab => ?_) (fun k hk => ?_) ?_ fun N n1 n2 n3 => q N n1 n2 fun a b h1 h2 h3 h4 => ?_
      · rw [zup_ne (by omega), zup_ne (by omega), zup_ne (by omega), fm a b (by omega) (by omega) (by omega)]
      · rw [zup_ne (by omega), zup_ne (by omega), zup_ne (by omega), fm a b (by omega) (by omega) (by omega)]
      · rw [zup_ne (by omega), zup_ne (by omega), zup_ne (by omega)]; exact f158 k hk
      · rw [gTal_step (by omega)]
        dsimp only
        unfold gSecs
        refine ⟨?_, ?_, ?_⟩
        · rw [zup_ne (by omega), zup_ne (by omega), zup_eq (by omega)]; omega
        · rw [zup_ne (by omega), zup_eq (by omega)]; omega
        · rw [zup_eq (by omega)]; omega
      · rw [n3 a b h1 h2 h3 h4, zup_ne (by omega), zup_ne (by omega), zup_ne (by omega), fm a b h1 h2 h3]
    · rw [if_neg v]
      rw [if_neg v] at iv
      rw [Int.toNat_natCast]
      refine ⟨by omega, ?_⟩
      rw [zup_eq (show (158 : Nat) = 158 ∧ p = p from ⟨rfl, rfl⟩), if_neg (show ¬ ¬ (-1 : Int) = -1 by decide)]
      have ff : ∀ a b, ¬ a = 156 → ¬ a = 157 → ¬ a = 158 → (zup J 158 p (-1)) a b = I a b := fun a b h1 h2 h3 => by
        rw [zup_ne (by omega), hJ a b h1 h2]
      refine ⟨by unfold zr; omega, ?_⟩
      refine l_M_asksAll hW hb hh h0 c (p + 1) _ (by omega) (hE.fr fun a b hab => ff a b (by omega) (by omega) (by omega)) (hH.fr fun a b hab => ff a b (by omega) (by omega) (by omega)) (fun k hk => ?_) ?_ fun N n1 n2 n3 => q N n1 n2 fun a b h1 h2 h3 h4 => by rw [n3 a b h1 h2 h3 h4, ff a b h1 h2 h3]
      · by_cases e : k = p
        · rw [zup_eq (by omega), e, iv]
        · rw [zup_ne (by omega), hJ _ _ (by omega) (by omega)]; exact hI k (by omega)
      · rw [gTal_skip iv, ff _ _ (by omega) (by omega) (by omega), ff _ _ (by omega) (by omega) (by omega), ff _ _ (by omega) (by omega) (by omega)]; exact h3)
theorem s_M_asksAll {Q : ZI → Prop} (hW : Wf sh R) (hb : bOk B S) (hh : hIn B H) (h0 : 0 ≤ I 137 36 ∧ I 137 36 ≤ 1000000000 ∧ 0 ≤ I 137 37 ∧ I 137 37 ≤ 1000000000 ∧ 0 ≤ I 137 38 ∧ I 137 38 ≤ 1000000000) (hE : mEnv B I) (hH : mSt I H g LA) (q : ∀ J : ZI, (∀ k, k < H.length → J 158 k = gInto B H g LA k) → (J 137 36 = I 137 36 + (gTal B H g LA H.length).1 ∧ J 137 37 = I 137 37 + (gTal B H g LA H.length).2.1 ∧ J 137 38 = I 137 38 + (gTal B H g LA H.length).2.2) → (∀ a b, ¬ a = 156 → ¬ a = 157 → ¬ a = 158 → ¬ (a = 137 ∧ 36 ≤ b ∧ b ≤ 38) → J a b = I a b) → Q J) : XV (d + 4) 184 [.inr 137] n sh R I Q :=
  b_M_asksAll_0 hW (l_M_asksAll hW hb hh h0 H.length 0 I (by omega) hE hH (fun k hk => by omega) ⟨(Int.add_zero _).symm, (Int.add_zero _).symm, (Int.add_zero _).symm⟩ q)
end AS
