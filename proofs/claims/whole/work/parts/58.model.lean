-- THE MODEL'S READING: sums
def hd (W : List Int) : Int := match W with
  | [] => -1
  | x :: _ => x / 1048576
def mP (T : Nat → Int) (N : Nat) (J : ZI) (p : Nat) (C W : List Int) (k : Nat) : Prop := (J 137 15 = (N : Int) ∧ J 137 14 = (p : Int) ∧ J 137 18 = (C.length : Int) ∧ J 137 19 = (W.length : Int) ∧ J 137 17 = (k : Int)) ∧ (∀ j, j < N → J 144 j = zi2b (T j)) ∧ pLs J 145 C ∧ sStk (J 146) W ∧ ∀ x, x ∈ W → 0 ≤ x ∧ x < 1000000000
def fR (a b : Nat) : Prop := a = 137 ∧ (b = 14 ∨ 16 ≤ b ∧ b ≤ 19 ∨ b = 21) ∨ a = 145 ∨ a = 146
/-- what is to hold behind a reading that comes to r -/
def mK (I : ZI) (Q : Int → ZI → Prop) (ok : ZI → Nat → List Int → Prop) : RR → Prop
  | .inl a => ∀ J : ZI, J 137 16 = a → (∀ a b, ¬ fR a b → J a b = I a b) → Q 0 J
  | .inr y => ∀ J : ZI, (∀ a b, ¬ fR a b → J a b = I a b) → ok J y.1 y.2
theorem mK.tail {I J : ZI} {Q : Int → ZI → Prop} {ok : ZI → Nat → List Int → Prop} {l : List Int} {r : RR} {x : Option RR} (h : mK I Q ok r) (e : rPre l x = some r) (hf : ∀ a b, ¬ fR a b → J a b = I a b) : ∃ r2, x = some r2 ∧ mK J Q (fun J q l2 => ok J q (l ++ l2)) r2 := by
  rcases rB_cases e with ⟨a, e1, e2⟩ | ⟨q, l2, e1, e2⟩
  · subst e2
    exact ⟨_, e1, fun M m1 m2 => h M m1 fun a b hab => by rw [m2 a b hab, hf a b hab]⟩
  · cases e2
    exact ⟨_, e1, fun M m2 => h M fun a b hab => by rw [m2 a b hab, hf a b hab]⟩
def isM (M : List Int) : Prop := M = [] ∨ ∃ o : Int, (4 ≤ o ∧ o ≤ 6) ∧ M = [1048576 * o]
def isA (A : List Int) : Prop := A = [] ∨ ∃ o : Int, (2 ≤ o ∧ o ≤ 3) ∧ A = [1048576 * o]
def rSg (c : Int) : Int := if c = 43 then 2 else if c = 45 then 3 else if c = 42 then 4 else if c = 47 then 5 else if c = 37 then 6 else -1
theorem rSg_eq (c : Int) : rSg c = if 0 ≤ rAdd c then rAdd c else rMul c := by
  unfold rSg rAdd rMul
  by_cases g1 : c = 43
  · subst g1; decide
  by_cases g2 : c = 45
  · subst g2; decide
  simp only [if_neg g1, if_neg g2]
  rw [if_neg (show ¬ (0 : Int) ≤ -1 by decide)]
section MR
variable {d n : Nat} {sh : ZS} {R : ZR} {T : Nat → Int} {N : Nat} {x1 : Int}
theorem zand_T {t : Int} (h : 0 ≤ t ∧ t < 256) : zand (zi2b t) 255 = t := by
  rw [zand_b2, zand_255]; omega
theorem s_M_here {I : ZI} {Q : Int → ZI → Prop} {p k : Nat} {C W : List Int} (hW : Wf sh R) (hN : N ≤ 200) (hT : ∀ j, j < N → 0 ≤ T j ∧ T j < 256) (h : mP T N I p C W k) (q : Q (nx T N p) I) : XI d 154 [.inr 137] n sh R I Q := by
  refine b_M_here_0 hW ?_
  rw [h.1.1, h.1.2.1, Int.toNat_natCast]
  unfold nx at q
  by_cases g : p < N
  · rw [if_pos g] at q
    rw [if_neg (by omega), h.2.1 p g, zand_T (hT p g)]
    exact ⟨by omega, q⟩
  · rw [if_neg g] at q
    rw [if_pos (by omega)]
    exact q
theorem s_M_isDigit {I : ZI} {Q : Int → ZI → Prop} {p k : Nat} {C W : List Int} (hW : Wf sh R) (hN : N ≤ 200) (hT : ∀ j, j < N → 0 ≤ T j ∧ T j < 256) (h : mP T N I p C W k) (q : Q (if rDg (nx T N p) = true then 1 else 0) I) : XI (d + 1) 155 [.inr 137] n sh R I Q := by
  refine b_M_isDigit_0 hW (s_M_here hW hN hT h ?_)
  unfold rDg at q
  simp only [decide_eq_true_iff] at q
  by_cases g : nx T N p < 48
  · rw [if_pos g]; rw [if_neg (by omega)] at q; exact q
  rw [if_neg g]
  refine s_M_here hW hN hT h ?_
  by_cases g2 : 57 < nx T N p
  · rw [if_pos g2]; rw [if_neg (by omega)] at q; exact q
  · rw [if_neg g2]; rw [if_pos (by omega)] at q; exact q
theorem s_M_waitTop {I : ZI} {Q : Int → ZI → Prop} {p k : Nat} {C W : List Int} (hW : Wf sh R) (hw : W.length ≤ 200) (h : mP T N I p C W k) (q : Q (hd W) I) : XI d 161 [.inr 137] n sh R I Q := by
  refine b_M_waitTop_0 hW ?_
  have h4 := h.1.2.2.2.1
  rw [h4]
  cases W with
  | nil =>
    have e0 : ((([] : List Int).length : Nat) : Int) = 0 := rfl
    rw [if_neg (not_not_intro e0)]; exact q
  | cons x t =>
    have e0 : ((x :: t).length : Int) = (t.length : Int) + 1 := by rw [List.length_cons]; omega
    rw [e0, if_pos (by omega), show ((t.length : Int) + 1 - 1).toNat = t.length by omega]
    have e1 : I 146 t.length = x := h.2.2.2.1.1
    have e2 := h.2.2.2.2 x List.mem_cons_self
    rw [List.length_cons] at hw
    rw [e1]
    exact ⟨by unfold zr; omega, by omega, by omega, q⟩
/-- a step is noted, and what waited for it goes -/
theorem mP.pop {I : ZI} {p k : Nat} {C W : List Int} {x y z w : Int} (h : mP T N I p C (x :: W) k) (hx : y = x) (hz : z = (C.length : Int) + 1) (hw : w = (W.length : Int)) : mP T N (zup (zup (zup I 145 C.length y) 137 18 z) 137 19 w) p (C ++ [x]) W k := by
  subst hx
  obtain ⟨⟨h1, h2, h3, h4, h5⟩, h6, h7, h8, h9⟩ := h
  refine ⟨⟨?_, ?_, ?_, ?_, ?_⟩, fun j hj => ?_, fun i hi => ?_, ?_, fun x hx => h9 x (List.mem_cons_of_mem _ hx)⟩
  · rw [zup_ne (by omega), zup_ne (by omega), zup_ne (by omega)]; exact h1
  · rw [zup_ne (by omega), zup_ne (by omega), zup_ne (by omega)]; exact h2
  · rw [zup_ne (by omega), zup_eq ⟨rfl, rfl⟩, List.length_append]; show z = ((C.length + 1 : Nat) : Int); omega
  · rw [zup_eq ⟨rfl, rfl⟩]; exact hw
  · rw [zup_ne (by omega), zup_ne (by omega), zup_ne (by omega)]; exact h5
  · rw [zup_ne (by omega), zup_ne (by omega), zup_ne (by omega)]; exact h6 j hj
  · rw [zup_ne (by omega), zup_ne (by omega)]; exact h7.push y i hi
  · have e : (zup (zup (zup I 145 C.length y) 137 18 z) 137 19 w) 146 = I 146 := by funext j; rw [zup_ne (by omega), zup_ne (by omega), zup_ne (by omega)]
    rw [e]; exact h8.2
theorem mP.fr {I J : ZI} {p k : Nat} {C W : List Int} (h : mP T N I p C W k) (e : ∀ a b, a = 137 ∧ (b = 14 ∨ b = 15 ∨ 17 ≤ b ∧ b ≤ 19) ∨ 144 ≤ a ∧ a ≤ 146 → J a b = I a b) : mP T N J p C W k := by
  obtain ⟨⟨h1, h2, h3, h4, h5⟩, h6, h7, h8, h9⟩ := h
  refine ⟨⟨by rw [e _ _ (by omega)]; exact h1, by rw [e _ _ (by omega)]; exact h2, by rw [e _ _ (by omega)]; exact h3, by rw [e _ _ (by omega)]; exact h4, by rw [e _ _ (by omega)]; exact h5⟩, fun j hj => by rw [e _ _ (by omega)]; exact h6 j hj, fun i hi => by rw [e _ _ (by omega)]; exact h7 i hi, ?_, h9⟩
  have : J 146 = I 146 := by funext j; exact e _ _ (by omega)
  rw [this]; exact h8
/-- a step is noted, a place further -/
theorem mP.note {I : ZI} {p k : Nat} {C W : List Int} {x z : Int} (h : mP T N I p C W k) (hz : z = (C.length : Int) + 1) : mP T N (zup (zup I 145 C.length x) 137 18 z) p (C ++ [x]) W k := by
  obtain ⟨⟨h1, h2, h3, h4, h5⟩, h6, h7, h8, h9⟩ := h
  refine ⟨⟨?_, ?_, ?_, ?_, ?_⟩, fun j hj => ?_, fun i hi => ?_, ?_, h9⟩
  · rw [zup_ne (by omega), zup_ne (by omega)]; exact h1
  · rw [zup_ne (by omega), zup_ne (by omega)]; exact h2
  · rw [zup_eq ⟨rfl, rfl⟩, List.length_append]; show z = ((C.length + 1 : Nat) : Int); omega
  · rw [zup_ne (by omega), zup_ne (by omega)]; exact h4
  · rw [zup_ne (by omega), zup_ne (by omega)]; exact h5
  · rw [zup_ne (by omega), zup_ne (by omega)]; exact h6 j hj
  · rw [zup_ne (by omega)]; exact h7.push x i hi
  · have e : (zup (zup I 145 C.length x) 137 18 z) 146 = I 146 := by funext j; rw [zup_ne (by omega), zup_ne (by omega)]
    rw [e]; exact h8
theorem mP.go {I : ZI} {p k : Nat} {C W : List Int} {z : Int} (h : mP T N I p C W k) (hz : z = (p : Int) + 1) : mP T N (zup I 137 14 z) (p + 1) C W k := by
  obtain ⟨⟨h1, h2, h3, h4, h5⟩, h6, h7, h8, h9⟩ := h
  refine ⟨⟨?_, ?_, ?_, ?_, ?_⟩, fun j hj => ?_, fun i hi => ?_, ?_, h9⟩
  · rw [zup_ne (by omega)]; exact h1
  · rw [zup_eq ⟨rfl, rfl⟩]; omega
  · rw [zup_ne (by omega)]; exact h3
  · rw [zup_ne (by omega)]; exact h4
  · rw [zup_ne (by omega)]; exact h5
  · rw [zup_ne (by omega)]; exact h6 j hj
  · rw [zup_ne (by omega)]; exact h7 i hi
  · have e : (zup I 137 14 z) 146 = I 146 := by funext j; rw [zup_ne (by omega)]
    rw [e]; exact h8
/-- something more waits -/
theorem mP.push {I : ZI} {p k : Nat} {C W : List Int} {x z : Int} (h : mP T N I p C W k) (hx : 0 ≤ x ∧ x < 1000000000) (hz : z = (W.length : Int) + 1) : mP T N (zup (zup I 146 W.length x) 137 19 z) p C (x :: W) k := by
  obtain ⟨⟨h1, h2, h3, h4, h5⟩, h6, h7, h8, h9⟩ := h
  refine ⟨⟨?_, ?_, ?_, ?_, ?_⟩, fun j hj => ?_, fun i hi => ?_, ?_, fun y hy => ?_⟩
  · rw [zup_ne (by omega), zup_ne (by omega)]; exact h1
  · rw [zup_ne (by omega), zup_ne (by omega)]; exact h2
  · rw [zup_ne (by omega), zup_ne (by omega)]; exact h3
  · rw [zup_eq ⟨rfl, rfl⟩, List.length_cons]; omega
  · rw [zup_ne (by omega), zup_ne (by omega)]; exact h5
  · rw [zup_ne (by omega), zup_ne (by omega)]; exact h6 j hj
  · rw [zup_ne (by omega), zup_ne (by omega)]; exact h7 i hi
  · have e : (zup (zup I 146 W.length x) 137 19 z) 146 = (zup I 146 W.length x) 146 := by funext j; rw [zup_ne (by omega)]
    rw [e]; exact h8.push x
  · rcases List.mem_cons.mp hy with e | e
    · rw [e]; exact hx
    · exact h9 y e
theorem mP.op {I : ZI} {p k k2 : Nat} {C W : List Int} {z : Int} (h : mP T N I p C W k) (hz : z = (k2 : Int)) : mP T N (zup I 137 17 z) p C W k2 := by
  obtain ⟨⟨h1, h2, h3, h4, h5⟩, h6, h7, h8, h9⟩ := h
  refine ⟨⟨?_, ?_, ?_, ?_, ?_⟩, fun j hj => ?_, fun i hi => ?_, ?_, h9⟩
  · rw [zup_ne (by omega)]; exact h1
  · rw [zup_ne (by omega)]; exact h2
  · rw [zup_ne (by omega)]; exact h3
  · rw [zup_ne (by omega)]; exact h4
  · rw [zup_eq ⟨rfl, rfl⟩]; exact hz
  · rw [zup_ne (by omega)]; exact h6 j hj
  · rw [zup_ne (by omega)]; exact h7 i hi
  · have e : (zup I 137 17 z) 146 = I 146 := by funext j; rw [zup_ne (by omega)]
    rw [e]; exact h8
theorem mP.drop {I : ZI} {p k : Nat} {C W : List Int} {x z : Int} (h : mP T N I p C (x :: W) k) (hz : z = (W.length : Int)) : mP T N (zup I 137 19 z) p C W k := by
  obtain ⟨⟨h1, h2, h3, h4, h5⟩, h6, h7, h8, h9⟩ := h
  refine ⟨⟨?_, ?_, ?_, ?_, ?_⟩, fun j hj => ?_, fun i hi => ?_, ?_, fun y hy => h9 y (List.mem_cons_of_mem _ hy)⟩
  · rw [zup_ne (by omega)]; exact h1
  · rw [zup_ne (by omega)]; exact h2
  · rw [zup_ne (by omega)]; exact h3
  · rw [zup_eq ⟨rfl, rfl⟩]; exact hz
  · rw [zup_ne (by omega)]; exact h5
  · rw [zup_ne (by omega)]; exact h6 j hj
  · rw [zup_ne (by omega)]; exact h7 i hi
  · have e : (zup I 137 19 z) 146 = I 146 := by funext j; rw [zup_ne (by omega)]
    rw [e]; exact h8.2
theorem s_M_opens {I : ZI} {Q : Int → ZI → Prop} {p k : Nat} {C W : List Int} (hW : Wf sh R) (hp : p ≤ 200) (hw : W.length ≤ 200) (h : mP T N I p C W k) (hk : k ≤ 6) (hx : 0 ≤ x1 ∧ x1 ≤ 20) (q1 : ¬ 6 ≤ k → ∀ J : ZI, mP T N J (p + 1) C (1048576 * x1 :: W) (k + 1) → (∀ a b, ¬ fR a b → J a b = I a b) → Q 1 J) (q0 : 6 ≤ k → ∀ J : ZI, J 137 16 = -5000 - (p : Int) → (∀ a b, ¬ fR a b → J a b = I a b) → Q 0 J) : XI (d + 1) 160 [.inr 137, .inl x1] n sh R I Q := by
  have h2 := h.1.2.1
  have h4 := h.1.2.2.2.1
  have h5 := h.1.2.2.2.2
  refine b_M_opens_0 hW ?_
  rw [h5, h4, h2, Int.toNat_natCast]
  by_cases g : 6 ≤ k
  · rw [if_neg (not_not_intro (by omega))]
    exact ⟨by unfold zr; omega, by unfold zr; omega, q0 g _ (by rw [zup_eq ⟨rfl, rfl⟩]; omega) fun a b hab => zup_ne (by unfold fR at hab; omega)⟩
  · rw [if_pos (by omega)]
    refine ⟨by unfold zr; omega, by unfold zr; omega, by omega, by unfold zr; omega, by unfold zr; omega, q1 g _ ?_ fun a b hab => ?_⟩
    · exact ((h.op (k2 := k + 1) (by omega)).push (by omega) rfl).go rfl
    · unfold fR at hab
      rw [zup_ne (by omega), zup_ne (by omega), zup_ne (by omega), zup_ne (by omega)]
/-- one round of closing sums -/
theorem l_M_closes {I : ZI} {Q : ZI → Prop} {p k : Nat} {C W : List Int} {o : Int} (hW : Wf sh R) (hC : C.length ≤ 200) (hw : W.length < 200) (h : mP T N I p C (1048576 * o :: W) k) (ho : 4 ≤ o ∧ o ≤ 6 ∨ (2 ≤ o ∧ o ≤ 3) ∧ ¬ x1 = 0) (q : ∀ J : ZI, mP T N J p (C ++ [1048576 * o]) W k → (∀ a b, ¬ fR a b → J a b = I a b) → XVs (d + 1) 164 0 [some (.inr 137), some (.inl x1)] [] n sh R J Q) : XVs (d + 1) 164 0 [some (.inr 137), some (.inl x1)] [] n sh R I Q := by
  have hl : (1048576 * o :: W).length ≤ 200 := by rw [List.length_cons]; omega
  have e : hd (1048576 * o :: W) = o := by show 1048576 * o / 1048576 = o; omega
  have wt : ∀ P : Int → ZI → Prop, P o I → XI d 161 [.inr 137] n sh R I P := fun P k => s_M_waitTop hW hl h (by rw [e]; exact k)
  have h3 := h.1.2.2.1
  have h4 := h.1.2.2.2.1
  have e0 : ((1048576 * o :: W).length : Int) = (W.length : Int) + 1 := by rw [List.length_cons]; omega
  rw [e0] at h4
  have fin : (zr (1048576 * o)) ∧ (zr ((1048576 * o) + 0)) ∧ (0 ≤ I 137 18 ∧ I 137 18 < 220) ∧ (zr (I 137 18 + 1)) ∧ (zr (I 137 19 - 1)) ∧ XVs (d + 1) 164 0 [some (.inr 137), some (.inl x1)] [] n sh R (zup (zup (zup I 145 (I 137 18).toNat ((1048576 * o) + 0)) 137 18 (I 137 18 + 1)) 137 19 (I 137 19 - 1)) Q := by
    refine ⟨by unfold zr; omega, by unfold zr; omega, by omega, by unfold zr; omega, by unfold zr; omega, ?_⟩
    rw [h3, Int.toNat_natCast]
    exact q _ (h.pop (by omega) rfl (by omega)) fun a b hab => by unfold fR at hab; rw [zup_ne (by omega), zup_ne (by omega), zup_ne (by omega)]
  refine b_M_closesSums_0 hW (wt _ ?_)
  by_cases g : o < 4
  · rw [if_pos g, if_neg (by omega)]
    refine wt _ ?_
    by_cases g2 : o = 2
    · rw [if_pos g2]; exact wt _ fin
    · rw [if_neg g2]
      refine wt _ ?_
      rw [if_neg (not_not_intro (by omega))]; exact wt _ fin
  · rw [if_neg g]
    refine wt _ ?_
    rw [if_pos (by omega)]; exact wt _ fin
theorem l_M_closesE {I : ZI} {Q : ZI → Prop} {p k : Nat} {C W : List Int} (hW : Wf sh R) (hw : W.length ≤ 200) (h : mP T N I p C W k) (ho : (hd W < 2 ∨ 6 < hd W) ∨ (hd W < 4 ∨ 6 < hd W) ∧ x1 = 0) (q : Q I) : XVs (d + 1) 164 0 [some (.inr 137), some (.inl x1)] [] n sh R I Q := by
  have wt : ∀ P : Int → ZI → Prop, P (hd W) I → XI d 161 [.inr 137] n sh R I P := fun P k => s_M_waitTop hW hw h k
  refine b_M_closesSums_0 hW (wt _ ?_)
  by_cases g : hd W < 4
  · rw [if_pos g]
    by_cases g1 : x1 = 0
    · rw [if_pos g1]; exact q
    rw [if_neg g1]
    refine wt _ ?_
    rw [if_neg (by omega)]
    refine wt _ ?_
    rw [if_pos (by omega)]; exact q
  · rw [if_neg g]
    refine wt _ ?_
    rw [if_neg (by omega)]
    by_cases g1 : x1 = 0
    · rw [if_pos g1]; exact q
    rw [if_neg g1]
    refine wt _ ?_
    rw [if_neg (by omega)]
    refine wt _ ?_
    rw [if_pos (by omega)]; exact q
theorem s_M_closes0 {I : ZI} {Q : ZI → Prop} {p k : Nat} {C W M : List Int} (hW : Wf sh R) (hC : C.length ≤ 200) (hw : (M ++ W).length ≤ 200) (hM : isM M) (h : mP T N I p C (M ++ W) k) (ho : hd W < 4 ∨ 6 < hd W) (q : ∀ J : ZI, mP T N J p (C ++ M) W k → (∀ a b, ¬ fR a b → J a b = I a b) → Q J) : XV (d + 1) 164 [.inr 137, .inl 0] n sh R I Q := by
  refine XV.of (ls := [some (.inr 137), some (.inl 0)]) (zloc_eq gY_164.2.2.1) ?_
  rcases hM with rfl | ⟨o, ho2, rfl⟩
  · exact l_M_closesE hW hw h (.inr ⟨ho, rfl⟩) (q I (by rw [List.append_nil]; exact h) fun _ _ _ => rfl)
  · have hw2 : W.length + 1 ≤ 200 := hw
    have h : mP T N I p C (1048576 * o :: W) k := h
    exact l_M_closes hW hC (by omega) h (.inl ho2) fun J j1 j2 => l_M_closesE hW (by omega) j1 (.inr ⟨ho, rfl⟩) (q J j1 j2)
theorem s_M_closes1 {I : ZI} {Q : ZI → Prop} {p k : Nat} {C W M A : List Int} (hW : Wf sh R) (hC : C.length < 200) (hw : (M ++ (A ++ W)).length ≤ 200) (hM : isM M) (hA : isA A) (h : mP T N I p C (M ++ (A ++ W)) k) (ho : hd W < 2 ∨ 6 < hd W) (q : ∀ J : ZI, mP T N J p (C ++ M ++ A) W k → (∀ a b, ¬ fR a b → J a b = I a b) → Q J) : XV (d + 1) 164 [.inr 137, .inl 1] n sh R I Q := by
  refine XV.of (ls := [some (.inr 137), some (.inl 1)]) (zloc_eq gY_164.2.2.1) ?_
  have one : ∀ (J : ZI) (C2 : List Int), C2.length ≤ 200 → (A ++ W).length ≤ 200 → mP T N J p C2 (A ++ W) k → (∀ K : ZI, mP T N K p (C2 ++ A) W k → (∀ a b, ¬ fR a b → K a b = J a b) → Q K) → XVs (d + 1) 164 0 [some (.inr 137), some (.inl 1)] [] n sh R J Q := fun J C2 hC2 hw2 hJ qq => by
    rcases hA with rfl | ⟨o, ho2, rfl⟩
    · exact l_M_closesE hW hw2 hJ (.inl ho) (qq J (by rw [List.append_nil]; exact hJ) fun _ _ _ => rfl)
    · have hw3 : W.length + 1 ≤ 200 := hw2
      have hJ : mP T N J p C2 (1048576 * o :: W) k := hJ
      exact l_M_closes hW hC2 (by omega) hJ (.inr ⟨ho2, by decide⟩) fun K j1 j2 => l_M_closesE hW (by omega) j1 (.inl ho) (qq K j1 j2)
  rcases hM with rfl | ⟨o, ho2, rfl⟩
  · exact one I C (by omega) hw h fun K k1 k2 => q K (by rw [List.append_nil]; exact k1) k2
  · have hw2 : (A ++ W).length + 1 ≤ 200 := hw
    have h : mP T N I p C (1048576 * o :: (A ++ W)) k := h
    exact l_M_closes hW (by omega) (by omega) h (.inl ho2) fun J j1 j2 => one J _ (by rw [List.length_append]; show C.length + 1 ≤ 200; omega) (by omega) j1 fun K k1 k2 => q K k1 fun a b hab => by rw [k2 a b hab, j2 a b hab]
-- does a sum stand open
theorem l_M_hasNo {I : ZI} {Q : Int → ZI → Prop} {p k : Nat} {C W : List Int} {u : Option AV} (hW : Wf sh R) (hw : W.length ≤ 200) (h : mP T N I p C W k) (q : Q 0 I) : ∀ (c j : Nat), j + c = W.length → (∀ i, j ≤ i → i < W.length → (0 ≤ I 146 i ∧ I 146 i < 1000000000) ∧ ¬ I 146 i / 1048576 = 14) → XIs d 166 2 [some (.inr 137), u, some (.inl (j : Int))] [] n sh R I Q
  | 0, j, e, _ => b_M_hasOpenSum_2 hW (by
    rw [h.1.2.2.2.1, if_pos (by omega)]; exact q)
  | c + 1, j, e, hn => b_M_hasOpenSum_2 hW (by
    have z := hn j (by omega) (by omega)
    rw [h.1.2.2.2.1, if_neg (by omega), Int.toNat_natCast, if_pos z.2]
    refine ⟨by omega, by omega, by unfold zr; omega, ?_⟩
    rw [show (j : Int) + 1 = ((j + 1 : Nat) : Int) by omega]
    exact l_M_hasNo hW hw h q c (j + 1) (by omega) fun i h1 h2 => hn i (by omega) h2)
theorem l_M_has {I : ZI} {Q : Int → ZI → Prop} {p k : Nat} {C W : List Int} {u : Option AV} {y : Nat} (hW : Wf sh R) (hw : W.length ≤ 200) (h : mP T N I p C W k) (hy : y < W.length) (h14 : I 146 y / 1048576 = 14) (hr : ∀ i, i < W.length → 0 ≤ I 146 i ∧ I 146 i < 1000000000) (q : Q 1 I) : ∀ (c j : Nat), j + c = y → XIs d 166 2 [some (.inr 137), u, some (.inl (j : Int))] [] n sh R I Q
  | 0, j, e => b_M_hasOpenSum_2 hW (by
    obtain rfl : j = y := by omega
    have := hr j hy
    rw [h.1.2.2.2.1, if_neg (by omega), Int.toNat_natCast, if_neg (not_not_intro h14)]
    exact ⟨by omega, by omega, q⟩)
  | c + 1, j, e => b_M_hasOpenSum_2 hW (by
    have := hr j (by omega)
    rw [h.1.2.2.2.1, if_neg (by omega), Int.toNat_natCast]
    refine ⟨by omega, by omega, ?_⟩
    by_cases g : I 146 j / 1048576 = 14
    · rw [if_neg (not_not_intro g)]; exact q
    · rw [if_pos g]
      refine ⟨by unfold zr; omega, ?_⟩
      rw [show (j : Int) + 1 = ((j + 1 : Nat) : Int) by omega]
      exact l_M_has hW hw h hy h14 hr q c (j + 1) (by omega))
theorem sStk_mem {f : Nat → Int} : ∀ {W : List Int}, sStk f W → ∀ i, i < W.length → ∃ x, x ∈ W ∧ f i = x
  | [], _, i, hi => absurd hi (by show ¬ i < 0; omega)
  | x :: t, h, i, hi => by
    by_cases e : i = t.length
    · subst e; exact ⟨x, List.mem_cons_self, h.1⟩
    · obtain ⟨y, h1, h2⟩ := sStk_mem h.2 i (by rw [List.length_cons] at hi; omega)
      exact ⟨y, List.mem_cons_of_mem _ h1, h2⟩
theorem sStk_app {f : Nat → Int} : ∀ {V W : List Int}, sStk f (V ++ W) → sStk f W ∧ ∀ i, W.length ≤ i → i < (V ++ W).length → ∃ x, x ∈ V ∧ f i = x
  | [], W, h => ⟨h, fun i h1 h2 => by have h2 : i < W.length := h2; omega⟩
  | x :: V, W, h => by
    have ih := sStk_app (V := V) (W := W) h.2
    refine ⟨ih.1, fun i h1 h2 => ?_⟩
    have h2 : i < (V ++ W).length + 1 := h2
    by_cases e : i = (V ++ W).length
    · subst e; exact ⟨x, List.mem_cons_self, h.1⟩
    · obtain ⟨y, y1, y2⟩ := ih.2 i h1 (by omega)
      exact ⟨y, List.mem_cons_of_mem _ y1, y2⟩
theorem mP.rg {I : ZI} {p k : Nat} {C W : List Int} (h : mP T N I p C W k) (i : Nat) (hi : i < W.length) : 0 ≤ I 146 i ∧ I 146 i < 1000000000 := by
  obtain ⟨x, h1, h2⟩ := sStk_mem h.2.2.2.1 i hi
  rw [h2]; exact h.2.2.2.2 x h1
/-- none stands open within the sum -/
theorem s_M_hasNo {I : ZI} {Q : Int → ZI → Prop} {p k : Nat} {C V S : List Int} (hW : Wf sh R) (hw : (V ++ S).length ≤ 200) (h : mP T N I p C (V ++ S) k) (hV : ∀ x, x ∈ V → ¬ x / 1048576 = 14) (q : Q 0 I) : XI d 166 [.inr 137, .inl (S.length : Int)] n sh R I Q := by
  refine b_M_hasOpenSum_0 hW (l_M_hasNo hW hw h q V.length S.length (by rw [List.length_append]; omega) fun i h1 h2 => ⟨h.rg i h2, ?_⟩)
  obtain ⟨x, x1, x2⟩ := (sStk_app h.2.2.2.1).2 i h1 h2
  rw [x2]; exact hV x x1
/-- one does -/
theorem s_M_has {I : ZI} {Q : Int → ZI → Prop} {p k : Nat} {C V O S : List Int} (hW : Wf sh R) (hw : (V ++ (14680064 :: (O ++ S))).length ≤ 200) (h : mP T N I p C (V ++ (14680064 :: (O ++ S))) k) (q : Q 1 I) : XI d 166 [.inr 137, .inl (S.length : Int)] n sh R I Q := by
  have e1 : I 146 (O ++ S).length = 14680064 := ((sStk_app h.2.2.2.1).1).1
  have l1 : (V ++ (14680064 :: (O ++ S))).length = V.length + ((O ++ S).length + 1) := by rw [List.length_append, List.length_cons]
  have l2 : (O ++ S).length = O.length + S.length := List.length_append
  exact b_M_hasOpenSum_0 hW (l_M_has (y := (O ++ S).length) hW hw h (by omega) (by rw [e1]; decide) h.rg q O.length S.length (by omega))
theorem s_M_sumSign {I : ZI} {Q : Int → ZI → Prop} {c : Int} (hW : Wf sh R) (q : Q (rSg c) I) : XI d 163 [.inl c] n sh R I Q := by
  refine b_M_sumSign_0 hW ?_
  unfold rSg at q
  by_cases g1 : c = 43
  · rw [if_pos g1] at q; rw [if_neg (not_not_intro g1)]; exact q
  rw [if_neg g1] at q; rw [if_pos g1]
  by_cases g2 : c = 45
  · rw [if_pos g2] at q; rw [if_neg (not_not_intro g2)]; exact q
  rw [if_neg g2] at q; rw [if_pos g2]
  by_cases g3 : c = 42
  · rw [if_pos g3] at q; rw [if_neg (not_not_intro g3)]; exact q
  rw [if_neg g3] at q; rw [if_pos g3]
  by_cases g4 : c = 47
  · rw [if_pos g4] at q; rw [if_neg (not_not_intro g4)]; exact q
  rw [if_neg g4] at q; rw [if_pos g4]
  by_cases g5 : c = 37
  · rw [if_pos g5] at q; rw [if_neg (not_not_intro g5)]; exact q
  · rw [if_neg g5] at q; rw [if_pos g5]; exact q
theorem s_M_factOf {I : ZI} {Q : Int → ZI → Prop} {c : Int} (hW : Wf sh R) (q : Q (zIdx c) I) : XI d 162 [.inl c] n sh R I Q := by
  refine b_M_factOf_0 hW ?_
  have key : ∀ (v : Int), zIdx c = v → Q v I := fun v e => by rw [← e]; exact q
  by_cases g1 : c = 103
  · rw [if_pos g1]; exact key 5 (by rw [g1]; decide)
  rw [if_neg g1]
  by_cases g2 : c = 105
  · rw [if_pos g2]; exact key 3 (by rw [g2]; decide)
  rw [if_neg g2]
  by_cases g3 : c = 110
  · rw [if_pos g3]; exact key 7 (by rw [g3]; decide)
  rw [if_neg g3]
  by_cases g4 : c = 111
  · rw [if_pos g4]; exact key 6 (by rw [g4]; decide)
  rw [if_neg g4]
  by_cases g5 : c = 112
  · rw [if_pos g5]; exact key 4 (by rw [g5]; decide)
  rw [if_neg g5]
  by_cases g6 : c = 114
  · rw [if_pos g6]; exact key 1 (by rw [g6]; decide)
  rw [if_neg g6]
  by_cases g7 : c = 115
  · rw [if_pos g7]; exact key 0 (by rw [g7]; decide)
  rw [if_neg g7]
  by_cases g8 : c = 119
  · rw [if_pos g8]; exact key 2 (by rw [g8]; decide)
  rw [if_neg g8]
  exact key (-1) (by unfold zIdx; rw [if_neg g7, if_neg g6, if_neg g8, if_neg g2, if_neg g5, if_neg g1, if_neg g4, if_neg g3])
theorem l_M_num {Q : Int → ZI → Prop} {C W : List Int} {k s : Nat} (hW : Wf sh R) (hN : N ≤ 200) (hT : ∀ j, j < N → 0 ≤ T j ∧ T j < 256) : ∀ (m p : Nat) (v : Int) (I : ZI), m + p = s + 5 → s ≤ 200 → p ≤ N → mP T N I p C W k → I 137 21 = v → 0 ≤ v → (v + 1) * 10 ^ m ≤ 100000 → (match rNum T N m p v with
    | .inl a => ∀ J : ZI, J 137 16 = a → (∀ a b, ¬ fR a b → J a b = I a b) → Q 0 J
    | .inr y => ∀ (J : ZI) (w : Int), y.2 = [w] → (0 ≤ w ∧ w < 100000) → J 137 21 = w → mP T N J y.1 C W k → (∀ a b, ¬ fR a b → J a b = I a b) → Q 1 J) → XIs (d + 2) 158 10 [some (.inr 137), some (.inl (s : Int))] [] n sh R I Q := by
  intro m
  induction m with
  | zero =>
    intro p v I hs hs2 hp h hv h0 hb kk
    rw [Int.pow_zero] at hb
    have h2 := h.1.2.1
    refine b_M_readsNumber_10 hW (s_M_isDigit hW hN hT h ?_)
    unfold rNum at kk
    by_cases g : rDg (nx T N p) = true
    · rw [if_pos g] at kk
      rw [if_pos g, if_neg (by decide), if_neg (not_not_intro (by omega))]
      exact ⟨by unfold zr; omega, by unfold zr; omega, by unfold zr; omega, kk _ (by rw [zup_eq ⟨rfl, rfl⟩]; omega) fun a b hab => zup_ne (by unfold fR at hab; omega)⟩
    · rw [if_neg g] at kk
      rw [if_neg g, if_pos rfl]
      exact kk I v rfl ⟨h0, by omega⟩ hv h fun _ _ _ => rfl
  | succ m ih =>
    intro p v I hs hs2 hp h hv h0 hb kk
    have pp : 1 ≤ (10 : Int) ^ m := Int.le_of_lt_add_one (by have := Int.pow_pos (n := 10) (by omega : (0 : Int) < 10) (m := m); omega)
    rw [Int.pow_succ] at hb
    have v5 : v < 100000 := by
      have : (v + 1) * 1 ≤ (v + 1) * (10 ^ m * 10) := Int.mul_le_mul_of_nonneg_left (by omega) (by omega)
      omega
    have h2 := h.1.2.1
    refine b_M_readsNumber_10 hW (s_M_isDigit hW hN hT h ?_)
    have er : rNum T N (m + 1) p v = if rDg (nx T N p) = true then rNum T N m (p + 1) (10 * v + nx T N p - 48) else .inr (p, [v]) := rfl
    rw [er] at kk
    by_cases g : rDg (nx T N p) = true
    · rw [if_pos g] at kk
      have dg := of_decide_eq_true g
      have lt := nx_lt (T := T) (n := N) (p := p) rfl (by omega)
      rw [if_pos g, if_neg (by decide), if_pos (by omega), hv]
      refine ⟨by unfold zr; omega, by unfold zr; omega, s_M_here hW hN hT h ⟨by unfold zr; omega, by unfold zr; omega, by unfold zr; omega, ?_⟩⟩
      have fr : ∀ a b, ¬ fR a b → (zup (zup I 137 21 (10 * v + nx T N p - 48)) 137 14 (I 137 14 + 1)) a b = I a b := fun a b hab => by unfold fR at hab; rw [zup_ne (by omega), zup_ne (by omega)]
      have h3 : mP T N (zup I 137 21 (10 * v + nx T N p - 48)) p C W k := h.fr fun a b hab => zup_ne (by omega)
      refine ih (p + 1) (10 * v + nx T N p - 48) _ (by omega) hs2 (by omega) (h3.go (by omega)) (by rw [zup_ne (by omega), zup_eq ⟨rfl, rfl⟩]) (by omega) ?_ ?_
      · have : (10 * v + nx T N p - 48 + 1) * 10 ^ m ≤ ((v + 1) * 10) * 10 ^ m := Int.mul_le_mul_of_nonneg_right (by omega) (by omega)
        have e : (v + 1) * (10 ^ m * 10) = (v + 1) * 10 * 10 ^ m := by rw [Int.mul_assoc, Int.mul_comm (10 ^ m) 10]
        omega
      · cases hr : rNum T N m (p + 1) (10 * v + nx T N p - 48) with
        | inl a =>
          rw [hr] at kk
          exact fun J j1 j3 => kk J j1 fun a b hab => by rw [j3 a b hab, fr a b hab]
        | inr y =>
          rw [hr] at kk
          exact fun J w j1 j2 j3 j4 j5 => kk J w j1 j2 j3 j4 fun a b hab => by rw [j5 a b hab, fr a b hab]
    · rw [if_neg g] at kk
      rw [if_neg g, if_pos rfl]
      exact kk I v rfl ⟨h0, v5⟩ hv h fun _ _ _ => rfl
end MR
