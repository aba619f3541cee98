-- THE MODEL'S READING: pieces, parts, conditions
section MV
variable (d n : Nat) (sh : ZS) (R : ZR) (T : Nat → Int) (N : Nat) (Q : Int → ZI → Prop)
def mPm (J : ZI) : Prop := XIs (d + 6) 172 40 [some (.inr 137)] [] n sh R J Q
def mEm (J : ZI) : Prop := XIs (d + 6) 172 92 [some (.inr 137)] [] n sh R J Q
/-- what waits while a piece is read -/
def pW (k p : Nat) (C W : List Int) : Prop := k ≤ 6 ∧ p ≤ N ∧ C.length + nt W ≤ p ∧ W.length ≤ p ∧ nt W ≤ k ∧ wtOk W ∧ ¬ W = []
def mPie (f : Nat) : Prop := ∀ (k p : Nat) (C W : List Int) (I : ZI) (r : RR), pW N k p C W → mP T N I p C W k → rd T N f 4 k p C.length = some r → mK I Q (fun J q l => mP T N J q (eS W (C ++ l) k).1 (eS W (C ++ l) k).2.1 (eS W (C ++ l) k).2.2 → mEm d n sh R Q J) r → mPm d n sh R Q I
def mPart (f : Nat) : Prop := ∀ (k p : Nat) (C W : List Int) (I : ZI) (r : RR), pW N k p C W → 12 ≤ hd W → mP T N I p C W k → rd T N f 5 k p C.length = some r → mK I Q (fun J q l => ∀ C2 P, isP 11 C2 P → rsv P C2 = C ++ l → ¬ nx T N q = 38 → (P ++ W).length ≤ q → mP T N J q C2 (P ++ W) k → mEm d n sh R Q J) r → mPm d n sh R Q I
def mPartR (f : Nat) : Prop := ∀ (k p : Nat) (C P W : List Int) (I : ZI) (r : RR), pW N k p C W → (P ++ W).length ≤ p → 12 ≤ hd W → isP 11 C P → mP T N I p C (P ++ W) k → rd T N f 15 k p C.length = some r → mK I Q (fun J q l => ∀ C2 P2, isP 11 C2 P2 → rsv P2 C2 = rsv P C ++ l → ¬ nx T N q = 38 → (P2 ++ W).length ≤ q → mP T N J q C2 (P2 ++ W) k → mEm d n sh R Q J) r → mEm d n sh R Q I
def mCond (f : Nat) : Prop := ∀ (k p : Nat) (C W : List Int) (I : ZI) (r : RR), pW N k p C W → hd W = 13 → mP T N I p C W k → rd T N f 6 k p C.length = some r → mK I Q (fun J q l => ∀ C2 P O, isP 11 C2 P → isP 12 C2 O → rsv O (rsv P C2) = C ++ l → ¬ nx T N q = 38 → ¬ nx T N q = 124 → (P ++ (O ++ W)).length ≤ q → mP T N J q C2 (P ++ (O ++ W)) k → mEm d n sh R Q J) r → mPm d n sh R Q I
def mCondR (f : Nat) : Prop := ∀ (k p : Nat) (C P O W : List Int) (I : ZI) (r : RR), pW N k p C W → (P ++ (O ++ W)).length ≤ p → hd W = 13 → isP 11 C P → isP 12 C O → ¬ nx T N p = 38 → mP T N I p C (P ++ (O ++ W)) k → rd T N f 16 k p C.length = some r → mK I Q (fun J q l => ∀ C2 P2 O2, isP 11 C2 P2 → isP 12 C2 O2 → rsv O2 (rsv P2 C2) = rsv O (rsv P C) ++ l → ¬ nx T N q = 38 → ¬ nx T N q = 124 → (P2 ++ (O2 ++ W)).length ≤ q → mP T N J q C2 (P2 ++ (O2 ++ W)) k → mEm d n sh R Q J) r → mEm d n sh R Q I
end MV
section MW
variable {d n : Nat} {sh : ZS} {R : ZR} {T : Nat → Int} {N : Nat} {Q : Int → ZI → Prop}
theorem k_part {f : Nat} (i4 : mPie d n sh R T N Q f) (i15 : mPartR d n sh R T N Q f) : mPart d n sh R T N Q (f + 1) := by
  intro k p C W I r hw hh h hr hK
  have hr : rSeq (rd T N f 4) (rd T N f 15) k p C.length = some r := hr
  have h10 : ¬ hd W = 10 := by omega
  have n0 := nt_0 h10
  obtain ⟨w1, w2, w3, w4, w5, w6, w7⟩ := hw
  rcases rB_cases hr with ⟨a, e1, e2⟩ | ⟨q, l, e1, e2⟩
  · subst e2
    exact i4 k p C W I (.inl a) ⟨w1, w2, w3, w4, w5, w6, w7⟩ h e1 hK
  · have a := rd_len _ _ _ _ _ _ _ w2 e1
    have a1 : p + 1 ≤ q ∧ q ≤ N ∧ l.length + p ≤ q := a
    refine i4 k p C W I (.inr (q, l)) ⟨w1, w2, w3, w4, w5, w6, w7⟩ h e1 fun J j1 j2 => ?_
    have j2 : mP T N J q (eS W (C ++ l) k).1 (eS W (C ++ l) k).2.1 (eS W (C ++ l) k).2.2 := j2
    rw [eS_id h10] at j2
    obtain ⟨r2, e3, k2⟩ := hK.tail (J := J) e2 j1
    have cl : (C ++ l).length = C.length + l.length := List.length_append
    refine i15 k q (C ++ l) [] W J r2 ⟨w1, a1.2.1, by omega, by omega, w5, w6, w7⟩ (by show W.length ≤ q; omega) hh (.inl rfl) j2 (by rw [cl]; exact e3) ?_
    cases r2 with
    | inl a => exact k2
    | inr y => exact fun K k3 C2 P m1 m2 m3 m4 m5 => k2 K k3 C2 P m1 (by rw [m2]; exact List.append_assoc _ _ _) m3 m4 m5
theorem k_cond {f : Nat} (i5 : mPart d n sh R T N Q f) (i16 : mCondR d n sh R T N Q f) : mCond d n sh R T N Q (f + 1) := by
  intro k p C W I r hw hh h hr hK
  have hr : rSeq (rd T N f 5) (rd T N f 16) k p C.length = some r := hr
  obtain ⟨w1, w2, w3, w4, w5, w6, w7⟩ := hw
  have n0 := nt_0 (W := W) (by omega)
  rcases rB_cases hr with ⟨a, e1, e2⟩ | ⟨q, l, e1, e2⟩
  · subst e2
    exact i5 k p C W I (.inl a) ⟨w1, w2, w3, w4, w5, w6, w7⟩ (by omega) h e1 hK
  · have a := rd_len _ _ _ _ _ _ _ w2 e1
    have a1 : p + 1 ≤ q ∧ q ≤ N ∧ l.length + p ≤ q := a
    refine i5 k p C W I (.inr (q, l)) ⟨w1, w2, w3, w4, w5, w6, w7⟩ (by omega) h e1 fun J j1 C2 P hP eC n38 hl2 j2 => ?_
    have eC : rsv P C2 = C ++ l := eC
    have cl : C2.length = C.length + l.length := by rw [← rsv_len (P := P) (C := C2), eC]; exact List.length_append
    obtain ⟨r2, e3, k2⟩ := hK.tail (J := J) e2 j1
    refine i16 k q C2 P [] W J r2 ⟨w1, a1.2.1, by omega, by omega, w5, w6, w7⟩ hl2 hh hP (.inl rfl) n38 j2 (by rw [cl]; exact e3) ?_
    cases r2 with
    | inl a => exact k2
    | inr y => exact fun K k3 C3 P2 O2 m1 m1b m2 m3 m3b m4 m5 => k2 K k3 C3 P2 O2 m1 m1b (by rw [m2]; show rsv P C2 ++ _ = _; rw [eC]; exact List.append_assoc _ _ _) m3 m3b m4 m5
/-- an & is read -/
theorem k_partR {f : Nat} (hW : Wf sh R) (hN : N ≤ 200) (hT : ∀ j, j < N → 0 ≤ T j ∧ T j < 256) (i4 : mPie d n sh R T N Q f) (i15 : mPartR d n sh R T N Q f) : mPartR d n sh R T N Q (f + 1) := by
  intro k p C P W I r hw hl hh hP h hr hK
  have hr : (if nx T N p = 38 then rB (rd T N f 4 k (p + 1) (C.length + 1)) fun q l => rPre ((1048576 * 11 + ((C.length + 1 + l.length : Nat) : Int)) :: l) (rd T N f 15 k q (C.length + 1 + l.length)) else some (.inr (p, []))) = some r := hr
  obtain ⟨w1, w2, w3, w4, w5, w6, w7⟩ := hw
  have hd3 := w6.hd
  by_cases g : nx T N p = 38
  · rw [if_pos g] at hr
    have lt := nx_lt g (by omega)
    refine b_M_readsCondition_92 hW (s_M_here hW hN hT h ?_)
    rw [if_pos (by omega)]
    refine s_M_here hW hN hT h ?_
    rw [if_pos g]
    refine s_M_here hW hN hT h ?_
    rw [if_pos (by omega)]
    refine s_M_lands0 hW (by omega) (by omega) hP (by omega) h fun J j1 j2 => ?_
    refine s_M_here hW hN hT j1 ?_
    rw [if_neg (not_not_intro g)]
    have rl : (rsv P C).length = C.length := rsv_len
    refine s_M_jumps hW (by omega) (by omega) (by omega) (by omega) j1 fun K k1 k2 => ?_
    rw [rl] at k1
    have fr : ∀ a b, ¬ fR a b → K a b = I a b := fun a b hab => by rw [k2 a b hab, j2 a b hab]
    have c1 : (rsv P C ++ [(1048576 * 11 : Int)]).length = C.length + 1 := by rw [List.length_append, rl]; rfl
    have hx : hd ((1048576 * 11 + (C.length : Int)) :: W) = 11 := by show (1048576 * 11 + (C.length : Int)) / 1048576 = 11; omega
    have nx0 : nt ((1048576 * 11 + (C.length : Int)) :: W) = 0 := nt_0 (by omega)
    have pw : pW N k (p + 1) (rsv P C ++ [(1048576 * 11 : Int)]) ((1048576 * 11 + (C.length : Int)) :: W) := ⟨w1, by omega, by omega, by rw [List.length_cons]; omega, by omega, w6.cons ⟨by omega, fun c => by omega⟩, List.cons_ne_nil _ _⟩
    rcases rB_cases hr with ⟨a, e1, e2⟩ | ⟨q, l, e1, e2⟩
    · subst e2
      exact i4 k (p + 1) _ _ K (.inl a) pw k1 (by rw [c1]; exact e1) fun L l1 l2 => hK L l1 fun a b hab => by rw [l2 a b hab, fr a b hab]
    · have a := rd_len _ _ _ _ _ _ _ (by omega) e1
      have a1 : p + 1 + 1 ≤ q ∧ q ≤ N ∧ l.length + (p + 1) ≤ q := a
      refine i4 k (p + 1) _ _ K (.inr (q, l)) pw k1 (by rw [c1]; exact e1) fun L l1 l2 => ?_
      have l2 : mP T N L q (eS ((1048576 * 11 + (C.length : Int)) :: W) (rsv P C ++ [(1048576 * 11 : Int)] ++ l) k).1 (eS ((1048576 * 11 + (C.length : Int)) :: W) (rsv P C ++ [(1048576 * 11 : Int)] ++ l) k).2.1 (eS ((1048576 * 11 + (C.length : Int)) :: W) (rsv P C ++ [(1048576 * 11 : Int)] ++ l) k).2.2 := l2
      rw [eS_id (by omega)] at l2
      have l2 : mP T N L q (rsv P C ++ [(1048576 * 11 : Int)] ++ l) ([1048576 * 11 + (C.length : Int)] ++ W) k := l2
      have c2 : (rsv P C ++ [(1048576 * 11 : Int)] ++ l).length = C.length + 1 + l.length := by rw [List.length_append, c1]
      have ea : rsv P C ++ [(1048576 * 11 : Int)] ++ l = rsv P C ++ (1048576 * 11) :: l := by rw [List.append_assoc]; rfl
      obtain ⟨r2, e3, kk2⟩ := hK.tail (J := L) e2 fun a b hab => by rw [l1 a b hab, fr a b hab]
      have ip : isP 11 (rsv P C ++ [(1048576 * 11 : Int)] ++ l) [1048576 * 11 + (C.length : Int)] := .inr ⟨C.length, by omega, rfl, by
        rw [ea, ← rl]; exact gd_r (l := rsv P C) (t := (1048576 * 11) :: l) 0⟩
      refine i15 k q (rsv P C ++ [(1048576 * 11 : Int)] ++ l) [1048576 * 11 + (C.length : Int)] W L r2 ⟨w1, a1.2.1, by omega, by omega, w5, w6, w7⟩ (by show W.length + 1 ≤ q; omega) hh ip l2 (by rw [c2]; exact e3) ?_
      have er : rsv [1048576 * 11 + (C.length : Int)] (rsv P C ++ [(1048576 * 11 : Int)] ++ l) = rsv P C ++ (1048576 * 11 + ((C.length + 1 + l.length : Nat) : Int)) :: l := by
        rw [rsv_one (by omega), c2, ea]
        have := set_mid (rsv P C) l (1048576 * 11) (1048576 * 11 + ((C.length + 1 + l.length : Nat) : Int))
        rw [rl] at this
        exact this
      cases r2 with
      | inl a => exact kk2
      | inr y => exact fun K k3 C3 P2 m1 m2 m3 m4 m5 => kk2 K k3 C3 P2 m1 (by rw [m2, er]; exact List.append_assoc _ _ _) m3 m4 m5
  · rw [if_neg g] at hr
    have ef : r = .inr (p, []) := (Option.some.inj hr).symm
    subst ef
    exact hK I (fun _ _ _ => rfl) C P hP (by rw [List.append_nil]) g hl h
/-- a | is read -/
theorem k_condR {f : Nat} (hW : Wf sh R) (hN : N ≤ 200) (hT : ∀ j, j < N → 0 ≤ T j ∧ T j < 256) (i5 : mPart d n sh R T N Q f) (i16 : mCondR d n sh R T N Q f) : mCondR d n sh R T N Q (f + 1) := by
  intro k p C P O W I r hw hl hh hP hO n38 h hr hK
  have hr : (if nx T N p = 124 then rB (rd T N f 5 k (p + 1) (C.length + 1)) fun q l => rPre ((1048576 * 12 + ((C.length + 1 + l.length : Nat) : Int)) :: l) (rd T N f 16 k q (C.length + 1 + l.length)) else some (.inr (p, []))) = some r := hr
  obtain ⟨w1, w2, w3, w4, w5, w6, w7⟩ := hw
  by_cases g : nx T N p = 124
  · rw [if_pos g] at hr
    have lt := nx_lt g (by omega)
    refine b_M_readsCondition_92 hW (s_M_here hW hN hT h ?_)
    rw [if_pos (by omega)]
    refine s_M_here hW hN hT h ?_
    rw [if_neg n38]
    refine s_M_here hW hN hT h ?_
    rw [if_pos g]
    refine s_M_here hW hN hT h ?_
    rw [if_neg (not_not_intro g)]
    refine s_M_lands1 hW (by omega) (by omega) hP hO (by omega) h fun J j1 j2 => ?_
    refine s_M_here hW hN hT j1 ?_
    rw [if_pos n38]
    have rl : (rsv O (rsv P C)).length = C.length := by rw [rsv_len, rsv_len]
    generalize hC1 : rsv O (rsv P C) = C1 at j1 rl hK
    refine s_M_jumps hW (by omega) (by omega) (by omega) (by omega) j1 fun K k1 k2 => ?_
    rw [rl] at k1
    have fr : ∀ a b, ¬ fR a b → K a b = I a b := fun a b hab => by rw [k2 a b hab, j2 a b hab]
    have c1 : (C1 ++ [(1048576 * 12 : Int)]).length = C.length + 1 := by rw [List.length_append, rl]; rfl
    have hx : hd ((1048576 * 12 + (C.length : Int)) :: W) = 12 := by show (1048576 * 12 + (C.length : Int)) / 1048576 = 12; omega
    have nx0 : nt ((1048576 * 12 + (C.length : Int)) :: W) = 0 := nt_0 (by omega)
    have pw : pW N k (p + 1) (C1 ++ [(1048576 * 12 : Int)]) ((1048576 * 12 + (C.length : Int)) :: W) := ⟨w1, by omega, by omega, by rw [List.length_cons]; omega, by omega, w6.cons ⟨by omega, fun c => by omega⟩, List.cons_ne_nil _ _⟩
    rcases rB_cases hr with ⟨a, e1, e2⟩ | ⟨q, l, e1, e2⟩
    · subst e2
      exact i5 k (p + 1) _ _ K (.inl a) pw (by omega) k1 (by rw [c1]; exact e1) fun L l1 l2 => hK L l1 fun a b hab => by rw [l2 a b hab, fr a b hab]
    · have a := rd_len _ _ _ _ _ _ _ (by omega) e1
      have a1 : p + 1 + 1 ≤ q ∧ q ≤ N ∧ l.length + (p + 1) ≤ q := a
      refine i5 k (p + 1) _ _ K (.inr (q, l)) pw (by omega) k1 (by rw [c1]; exact e1) fun L l1 C2 P2 hP2 eC m38 hl2 l2 => ?_
      have eC : rsv P2 C2 = C1 ++ [(1048576 * 12 : Int)] ++ l := eC
      have l2 : mP T N L q C2 (P2 ++ ([1048576 * 12 + (C.length : Int)] ++ W)) k := l2
      have ea : C1 ++ [(1048576 * 12 : Int)] ++ l = C1 ++ (1048576 * 12) :: l := by rw [List.append_assoc]; rfl
      have c2 : C2.length = C.length + 1 + l.length := by rw [← rsv_len (P := P2) (C := C2), eC, List.length_append, c1]
      have gi : (rsv P2 C2).getD C.length 0 = 1048576 * 12 := by
        rw [eC, ea, ← rl]; exact gd_r (l := C1) (t := (1048576 * 12) :: l) 0
      have gi2 : C2.getD C.length 0 = 1048576 * 12 := by
        rcases hP2 with rfl | ⟨j, y1, rfl, y2⟩
        · exact gi
        · rw [rsv_one (by omega), gd_set C2 j C.length _ y1] at gi
          by_cases e : C.length = j
          · rw [if_pos e] at gi; omega
          · rw [if_neg e] at gi; exact gi
      obtain ⟨r2, e3, kk2⟩ := hK.tail (J := L) e2 fun a b hab => by rw [l1 a b hab, fr a b hab]
      have ip : isP 12 C2 [1048576 * 12 + (C.length : Int)] := .inr ⟨C.length, by omega, rfl, gi2⟩
      refine i16 k q C2 P2 [1048576 * 12 + (C.length : Int)] W L r2 ⟨w1, a1.2.1, by omega, by omega, w5, w6, w7⟩ hl2 hh hP2 ip m38 l2 (by rw [c2]; exact e3) ?_
      have er : rsv [1048576 * 12 + (C.length : Int)] (rsv P2 C2) = C1 ++ (1048576 * 12 + ((C.length + 1 + l.length : Nat) : Int)) :: l := by
        rw [rsv_one (by omega), rsv_len, c2, eC, ea]
        have := set_mid C1 l (1048576 * 12) (1048576 * 12 + ((C.length + 1 + l.length : Nat) : Int))
        rw [rl] at this
        exact this
      cases r2 with
      | inl a => exact kk2
      | inr y => exact fun K k3 C3 P3 O3 m1 m1b m2 m3 m3b m4 m5 => kk2 K k3 C3 P3 O3 m1 m1b (by rw [m2, er]; exact List.append_assoc _ _ _) m3 m3b m4 m5
  · rw [if_neg g] at hr
    have ef : r = .inr (p, []) := (Option.some.inj hr).symm
    subst ef
    exact hK I (fun _ _ _ => rfl) C P O hP hO (by rw [List.append_nil]) n38 g hl h
/-- behind a condition: its ), or not -/
theorem s_M_close {I : ZI} {p k : Nat} {C P O W : List Int} {C1 : List Int} (hW : Wf sh R) (hN : N ≤ 200) (hT : ∀ j, j < N → 0 ≤ T j ∧ T j < 256) (hp : p ≤ N) (hC : C.length ≤ 200) (hl : (P ++ (O ++ (13631488 :: W))).length ≤ 200) (hk : 1 ≤ k ∧ k ≤ 7) (hP : isP 11 C P) (hO : isP 12 C O) (e : rsv O (rsv P C) = C1) (n38 : ¬ nx T N p = 38) (n124 : ¬ nx T N p = 124) (h : mP T N I p C (P ++ (O ++ (13631488 :: W))) k) (q1 : nx T N p = 41 → ∀ J : ZI, mP T N J (p + 1) C1 W (k - 1) → (∀ a b, ¬ fR a b → J a b = I a b) → if ¬ W = [] then XV (d + 5) 168 [.inr 137] n sh R J (fun K => mEm d n sh R Q K) else Q 1 J) (q0 : ¬ nx T N p = 41 → ∀ J : ZI, J 137 16 = -1000 - (p : Int) → (∀ a b, ¬ fR a b → J a b = I a b) → Q 0 J) : mEm d n sh R Q I := by
  have h2 := h.1.2.1
  refine b_M_readsCondition_92 hW (s_M_here hW hN hT h ?_)
  by_cases g : nx T N p = 41
  · have lt := nx_lt g (by omega)
    rw [if_neg (not_not_intro g)]
    refine s_M_lands1 (W := 13631488 :: W) hW hC hl hP hO (by show ¬ (13631488 : Int) / 1048576 = 11 ∧ ¬ (13631488 : Int) / 1048576 = 12; decide) h fun J j1 j2 => ?_
    rw [e] at j1
    have k2 := j1.1.2.1
    have k4 := j1.1.2.2.2.1
    have k5 := j1.1.2.2.2.2
    have e0 : ((13631488 :: W).length : Int) = (W.length : Int) + 1 := by rw [List.length_cons]; omega
    rw [e0] at k4
    have lw : (P ++ (O ++ (13631488 :: W))).length = P.length + (O.length + (W.length + 1)) := by rw [List.length_append, List.length_append, List.length_cons]
    refine ⟨by unfold zr; omega, by unfold zr; omega, by unfold zr; omega, ?_⟩
    have z : mP T N (zup (zup (zup J 137 19 (J 137 19 - 1)) 137 17 (J 137 17 - 1)) 137 14 (J 137 14 + 1)) (p + 1) C1 W (k - 1) := ((j1.drop (by omega)).op (k2 := k - 1) (by omega)).go (by omega)
    have fin := q1 g _ z fun a b hab => by
      have hab2 := hab
      unfold fR at hab2
      rw [zup_ne (by omega), zup_ne (by omega), zup_ne (by omega), j2 a b hab]
    by_cases gw : W = []
    · rw [if_neg (not_not_intro gw)] at fin
      subst gw
      have e1 : (([] : List Int).length : Int) = 0 := rfl
      rw [if_neg (not_not_intro (by omega))]; exact fin
    · rw [if_pos gw] at fin
      have : ¬ W.length = 0 := fun c => gw (List.length_eq_zero_iff.mp c)
      rw [if_pos (by omega)]; exact fin
  · rw [if_pos g]
    refine s_M_here hW hN hT h ?_
    rw [if_neg n38]
    refine s_M_here hW hN hT h ?_
    rw [if_neg n124]
    exact ⟨by unfold zr; omega, by unfold zr; omega, q0 g _ (by rw [zup_eq ⟨rfl, rfl⟩]; omega) fun a b hab => zup_ne (by unfold fR at hab; omega)⟩
theorem k_piece {f : Nat} (hW : Wf sh R) (hN : N ≤ 200) (hT : ∀ j, j < N → 0 ≤ T j ∧ T j < 256) (i4 : mPie d n sh R T N Q f) (i6 : mCond d n sh R T N Q f) : mPie d n sh R T N Q (f + 1) := by
  intro k p C W I r hw h hr hK
  have hr : rPiece T N (rd T N f 4) (rd T N f 6) (rd T N f 3) k p C.length = some r := hr
  unfold rPiece at hr
  obtain ⟨w1, w2, w3, w4, w5, w6, w7⟩ := hw
  refine b_M_readsCondition_40 hW (s_M_here hW hN hT h ?_)
  by_cases g1 : nx T N p = 33
  · rw [if_pos g1] at hr ⊢
    have lt := nx_lt g1 (by omega)
    refine s_M_here hW hN hT h ?_
    rw [if_neg (not_not_intro g1)]
    refine s_M_opens hW (by omega) (by omega) h w1 (by omega) (fun g J j1 j2 => ?_) (fun g J j1 j2 => ?_)
    · rw [if_pos (by decide)]
      rw [if_neg g] at hr
      have j1 : mP T N J (p + 1) C (10485760 :: W) (k + 1) := j1
      have en : nt (10485760 :: W) = 1 + nt W := if_pos (by decide)
      have pw : pW N (k + 1) (p + 1) C (10485760 :: W) := ⟨by omega, by omega, by omega, by rw [List.length_cons]; omega, by omega, w6.cons ⟨by decide, fun _ => rfl⟩, List.cons_ne_nil _ _⟩
      rcases rB_cases hr with ⟨a, e1, e2⟩ | ⟨q, l, e1, e2⟩
      · subst e2
        exact i4 (k + 1) (p + 1) C _ J (.inl a) pw j1 e1 fun L l1 l2 => hK L l1 fun a b hab => by rw [l2 a b hab, j2 a b hab]
      · have ef : r = .inr (q, l ++ [10485760]) := (Option.some.inj e2).symm
        subst ef
        refine i4 (k + 1) (p + 1) C _ J (.inr (q, l)) pw j1 e1 fun L l1 l2 => hK L (fun a b hab => by rw [l1 a b hab, j2 a b hab]) ?_
        have ee : eS (10485760 :: W) (C ++ l) (k + 1) = eS W (C ++ (l ++ [10485760])) k := by
          have : eS (10485760 :: W) (C ++ l) (k + 1) = eS W (C ++ l ++ [10485760]) (k + 1 - 1) := if_pos (by decide)
          rw [this, List.append_assoc]; rfl
        have l2 : mP T N L q (eS (10485760 :: W) (C ++ l) (k + 1)).1 (eS (10485760 :: W) (C ++ l) (k + 1)).2.1 (eS (10485760 :: W) (C ++ l) (k + 1)).2.2 := l2
        rw [ee] at l2
        exact l2
    · rw [if_neg (by decide)]
      rw [if_pos g] at hr
      have ef : r = .inl (-5000 - p) := (Option.some.inj hr).symm
      subst ef
      exact hK J j1 j2
  rw [if_neg g1] at hr ⊢
  refine s_M_here hW hN hT h ?_
  by_cases g2 : nx T N p = 40
  · rw [if_pos g2] at hr
    rw [if_neg (not_not_intro g2)]
    have lt := nx_lt g2 (by omega)
    refine s_M_here hW hN hT h ?_
    rw [if_pos g1]
    refine s_M_opens hW (by omega) (by omega) h w1 (by omega) (fun g J j1 j2 => ?_) (fun g J j1 j2 => ?_)
    · rw [if_pos (by decide)]
      rw [if_neg g] at hr
      have j1 : mP T N J (p + 1) C (13631488 :: W) (k + 1) := j1
      have hx : hd (13631488 :: W) = 13 := by show (13631488 : Int) / 1048576 = 13; decide
      have nx0 : nt (13631488 :: W) = 0 := nt_0 (by omega)
      have pw : pW N (k + 1) (p + 1) C (13631488 :: W) := ⟨by omega, by omega, by omega, by rw [List.length_cons]; omega, by omega, w6.cons ⟨by decide, fun c => absurd c (by decide)⟩, List.cons_ne_nil _ _⟩
      rcases rB_cases hr with ⟨a, e1, e2⟩ | ⟨q, l, e1, e2⟩
      · subst e2
        exact i6 (k + 1) (p + 1) C _ J (.inl a) pw hx j1 e1 fun L l1 l2 => hK L l1 fun a b hab => by rw [l2 a b hab, j2 a b hab]
      · have a := rd_len _ _ _ _ _ _ _ (by omega) e1
        have a1 : p + 1 + 1 ≤ q ∧ q ≤ N ∧ l.length + (p + 1) ≤ q := a
        refine i6 (k + 1) (p + 1) C _ J (.inr (q, l)) pw hx j1 e1 fun L l1 C2 P O hP hO eC m38 m124 hl2 l2 => ?_
        have eC : rsv O (rsv P C2) = C ++ l := eC
        have m38 : ¬ nx T N q = 38 := m38
        have m124 : ¬ nx T N q = 124 := m124
        have hl2 : (P ++ (O ++ (13631488 :: W))).length ≤ q := hl2
        have cl : (C ++ l).length = C.length + l.length := List.length_append
        have c2 : C2.length = C.length + l.length := by rw [← rsv_len (P := P) (C := C2), ← rsv_len (P := O) (C := rsv P C2), eC, cl]
        refine s_M_close hW hN hT a1.2.1 (by omega) (by omega) (by omega) hP hO eC m38 m124 l2 (fun g4 K k1 k2 => ?_) (fun g4 K k1 k2 => ?_)
        · rw [if_pos g4] at e2
          have ef : r = .inr (q + 1, l) := (Option.some.inj e2).symm
          subst ef
          rw [if_pos w7]
          have lt4 := nx_lt g4 (by omega)
          have lW : W.length ≤ 200 := by omega
          exact s_M_ends hW (by omega) lW (by omega) (by omega) w6 k1 fun M m1 m2 => hK M (fun a b hab => by rw [m2 a b hab, k2 a b hab, l1 a b hab, j2 a b hab]) m1
        · rw [if_neg g4] at e2
          have ef : r = .inl (-1000 - q) := (Option.some.inj e2).symm
          subst ef
          exact hK K k1 fun a b hab => by rw [k2 a b hab, l1 a b hab, j2 a b hab]
    · rw [if_neg (by decide)]
      rw [if_pos g] at hr
      have ef : r = .inl (-5000 - p) := (Option.some.inj hr).symm
      subst ef
      exact hK J j1 j2
  rw [if_neg g2] at hr
  rw [if_pos g2]
  refine s_M_readsCompared hW hN hT w1 w2 w3 w4 w5 w6 h hr ?_
  cases r with
  | inl a =>
    intro J j1 j2
    rw [if_neg (by decide)]
    exact hK J j1 j2
  | inr y =>
    intro J j1 j2
    rw [if_pos (by decide)]
    exact hK J j1 j2
theorem c_all (hW : Wf sh R) (hN : N ≤ 200) (hT : ∀ j, j < N → 0 ≤ T j ∧ T j < 256) : ∀ f, mPie d n sh R T N Q f ∧ mPart d n sh R T N Q f ∧ mPartR d n sh R T N Q f ∧ mCond d n sh R T N Q f ∧ mCondR d n sh R T N Q f
  | 0 => ⟨fun _ _ _ _ _ _ _ _ h => (by cases h), fun _ _ _ _ _ _ _ _ _ h => (by cases h), fun _ _ _ _ _ _ _ _ _ _ _ _ h => (by cases h), fun _ _ _ _ _ _ _ _ _ h => (by cases h), fun _ _ _ _ _ _ _ _ _ _ _ _ _ _ _ h => (by cases h)⟩
  | f + 1 => by
    obtain ⟨i4, i5, i15, i6, i16⟩ := c_all hW hN hT f
    exact ⟨k_piece hW hN hT i4 i6, k_part i4 i15, k_partR hW hN hT i4 i15, k_cond i5 i16, k_condR hW hN hT i5 i16⟩
/-- a condition in ( ) -/
def rPar (T : Nat → Int) (N f p i : Nat) : Option RR := if nx T N p = 40 then rB (rd T N f 6 1 (p + 1) i) fun q l => if nx T N q = 41 then some (.inr (q + 1, l)) else some (.inl (-1000 - q)) else some (.inl (-1000 - p))
theorem s_M_readsCondition {I : ZI} {p k f : Nat} {C W : List Int} {r : RR} (hW : Wf sh R) (hN : N ≤ 200) (hT : ∀ j, j < N → 0 ≤ T j ∧ T j < 256) (hp : p ≤ N) (hC : C.length ≤ p) (h : mP T N I p C W k) (hr : rPar T N f p C.length = some r) (hK : mK I Q (fun J q l => mP T N J q (C ++ l) [] 0 → Q 1 J) r) : XI (d + 6) 172 [.inr 137] n sh R I Q := by
  have h2 := h.1.2.1
  unfold rPar at hr
  refine b_M_readsCondition_0 hW (s_M_here hW hN hT h ?_)
  by_cases g : nx T N p = 40
  · rw [if_pos g] at hr ⊢
    have lt := nx_lt g (by omega)
    have st : mP T N (zup (zup I 137 17 0) 137 19 0) p C [] 0 := by
      obtain ⟨⟨h1, h2, h3, h4, h5⟩, h6, h7, h8, h9⟩ := h
      refine ⟨⟨?_, ?_, ?_, ?_, ?_⟩, fun j hj => ?_, fun i hi => ?_, trivial, fun x hx => by cases hx⟩
      · rw [zup_ne (by omega), zup_ne (by omega)]; exact h1
      · rw [zup_ne (by omega), zup_ne (by omega)]; exact h2
      · rw [zup_ne (by omega), zup_ne (by omega)]; exact h3
      · rw [zup_eq ⟨rfl, rfl⟩]; rfl
      · rw [zup_ne (by omega), zup_eq ⟨rfl, rfl⟩]; rfl
      · rw [zup_ne (by omega), zup_ne (by omega)]; exact h6 j hj
      · rw [zup_ne (by omega), zup_ne (by omega)]; exact h7 i hi
    have fr0 : ∀ a b, ¬ fR a b → (zup (zup I 137 17 0) 137 19 0) a b = I a b := fun a b hab => by
      unfold fR at hab
      rw [zup_ne (by omega), zup_ne (by omega)]
    refine s_M_opens hW (by omega) (by show 0 ≤ 200; omega) st (by omega) (by omega) (fun _ J j1 j2 => ?_) (fun g J j1 j2 => absurd g (by omega))
    rw [if_pos (by decide)]
    have j1 : mP T N J (p + 1) C [13631488] 1 := j1
    have hx : hd [(13631488 : Int)] = 13 := by show (13631488 : Int) / 1048576 = 13; decide
    have nx0 : nt [(13631488 : Int)] = 0 := nt_0 (by omega)
    have pw : pW N 1 (p + 1) C [13631488] := ⟨by omega, by omega, by omega, by show 1 ≤ p + 1; omega, by omega, fun x hx => by
      rw [List.mem_singleton] at hx
      subst hx
      exact ⟨by decide, fun c => absurd c (by decide)⟩, List.cons_ne_nil _ _⟩
    rcases rB_cases hr with ⟨a, e1, e2⟩ | ⟨q, l, e1, e2⟩
    · subst e2
      exact (c_all (Q := Q) hW hN hT f).2.2.2.1 1 (p + 1) C _ J (.inl a) pw hx j1 e1 fun L l1 l2 => hK L l1 fun a b hab => by rw [l2 a b hab, j2 a b hab, fr0 a b hab]
    · have a := rd_len _ _ _ _ _ _ _ (by omega) e1
      have a1 : p + 1 + 1 ≤ q ∧ q ≤ N ∧ l.length + (p + 1) ≤ q := a
      refine (c_all (Q := Q) hW hN hT f).2.2.2.1 1 (p + 1) C _ J (.inr (q, l)) pw hx j1 e1 fun L l1 C2 P O hP hO eC m38 m124 hl2 l2 => ?_
      have eC : rsv O (rsv P C2) = C ++ l := eC
      have m38 : ¬ nx T N q = 38 := m38
      have m124 : ¬ nx T N q = 124 := m124
      have hl2 : (P ++ (O ++ [13631488])).length ≤ q := hl2
      have cl : (C ++ l).length = C.length + l.length := List.length_append
      have c2 : C2.length = C.length + l.length := by rw [← rsv_len (P := P) (C := C2), ← rsv_len (P := O) (C := rsv P C2), eC, cl]
      refine s_M_close (W := []) hW hN hT a1.2.1 (by omega) (by omega) (by omega) hP hO eC m38 m124 l2 (fun g4 K k1 k2 => ?_) (fun g4 K k1 k2 => ?_)
      · rw [if_pos g4] at e2
        have ef : r = .inr (q + 1, l) := (Option.some.inj e2).symm
        subst ef
        rw [if_neg (not_not_intro rfl)]
        exact hK K (fun a b hab => by rw [k2 a b hab, l1 a b hab, j2 a b hab, fr0 a b hab]) k1
      · rw [if_neg g4] at e2
        have ef : r = .inl (-1000 - q) := (Option.some.inj e2).symm
        subst ef
        exact hK K k1 fun a b hab => by rw [k2 a b hab, l1 a b hab, j2 a b hab, fr0 a b hab]
  · rw [if_neg g] at hr ⊢
    have ef : r = .inl (-1000 - p) := (Option.some.inj hr).symm
    subst ef
    exact ⟨by unfold zr; omega, by unfold zr; omega, hK _ (by rw [zup_eq ⟨rfl, rfl⟩]; omega) fun a b hab => zup_ne (by unfold fR at hab; omega)⟩
end MW
