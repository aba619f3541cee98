-- CLAUSES: the model's way; LAW
section NW
variable {d n t : Nat} {sh : ZS} {R : ZR} {T : Nat → Int} {N : Nat} {x1 : Int}
def fD (a b : Nat) : Prop := fR a b ∨ (a = 137 ∧ (b = 15 ∨ b = 20)) ∨ 147 ≤ a ∧ a ≤ 150
def mLs (T : Nat → Int) (N : Nat) (I : ZI) (p : Nat) (C : List Int) (D : List CL) : Prop := (I 137 15 = (N : Int) ∧ I 137 14 = (p : Int) ∧ I 137 18 = (C.length : Int) ∧ I 137 20 = (D.length : Int)) ∧ (∀ j, j < N → I 144 j = zi2b (T j)) ∧ pLs I 145 C ∧ dR I 147 148 149 150 D
theorem s_M_clause {f : Nat} {I : ZI} {Q : Int → ZI → Prop} {p : Nat} {C : List Int} {D : List CL} {r : Int ⊕ (Nat × List Int × Int × Nat)} (hW : Wf sh R) (hN : N ≤ 200) (hT : ∀ j, j < N → 0 ≤ T j ∧ T j < 256) (hp : p ≤ N) (hC : C.length ≤ p) (h14 : D.length ≤ 14) (hst : mLs T N I p C D) (hr : rCl T N f D.length p C.length = some r) (q0 : ∀ a, r = .inl a → ∀ J : ZI, J 137 16 = a → (∀ a b, ¬ fD a b → J a b = I a b) → Q 0 J) (q1 : ∀ y, r = .inr y → ∀ J : ZI, mLs T N J y.1 (C ++ y.2.1) (D ++ [(y.2.2.1, C.length, C.length + y.2.2.2, C.length + y.2.1.length)]) → (∀ a b, ¬ fD a b → J a b = I a b) → Q 1 J) : XI (d + 7) 173 [.inr 137] n sh R I Q := by
  obtain ⟨⟨i15, i14, i18, i20⟩, hb, hc, hD⟩ := hst
  have fc : ∀ a b, ¬ fD a b → ¬ fR a b := fun a b h c => h (.inl c)
  unfold rCl at hr
  have here : ∀ P : Int → ZI → Prop, P (nx T N p) I → XI (d + 6) 154 [.inr 137] n sh R I P := fun P k => by
    refine b_M_here_0 hW ?_
    rw [i15, i14, Int.toNat_natCast]
    unfold nx at k
    by_cases g : p < N
    · rw [if_pos g] at k
      rw [if_neg (by omega), hb p g, zand_T (hT p g)]
      exact ⟨by omega, k⟩
    · rw [if_neg g] at k
      rw [if_pos (by omega)]
      exact k
  refine b_M_readsClause_0 hW (here _ ?_)
  -- a clause more
  have add : ∀ (kd : Int) (hf q k : Nat) (l W : List Int) (K : ZI), (∀ a b, ¬ fR a b → ¬ (147 ≤ a ∧ a ≤ 149 ∧ b = D.length) → K a b = I a b) → mP T N K q (C ++ l) W k → K 147 D.length = kd → K 148 D.length = (C.length : Int) → K 149 D.length = ((C.length + hf : Nat) : Int) → ¬ D.length = 14 → r = .inr (q, l, kd, hf) → (0 ≤ K 137 20 ∧ K 137 20 < 14) ∧ (zr (K 137 20 + 1)) ∧ Q 1 (zup (zup K 150 (K 137 20).toNat (K 137 18)) 137 20 (K 137 20 + 1)) := fun kd hf q k l W K kf ks k7 k8 k9 n14 er => by
    have e20 : K 137 20 = (D.length : Int) := by rw [kf 137 20 (by unfold fR; omega) (by omega)]; exact i20
    have e18 := ks.1.2.2.1
    rw [e20, e18, Int.toNat_natCast]
    refine ⟨by omega, by unfold zr; omega, q1 _ er _ ⟨⟨?_, ?_, ?_, ?_⟩, fun j hj => ?_, fun i hi => ?_, ?_⟩ fun a b hab => ?_⟩
    · rw [zup_ne (by omega), zup_ne (by omega)]; exact ks.1.1
    · rw [zup_ne (by omega), zup_ne (by omega)]; exact ks.1.2.1
    · rw [zup_ne (by omega), zup_ne (by omega)]; exact e18
    · rw [zup_eq ⟨rfl, rfl⟩, List.length_append]; show _ = ((D.length + 1 : Nat) : Int); omega
    · rw [zup_ne (by omega), zup_ne (by omega)]; exact ks.2.1 j hj
    · rw [zup_ne (by omega), zup_ne (by omega)]; exact ks.2.2.1 i hi
    · refine hD.add (fun a b ha hb => ?_) ?_ ?_ ?_ ?_
      · rw [zup_ne (by omega), zup_ne (by omega), kf a b (by unfold fR; omega) (by omega)]
      · rw [zup_ne (by omega), zup_ne (by omega)]; exact k7
      · rw [zup_ne (by omega), zup_ne (by omega)]; exact k8
      · rw [zup_ne (by omega), zup_ne (by omega)]; exact k9
      · rw [zup_ne (by omega), zup_eq ⟨rfl, rfl⟩, List.length_append]
    · have hab2 := hab
      unfold fD at hab2
      rw [zup_ne (by omega), zup_ne (by omega), kf a b (fc a b hab) (by omega)]
  have go : (nx T N p = 104 ∨ nx T N p = 116 ∨ nx T N p = 122) → (if ¬ I 137 20 = 14 then (0 ≤ I 137 20 ∧ I 137 20 < 14) ∧ (zr (I 137 14 + 1)) ∧ (if nx T N p = 122 then XI (d + 6) 172 [.inr 137] n sh R (zup (zup (zup (zup (zup (zup I 147 (I 137 20).toNat (nx T N p)) 137 14 (I 137 14 + 1)) 148 (I 137 20).toNat (I 137 18)) 137 17 0) 137 19 0) 149 (I 137 20).toNat (I 137 18)) (fun v5 I6 => (if ¬ v5 = 0 then (0 ≤ I6 137 20 ∧ I6 137 20 < 14) ∧ (zr (I6 137 20 + 1)) ∧ Q 1 (zup (zup I6 150 (I6 137 20).toNat (I6 137 18)) 137 20 (I6 137 20 + 1)) else Q 0 I6)) else XI (d + 6) 167 [.inr 137] n sh R (zup (zup (zup (zup (zup I 147 (I 137 20).toNat (nx T N p)) 137 14 (I 137 14 + 1)) 148 (I 137 20).toNat (I 137 18)) 137 17 0) 137 19 0) (fun v9 I10 => (if ¬ v9 = 0 then (0 ≤ I10 137 20 ∧ I10 137 20 < 14) ∧ XI (d + 6) 172 [.inr 137] n sh R (zup I10 149 (I10 137 20).toNat (I10 137 18)) (fun v12 I13 => (if ¬ v12 = 0 then (0 ≤ I13 137 20 ∧ I13 137 20 < 14) ∧ (zr (I13 137 20 + 1)) ∧ Q 1 (zup (zup I13 150 (I13 137 20).toNat (I13 137 18)) 137 20 (I13 137 20 + 1)) else Q 0 I13)) else Q 0 I10))) else (zr ((-1000) * 4)) ∧ (zr (((-1000) * 4) - I 137 14)) ∧ Q 0 (zup I 137 16 (((-1000) * 4) - I 137 14))) := fun g => by
    have lt : p < N := by
      rcases Classical.em (p < N) with g | g2
      · exact g
      · exfalso
        have : nx T N p = -1 := if_neg g2
        omega
    rw [if_neg (by omega)] at hr
    rw [i20, i14, i18, Int.toNat_natCast]
    by_cases n14 : D.length = 14
    · rw [if_pos n14] at hr
      rw [if_neg (not_not_intro (by omega))]
      exact ⟨by unfold zr; omega, by unfold zr; omega, q0 _ (Option.some.inj hr).symm _ (by rw [zup_eq ⟨rfl, rfl⟩]; omega) fun a b hab => zup_ne (by unfold fD fR at hab; omega)⟩
    rw [if_neg n14] at hr
    rw [if_pos (by omega)]
    refine ⟨by omega, by unfold zr; omega, ?_⟩
    generalize hJ0 : zup (zup (zup (zup (zup I 147 D.length (nx T N p)) 137 14 ((p : Int) + 1)) 148 D.length (C.length : Int)) 137 17 0) 137 19 0 = J0
    have f0 : ∀ a b, ¬ fR a b → ¬ (147 ≤ a ∧ a ≤ 148 ∧ b = D.length) → J0 a b = I a b := fun a b h1 h2 => by
      unfold fR at h1
      rw [← hJ0, zup_ne (by omega), zup_ne (by omega), zup_ne (by omega), zup_ne (by omega), zup_ne (by omega)]
    have st : mP T N J0 (p + 1) C [] 0 := by
      refine ⟨⟨?_, ?_, ?_, ?_, ?_⟩, fun j hj => ?_, fun i hi => ?_, trivial, fun x hx => by cases hx⟩
      · rw [f0 _ _ (by unfold fR; omega) (by omega)]; exact i15
      · rw [← hJ0, zup_ne (by omega), zup_ne (by omega), zup_ne (by omega), zup_eq ⟨rfl, rfl⟩]; omega
      · rw [← hJ0, zup_ne (by omega), zup_ne (by omega), zup_ne (by omega), zup_ne (by omega), zup_ne (by omega)]; exact i18
      · rw [← hJ0, zup_eq ⟨rfl, rfl⟩]; rfl
      · rw [← hJ0, zup_ne (by omega), zup_eq ⟨rfl, rfl⟩]; rfl
      · rw [f0 _ _ (by unfold fR; omega) (by omega)]; exact hb j hj
      · rw [← hJ0, zup_ne (by omega), zup_ne (by omega), zup_ne (by omega), zup_ne (by omega), zup_ne (by omega)]; exact hc i hi
    have e7 : J0 147 D.length = nx T N p := by rw [← hJ0, zup_ne (by omega), zup_ne (by omega), zup_ne (by omega), zup_ne (by omega), zup_eq ⟨rfl, rfl⟩]
    have e8 : J0 148 D.length = (C.length : Int) := by rw [← hJ0, zup_ne (by omega), zup_ne (by omega), zup_eq ⟨rfl, rfl⟩]
    have j20 : J0 137 20 = (D.length : Int) := by rw [f0 _ _ (by unfold fR; omega) (by omega)]; exact i20
    by_cases g122 : nx T N p = 122
    · rw [if_pos g122] at hr ⊢
      have st2 : mP T N (zup J0 149 D.length (C.length : Int)) (p + 1) C [] 0 := st.fr fun a b hab => zup_ne (by omega)
      split at hr
      · cases hr
      · rename_i a ep
        have er := (Option.some.inj hr).symm
        refine s_M_readsCondition hW hN hT (by omega) (by omega) st2 ep fun K k1 k2 => ?_
        rw [if_neg (by decide)]
        exact q0 _ er K k1 fun a b hab => by
          have hab2 := hab
          unfold fD at hab2
          rw [k2 a b (fc a b hab), zup_ne (by omega), f0 a b (fc a b hab) (by omega)]
      · rename_i y ep
        have er := (Option.some.inj hr).symm
        refine s_M_readsCondition hW hN hT (by omega) (by omega) st2 ep fun K k1 k2 => ?_
        rw [if_pos (by decide)]
        refine add _ 0 y.1 0 y.2 [] K (fun a b h1 h2 => by rw [k1 a b h1, zup_ne (by omega), f0 a b h1 (by omega)]) k2 ?_ ?_ ?_ n14 er
        · rw [k1 _ _ (by unfold fR; omega), zup_ne (by omega)]; exact e7
        · rw [k1 _ _ (by unfold fR; omega), zup_ne (by omega)]; exact e8
        · rw [k1 _ _ (by unfold fR; omega), zup_eq ⟨rfl, rfl⟩]; rfl
    · rw [if_neg g122] at hr ⊢
      split at hr
      · cases hr
      · rename_i a ep
        have er := (Option.some.inj hr).symm
        refine s_M_readsSum (S := []) (k := 0) hW hN hT (by omega) (by omega) (by omega) (Nat.zero_le _) (.inl (by decide)) st ep fun K k1 k2 => ?_
        rw [if_neg (by decide)]
        exact q0 _ er K k1 fun a b hab => by
          have hab2 := hab
          unfold fD at hab2
          rw [k2 a b (fc a b hab), f0 a b (fc a b hab) (by omega)]
      · rename_i y ep
        have b := rd_len _ _ _ _ _ _ _ (by omega) ep
        have b1 : p + 1 + 1 ≤ y.1 ∧ y.1 ≤ N ∧ y.2.length + (p + 1) ≤ y.1 := b
        refine s_M_readsSum (S := []) (k := 0) hW hN hT (by omega) (by omega) (by omega) (Nat.zero_le _) (.inl (by decide)) st ep fun K k1 k2 => ?_
        have cl : (C ++ y.2).length = C.length + y.2.length := List.length_append
        have k18 := k2.1.2.2.1
        have k20 : K 137 20 = (D.length : Int) := by rw [k1 _ _ (by unfold fR; omega)]; exact j20
        rw [if_pos (by decide), k20, k18, cl, Int.toNat_natCast]
        refine ⟨by omega, ?_⟩
        have st3 : mP T N (zup K 149 D.length ((C.length + y.2.length : Nat) : Int)) y.1 (C ++ y.2) [] 0 := k2.fr fun a b hab => zup_ne (by omega)
        split at hr
        · cases hr
        · rename_i a ep2
          have er := (Option.some.inj hr).symm
          refine s_M_readsCondition (r := .inl a) hW hN hT b1.2.1 (by rw [cl]; omega) st3 (by rw [cl]; exact ep2) fun L l1 l2 => ?_
          rw [if_neg (by decide)]
          exact q0 _ er L l1 fun a b hab => by
            have hab2 := hab
            unfold fD at hab2
            rw [l2 a b (fc a b hab), zup_ne (by omega), k1 a b (fc a b hab), f0 a b (fc a b hab) (by omega)]
        · rename_i z ep2
          have er := (Option.some.inj hr).symm
          refine s_M_readsCondition (r := .inr z) hW hN hT b1.2.1 (by rw [cl]; omega) st3 (by rw [cl]; exact ep2) fun L l1 l2 => ?_
          rw [if_pos (by decide)]
          have l2 : mP T N L z.1 (C ++ y.2 ++ z.2) [] 0 := l2
          rw [List.append_assoc] at l2
          refine add _ y.2.length z.1 0 (y.2 ++ z.2) [] L (fun a b h1 h2 => by rw [l1 a b h1, zup_ne (by omega), k1 a b h1, f0 a b h1 (by omega)]) l2 ?_ ?_ ?_ n14 er
          · rw [l1 _ _ (by unfold fR; omega), zup_ne (by omega), k1 _ _ (by unfold fR; omega)]; exact e7
          · rw [l1 _ _ (by unfold fR; omega), zup_ne (by omega), k1 _ _ (by unfold fR; omega)]; exact e8
          · rw [l1 _ _ (by unfold fR; omega), zup_eq ⟨rfl, rfl⟩]
  by_cases g1 : nx T N p = 104
  · rw [if_pos g1]; exact go (.inl g1)
  rw [if_neg g1]
  by_cases g2 : nx T N p = 116
  · rw [if_pos g2]; exact go (.inr (.inl g2))
  rw [if_neg g2]
  by_cases g3 : nx T N p = 122
  · rw [if_pos g3]; exact go (.inr (.inr g3))
  rw [if_neg g3]
  rw [if_pos ⟨g1, g2, g3⟩] at hr
  rw [i14]
  exact ⟨by unfold zr; omega, by unfold zr; omega, q0 _ (Option.some.inj hr).symm _ (by rw [zup_eq ⟨rfl, rfl⟩]; omega) fun a b hab => zup_ne (by unfold fD fR at hab; omega)⟩
/-- the law that was read is put in force -/
theorem l_M_law138 {Q : Int → ZI → Prop} {D : List CL} {u1 u2 : Option AV} (hW : Wf sh R) (h14 : D.length ≤ 14) : ∀ (c k : Nat) (I : ZI), k + c = D.length → I 137 20 = (D.length : Int) → dR I 147 148 149 150 D → (∀ j, j < k → I 152 j = (D.getD j (0, 0, 0, 0)).1 ∧ I 153 j = ((D.getD j (0, 0, 0, 0)).2.1 : Int) ∧ I 154 j = ((D.getD j (0, 0, 0, 0)).2.2.1 : Int) ∧ I 155 j = ((D.getD j (0, 0, 0, 0)).2.2.2 : Int)) → (∀ J : ZI, dR J 152 153 154 155 D → (∀ a b, ¬ (152 ≤ a ∧ a ≤ 155) → J a b = I a b) → Q (D.length : Int) J) → XIs (d + 8) 174 138 [some (.inr 137), u1, u2, some (.inl (k : Int))] [] n sh R I Q
  | 0, k, I, h, h20, hD, hk, q => b_M_law_138 hW (by
    rw [h20, if_pos (by omega)]
    exact q I (fun c hc => hk c (by omega)) fun _ _ _ => rfl)
  | c + 1, k, I, h, h20, hD, hk, q => b_M_law_138 hW (by
    have z := hD k (by omega)
    rw [h20, if_neg (by omega), Int.toNat_natCast, z.1, z.2.1, z.2.2.1, z.2.2.2, show (k : Int) + 1 = ((k + 1 : Nat) : Int) by omega]
    refine ⟨by omega, by unfold zr; omega, ?_⟩
    refine l_M_law138 hW h14 c (k + 1) _ (by omega) (by rw [zup_ne (by omega), zup_ne (by omega), zup_ne (by omega), zup_ne (by omega)]; exact h20) (hD.fr fun a b hab => by rw [zup_ne (by omega), zup_ne (by omega), zup_ne (by omega), zup_ne (by omega)]) (fun j hj => ?_) fun J j1 j2 => q J j1 fun a b hab => by rw [j2 a b hab, zup_ne (by omega), zup_ne (by omega), zup_ne (by omega), zup_ne (by omega)]
    by_cases e : j = k
    · subst e
      refine ⟨?_, ?_, ?_, ?_⟩
      · rw [zup_ne (by omega), zup_ne (by omega), zup_ne (by omega), zup_eq ⟨rfl, rfl⟩]
      · rw [zup_ne (by omega), zup_ne (by omega), zup_eq ⟨rfl, rfl⟩]
      · rw [zup_ne (by omega), zup_eq ⟨rfl, rfl⟩]
      · rw [zup_eq ⟨rfl, rfl⟩]
    · have y := hk j (by omega)
      refine ⟨?_, ?_, ?_, ?_⟩
      · rw [zup_ne (by omega), zup_ne (by omega), zup_ne (by omega), zup_ne (by omega)]; exact y.1
      · rw [zup_ne (by omega), zup_ne (by omega), zup_ne (by omega), zup_ne (by omega)]; exact y.2.1
      · rw [zup_ne (by omega), zup_ne (by omega), zup_ne (by omega), zup_ne (by omega)]; exact y.2.2.1
      · rw [zup_ne (by omega), zup_ne (by omega), zup_ne (by omega), zup_ne (by omega)]; exact y.2.2.2)
theorem l_M_law110 {Q : Int → ZI → Prop} {C : List Int} {D : List CL} {u1 u2 : Option AV} (hW : Wf sh R) (hC : C.length ≤ 200) (h14 : D.length ≤ 14) : ∀ (c k : Nat) (I : ZI), k + c = C.length → I 137 18 = (C.length : Int) → I 137 20 = (D.length : Int) → pLs I 145 C → dR I 147 148 149 150 D → (∀ j, j < k → I 151 j = C.getD j 0) → (∀ J : ZI, pLs J 151 C → dR J 152 153 154 155 D → (∀ a b, ¬ (151 ≤ a ∧ a ≤ 155) → J a b = I a b) → Q (D.length : Int) J) → XIs (d + 8) 174 110 [some (.inr 137), u1, u2, some (.inl (k : Int))] [] n sh R I Q
  | 0, k, I, h, h18, h20, hc, hD, hk, q => b_M_law_110 hW (by
    rw [h18, if_pos (by omega)]
    exact l_M_law138 hW h14 D.length 0 I (by omega) h20 hD (fun j hj => absurd hj (by omega)) fun J j1 j2 => q J (fun i hi => by rw [j2 _ _ (by omega)]; exact hk i (by omega)) j1 fun a b hab => j2 a b (by omega))
  | c + 1, k, I, h, h18, h20, hc, hD, hk, q => b_M_law_110 hW (by
    rw [h18, if_neg (by omega), Int.toNat_natCast, hc k (by omega), show (k : Int) + 1 = ((k + 1 : Nat) : Int) by omega]
    refine ⟨by omega, by unfold zr; omega, ?_⟩
    refine l_M_law110 hW hC h14 c (k + 1) _ (by omega) (by rw [zup_ne (by omega)]; exact h18) (by rw [zup_ne (by omega)]; exact h20) (fun i hi => by rw [zup_ne (by omega)]; exact hc i hi) (hD.fr fun a b hab => zup_ne (by omega)) (fun j hj => ?_) fun J j1 j2 j3 => q J j1 j2 fun a b hab => by rw [j3 a b hab, zup_ne (by omega)]
    by_cases e : j = k
    · subst e; exact zup_eq ⟨rfl, rfl⟩
    · rw [zup_ne (by omega)]; exact hk j (by omega))
/-- what is to hold behind the model's reading of a law -/
def mLk (I : ZI) (Q : Int → ZI → Prop) : Int ⊕ (List Int × List CL) → Prop
  | .inl a => ∀ J : ZI, J 137 13 = 0 → (∀ a b, ¬ fD a b → ¬ (a = 137 ∧ b = 13) → J a b = I a b) → Q a J
  | .inr y => ∀ J : ZI, J 137 13 = 0 → J 137 22 = (y.2.length : Int) → pLs J 151 y.1 → dR J 152 153 154 155 y.2 → (∀ a b, ¬ fD a b → ¬ (a = 137 ∧ (b = 13 ∨ b = 22)) → ¬ (151 ≤ a ∧ a ≤ 155) → J a b = I a b) → Q (y.2.length : Int) J
theorem l_M_law46 {f : Nat} {Q : Int → ZI → Prop} {u1 u3 : Option AV} (hW : Wf sh R) (hN : N ≤ 200) (hT : ∀ j, j < N → 0 ≤ T j ∧ T j < 256) : ∀ (c p : Nat) (C : List Int) (D : List CL) (I : ZI) (r : Int ⊕ (List Int × List CL)), D.length + c = 15 → D.length ≤ 14 → p ≤ N → C.length ≤ p → mLs T N I p C D → rLs T N f c C D p = some r → mLk I Q r → XIs (d + 8) 174 46 [some (.inr 137), u1, some (.inl 1), u3] [] n sh R I Q
  | 0, p, C, D, I, r, h1, h3, hp, hC, hst, hr, hK => by omega
  | c + 1, p, C, D, I, r, h1, h3, hp, hC, hst, hr, hK => b_M_law_46 hW (by
    have hr : (if N ≤ p then some (.inr (C, D)) else if nx T N p = 59 then (match rCl T N f D.length (p + 1) C.length with
      | none => none
      | some (.inl a) => some (.inl a)
      | some (.inr y) => rLs T N f c (C ++ y.2.1) (D ++ [(y.2.2.1, C.length, C.length + y.2.2.2, C.length + y.2.1.length)]) y.1) else some (.inl (-1000 - p))) = some r := hr
    obtain ⟨⟨i15, i14, i18, i20⟩, hb, hc, hD⟩ := hst
    rw [if_neg (by decide), i15, i14]
    by_cases g : N ≤ p
    · rw [if_pos g] at hr
      rw [if_pos (by omega), if_pos (by decide), i20]
      have er := (Option.some.inj hr).symm
      subst er
      refine l_M_law110 (C := C) (D := D) hW (by omega) h3 C.length 0 _ (by omega) (by rw [zup_ne (by omega), zup_ne (by omega)]; exact i18) (by rw [zup_ne (by omega), zup_ne (by omega)]; exact i20) (fun i hi => by rw [zup_ne (by omega), zup_ne (by omega)]; exact hc i hi) (hD.fr fun a b hab => by rw [zup_ne (by omega), zup_ne (by omega)]) (fun j hj => absurd hj (by omega)) fun J j1 j2 j3 => hK J ?_ ?_ j1 j2 fun a b h1 h2 h3 => ?_
      · rw [j3 _ _ (by omega), zup_ne (by omega), zup_eq ⟨rfl, rfl⟩]
      · rw [j3 _ _ (by omega), zup_eq ⟨rfl, rfl⟩]
      · rw [j3 a b h3, zup_ne (by omega), zup_ne (by omega)]
    rw [if_neg g] at hr
    rw [if_neg (by omega)]
    have no : ∀ (K : ZI) (a : Int), r = .inl a → K 137 16 = a → (∀ a b, ¬ fD a b → K a b = I a b) → XIs (d + 8) 174 46 [some (.inr 137), u1, some (.inl 0), u3] [] n sh R K Q := fun K a er k1 k2 => by
      subst er
      refine b_M_law_46 hW ?_
      rw [if_pos rfl, if_neg (not_not_intro rfl), k1]
      exact hK _ (zup_eq ⟨rfl, rfl⟩) fun a b h1 h2 => by rw [zup_ne h2, k2 a b h1]
    refine b_M_takes_0 hW ?_
    refine b_M_here_0 hW ?_
    rw [i15, i14, Int.toNat_natCast, if_neg (by omega), hb p (by omega), zand_T (hT p (by omega))]
    have en : nx T N p = T p := if_pos (by omega)
    rw [← en]
    refine ⟨by omega, ?_⟩
    by_cases g59 : nx T N p = 59
    · rw [if_pos g59] at hr ⊢
      refine ⟨by unfold zr; omega, ?_⟩
      rw [if_neg (by decide)]
      have f0 : ∀ a b, ¬ fD a b → (zup I 137 14 ((p : Int) + 1)) a b = I a b := fun a b hab => zup_ne (by unfold fD fR at hab; omega)
      have jst : mLs T N (zup I 137 14 ((p : Int) + 1)) (p + 1) C D := by
        refine ⟨⟨?_, ?_, ?_, ?_⟩, fun j hj => ?_, fun i hi => ?_, hD.fr fun a b hab => zup_ne (by omega)⟩
        · rw [zup_ne (by omega)]; exact i15
        · rw [zup_eq ⟨rfl, rfl⟩]; omega
        · rw [zup_ne (by omega)]; exact i18
        · rw [zup_ne (by omega)]; exact i20
        · rw [zup_ne (by omega)]; exact hb j hj
        · rw [zup_ne (by omega)]; exact hc i hi
      split at hr
      · cases hr
      · rename_i a er1
        refine s_M_clause hW hN hT (by omega) (by omega) h3 jst er1 (fun a2 e2 K k1 k2 => ?_) (fun y e2 => by cases e2)
        cases e2
        rw [if_pos rfl]
        exact no K a (Option.some.inj hr).symm k1 fun a b hab => by rw [k2 a b hab, f0 a b hab]
      · rename_i y er1
        obtain ⟨a1, a2, a3, a4, a5⟩ := rCl_good (by omega) (by omega) (by omega) er1
        refine s_M_clause hW hN hT (by omega) (by omega) h3 jst er1 (fun a2 e2 => by cases e2) (fun y2 e2 K k1 k2 => ?_)
        cases e2
        rw [if_neg (by decide)]
        have l1 : (D ++ [(y.2.2.1, C.length, C.length + y.2.2.2, C.length + y.2.1.length)]).length = D.length + 1 := by rw [List.length_append]; rfl
        have l2 : (C ++ y.2.1).length = C.length + y.2.1.length := List.length_append
        refine l_M_law46 hW hN hT c y.1 _ _ K r (by rw [l1]; omega) (by omega) a1.2.1 (by omega) k1 hr ?_
        cases r with
        | inl a => exact fun J j1 j2 => hK J j1 fun a b h1 h2 => by rw [j2 a b h1 h2, k2 a b h1, f0 a b h1]
        | inr z => exact fun J j1 j2 j3 j4 j5 => hK J j1 j2 j3 j4 fun a b h1 h2 h3 => by rw [j5 a b h1 h2 h3, k2 a b h1, f0 a b h1]
    · rw [if_neg g59] at hr ⊢
      refine ⟨by unfold zr; omega, by unfold zr; omega, ?_⟩
      rw [if_pos rfl]
      exact no _ _ (Option.some.inj hr).symm (by rw [zup_eq ⟨rfl, rfl⟩]; omega) fun a b hab => zup_ne (by unfold fD fR at hab; omega))
theorem s_M_law {f : Nat} {I : ZI} {Q : Int → ZI → Prop} {r : Int ⊕ (List Int × List CL)} (hW : Wf sh R) (hN : 1 ≤ N ∧ N ≤ 200) (hT : ∀ j, j < N → 0 ≤ T j ∧ T j < 256) (hI : ∀ j, j < N → I 144 j = zi2b (T j)) (ht : (N : Int) ≤ I 137 13) (hr : rTop T N f = some r) (hK : mLk I Q r) : XI (d + 8) 174 [.inr 137, .inl (N : Int)] n sh R I Q := by
  refine b_M_law_0 hW ?_
  rw [if_neg (by omega), if_neg (by omega), if_pos ht]
  generalize hJ0 : zup (zup (zup (zup I 137 14 0) 137 15 (N : Int)) 137 18 0) 137 20 0 = J0
  have f0 : ∀ a b, ¬ fD a b → J0 a b = I a b := fun a b h1 => by
    unfold fD fR at h1
    rw [← hJ0, zup_ne (by omega), zup_ne (by omega), zup_ne (by omega), zup_ne (by omega)]
  have st : mLs T N J0 0 [] [] := by
    refine ⟨⟨?_, ?_, ?_, ?_⟩, fun j hj => ?_, fun i hi => absurd hi (by show ¬ i < 0; omega), fun c hc => absurd hc (by show ¬ c < 0; omega)⟩
    · rw [← hJ0, zup_ne (by omega), zup_ne (by omega), zup_eq ⟨rfl, rfl⟩]
    · rw [← hJ0, zup_ne (by omega), zup_ne (by omega), zup_ne (by omega), zup_eq ⟨rfl, rfl⟩]; rfl
    · rw [← hJ0, zup_ne (by omega), zup_eq ⟨rfl, rfl⟩]; rfl
    · rw [← hJ0, zup_eq ⟨rfl, rfl⟩]; rfl
    · rw [f0 144 j (by unfold fD fR; omega)]; exact hI j hj
  unfold rTop at hr
  split at hr
  · cases hr
  · rename_i a er1
    refine s_M_clause (f := f) (C := []) (D := []) hW hN.2 hT (Nat.zero_le N) (Nat.le_refl 0) (by show 0 ≤ 14; omega) st er1 (fun a2 e2 K k1 k2 => ?_) (fun y e2 => by cases e2)
    cases e2
    have er := (Option.some.inj hr).symm
    subst er
    refine b_M_law_46 hW ?_
    rw [if_pos rfl, if_neg (not_not_intro rfl), k1]
    exact hK _ (zup_eq ⟨rfl, rfl⟩) fun a b h1 h2 => by rw [zup_ne h2, k2 a b h1, f0 a b h1]
  · rename_i y er1
    obtain ⟨a1, a2, a3, a4, a5⟩ := rCl_good (by omega) (Nat.le_refl 0) (Nat.zero_le N) er1
    refine s_M_clause (f := f) (C := []) (D := []) hW hN.2 hT (Nat.zero_le N) (Nat.le_refl 0) (by show 0 ≤ 14; omega) st er1 (fun a2 e2 => by cases e2) (fun y2 e2 K k1 k2 => ?_)
    cases e2
    have k3 : mLs T N K y.1 y.2.1 [(y.2.2.1, 0, y.2.2.2, y.2.1.length)] := by
      have z := k1
      simp only [List.nil_append, List.length_nil, Nat.zero_add] at z
      exact z
    refine l_M_law46 hW hN.2 hT 14 y.1 _ _ K r (by show 1 + 14 = 15; omega) (by show 1 ≤ 14; omega) a1.2.1 (by omega) k3 hr ?_
    cases r with
    | inl a => exact fun J j1 j2 => hK J j1 fun a b h1 h2 => by rw [j2 a b h1 h2, k2 a b h1, f0 a b h1]
    | inr z => exact fun J j1 j2 j3 j4 j5 => hK J j1 j2 j3 j4 fun a b h1 h2 h3 => by rw [j5 a b h1 h2 h3, k2 a b h1, f0 a b h1]
end NW
