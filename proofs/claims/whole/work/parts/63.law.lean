-- CLAUSES: the class's way
theorem cd_l {l t : List CL} {i : Nat} (h : i < l.length) : (l ++ t).getD i (0, 0, 0, 0) = l.getD i (0, 0, 0, 0) := by
  rw [List.getD_eq_getElem?_getD, List.getD_eq_getElem?_getD, List.getElem?_append_left h]
theorem cd_last {l : List CL} {x : CL} : (l ++ [x]).getD l.length (0, 0, 0, 0) = x := by
  rw [List.getD_eq_getElem?_getD, List.getElem?_append_right (Nat.le_refl _), Nat.sub_self]; rfl
theorem cd_mem {l : List CL} {i : Nat} (h : i < l.length) : l.getD i (0, 0, 0, 0) ∈ l := by
  rw [List.getD_eq_getElem?_getD, List.getElem?_eq_getElem h]; exact List.getElem_mem h
/-- the clauses as four rows keep them -/
def dR (I : ZI) (a1 a2 a3 a4 : Nat) (D : List CL) : Prop := ∀ c, c < D.length → I a1 c = (D.getD c (0, 0, 0, 0)).1 ∧ I a2 c = ((D.getD c (0, 0, 0, 0)).2.1 : Int) ∧ I a3 c = ((D.getD c (0, 0, 0, 0)).2.2.1 : Int) ∧ I a4 c = ((D.getD c (0, 0, 0, 0)).2.2.2 : Int)
theorem dR.fr {I J : ZI} {a1 a2 a3 a4 : Nat} {D : List CL} (h : dR I a1 a2 a3 a4 D) (e : ∀ a b, a = a1 ∨ a = a2 ∨ a = a3 ∨ a = a4 → J a b = I a b) : dR J a1 a2 a3 a4 D := fun c hc => by
  rw [e _ _ (.inl rfl), e _ _ (.inr (.inl rfl)), e _ _ (.inr (.inr (.inl rfl))), e _ _ (.inr (.inr (.inr rfl)))]; exact h c hc
theorem dR.add {I J : ZI} {a1 a2 a3 a4 : Nat} {D : List CL} {x : CL} (h : dR I a1 a2 a3 a4 D) (e : ∀ a b, (a = a1 ∨ a = a2 ∨ a = a3 ∨ a = a4) → ¬ b = D.length → J a b = I a b) (h1 : J a1 D.length = x.1) (h2 : J a2 D.length = (x.2.1 : Int)) (h3 : J a3 D.length = (x.2.2.1 : Int)) (h4 : J a4 D.length = (x.2.2.2 : Int)) : dR J a1 a2 a3 a4 (D ++ [x]) := fun c hc => by
  have hl : (D ++ [x]).length = D.length + 1 := by rw [List.length_append]; rfl
  rw [hl] at hc
  by_cases g : c = D.length
  · subst g
    rw [cd_last]; exact ⟨h1, h2, h3, h4⟩
  · rw [cd_l (by omega), e _ _ (.inl rfl) g, e _ _ (.inr (.inl rfl)) g, e _ _ (.inr (.inr (.inl rfl))) g, e _ _ (.inr (.inr (.inr rfl))) g]
    exact h c (by omega)
section LW
variable {n : Nat} {sh : ZS} {R : ZR} {md : Nat} {T : Nat → Int} {N : Nat}
def fC (md a b : Nat) : Prop := fL md a b ∨ (a = md ∧ b = 7) ∨ md + 1 ≤ a ∧ a ≤ md + 4
theorem s_W_add {d : Nat} {I : ZI} {Q : ZI → Prop} {x1 x2 x3 : Int} {m : Nat} (hW : Wf sh R) (hl : md = 5 ∨ md = 45) (hM : Lw sh R md) (hm : I md 7 = (m : Int)) (h14 : m < 14) (q : ∀ J : ZI, J (md + 1) m = x1 → J (md + 2) m = x2 → J (md + 3) m = x3 → J (md + 4) m = I md 8 → J md 7 = (m : Int) + 1 → (∀ a b, ¬ (a = md ∧ b = 7) → ¬ (md + 1 ≤ a ∧ a ≤ md + 4 ∧ b = m) → J a b = I a b) → Q J) : XV d 10 [.inr md, .inl x1, .inl x2, .inl x3] n sh R I Q := by
  refine b_W_addClause_0 hW hM ?_
  have e1 : ∀ v, (zup I (md + 1) m v) md 7 = (m : Int) := fun v => by rw [zup_ne (by omega)]; exact hm
  have e2 : ∀ v w, (zup (zup I (md + 1) m v) (md + 2) m w) md 7 = (m : Int) := fun v w => by rw [zup_ne (by omega)]; exact e1 v
  have e3 : ∀ v w u, (zup (zup (zup I (md + 1) m v) (md + 2) m w) (md + 3) m u) md 7 = (m : Int) := fun v w u => by rw [zup_ne (by omega)]; exact e2 v w
  have e8 : ∀ v w u, (zup (zup (zup I (md + 1) m v) (md + 2) m w) (md + 3) m u) md 8 = I md 8 := fun v w u => by rw [zup_ne (by omega), zup_ne (by omega), zup_ne (by omega)]
  have e4 : ∀ v w u z, (zup (zup (zup (zup I (md + 1) m v) (md + 2) m w) (md + 3) m u) (md + 4) m z) md 7 = (m : Int) := fun v w u z => by rw [zup_ne (by omega)]; exact e3 v w u
  simp only [hm, Int.toNat_natCast, e1, e2, e3, e8, e4]
  rw [if_neg (by omega)]
  refine ⟨by omega, by omega, by omega, by omega, by unfold zr; omega, q _ ?_ ?_ ?_ ?_ ?_ fun a b h1 h2 => ?_⟩
  · rw [zup_ne (by omega), zup_ne (by omega), zup_ne (by omega), zup_ne (by omega), zup_eq ⟨rfl, rfl⟩]
  · rw [zup_ne (by omega), zup_ne (by omega), zup_ne (by omega), zup_eq ⟨rfl, rfl⟩]
  · rw [zup_ne (by omega), zup_ne (by omega), zup_eq ⟨rfl, rfl⟩]
  · rw [zup_ne (by omega), zup_eq ⟨rfl, rfl⟩]
  · rw [zup_eq ⟨rfl, rfl⟩]
  · rw [zup_ne (by omega), zup_ne (by omega), zup_ne (by omega), zup_ne (by omega), zup_ne (by omega)]
def cLs (md : Nat) (T : Nat → Int) (N : Nat) (I : ZI) (p : Nat) (C : List Int) (D : List CL) : Prop := cSt md T N I p C ∧ I md 7 = (D.length : Int) ∧ dR I (md + 1) (md + 2) (md + 3) (md + 4) D
/-- a condition in ( ) -/
theorem s_L_par {d f : Nat} {I : ZI} {Q : Int → ZI → Prop} {p : Nat} {C : List Int} {r : RR} (hW : Wf sh R) (hl : md = 5 ∨ md = 45) (hR : R 4 1 = md) (hM : Lw sh R md) (hN : N ≤ 200) (hT : ∀ j, j < N → 0 ≤ T j ∧ T j < 256) (hd : 60 ≤ d) (hp : p ≤ N) (hC : C.length ≤ p) (hst : cSt md T N I p C) (hr : rPar T N f p C.length = some r) (hK : cK md T N C I Q r) : XI d 31 [.inr 4, .inl 40] n sh R I (fun v4 I5 => (if v4 = 0 then Q 0 I5 else XI d 21 [.inr 4, .inl 1] n sh R I5 (fun v6 I7 => (if v6 = 0 then Q 0 I7 else XI d 31 [.inr 4, .inl 41] n sh R I7 (fun v8 I9 => (if ¬ v8 = 0 then Q 1 I9 else Q 0 I9)))))) := by
  unfold rPar at hr
  have i8 := hst.1.2.2.1
  refine s_L_take hW hl hN (by omega) hst hp (fun g J j1 j2 => ?_) (fun g J j1 j2 => ?_)
  · rw [if_neg (by decide)]
    rw [if_pos g] at hr
    have lt := nx_lt g (by omega)
    rcases rB_cases hr with ⟨a, e1, e2⟩ | ⟨q, l, e1, e2⟩
    · subst e2
      exact h_all hW hl hR hM hN hT f 6 1 (p + 1) C J _ (.inl a) d (by omega) (by omega) (by omega) j1 e1 (fun K k1 k2 k3 => by
        rw [if_pos rfl]
        exact hK K k1 k2 fun a b hab => by rw [k3 a b hab, j2 a b hab]) (by show _ + 6 ≤ d; omega)
    · have a := rd_len _ _ _ _ _ _ _ (by omega) e1
      have a1 : p + 1 + 1 ≤ q ∧ q ≤ N ∧ l.length + (p + 1) ≤ q := a
      refine h_all hW hl hR hM hN hT f 6 1 (p + 1) C J _ (.inr (q, l)) d (by omega) (by omega) (by omega) j1 e1 (fun K k1 k3 => ?_) (by show _ + 6 ≤ d; omega)
      have k1 : cSt md T N K q (C ++ l) := k1
      have k8 := k1.1.2.2.1
      rw [List.length_append] at k8
      rw [if_neg (by decide)]
      refine s_L_take hW hl hN (by omega) k1 a1.2.1 (fun g4 L l1 l2 => ?_) (fun g4 L l1 l2 => ?_)
      · rw [if_pos (by decide)]
        rw [if_pos g4] at e2
        have ef : r = .inr (q + 1, l) := (Option.some.inj e2).symm
        subst ef
        exact hK L l1 fun a b hab => by rw [l2 a b hab, k3 a b hab, j2 a b hab]
      · rw [if_neg (by decide)]
        rw [if_neg g4] at e2
        have ef : r = .inl (-1000 - q) := (Option.some.inj e2).symm
        subst ef
        exact hK L l1 (by rw [l2 md 8 (by omega)]; omega) fun a b hab => by rw [l2 a b (by unfold fL at hab; omega), k3 a b hab, j2 a b hab]
  · rw [if_pos rfl]
    rw [if_neg g] at hr
    have ef : r = .inl (-1000 - p) := (Option.some.inj hr).symm
    subst ef
    exact hK J j1 (by rw [j2 md 8 (by omega)]; omega) fun a b hab => j2 a b (by unfold fL at hab; omega)
theorem s_L_clause {d f : Nat} {I : ZI} {Q : Int → ZI → Prop} {p : Nat} {C : List Int} {D : List CL} {r : Int ⊕ (Nat × List Int × Int × Nat)} (hW : Wf sh R) (hl : md = 5 ∨ md = 45) (hR : R 4 1 = md) (hM : Lw sh R md) (hN : N ≤ 200) (hT : ∀ j, j < N → 0 ≤ T j ∧ T j < 256) (hd : 70 ≤ d) (hp : p ≤ N) (hC : C.length ≤ p) (h14 : D.length ≤ 14) (hst : cLs md T N I p C D) (hr : rCl T N f D.length p C.length = some r) (q0 : ∀ a, r = .inl a → ∀ J : ZI, J 4 4 = a → (∀ a b, ¬ fC md a b → J a b = I a b) → Q 0 J) (q1 : ∀ y, r = .inr y → ∀ J : ZI, cLs md T N J y.1 (C ++ y.2.1) (D ++ [(y.2.2.1, C.length, C.length + y.2.2.2, C.length + y.2.1.length)]) → (∀ a b, ¬ fC md a b → J a b = I a b) → Q 1 J) : XI d 20 [.inr 4] n sh R I Q := by
  obtain ⟨e, rfl⟩ : ∃ e, d = e + 1 := ⟨d - 1, by omega⟩
  obtain ⟨hs, h7, hD⟩ := hst
  have i3 := hs.1.2.1
  have i8 := hs.1.2.2.1
  have fc : ∀ a b, ¬ fC md a b → ¬ fL md a b := fun a b h c => h (.inl c)
  unfold rCl at hr
  refine b_L_clause_0 hW (by rw [hR]; exact hM) (s_L_next hW hN hs ?_)
  rw [hR, h7]
  have hs1 := hs.go hl
  have fr0 : ∀ a b, ¬ fL md a b → (zup I 4 3 (I 4 3 + 1)) a b = I a b := fun a b hab => zup_ne (by unfold fL at hab; omega)
  have e8 : (zup I 4 3 (I 4 3 + 1)) md 8 = (C.length : Int) := by rw [zup_ne (by omega)]; exact i8
  rw [e8]
  -- the clause is kept
  have add : ∀ (kd : Int) (hf : Nat) (K : ZI) (q : Nat) (l : List Int), (∀ a b, ¬ fL md a b → K a b = I a b) → cSt md T N K q (C ++ l) → ¬ D.length = 14 → r = .inr (q, l, kd, hf) → XV e 10 [.inr md, .inl kd, .inl (C.length : Int), .inl ((C.length + hf : Nat) : Int)] n sh R K (fun L => Q 1 L) := fun kd hf K q l kf ks n14 er => by
    refine s_W_add (m := D.length) hW hl hM (by rw [kf md 7 (by unfold fL; omega)]; exact h7) (by omega) fun L l1 l2 l3 l4 l5 l6 => ?_
    have kl := ks.1.2.2.1
    refine q1 _ er L ⟨ks.fr fun a b hab => l6 a b (by omega) (by omega), ?_, ?_⟩ fun a b hab => ?_
    · rw [l5, List.length_append]; show _ = ((D.length + 1 : Nat) : Int); omega
    · refine (hD.fr fun a b hab => kf a b (by unfold fL; omega)).add (I := K) (fun a b ha hb => l6 a b (by omega) (by omega)) l1 l2 l3 ?_
      rw [l4, kl, List.length_append]
    · have hab2 := hab
      unfold fC at hab2
      rw [l6 a b (by omega) (by omega), kf a b (fc a b hab)]
  -- a kind of clause
  have go : (nx T N p = 104 ∨ nx T N p = 116 ∨ nx T N p = 122) → (if (D.length : Int) < 14 then (zr (I 4 3 + 1)) ∧ (if nx T N p = 122 then XI e 31 [.inr 4, .inl 40] n sh R (zup I 4 3 (I 4 3 + 1)) (fun v4 I5 => (if v4 = 0 then Q 0 I5 else XI e 21 [.inr 4, .inl 1] n sh R I5 (fun v6 I7 => (if v6 = 0 then Q 0 I7 else XI e 31 [.inr 4, .inl 41] n sh R I7 (fun v8 I9 => (if ¬ v8 = 0 then XV e 10 [.inr md, .inl (nx T N p), .inl (C.length : Int), .inl (C.length : Int)] n sh R I9 (fun I11 => Q 1 I11) else Q 0 I9)))))) else XI e 25 [.inr 4, .inl 0] n sh R (zup I 4 3 (I 4 3 + 1)) (fun v12 I13 => (if ¬ v12 = 0 then XI e 31 [.inr 4, .inl 40] n sh R I13 (fun v14 I15 => (if v14 = 0 then Q 0 I15 else XI e 21 [.inr 4, .inl 1] n sh R I15 (fun v16 I17 => (if v16 = 0 then Q 0 I17 else XI e 31 [.inr 4, .inl 41] n sh R I17 (fun v18 I19 => (if ¬ v18 = 0 then XV e 10 [.inr md, .inl (nx T N p), .inl (C.length : Int), .inl (I13 md 8)] n sh R I19 (fun I21 => Q 1 I21) else Q 0 I19)))))) else Q 0 I13))) else (zr ((-1000) * 4)) ∧ (zr (((-1000) * 4) - I 4 3)) ∧ Q 0 (zup I 4 4 (((-1000) * 4) - I 4 3))) := fun g => by
    have lt : p < N := by
      rcases Classical.em (p < N) with g | g2
      · exact g
      · exfalso
        have : nx T N p = -1 := if_neg g2
        omega
    rw [if_neg (by omega)] at hr
    by_cases n14 : D.length = 14
    · rw [if_pos n14] at hr
      rw [if_neg (by omega)]
      exact ⟨by unfold zr; omega, by unfold zr; omega, q0 _ (Option.some.inj hr).symm _ (by rw [zup_eq ⟨rfl, rfl⟩]; omega) fun a b hab => zup_ne (by unfold fC fL at hab; omega)⟩
    rw [if_neg n14] at hr
    rw [if_pos (by omega)]
    refine ⟨by unfold zr; omega, ?_⟩
    by_cases g122 : nx T N p = 122
    · rw [if_pos g122] at hr ⊢
      split at hr
      · cases hr
      · rename_i a ep
        have er := (Option.some.inj hr).symm
        refine s_L_par (Q := fun v I9 => if ¬ v = 0 then XV e 10 [.inr md, .inl (nx T N p), .inl (C.length : Int), .inl (C.length : Int)] n sh R I9 (fun I11 => Q 1 I11) else Q 0 I9) hW hl hR hM hN hT (by omega) (by omega) (by omega) hs1 ep fun K k1 k2 k3 => ?_
        show if ¬ (0 : Int) = 0 then _ else _
        rw [if_neg (by decide)]
        exact q0 _ er K k1 fun a b hab => by rw [k3 a b (fc a b hab), fr0 a b (fc a b hab)]
      · rename_i y ep
        have er := (Option.some.inj hr).symm
        refine s_L_par (Q := fun v I9 => if ¬ v = 0 then XV e 10 [.inr md, .inl (nx T N p), .inl (C.length : Int), .inl (C.length : Int)] n sh R I9 (fun I11 => Q 1 I11) else Q 0 I9) hW hl hR hM hN hT (by omega) (by omega) (by omega) hs1 ep fun K k1 k3 => ?_
        show if ¬ (1 : Int) = 0 then _ else _
        rw [if_pos (by decide)]
        exact add _ 0 K y.1 y.2 (fun a b hab => by rw [k3 a b hab, fr0 a b hab]) k1 n14 er
    · rw [if_neg g122] at hr ⊢
      split at hr
      · cases hr
      · rename_i a ep
        have er := (Option.some.inj hr).symm
        refine h_all hW hl hR hM hN hT f 2 0 (p + 1) C _ _ (.inl a) e (by omega) (by omega) (by omega) hs1 ep (fun K k1 k2 k3 => ?_) (by show _ + 2 ≤ e; omega)
        rw [if_neg (by decide)]
        exact q0 _ er K k1 fun a b hab => by rw [k3 a b (fc a b hab), fr0 a b (fc a b hab)]
      · rename_i y ep
        have b := rd_len _ _ _ _ _ _ _ (by omega) ep
        have b1 : p + 1 + 1 ≤ y.1 ∧ y.1 ≤ N ∧ y.2.length + (p + 1) ≤ y.1 := b
        refine h_all hW hl hR hM hN hT f 2 0 (p + 1) C _ _ (.inr y) e (by omega) (by omega) (by omega) hs1 ep (fun K k1 k3 => ?_) (by show _ + 2 ≤ e; omega)
        have kl := k1.1.2.2.1
        have cl : (C ++ y.2).length = C.length + y.2.length := List.length_append
        have kf : ∀ a b, ¬ fL md a b → K a b = I a b := fun a b hab => by rw [k3 a b hab, fr0 a b hab]
        rw [if_pos (by decide), kl, cl]
        split at hr
        · cases hr
        · rename_i a ep2
          have er := (Option.some.inj hr).symm
          refine s_L_par (Q := fun v I9 => if ¬ v = 0 then XV e 10 [.inr md, .inl (nx T N p), .inl (C.length : Int), .inl ((C.length + y.2.length : Nat) : Int)] n sh R I9 (fun I11 => Q 1 I11) else Q 0 I9) (r := .inl a) hW hl hR hM hN hT (by omega) b1.2.1 (by rw [cl]; omega) k1 (by rw [cl]; exact ep2) fun L l1 l2 l3 => ?_
          show if ¬ (0 : Int) = 0 then _ else _
          rw [if_neg (by decide)]
          exact q0 _ er L l1 fun a b hab => by rw [l3 a b (fc a b hab), kf a b (fc a b hab)]
        · rename_i z ep2
          have er := (Option.some.inj hr).symm
          refine s_L_par (Q := fun v I9 => if ¬ v = 0 then XV e 10 [.inr md, .inl (nx T N p), .inl (C.length : Int), .inl ((C.length + y.2.length : Nat) : Int)] n sh R I9 (fun I11 => Q 1 I11) else Q 0 I9) (r := .inr z) hW hl hR hM hN hT (by omega) b1.2.1 (by rw [cl]; omega) k1 (by rw [cl]; exact ep2) fun L l1 l3 => ?_
          show if ¬ (1 : Int) = 0 then _ else _
          rw [if_pos (by decide)]
          have l1 : cSt md T N L z.1 (C ++ y.2 ++ z.2) := l1
          rw [List.append_assoc] at l1
          exact add _ y.2.length L z.1 (y.2 ++ z.2) (fun a b hab => by rw [l3 a b hab, kf a b hab]) l1 n14 er
  by_cases g1 : nx T N p = 104
  · rw [if_pos g1]; exact go (.inl g1)
  rw [if_neg g1]
  by_cases g2 : nx T N p = 116
  · rw [if_pos g2]; exact go (.inr (.inl g2))
  rw [if_neg g2]
  by_cases g3 : nx T N p = 122
  · rw [if_pos g3]; exact go (.inr (.inr g3))
  rw [if_neg g3]
  rw [if_pos ⟨g1, g2, g3⟩] at hr
  exact ⟨by unfold zr; omega, by unfold zr; omega, q0 _ (Option.some.inj hr).symm _ (by rw [zup_eq ⟨rfl, rfl⟩]; omega) fun a b hab => zup_ne (by unfold fC fL at hab; omega)⟩
theorem l_L_read {f : Nat} {Q : Int → ZI → Prop} {u : Option AV} (hW : Wf sh R) (hl : md = 5 ∨ md = 45) (hR : R 4 1 = md) (hM : Lw sh R md) (hN : N ≤ 200) (hT : ∀ j, j < N → 0 ≤ T j ∧ T j < 256) {d : Nat} (hd : 70 ≤ d) : ∀ (c p : Nat) (C : List Int) (D : List CL) (I : ZI) (r : Int ⊕ (List Int × List CL)), D.length + c = 15 → 1 ≤ D.length → D.length ≤ 14 → p ≤ N → C.length ≤ p → cLs md T N I p C D → rLs T N f c C D p = some r → (∀ a, r = .inl a → ∀ J : ZI, (∀ a b, ¬ fC md a b → J a b = I a b) → Q a J) → (∀ C2 D2, r = .inr (C2, D2) → ∀ (J : ZI) (p2 : Nat), cLs md T N J p2 C2 D2 → (∀ a b, ¬ fC md a b → J a b = I a b) → Q (D2.length : Int) J) → XIs (d + 1) 19 37 [some (.inr 4), u, some (.inl 1), some (.inl (D.length : Int))] [] n sh R I Q
  | 0, p, C, D, I, r, h1, h2, h3, hp, hC, hst, hr, q0, q1 => by omega
  | c + 1, p, C, D, I, r, h1, h2, h3, hp, hC, hst, hr, q0, q1 => b_L_read_37 hW (by rw [hR]; exact hM) (by
    have hr : (if N ≤ p then some (.inr (C, D)) else if nx T N p = 59 then (match rCl T N f D.length (p + 1) C.length with
      | none => none
      | some (.inl a) => some (.inl a)
      | some (.inr y) => rLs T N f c (C ++ y.2.1) (D ++ [(y.2.2.1, C.length, C.length + y.2.2.2, C.length + y.2.1.length)]) y.1) else some (.inl (-1000 - p))) = some r := hr
    have i2 := hst.1.1.1
    have i3 := hst.1.1.2.1
    rw [if_neg (by omega), if_neg (by decide), i2, i3, hR, hst.2.1]
    by_cases g : N ≤ p
    · rw [if_pos g] at hr
      rw [if_pos (by omega), if_neg (by decide)]
      exact q1 C D (Option.some.inj hr).symm I p hst fun _ _ _ => rfl
    rw [if_neg g] at hr
    rw [if_neg (by omega)]
    -- behind a refusal
    have no : ∀ (K : ZI) (a : Int) (x : Int), r = .inl a → K 4 4 = a → (∀ a b, ¬ fC md a b → K a b = I a b) → XIs (d + 1) 19 37 [some (.inr 4), u, some (.inl 0), some (.inl x)] [] n sh R K Q := fun K a x er k1 k2 => by
      refine b_L_read_37 hW (by rw [hR]; exact hM) ?_
      have fin : Q (K 4 4) K := by rw [k1]; exact q0 a er K k2
      rw [if_pos rfl, if_pos rfl]
      split
      · exact fin
      · exact fin
    refine s_L_take hW hl hN (by omega) hst.1 hp (fun g59 J j1 j2 => ?_) (fun g59 J j1 j2 => ?_)
    · rw [if_pos g59] at hr
      have lt := nx_lt g59 (by omega)
      rw [if_neg (by decide)]
      have fcl : ∀ a b, ¬ fC md a b → J a b = I a b := fun a b hab => j2 a b fun c => hab (.inl c)
      have jst : cLs md T N J (p + 1) C D := ⟨j1, by rw [j2 md 7 (by unfold fL; omega)]; exact hst.2.1, hst.2.2.fr fun a b hab => j2 a b (by unfold fL; omega)⟩
      split at hr
      · cases hr
      · rename_i a er1
        refine s_L_clause hW hl hR hM hN hT hd (by omega) (by omega) h3 jst er1 (fun a2 e2 K k1 k2 => ?_) (fun y e2 => by cases e2)
        cases e2
        rw [if_pos rfl]
        exact ⟨by unfold zr; omega, no K a _ (Option.some.inj hr).symm k1 fun a b hab => by rw [k2 a b hab, fcl a b hab]⟩
      · rename_i y er1
        obtain ⟨a1, a2, a3, a4, a5⟩ := rCl_good (by omega) (by omega) (by omega) er1
        refine s_L_clause hW hl hR hM hN hT hd (by omega) (by omega) h3 jst er1 (fun a2 e2 => by cases e2) (fun y2 e2 K k1 k2 => ?_)
        cases e2
        rw [if_neg (by decide)]
        have l1 : (D ++ [(y.2.2.1, C.length, C.length + y.2.2.2, C.length + y.2.1.length)]).length = D.length + 1 := by rw [List.length_append]; rfl
        have l2 : (C ++ y.2.1).length = C.length + y.2.1.length := List.length_append
        refine ⟨by unfold zr; omega, ?_⟩
        have z := l_L_read (u := u) hW hl hR hM hN hT hd c y.1 _ _ K r (by rw [l1]; omega) (by omega) (by omega) a1.2.1 (by omega) k1 hr (fun a e J3 o1 => q0 a e J3 fun a b hab => by rw [o1 a b hab, k2 a b hab, fcl a b hab]) (fun C2 D2 e J3 p2 o1 o2 => q1 C2 D2 e J3 p2 o1 fun a b hab => by rw [o2 a b hab, k2 a b hab, fcl a b hab])
        rw [l1] at z
        rw [show (D.length : Int) + 1 = ((D.length + 1 : Nat) : Int) by omega]
        exact z
    · rw [if_neg g59] at hr
      rw [if_pos rfl]
      exact ⟨by unfold zr; omega, no J _ _ (Option.some.inj hr).symm j1 fun a b hab => j2 a b (by unfold fC fL at hab; omega)⟩)
/-- what a law's text comes to -/
def rTop (T : Nat → Int) (N f : Nat) : Option (Int ⊕ (List Int × List CL)) := match rCl T N f 0 0 0 with
  | none => none
  | some (.inl a) => some (.inl a)
  | some (.inr y) => rLs T N f 14 y.2.1 [(y.2.2.1, 0, y.2.2.2, y.2.1.length)] y.1
theorem s_L_read {d f : Nat} {I : ZI} {Q : Int → ZI → Prop} {r : Int ⊕ (List Int × List CL)} (hW : Wf sh R) (hl : md = 5 ∨ md = 45) (hR : R 4 1 = md) (hM : Lw sh R md) (hN : N ≤ 200) (hT : ∀ j, j < N → 0 ≤ T j ∧ T j < 256) (hI : ∀ j, j < N → I 3 j = T j) (hd : 70 ≤ d) (hr : rTop T N f = some r) (q0 : ∀ a, r = .inl a → ∀ J : ZI, (∀ a b, ¬ fC md a b → ¬ (a = 4 ∧ b = 2) → J a b = I a b) → Q a J) (q1 : ∀ C2 D2, r = .inr (C2, D2) → ∀ (J : ZI) (p2 : Nat), cLs md T N J p2 C2 D2 → (∀ a b, ¬ fC md a b → ¬ (a = 4 ∧ b = 2) → J a b = I a b) → Q (D2.length : Int) J) : XI (d + 1) 19 [.inr 4, .inl (N : Int)] n sh R I Q := by
  refine b_L_read_0 hW (by rw [hR]; exact hM) ?_
  rw [hR]
  refine b_W_clear_0 hW hM ?_
  rw [if_neg (by omega)]
  generalize hJ0 : zup (zup (zup (zup (zup (zup I 4 2 (N : Int)) 4 3 0) 4 4 0) md 7 0) md 8 0) md 9 0 = J0
  have f0 : ∀ a b, ¬ fC md a b → ¬ (a = 4 ∧ b = 2) → J0 a b = I a b := fun a b h1 h2 => by
    unfold fC fL at h1
    rw [← hJ0, zup_ne (by omega), zup_ne (by omega), zup_ne (by omega), zup_ne (by omega), zup_ne (by omega), zup_ne (by omega)]
  have st : cLs md T N J0 0 [] [] := by
    refine ⟨⟨⟨?_, ?_, ?_, ?_, ?_⟩, fun j hj => ?_, fun j hj => absurd hj (by show ¬ j < 0; omega)⟩, ?_, fun c hc => absurd hc (by show ¬ c < 0; omega)⟩
    · rw [← hJ0, zup_ne (by omega), zup_ne (by omega), zup_ne (by omega), zup_ne (by omega), zup_ne (by omega), zup_eq ⟨rfl, rfl⟩]
    · rw [← hJ0, zup_ne (by omega), zup_ne (by omega), zup_ne (by omega), zup_ne (by omega), zup_eq ⟨rfl, rfl⟩]; rfl
    · rw [← hJ0, zup_ne (by omega), zup_eq ⟨rfl, rfl⟩]; rfl
    · rw [← hJ0, zup_eq ⟨rfl, rfl⟩]; exact Int.le_refl 0
    · rw [← hJ0, zup_eq ⟨rfl, rfl⟩]; decide
    · rw [f0 3 j (by unfold fC fL; omega) (by omega)]; exact hI j hj
    · rw [← hJ0, zup_ne (by omega), zup_ne (by omega), zup_eq ⟨rfl, rfl⟩]; rfl
  unfold rTop at hr
  split at hr
  · cases hr
  · rename_i a er1
    refine s_L_clause (f := f) (C := []) (D := []) hW hl hR hM hN hT hd (Nat.zero_le N) (Nat.le_refl 0) (by show 0 ≤ 14; omega) st er1 (fun a2 e2 K k1 k2 => ?_) (fun y e2 => by cases e2)
    cases e2
    refine b_L_read_37 hW (by rw [hR]; exact hM) ?_
    have fin : Q (K 4 4) K := by rw [k1]; exact q0 _ (Option.some.inj hr).symm K fun a b h1 h2 => by rw [k2 a b h1, f0 a b h1 h2]
    rw [if_neg (by decide), if_pos rfl, if_pos rfl]
    exact fin
  · rename_i y er1
    obtain ⟨a1, a2, a3, a4, a5⟩ := rCl_good (by omega) (Nat.le_refl 0) (Nat.zero_le N) er1
    refine s_L_clause (f := f) (C := []) (D := []) hW hl hR hM hN hT hd (Nat.zero_le N) (Nat.le_refl 0) (by show 0 ≤ 14; omega) st er1 (fun a2 e2 => by cases e2) (fun y2 e2 K k1 k2 => ?_)
    cases e2
    have k3 : cLs md T N K y.1 y.2.1 [(y.2.2.1, 0, y.2.2.2, y.2.1.length)] := by
      have z := k1
      simp only [List.nil_append, List.length_nil, Nat.zero_add] at z
      exact z
    exact l_L_read hW hl hR hM hN hT hd 14 y.1 _ _ K r (by show 1 + 14 = 15; omega) (by show 1 ≤ 1; omega) (by show 1 ≤ 14; omega) a1.2.1 (by omega) k3 hr (fun a e J3 o1 => q0 a e J3 fun a b h1 h2 => by rw [o1 a b h1, k2 a b h1, f0 a b h1 h2]) (fun C2 D2 e J3 p2 o1 o2 => q1 C2 D2 e J3 p2 o1 fun a b h1 h2 => by rw [o2 a b h1, k2 a b h1, f0 a b h1 h2])
end LW
