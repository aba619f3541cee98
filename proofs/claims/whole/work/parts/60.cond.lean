-- THE MODEL'S READING: conditions
set_option maxHeartbeats 4000000 in
theorem b_M_lands_u {d n : Nat} {sh : ZS} {R : ZR} {I : ZI} {Q : ZI → Prop} (hW : Wf sh R) {x1 : Int} {u2 : Option AV}
    (k : XI d 161 [.inr 137] n sh R I (fun v1 I2 => (if v1 = 11 then (zr (I2 137 19 - 1)) ∧ (0 ≤ (I2 137 19 - 1) ∧ (I2 137 19 - 1) < 220) ∧ (0 ≤ I2 146 (I2 137 19 - 1).toNat) ∧ (0 ≤ (I2 146 (I2 137 19 - 1).toNat % 1048576) ∧ (I2 146 (I2 137 19 - 1).toNat % 1048576) < 220) ∧ (0 ≤ I2 145 (I2 146 (I2 137 19 - 1).toNat % 1048576).toNat ∧ I2 145 (I2 146 (I2 137 19 - 1).toNat % 1048576).toNat < 2147483648) ∧ (zr (1048576 * (I2 145 (I2 146 (I2 137 19 - 1).toNat % 1048576).toNat / 1048576))) ∧ (zr ((1048576 * (I2 145 (I2 146 (I2 137 19 - 1).toNat % 1048576).toNat / 1048576)) + I2 137 18)) ∧ XVs (d + 1) 169 0 [some (.inr 137), some (.inl x1), some (.inl (I2 146 (I2 137 19 - 1).toNat % 1048576))] [] n sh R (zup (zup I2 145 (I2 146 (I2 137 19 - 1).toNat % 1048576).toNat ((1048576 * (I2 145 (I2 146 (I2 137 19 - 1).toNat % 1048576).toNat / 1048576)) + I2 137 18)) 137 19 (I2 137 19 - 1)) Q else (if x1 = 0 then Q I2 else XI d 161 [.inr 137] n sh R I2 (fun v10 I11 => (if ¬ v10 = 12 then Q I11 else (zr (I11 137 19 - 1)) ∧ (0 ≤ (I11 137 19 - 1) ∧ (I11 137 19 - 1) < 220) ∧ (0 ≤ I11 146 (I11 137 19 - 1).toNat) ∧ (0 ≤ (I11 146 (I11 137 19 - 1).toNat % 1048576) ∧ (I11 146 (I11 137 19 - 1).toNat % 1048576) < 220) ∧ (0 ≤ I11 145 (I11 146 (I11 137 19 - 1).toNat % 1048576).toNat ∧ I11 145 (I11 146 (I11 137 19 - 1).toNat % 1048576).toNat < 2147483648) ∧ (zr (1048576 * (I11 145 (I11 146 (I11 137 19 - 1).toNat % 1048576).toNat / 1048576))) ∧ (zr ((1048576 * (I11 145 (I11 146 (I11 137 19 - 1).toNat % 1048576).toNat / 1048576)) + I11 137 18)) ∧ XVs (d + 1) 169 0 [some (.inr 137), some (.inl x1), some (.inl (I11 146 (I11 137 19 - 1).toNat % 1048576))] [] n sh R (zup (zup I11 145 (I11 146 (I11 137 19 - 1).toNat % 1048576).toNat ((1048576 * (I11 145 (I11 146 (I11 137 19 - 1).toNat % 1048576).toNat / 1048576)) + I11 137 18)) 137 19 (I11 137 19 - 1)) Q)))))) : XVs (d + 1) 169 0 [some (.inr 137), some (.inl x1), u2] [] n sh R I Q := by
  unfold XVs
  refine x_aload_n d169_0 rfl ?_
  refine y_invI (as := []) (t := []) (o := 137) gY_161 d169_1 gY_169.2.2.2 gM_12_223 rfl (sh_137 hW) rfl k (fun v1 I2 k => ?_)
  refine x_bipush d169_4 rfl ?_
  refine x_if2 (pc2 := 22) d169_6 rfl (fun c => ?_) (fun c => ?_)
  · replace c : v1 = 11 := c
    rw [if_pos c] at k
    refine x_aload_n d169_22 rfl ?_
    refine x_getR (r := 146) d169_23 gY_169.2.2.2 gF_12_35 rfl (sh_137 hW) (rf_137_24 hW) (by decide) ?_
    refine x_aload_n d169_26 rfl ?_
    refine x_getI d169_27 gY_169.2.2.2 gF_12_220 rfl (sh_137 hW) ?_
    refine x_iconst d169_30 rfl ?_
    have e3 := k.1
    replace k := k.2
    refine x_isub d169_31 e3 ?_
    have e4 := k.1
    replace k := k.2
    refine x_iald d169_32 (sh_146 hW) e4.1 e4.2 ?_
    refine x_ldc d169_33 gY_169.2.2.2 gK_12_216 rfl ?_
    have e5 := k.1
    replace k := k.2
    refine x_irem d169_35 e5 (by decide) ?_
    refine x_istore_n (ls2 := [some (.inr 137), some (.inl x1), some (.inl (I2 146 (I2 137 19 - 1).toNat % 1048576))]) d169_36 rfl rfl ?_
    refine x_aload_n d169_37 rfl ?_
    refine x_getR (r := 145) d169_38 gY_169.2.2.2 gF_12_32 rfl (sh_137 hW) (rf_137_23 hW) (by decide) ?_
    refine x_iload_n d169_41 rfl ?_
    refine x_ldc d169_42 gY_169.2.2.2 gK_12_216 rfl ?_
    refine x_aload_n d169_44 rfl ?_
    refine x_getR (r := 145) d169_45 gY_169.2.2.2 gF_12_32 rfl (sh_137 hW) (rf_137_23 hW) (by decide) ?_
    refine x_iload_n d169_48 rfl ?_
    have e6 := k.1
    replace k := k.2
    refine x_iald d169_49 (sh_145 hW) e6.1 e6.2 ?_
    refine x_ldc d169_50 gY_169.2.2.2 gK_12_216 rfl ?_
    have e7 := k.1
    replace k := k.2
    refine x_idiv d169_52 e7 (by decide) ?_
    have e8 := k.1
    replace k := k.2
    refine x_imul d169_53 e8 ?_
    refine x_aload_n d169_54 rfl ?_
    refine x_getI d169_55 gY_169.2.2.2 gF_12_213 rfl (sh_137 hW) ?_
    have e9 := k.1
    replace k := k.2
    refine x_iadd d169_58 e9 ?_
    refine x_iast d169_59 (sh_145 hW) e6.1 e6.2 ?_
    refine x_aload_n d169_60 rfl ?_
    refine x_aload_n d169_61 rfl ?_
    refine x_getI d169_62 gY_169.2.2.2 gF_12_220 rfl (sh_137 hW) ?_
    refine x_iconst d169_65 rfl ?_
    refine x_isub d169_66 e3 ?_
    refine x_putI d169_67 gY_169.2.2.2 gF_12_220 rfl rfl (sh_137 hW) ?_
    refine x_goto (pc2 := 0) d169_70 rfl ?_
    exact k
  · replace c : ¬ (v1 = 11) := c
    rw [if_neg c] at k
    refine x_iload_n d169_9 rfl ?_
    refine x_if1 (pc2 := 73) d169_10 rfl (fun c => ?_) (fun c => ?_)
    · replace c : x1 = 0 := c
      rw [if_pos c] at k
      exact x_vret d169_73 gR_169 ⟨_, rfl, rfl, k⟩
    · replace c : ¬ (x1 = 0) := c
      rw [if_neg c] at k
      refine x_aload_n d169_13 rfl ?_
      refine y_invI (as := []) (t := []) (o := 137) gY_161 d169_14 gY_169.2.2.2 gM_12_223 rfl (sh_137 hW) rfl k (fun v10 I11 k => ?_)
      refine x_bipush d169_17 rfl ?_
      refine x_if2 (pc2 := 73) d169_19 rfl (fun c => ?_) (fun c => ?_)
      · replace c : ¬ v10 = 12 := c
        rw [if_pos c] at k
        exact x_vret d169_73 gR_169 ⟨_, rfl, rfl, k⟩
      · replace c : ¬ (¬ v10 = 12) := c
        rw [if_neg c] at k
        refine x_aload_n d169_22 rfl ?_
        refine x_getR (r := 146) d169_23 gY_169.2.2.2 gF_12_35 rfl (sh_137 hW) (rf_137_24 hW) (by decide) ?_
        refine x_aload_n d169_26 rfl ?_
        refine x_getI d169_27 gY_169.2.2.2 gF_12_220 rfl (sh_137 hW) ?_
        refine x_iconst d169_30 rfl ?_
        have e12 := k.1
        replace k := k.2
        refine x_isub d169_31 e12 ?_
        have e13 := k.1
        replace k := k.2
        refine x_iald d169_32 (sh_146 hW) e13.1 e13.2 ?_
        refine x_ldc d169_33 gY_169.2.2.2 gK_12_216 rfl ?_
        have e14 := k.1
        replace k := k.2
        refine x_irem d169_35 e14 (by decide) ?_
        refine x_istore_n (ls2 := [some (.inr 137), some (.inl x1), some (.inl (I11 146 (I11 137 19 - 1).toNat % 1048576))]) d169_36 rfl rfl ?_
        refine x_aload_n d169_37 rfl ?_
        refine x_getR (r := 145) d169_38 gY_169.2.2.2 gF_12_32 rfl (sh_137 hW) (rf_137_23 hW) (by decide) ?_
        refine x_iload_n d169_41 rfl ?_
        refine x_ldc d169_42 gY_169.2.2.2 gK_12_216 rfl ?_
        refine x_aload_n d169_44 rfl ?_
        refine x_getR (r := 145) d169_45 gY_169.2.2.2 gF_12_32 rfl (sh_137 hW) (rf_137_23 hW) (by decide) ?_
        refine x_iload_n d169_48 rfl ?_
        have e15 := k.1
        replace k := k.2
        refine x_iald d169_49 (sh_145 hW) e15.1 e15.2 ?_
        refine x_ldc d169_50 gY_169.2.2.2 gK_12_216 rfl ?_
        have e16 := k.1
        replace k := k.2
        refine x_idiv d169_52 e16 (by decide) ?_
        have e17 := k.1
        replace k := k.2
        refine x_imul d169_53 e17 ?_
        refine x_aload_n d169_54 rfl ?_
        refine x_getI d169_55 gY_169.2.2.2 gF_12_213 rfl (sh_137 hW) ?_
        have e18 := k.1
        replace k := k.2
        refine x_iadd d169_58 e18 ?_
        refine x_iast d169_59 (sh_145 hW) e15.1 e15.2 ?_
        refine x_aload_n d169_60 rfl ?_
        refine x_aload_n d169_61 rfl ?_
        refine x_getI d169_62 gY_169.2.2.2 gF_12_220 rfl (sh_137 hW) ?_
        refine x_iconst d169_65 rfl ?_
        refine x_isub d169_66 e12 ?_
        refine x_putI d169_67 gY_169.2.2.2 gF_12_220 rfl rfl (sh_137 hW) ?_
        refine x_goto (pc2 := 0) d169_70 rfl ?_
        exact k
theorem gd_set : ∀ (C : List Int) (j i : Nat) (v : Int), j < C.length → (C.set j v).getD i 0 = if i = j then v else C.getD i 0
  | [], j, i, v, h => absurd h (by show ¬ j < 0; omega)
  | x :: C, 0, 0, v, h => by rw [if_pos rfl]; rfl
  | x :: C, 0, i + 1, v, h => by rw [if_neg (by omega)]; rfl
  | x :: C, j + 1, 0, v, h => by rw [if_neg (by omega)]; rfl
  | x :: C, j + 1, i + 1, v, h => by
    show (C.set j v).getD i 0 = if i + 1 = j + 1 then v else C.getD i 0
    have h : j + 1 < C.length + 1 := h
    rw [gd_set C j i v (by omega)]
    by_cases e : i = j
    · rw [if_pos e, if_pos (by omega)]
    · rw [if_neg e, if_neg (by omega)]
theorem set_mid : ∀ (C l : List Int) (u v : Int), (C ++ u :: l).set C.length v = C ++ v :: l
  | [], _, _, _ => rfl
  | x :: C, l, u, v => by
    show x :: ((C ++ u :: l).set C.length v) = x :: (C ++ v :: l)
    rw [set_mid C l u v]
/-- how many ! wait on top -/
def nt : List Int → Nat
  | [] => 0
  | x :: W => if x / 1048576 = 10 then 1 + nt W else 0
/-- what is behind the end of a piece -/
def eS : List Int → List Int → Nat → List Int × List Int × Nat
  | [], C, k => (C, [], k)
  | x :: W, C, k => if x / 1048576 = 10 then eS W (C ++ [10485760]) (k - 1) else (C, x :: W, k)
theorem eS_id {W C : List Int} {k : Nat} (h : ¬ hd W = 10) : eS W C k = (C, W, k) := by
  cases W with
  | nil => rfl
  | cons x W => exact if_neg h
theorem nt_0 {W : List Int} (h : ¬ hd W = 10) : nt W = 0 := by
  cases W with
  | nil => rfl
  | cons x W => exact if_neg h
/-- what waits in a condition -/
def wtOk (W : List Int) : Prop := ∀ x, x ∈ W → (10 ≤ x / 1048576 ∧ x / 1048576 ≤ 13) ∧ (x / 1048576 = 10 → x = 10485760)
theorem wtOk.hd {W : List Int} (h : wtOk W) : hd W = -1 ∨ 10 ≤ hd W ∧ hd W ≤ 13 := by
  cases W with
  | nil => exact .inl rfl
  | cons x W => exact .inr (h x List.mem_cons_self).1
theorem wtOk.cons {W : List Int} {x : Int} (h : wtOk W) (h1 : (10 ≤ x / 1048576 ∧ x / 1048576 ≤ 13) ∧ (x / 1048576 = 10 → x = 10485760)) : wtOk (x :: W) := fun y hy => by
  rcases List.mem_cons.mp hy with e | e
  · rw [e]; exact h1
  · exact h y e
/-- a leap whose end is not known yet -/
def isP (op : Int) (C P : List Int) : Prop := P = [] ∨ ∃ j : Nat, j < C.length ∧ P = [1048576 * op + j] ∧ C.getD j 0 = 1048576 * op
def rsv (P C : List Int) : List Int := match P with
  | [] => C
  | x :: _ => C.set (x % 1048576).toNat (1048576 * (x / 1048576) + C.length)
theorem rsv_len {P C : List Int} : (rsv P C).length = C.length := by
  unfold rsv
  split
  · rfl
  · exact List.length_set
theorem rsv_one {op : Int} {j : Nat} {C : List Int} (hj : j < 1000000) : rsv [1048576 * op + j] C = C.set j (1048576 * op + C.length) := by
  show C.set ((1048576 * op + (j : Int)) % 1048576).toNat (1048576 * ((1048576 * op + (j : Int)) / 1048576) + C.length) = _
  rw [show ((1048576 * op + (j : Int)) % 1048576).toNat = j by omega, show (1048576 * op + (j : Int)) / 1048576 = op by omega]
theorem isP.len {op : Int} {C P : List Int} (h : isP op C P) : P.length ≤ 1 := by
  rcases h with rfl | ⟨j, _, rfl, _⟩
  · exact Nat.zero_le 1
  · exact Nat.le_refl 1
theorem isP.val {op : Int} {C P : List Int} (h : isP op C P) (hC : C.length ≤ 200) (x : Int) (hx : x ∈ P) : x / 1048576 = op := by
  rcases h with rfl | ⟨j, h1, rfl, _⟩
  · cases hx
  · rw [List.mem_singleton] at hx; omega
section MC
variable {d n : Nat} {sh : ZS} {R : ZR} {T : Nat → Int} {N : Nat} {x1 : Int}
theorem l_M_ends {Q : ZI → Prop} (hW : Wf sh R) : ∀ (W C : List Int) (I : ZI) (p k : Nat), C.length + nt W ≤ 200 → W.length ≤ 200 → nt W ≤ k → k ≤ 7 → (∀ x, x ∈ W → x / 1048576 = 10 → x = 10485760) → mP T N I p C W k → (∀ J : ZI, mP T N J p (eS W C k).1 (eS W C k).2.1 (eS W C k).2.2 → (∀ a b, ¬ fR a b → J a b = I a b) → Q J) → XVs (d + 1) 168 0 [some (.inr 137)] [] n sh R I Q
  | [], C, I, p, k, hC, hw, hk, hk7, ho, h, q => b_M_endsPiece_0 hW (s_M_waitTop hW hw h (by
      rw [if_pos (by decide)]
      exact q I h fun _ _ _ => rfl))
  | x :: W, C, I, p, k, hC, hw, hk, hk7, ho, h, q => b_M_endsPiece_0 hW (s_M_waitTop hW hw h (by
    have e : hd (x :: W) = x / 1048576 := rfl
    rw [e]
    have en : nt (x :: W) = if x / 1048576 = 10 then 1 + nt W else 0 := rfl
    have ee : eS (x :: W) C k = if x / 1048576 = 10 then eS W (C ++ [10485760]) (k - 1) else (C, x :: W, k) := rfl
    by_cases g : x / 1048576 = 10
    · rw [if_pos g] at en ee
      rw [ee] at q
      have gx := ho x List.mem_cons_self g
      subst gx
      have h3 := h.1.2.2.1
      have h4 := h.1.2.2.2.1
      have h5 := h.1.2.2.2.2
      have e0 : ((10485760 :: W).length : Int) = (W.length : Int) + 1 := by rw [List.length_cons]; omega
      rw [e0] at h4
      have hw2 : W.length + 1 ≤ 200 := hw
      rw [if_neg (not_not_intro g), h3, Int.toNat_natCast]
      refine ⟨by unfold zr; omega, by unfold zr; omega, by omega, by unfold zr; omega, by unfold zr; omega, by unfold zr; omega, ?_⟩
      have cl : (C ++ [(10485760 : Int)]).length = C.length + 1 := by rw [List.length_append]; rfl
      refine l_M_ends hW W (C ++ [10485760]) _ p (k - 1) (by omega) (by omega) (by omega) (by omega) (fun y hy => ho y (List.mem_cons_of_mem _ hy)) ((h.pop (by omega) rfl (by omega)).op (by omega)) fun J j1 j2 => q J j1 fun a b hab => ?_
      have hab2 := hab
      unfold fR at hab2
      rw [j2 a b hab, zup_ne (by omega), zup_ne (by omega), zup_ne (by omega), zup_ne (by omega)]
    · rw [if_neg g] at ee
      rw [ee] at q
      rw [if_pos g]
      exact q I h fun _ _ _ => rfl))
theorem s_M_ends {Q : ZI → Prop} {W C : List Int} {I : ZI} {p k : Nat} (hW : Wf sh R) (hC : C.length + nt W ≤ 200) (hw : W.length ≤ 200) (hk : nt W ≤ k) (hk7 : k ≤ 7) (ho : wtOk W) (h : mP T N I p C W k) (q : ∀ J : ZI, mP T N J p (eS W C k).1 (eS W C k).2.1 (eS W C k).2.2 → (∀ a b, ¬ fR a b → J a b = I a b) → Q J) : XV (d + 1) 168 [.inr 137] n sh R I Q :=
  XV.of (ls := [some (.inr 137)]) (zloc_eq gY_168.2.2.1) (l_M_ends hW W C I p k hC hw hk hk7 (fun x hx => (ho x hx).2) h q)
/-- a leap lands -/
theorem mP.land {I : ZI} {p k j : Nat} {C W : List Int} {x v z : Int} (h : mP T N I p C (x :: W) k) (hj : j < C.length) (hz : z = (W.length : Int)) : mP T N (zup (zup I 145 j v) 137 19 z) p (C.set j v) W k := by
  have e : mP T N (zup I 145 j v) p (C.set j v) (x :: W) k := by
    obtain ⟨⟨h1, h2, h3, h4, h5⟩, h6, h7, h8, h9⟩ := h
    refine ⟨⟨?_, ?_, ?_, ?_, ?_⟩, fun i hi => ?_, fun i hi => ?_, ?_, h9⟩
    · rw [zup_ne (by omega)]; exact h1
    · rw [zup_ne (by omega)]; exact h2
    · rw [zup_ne (by omega), List.length_set]; exact h3
    · rw [zup_ne (by omega)]; exact h4
    · rw [zup_ne (by omega)]; exact h5
    · rw [zup_ne (by omega)]; exact h6 i hi
    · rw [List.length_set] at hi
      rw [gd_set C j i v hj]
      by_cases e : i = j
      · rw [if_pos e, zup_eq ⟨rfl, e⟩]
      · rw [if_neg e, zup_ne (by omega)]; exact h7 i hi
    · have e : (zup I 145 j v) 146 = I 146 := by funext i; rw [zup_ne (by omega)]
      rw [e]; exact h8
  exact e.drop hz
theorem l_M_landE {I : ZI} {Q : ZI → Prop} {p k : Nat} {C W : List Int} {u : Option AV} (hW : Wf sh R) (hw : W.length ≤ 200) (h : mP T N I p C W k) (h11 : ¬ hd W = 11) (h12 : x1 = 0 ∨ ¬ hd W = 12) (q : Q I) : XVs (d + 1) 169 0 [some (.inr 137), some (.inl x1), u] [] n sh R I Q := by
  refine b_M_lands_u hW (s_M_waitTop hW hw h ?_)
  rw [if_neg h11]
  by_cases g : x1 = 0
  · rw [if_pos g]; exact q
  · rw [if_neg g]
    refine s_M_waitTop hW hw h ?_
    rw [if_pos (h12.resolve_left g)]; exact q
theorem l_M_land {I : ZI} {Q : ZI → Prop} {p k j : Nat} {C W : List Int} {op : Int} {u : Option AV} (hW : Wf sh R) (hC : C.length ≤ 200) (hw : W.length < 200) (h : mP T N I p C ((1048576 * op + j) :: W) k) (ho : op = 11 ∨ op = 12 ∧ ¬ x1 = 0) (hj : j < C.length) (hg : C.getD j 0 = 1048576 * op) (q : ∀ J : ZI, mP T N J p (C.set j (1048576 * op + C.length)) W k → (∀ a b, ¬ fR a b → J a b = I a b) → ∀ u, XVs (d + 1) 169 0 [some (.inr 137), some (.inl x1), u] [] n sh R J Q) : XVs (d + 1) 169 0 [some (.inr 137), some (.inl x1), u] [] n sh R I Q := by
  have hl : ((1048576 * op + (j : Int)) :: W).length ≤ 200 := by rw [List.length_cons]; omega
  have e : hd ((1048576 * op + (j : Int)) :: W) = op := by show (1048576 * op + (j : Int)) / 1048576 = op; omega
  have h3 := h.1.2.2.1
  have h4 := h.1.2.2.2.1
  have e0 : (((1048576 * op + (j : Int)) :: W).length : Int) = (W.length : Int) + 1 := by rw [List.length_cons]; omega
  rw [e0] at h4
  have t1 : I 146 W.length = 1048576 * op + j := h.2.2.2.1.1
  have t2 : I 145 j = 1048576 * op := by rw [h.2.2.1 j hj]; exact hg
  have ej : ((1048576 * op + (j : Int)) % 1048576).toNat = j := by omega
  have ei : ((W.length : Int) + 1 - 1).toNat = W.length := by omega
  have fin : (zr (I 137 19 - 1)) ∧ (0 ≤ (I 137 19 - 1) ∧ (I 137 19 - 1) < 220) ∧ (0 ≤ I 146 (I 137 19 - 1).toNat) ∧ (0 ≤ (I 146 (I 137 19 - 1).toNat % 1048576) ∧ (I 146 (I 137 19 - 1).toNat % 1048576) < 220) ∧ (0 ≤ I 145 (I 146 (I 137 19 - 1).toNat % 1048576).toNat ∧ I 145 (I 146 (I 137 19 - 1).toNat % 1048576).toNat < 2147483648) ∧ (zr (1048576 * (I 145 (I 146 (I 137 19 - 1).toNat % 1048576).toNat / 1048576))) ∧ (zr ((1048576 * (I 145 (I 146 (I 137 19 - 1).toNat % 1048576).toNat / 1048576)) + I 137 18)) ∧ XVs (d + 1) 169 0 [some (.inr 137), some (.inl x1), some (.inl (I 146 (I 137 19 - 1).toNat % 1048576))] [] n sh R (zup (zup I 145 (I 146 (I 137 19 - 1).toNat % 1048576).toNat ((1048576 * (I 145 (I 146 (I 137 19 - 1).toNat % 1048576).toNat / 1048576)) + I 137 18)) 137 19 (I 137 19 - 1)) Q := by
    rw [h4, ei, t1, ej, t2, h3]
    have eo : 1048576 * op / 1048576 = op := by omega
    rw [eo]
    refine ⟨by unfold zr; omega, by omega, by omega, by omega, by omega, by unfold zr; omega, by unfold zr; omega, ?_⟩
    exact q _ (h.land hj (by omega)) (fun a b hab => by unfold fR at hab; rw [zup_ne (by omega), zup_ne (by omega)]) _
  refine b_M_lands_u hW (s_M_waitTop hW hl h ?_)
  rw [e]
  by_cases g : op = 11
  · rw [if_pos g]; exact fin
  · rw [if_neg g, if_neg (by omega)]
    refine s_M_waitTop hW hl h ?_
    rw [e, if_neg (not_not_intro (by omega))]
    exact fin
theorem XV.u {Q : ZI → Prop} {I : ZI} (h : XVs (d + 1) 169 0 [some (.inr 137), some (.inl x1), none] [] n sh R I Q) : XV (d + 1) 169 [.inr 137, .inl x1] n sh R I Q := XV.of (ls := [some (.inr 137), some (.inl x1), none]) (zloc_eq gY_169.2.2.1) h
theorem s_M_lands0 {I : ZI} {Q : ZI → Prop} {p k : Nat} {C P W : List Int} (hW : Wf sh R) (hC : C.length ≤ 200) (hw : (P ++ W).length ≤ 200) (hP : isP 11 C P) (h11 : ¬ hd W = 11) (h : mP T N I p C (P ++ W) k) (q : ∀ J : ZI, mP T N J p (rsv P C) W k → (∀ a b, ¬ fR a b → J a b = I a b) → Q J) : XV (d + 1) 169 [.inr 137, .inl 0] n sh R I Q := by
  refine XV.u ?_
  rcases hP with rfl | ⟨j, h1, rfl, h2⟩
  · exact l_M_landE hW hw h h11 (.inl rfl) (q I h fun _ _ _ => rfl)
  · have hw2 : W.length + 1 ≤ 200 := hw
    rw [rsv_one (by omega)] at q
    exact l_M_land (op := 11) (W := W) hW hC (by omega) h (.inl rfl) h1 h2 fun J j1 j2 u => l_M_landE hW (by omega) j1 h11 (.inl rfl) (q J j1 j2)
theorem s_M_lands1 {I : ZI} {Q : ZI → Prop} {p k : Nat} {C P O W : List Int} (hW : Wf sh R) (hC : C.length ≤ 200) (hw : (P ++ (O ++ W)).length ≤ 200) (hP : isP 11 C P) (hO : isP 12 C O) (h11 : ¬ hd W = 11 ∧ ¬ hd W = 12) (h : mP T N I p C (P ++ (O ++ W)) k) (q : ∀ J : ZI, mP T N J p (rsv O (rsv P C)) W k → (∀ a b, ¬ fR a b → J a b = I a b) → Q J) : XV (d + 1) 169 [.inr 137, .inl 1] n sh R I Q := by
  refine XV.u ?_
  have one : ∀ (J : ZI) (C2 : List Int), C2.length = C.length → isP 12 C2 O → (O ++ W).length ≤ 200 → mP T N J p C2 (O ++ W) k → (∀ K : ZI, mP T N K p (rsv O C2) W k → (∀ a b, ¬ fR a b → K a b = J a b) → Q K) → ∀ u, XVs (d + 1) 169 0 [some (.inr 137), some (.inl 1), u] [] n sh R J Q := fun J C2 hC2 hO2 hw2 hJ qq u => by
    rcases hO2 with rfl | ⟨j, h1, rfl, h2⟩
    · exact l_M_landE hW hw2 hJ h11.1 (.inr h11.2) (qq J hJ fun _ _ _ => rfl)
    · have hw3 : W.length + 1 ≤ 200 := hw2
      rw [rsv_one (by omega)] at qq
      exact l_M_land (op := 12) (W := W) hW (by omega) (by omega) hJ (.inr ⟨rfl, by decide⟩) h1 h2 fun K j1 j2 u => l_M_landE hW (by omega) j1 h11.1 (.inr h11.2) (qq K j1 j2)
  rcases hP with rfl | ⟨j, h1, rfl, h2⟩
  · exact one I C rfl hO hw h q none
  · have hw2 : (O ++ W).length + 1 ≤ 200 := hw
    rw [rsv_one (by omega)] at q
    refine l_M_land (op := 11) (W := O ++ W) hW hC (by omega) h (.inl rfl) h1 h2 fun J j1 j2 u => one J _ List.length_set ?_ (by omega) j1 (fun K k1 k2 => q K k1 fun a b hab => by rw [k2 a b hab, j2 a b hab]) u
    rcases hO with rfl | ⟨i, i1, rfl, i2⟩
    · exact .inl rfl
    · refine .inr ⟨i, by rw [List.length_set]; exact i1, rfl, ?_⟩
      rw [gd_set C j i _ h1, if_neg (fun e => by subst e; omega)]
      exact i2
theorem s_M_jumps {I : ZI} {Q : ZI → Prop} {p k : Nat} {C W : List Int} {op : Int} (hW : Wf sh R) (ho : 11 ≤ op ∧ op ≤ 12) (hC : C.length ≤ 200) (hw : W.length ≤ 200) (hp : p ≤ 200) (h : mP T N I p C W k) (q : ∀ J : ZI, mP T N J (p + 1) (C ++ [1048576 * op]) ((1048576 * op + C.length) :: W) k → (∀ a b, ¬ fR a b → J a b = I a b) → Q J) : XV (d + 1) 170 [.inr 137, .inl op] n sh R I Q := by
  have h2 := h.1.2.1
  have h3 := h.1.2.2.1
  have h4 := h.1.2.2.2.1
  refine b_M_jumps_0 hW ?_
  rw [h3, h4, Int.toNat_natCast, Int.toNat_natCast]
  refine ⟨by unfold zr; omega, by unfold zr; omega, by omega, by unfold zr; omega, by unfold zr; omega, by omega, by unfold zr; omega, by unfold zr; omega, q _ ?_ fun a b hab => ?_⟩
  · have z := ((h.push (x := 1048576 * op + C.length) (by omega) rfl).note (x := 1048576 * op + 0) (z := (C.length : Int) + 1) rfl).go (z := I 137 14 + 1) (by omega)
    have e : 1048576 * op + 0 = 1048576 * op := by omega
    rw [e] at z ⊢
    exact z
  · unfold fR at hab
    rw [zup_ne (by omega), zup_ne (by omega), zup_ne (by omega), zup_ne (by omega), zup_ne (by omega)]
theorem s_M_readsSum {I : ZI} {Q : Int → ZI → Prop} {p k f : Nat} {C S : List Int} {r : RR} (hW : Wf sh R) (hN : N ≤ 200) (hT : ∀ j, j < N → 0 ≤ T j ∧ T j < 256) (hk : k ≤ 6) (hp : p ≤ N) (hC : C.length ≤ p) (hS : S.length ≤ p) (hh : hd S < 2 ∨ 6 < hd S) (h : mP T N I p C S k) (hr : rd T N f 2 k p C.length = some r) (hK : mK I Q (fun J q l => mP T N J q (C ++ l) S k → Q 1 J) r) : XI (d + 4) 167 [.inr 137] n sh R I Q := by
  refine b_M_readsSum_0 hW ?_
  rw [h.1.2.2.2.1]
  refine mF.call ?_
  refine (k_all (d := d) (n := n) (S := S) (Q := Q) hW hN hT f).2.2.2.1 k p C [] I r hk hp hC hS hh h hr ?_
  cases r with
  | inl a => exact hK
  | inr y =>
    have a := rd_len _ _ _ _ _ _ _ hp hr
    have a1 : p + 1 ≤ y.1 ∧ y.1 ≤ N ∧ y.2.length + p ≤ y.1 := a
    intro J j1 C2 M A hM hA eC nm na hl2 j2 u
    have hl2 : (M ++ (A ++ S)).length ≤ y.1 := hl2
    have j2 : mP T N J y.1 C2 (M ++ (A ++ S)) k := j2
    have sg : rSg (nx T N y.1) = -1 := by
      rw [rSg_eq, if_neg (by omega)]
      have := (rMul_range (c := nx T N y.1)).1
      omega
    have lC : C2.length < 200 ∨ (M = [] ∧ A = []) := by
      have : (C2 ++ M ++ A).length = C.length + y.2.length := by rw [eC]; exact List.length_append
      rw [List.length_append, List.length_append] at this
      rcases hM with rfl | ⟨o, _, rfl⟩
      · rcases hA with rfl | ⟨o, _, rfl⟩
        · exact .inr ⟨rfl, rfl⟩
        · left
          have e : ([1048576 * o] : List Int).length = 1 := rfl
          omega
      · left
        have e : ([1048576 * o] : List Int).length = 1 := rfl
        omega
    have cl : XV (d + 3) 164 [.inr 137, .inl 1] n sh R J (fun K => Q 1 K) := by
      have fin : ∀ K : ZI, mP T N K y.1 (C2 ++ M ++ A) S k → (∀ a b, ¬ fR a b → K a b = J a b) → Q 1 K := fun K k1 k2 => hK K (fun a b hab => by rw [k2 a b hab, j1 a b hab]) (by rw [← eC]; exact k1)
      rcases lC with lC | ⟨rfl, rfl⟩
      · exact s_M_closes1 hW lC (by omega) hM hA j2 hh fin
      · refine XV.of (ls := [some (.inr 137), some (.inl 1)]) (zloc_eq gY_164.2.2.1) (l_M_closesE hW (by have : S.length ≤ y.1 := hl2; omega) j2 (.inl hh) (fin J (by rw [List.append_nil, List.append_nil]; exact j2) fun _ _ _ => rfl))
    have k3 : mP T N J y.1 C2 (M ++ A ++ S) k := by rw [List.append_assoc]; exact j2
    have hl3 : (M ++ A ++ S).length ≤ 200 := by rw [List.append_assoc]; omega
    have hv : ∀ x, x ∈ M ++ A → ¬ x / 1048576 = 14 := fun x hx => by
      rcases List.mem_append.mp hx with h | h
      · exact hM.val x h
      · exact hA.val x h
    refine b_M_readsSum_14 hW (s_M_here hW hN hT j2 (s_M_sumSign hW ?_))
    rw [sg, if_pos rfl]
    refine s_M_here hW hN hT j2 ?_
    by_cases g4 : nx T N y.1 = 93
    · rw [if_neg (not_not_intro g4)]
      refine s_M_hasNo hW hl3 k3 hv ?_
      rw [if_pos rfl]
      refine s_M_hasNo hW hl3 k3 hv ?_
      rw [if_pos rfl]
      exact cl
    · rw [if_pos g4]
      refine s_M_hasNo hW hl3 k3 hv ?_
      rw [if_pos rfl]
      exact cl
theorem s_M_readsCompared {I : ZI} {Q : Int → ZI → Prop} {p k f : Nat} {C W : List Int} {r : RR} (hW : Wf sh R) (hN : N ≤ 200) (hT : ∀ j, j < N → 0 ≤ T j ∧ T j < 256) (hk : k ≤ 6) (hp : p ≤ N) (hC : C.length + nt W ≤ p) (hw : W.length ≤ p) (hn : nt W ≤ k) (ho : wtOk W) (h : mP T N I p C W k) (hr : rd T N f 3 k p C.length = some r) (hK : mK I Q (fun J q l => mP T N J q (eS W (C ++ l) k).1 (eS W (C ++ l) k).2.1 (eS W (C ++ l) k).2.2 → Q 1 J) r) : XI (d + 5) 171 [.inr 137] n sh R I Q := by
  have hh : hd W < 2 ∨ 6 < hd W := by have := ho.hd; omega
  cases f with
  | zero => cases hr
  | succ f =>
  have hr : rComp T N (rd T N f 2) k p C.length = some r := hr
  refine b_M_readsCompared_0 hW ?_
  rcases rB_cases hr with ⟨a, e1, e2⟩ | ⟨q, l, e1, e2⟩
  · subst e2
    refine s_M_readsSum hW hN hT hk hp (by omega) hw hh h e1 fun J j1 j2 => ?_
    rw [if_neg (by decide)]
    exact hK J j1 j2
  have a := rd_len _ _ _ _ _ _ _ hp e1
  have a1 : p + 1 ≤ q ∧ q ≤ N ∧ l.length + p ≤ q := a
  refine s_M_readsSum hW hN hT hk hp (by omega) hw hh h e1 fun J j1 j2 => ?_
  have j2 : mP T N J q (C ++ l) W k := j2
  have i2 := j2.1.2.1
  have cl : (C ++ l).length = C.length + l.length := List.length_append
  rw [if_pos (by decide)]
  have go : ∀ o : Int, 7 ≤ o ∧ o ≤ 9 → rCmp (nx T N q) = o → (zr (J 137 14 + 1)) ∧ XI (d + 4) 167 [.inr 137] n sh R (zup J 137 14 (J 137 14 + 1)) (fun v12 I13 => (if ¬ v12 = 0 then (zr (1048576 * o)) ∧ (zr ((1048576 * o) + 0)) ∧ (0 ≤ I13 137 18 ∧ I13 137 18 < 220) ∧ (zr (I13 137 18 + 1)) ∧ XV (d + 4) 168 [.inr 137] n sh R (zup (zup I13 145 (I13 137 18).toNat ((1048576 * o) + 0)) 137 18 (I13 137 18 + 1)) (fun I19 => Q 1 I19) else Q 0 I13)) := fun o ho2 hc => by
    have og := rCmp_range (c := nx T N q)
    have lt := nx_lt (T := T) (n := N) (p := q) rfl (og.2 (by omega))
    rw [hc, if_neg (by omega)] at e2
    refine ⟨by unfold zr; omega, ?_⟩
    have fr0 : ∀ a b, ¬ fR a b → (zup J 137 14 (J 137 14 + 1)) a b = I a b := fun a b hab => by rw [zup_ne (by unfold fR at hab; omega), j1 a b hab]
    rcases rB_cases e2 with ⟨a, e3, e4⟩ | ⟨q2, l2, e3, e4⟩
    · subst e4
      refine s_M_readsSum (C := C ++ l) (p := q + 1) (r := .inl a) hW hN hT hk (by omega) (by omega) (by omega) hh (j2.go (by omega)) (by rw [cl]; exact e3) fun M m1 m2 => ?_
      rw [if_neg (by decide)]
      exact hK M m1 fun a b hab => by rw [m2 a b hab, fr0 a b hab]
    · have ef : r = .inr (q2, l ++ l2 ++ [1048576 * o]) := (Option.some.inj e4).symm
      subst ef
      have b := rd_len _ _ _ _ _ _ _ (by omega) e3
      have b1 : q + 1 + 1 ≤ q2 ∧ q2 ≤ N ∧ l2.length + (q + 1) ≤ q2 := b
      refine s_M_readsSum (C := C ++ l) (p := q + 1) (r := .inr (q2, l2)) hW hN hT hk (by omega) (by omega) (by omega) hh (j2.go (by omega)) (by rw [cl]; exact e3) fun M m1 m2 => ?_
      have m2 : mP T N M q2 (C ++ l ++ l2) W k := m2
      have m3 := m2.1.2.2.1
      have cl2 : (C ++ l ++ l2).length = C.length + l.length + l2.length := by rw [List.length_append, cl]
      rw [if_pos (by decide), m3, Int.toNat_natCast]
      refine ⟨by unfold zr; omega, by unfold zr; omega, by omega, by unfold zr; omega, ?_⟩
      have e0 : 1048576 * o + 0 = 1048576 * o := by omega
      rw [e0]
      have z := m2.note (x := 1048576 * o) (z := ((C ++ l ++ l2).length : Int) + 1) rfl
      have cl3 : (C ++ l ++ l2 ++ [1048576 * o]).length = C.length + l.length + l2.length + 1 := by rw [List.length_append, cl2]; rfl
      refine s_M_ends hW (by omega) (by omega) hn (by omega) ho z fun K k1 k2 => hK K (fun a b hab => ?_) ?_
      · have hab2 := hab
        unfold fR at hab2
        rw [k2 a b hab, zup_ne (by omega), zup_ne (by omega), m1 a b hab, fr0 a b hab]
      · show mP T N K q2 (eS W (C ++ (l ++ l2 ++ [1048576 * o])) k).1 _ _
        have e : C ++ (l ++ l2 ++ [1048576 * o]) = C ++ l ++ l2 ++ [1048576 * o] := by simp only [List.append_assoc]
        rw [e]; exact k1
  refine s_M_here hW hN hT j2 ?_
  by_cases g1 : nx T N q = 60
  · rw [if_neg (not_not_intro g1)]; exact go 7 (by omega) (by rw [g1]; decide)
  rw [if_pos g1]
  refine s_M_here hW hN hT j2 ?_
  by_cases g2 : nx T N q = 62
  · rw [if_neg (not_not_intro g2)]; exact go 8 (by omega) (by rw [g2]; decide)
  rw [if_pos g2]
  refine s_M_here hW hN hT j2 ?_
  by_cases g3 : nx T N q = 61
  · rw [if_neg (not_not_intro g3)]; exact go 9 (by omega) (by rw [g3]; decide)
  rw [if_pos g3]
  have hc : rCmp (nx T N q) = -1 := by unfold rCmp; rw [if_neg g1, if_neg g2, if_neg g3]
  rw [hc, if_pos (by decide)] at e2
  have ef : r = .inl (-1000 - q) := (Option.some.inj e2).symm
  subst ef
  exact ⟨by unfold zr; omega, by unfold zr; omega, hK _ (by rw [zup_eq ⟨rfl, rfl⟩]; omega) fun a b hab => by rw [zup_ne (by unfold fR at hab; omega), j1 a b hab]⟩
end MC
