-- WALKS of the methods that swap what fields hold
theorem Wf_up {sh : ZS} {R : ZR} {o k r : Nat} (h : Wf sh R) (hn : (zRfT.all fun q => decide (¬ (q.1 = o ∧ q.2.1 = k))) = true) : Wf sh (zup R o k r) := ⟨h.1, fun q hq => by
  have h1 := of_decide_eq_true (List.all_eq_true.mp hn q hq)
  show (if q.1 = o ∧ q.2.1 = k then r else R q.1 q.2.1) = q.2.2
  rw [if_neg h1]; exact h.2.1 q hq, h.2.2⟩
section XP
variable {d mid pc own n : Nat} {ls : ZL} {t : List AV} {sh : ZS} {R : ZR} {I : ZI} {Q : Option AV → ZW → Prop} {ci k o : Nat} {bc bs : Nat}
theorem x_putRO {i r : Nat} {nm : String} (hd : decode (zB mid) pc = .ok (.putfield i, 3)) (ho : zO mid = own) (hf : zF own i = some (ci, k)) (ht : zTy ci k = .object nm) (hfi : zfin mid ci k = true) (hs : sh o = (10 + ci, zNf ci)) (kk : Ex d mid (pc + 3) ls t (bc, bs, n, sh, zup R o k r, I) Q) : Ex d mid pc ls (.inr r :: .inr o :: t) (bc, bs, n, sh, R, I) Q := Ex.step hd rfl rfl rfl (by
  show zput mid i pc ls (.inr r :: .inr o :: t) (bc, bs, n, sh, R, I) = _
  unfold zput
  rw [ho, hf]
  dsimp only
  rw [if_pos ⟨hs, hfi⟩, ht]
  rfl) kk
theorem x_putRA {i r : Nat} {ft : FieldType} (hd : decode (zB mid) pc = .ok (.putfield i, 3)) (ho : zO mid = own) (hf : zF own i = some (ci, k)) (ht : zTy ci k = .array ft) (hfi : zfin mid ci k = true) (hs : sh o = (10 + ci, zNf ci)) (kk : Ex d mid (pc + 3) ls t (bc, bs, n, sh, zup R o k r, I) Q) : Ex d mid pc ls (.inr r :: .inr o :: t) (bc, bs, n, sh, R, I) Q := Ex.step hd rfl rfl rfl (by
  show zput mid i pc ls (.inr r :: .inr o :: t) (bc, bs, n, sh, R, I) = _
  unfold zput
  rw [ho, hf]
  dsimp only
  rw [if_pos ⟨hs, hfi⟩, ht]
  rfl) kk
end XP
def XR (d y : Nat) (as : List AV) (n : Nat) (sh : ZS) (R : ZR) (I : ZI) (Qf : Int → ZI → ZR → Prop) : Prop := Ex d y 0 (zloc y as) [] (0, 0, n, sh, R, I) (fun r w2 => ∃ v I' R', r = some (.inl v) ∧ w2 = (0, 0, n, sh, R', I') ∧ Wf sh R' ∧ Qf v I' R')
def XRs (d mid pc : Nat) (ls : ZL) (st : List AV) (n : Nat) (sh : ZS) (R : ZR) (I : ZI) (Qf : Int → ZI → ZR → Prop) : Prop := Ex d mid pc ls st (0, 0, n, sh, R, I) (fun r w2 => ∃ v I' R', r = some (.inl v) ∧ w2 = (0, 0, n, sh, R', I') ∧ Wf sh R' ∧ Qf v I' R')
theorem XR.of {d y n : Nat} {as : List AV} {ls : ZL} {sh : ZS} {R : ZR} {I : ZI} {Q : Int → ZI → ZR → Prop} (hl : zloc y as = ls) (h : XRs d y 0 ls [] n sh R I Q) : XR d y as n sh R I Q := by subst hl; exact h
section YR
variable {d mid pc own n na m c : Nat} {ls ls2 : ZL} {t : List AV} {sh : ZS} {R : ZR} {I : ZI} {Q : Option AV → ZW → Prop} {o y i bc bs : Nat} {as : List AV}
theorem y_invR {P : Int → ZI → ZR → Prop} (hy : zA y = na ∧ zMc y = (0, 0) ∧ zL y = m ∧ zO y = c) (hd : decode (zB mid) pc = .ok (.invokevirtual i, 3)) (ho : zO mid = own) (hM : zM own i = some (0, y)) (hA : as.length = na) (hs : sh o = (10 + c, zNf c)) (hq : (decide (c < 13) && decide (t.length ≤ 8) && decide (as.length + 1 ≤ m) && decide (m ≤ 20)) = true)
    (k : XR d y (.inr o :: as) n sh R I P) (kk : ∀ v I' R', Wf sh R' → P v I' R' → Ex (d + 1) mid (pc + 3) ls (.inl v :: t) (bc, bs, n, sh, R', I') Q) : Ex (d + 1) mid pc ls (as.reverse ++ .inr o :: t) (bc, bs, n, sh, R, I) Q := by
  obtain ⟨h1, h2, h3, h4⟩ := hy
  obtain ⟨q1, q2, q3, q4⟩ := zq4 hq
  exact x_inv hd ho hM (h1.trans hA.symm) (by rw [h4]; exact hs) (by rw [h4]; exact of_decide_eq_true q1) (of_decide_eq_true q2) h2 (by rw [h3]; exact ⟨of_decide_eq_true q3, of_decide_eq_true q4⟩) rfl (Ex.mono k fun r w2 ⟨v, I', R', a, b, hw, c⟩ => by subst a; subst b; exact kk v I' R' hw c)
end YR
set_option maxHeartbeats 4000000 in
theorem b_A_goDeeper_0 {d n : Nat} {sh : ZS} {R : ZR} {I : ZI} {Q : Int → ZI → ZR → Prop} (hW : Wf sh R) {x1 : Int} {x2 : Int}
    (k : XRs (d + 2) 76 5 [some (.inr 61), some (.inl x1), some (.inl x2), some (.inl 0), some (.inl x1), none] [] n sh R I Q) : XR (d + 2) 76 [.inr 61, .inl x1, .inl x2] n sh R I Q := by
  refine XR.of (ls := [some (.inr 61), some (.inl x1), some (.inl x2), none, none, none]) (zloc_eq gY_76.2.2.1) ?_
  unfold XRs
  refine x_iconst d76_0 rfl ?_
  refine x_istore_n (ls2 := [some (.inr 61), some (.inl x1), some (.inl x2), some (.inl 0), none, none]) d76_1 rfl rfl ?_
  refine x_iload_n d76_2 rfl ?_
  refine x_istore (ls2 := [some (.inr 61), some (.inl x1), some (.inl x2), some (.inl 0), some (.inl x1), none]) d76_3 rfl rfl ?_
  exact k
set_option maxHeartbeats 4000000 in
theorem b_A_goDeeper_5 {d n : Nat} {sh : ZS} {R : ZR} {I : ZI} {Q : Int → ZI → ZR → Prop} (hW : Wf sh R) (hKn : Kn sh R (R 61 4) 20 20) (hDp : Kn sh R (R 61 5) 20 20) {x1 : Int} {x2 : Int} {x3 : Int} {x4 : Int} {u5 : Option AV}
    (k : (if x2 < x4 then (x3 = 0 ∨ x3 = 1) ∧ Q x3 I (zup (zup R 61 4 (R 61 5)) 61 5 (R 61 4)) else XV (d + 1) 77 [.inr 61, .inl x1, .inl x4] n sh R I (fun I3 => XRs (d + 2) 76 21 [some (.inr 61), some (.inl x1), some (.inl x2), some (.inl x3), some (.inl x4), some (.inl x1)] [] n sh R I3 Q))) : XRs (d + 2) 76 5 [some (.inr 61), some (.inl x1), some (.inl x2), some (.inl x3), some (.inl x4), u5] [] n sh R I Q := by
  unfold XRs
  refine x_iload d76_5 rfl ?_
  refine x_iload_n d76_7 rfl ?_
  refine x_if2 (pc2 := 104) d76_8 rfl (fun c => ?_) (fun c => ?_)
  · replace c : x2 < x4 := c
    rw [if_pos c] at k
    refine x_aload_n d76_104 rfl ?_
    refine x_getR (r := (R 61 4)) d76_105 gY_76.2.2.2 gF_8_23 rfl (sh_61 hW) rfl hKn.2.2 ?_
    refine x_astore (ls2 := [some (.inr 61), some (.inl x1), some (.inl x2), some (.inl x3), some (.inr (R 61 4)), u5]) d76_108 rfl rfl ?_
    refine x_aload_n d76_110 rfl ?_
    refine x_aload_n d76_111 rfl ?_
    refine x_getR (r := (R 61 5)) d76_112 gY_76.2.2.2 gF_8_26 rfl (sh_61 hW) rfl hDp.2.2 ?_
    refine x_putRA d76_115 gY_76.2.2.2 gF_8_23 rfl rfl (sh_61 hW) ?_
    refine x_aload_n d76_118 rfl ?_
    refine x_aload d76_119 rfl ?_
    refine x_putRA d76_121 gY_76.2.2.2 gF_8_26 rfl rfl (sh_61 (Wf_up (o := 61) (k := 4) (r := (R 61 5)) hW (by decide))) ?_
    refine x_iload_n d76_124 rfl ?_
    have e1 := k.1
    replace k := k.2
    exact x_zret d76_125 gR_76 e1 ⟨_, _, _, rfl, rfl, (Wf_up (o := 61) (k := 5) (r := (R 61 4)) (Wf_up (o := 61) (k := 4) (r := (R 61 5)) hW (by decide)) (by decide)), k⟩
  · replace c : ¬ (x2 < x4) := c
    rw [if_neg c] at k
    refine x_aload_n d76_11 rfl ?_
    refine x_iload_n d76_12 rfl ?_
    refine x_iload d76_13 rfl ?_
    refine y_invV (as := [.inl x1, .inl x4]) (t := []) (o := 61) gY_77 d76_15 gY_76.2.2.2 gM_8_45 rfl (sh_61 hW) rfl k (fun I3 k => ?_)
    refine x_iload_n d76_18 rfl ?_
    refine x_istore (ls2 := [some (.inr 61), some (.inl x1), some (.inl x2), some (.inl x3), some (.inl x4), some (.inl x1)]) d76_19 rfl rfl ?_
    exact k
set_option maxHeartbeats 4000000 in
theorem b_A_goDeeper_21 {d n : Nat} {sh : ZS} {R : ZR} {I : ZI} {Q : Int → ZI → ZR → Prop} (hW : Wf sh R) (hKn : Kn sh R (R 61 4) 20 20) (hDp : Kn sh R (R 61 5) 20 20) {x1 : Int} {x2 : Int} {x3 : Int} {x4 : Int} {x5 : Int}
    (k : (if x4 < x5 then (zr (x4 + 1)) ∧ XRs (d + 2) 76 5 [some (.inr 61), some (.inl x1), some (.inl x2), some (.inl x3), some (.inl (x4 + 1)), some (.inl x5)] [] n sh R I Q else (0 ≤ x5 ∧ x5 < 20) ∧ (zr (x4 + 1)) ∧ (0 ≤ (x4 + 1) ∧ (x4 + 1) < 21) ∧ (0 ≤ x5 ∧ x5 < 21) ∧ (zr (I 63 (x4 + 1).toNat - I 63 (x5).toNat)) ∧ (if 1 < (I 63 (x4 + 1).toNat - I 63 (x5).toNat) then XI (d + 1) 79 [.inr 61, .inl x5, .inl x4] n sh R I (fun v8 I9 => (0 ≤ x4 ∧ x4 < 20) ∧ (if (zup I9 ((R 61 5) + 1 + (x5).toNat) (x4).toNat v8) ((R 61 4) + 1 + (x5).toNat) (x4).toNat ≤ (zup I9 ((R 61 5) + 1 + (x5).toNat) (x4).toNat v8) ((R 61 5) + 1 + (x5).toNat) (x4).toNat then (zr (x5 + 1)) ∧ XRs (d + 2) 76 21 [some (.inr 61), some (.inl x1), some (.inl x2), some (.inl (zor x3 0)), some (.inl x4), some (.inl (x5 + 1))] [] n sh R (zup I9 ((R 61 5) + 1 + (x5).toNat) (x4).toNat v8) Q else (zr (x5 + 1)) ∧ XRs (d + 2) 76 21 [some (.inr 61), some (.inl x1), some (.inl x2), some (.inl (zor x3 1)), some (.inl x4), some (.inl (x5 + 1))] [] n sh R (zup I9 ((R 61 5) + 1 + (x5).toNat) (x4).toNat v8) Q)) else (0 ≤ x4 ∧ x4 < 20) ∧ (if (zup I ((R 61 5) + 1 + (x5).toNat) (x4).toNat 0) ((R 61 4) + 1 + (x5).toNat) (x4).toNat ≤ (zup I ((R 61 5) + 1 + (x5).toNat) (x4).toNat 0) ((R 61 5) + 1 + (x5).toNat) (x4).toNat then (zr (x5 + 1)) ∧ XRs (d + 2) 76 21 [some (.inr 61), some (.inl x1), some (.inl x2), some (.inl (zor x3 0)), some (.inl x4), some (.inl (x5 + 1))] [] n sh R (zup I ((R 61 5) + 1 + (x5).toNat) (x4).toNat 0) Q else (zr (x5 + 1)) ∧ XRs (d + 2) 76 21 [some (.inr 61), some (.inl x1), some (.inl x2), some (.inl (zor x3 1)), some (.inl x4), some (.inl (x5 + 1))] [] n sh R (zup I ((R 61 5) + 1 + (x5).toNat) (x4).toNat 0) Q)))) : XRs (d + 2) 76 21 [some (.inr 61), some (.inl x1), some (.inl x2), some (.inl x3), some (.inl x4), some (.inl x5)] [] n sh R I Q := by
  unfold XRs
  refine x_iload d76_21 rfl ?_
  refine x_iload d76_23 rfl ?_
  refine x_if2 (pc2 := 98) d76_25 rfl (fun c => ?_) (fun c => ?_)
  · replace c : x4 < x5 := c
    rw [if_pos c] at k
    have e1 := k.1
    replace k := k.2
    refine x_iinc (ls2 := [some (.inr 61), some (.inl x1), some (.inl x2), some (.inl x3), some (.inl (x4 + 1)), some (.inl x5)]) d76_98 rfl e1 rfl ?_
    refine x_goto (pc2 := 5) d76_101 rfl ?_
    exact k
  · replace c : ¬ (x4 < x5) := c
    rw [if_neg c] at k
    refine x_aload_n d76_28 rfl ?_
    refine x_getR (r := (R 61 5)) d76_29 gY_76.2.2.2 gF_8_26 rfl (sh_61 hW) rfl hDp.2.2 ?_
    refine x_iload d76_32 rfl ?_
    have e3 := k.1
    replace k := k.2
    have hj2 := hDp.2.1 (x5).toNat (by omega)
    refine x_aald (q := ((R 61 5) + 1 + (x5).toNat)) d76_34 hDp.1 e3.1 e3.2 hj2.1 (by omega) ?_
    refine x_iload d76_35 rfl ?_
    refine x_aload_n d76_37 rfl ?_
    refine x_iload d76_38 rfl ?_
    refine x_iload d76_40 rfl ?_
    refine y_inv (as := [.inl x5, .inl x4]) (t := [.inl x4, .inr ((R 61 5) + 1 + (x5).toNat)]) (o := 61) (ls2 := [some (.inr 61), some (.inl x5), some (.inl x4)]) gY_74 d76_42 gY_76.2.2.2 gM_8_37 rfl (sh_61 hW) rfl rfl ?_
    refine x_aload_n d74_0 rfl ?_
    refine x_getR (r := 63) d74_1 gY_74.2.2.2 gF_8_15 rfl (sh_61 hW) (rf_61_2 hW) (by decide) ?_
    refine x_iload_n d74_4 rfl ?_
    refine x_iconst d74_5 rfl ?_
    have e4 := k.1
    replace k := k.2
    refine x_iadd d74_6 e4 ?_
    have e5 := k.1
    replace k := k.2
    refine x_iald d74_7 (sh_63 hW) e5.1 e5.2 ?_
    refine x_aload_n d74_8 rfl ?_
    refine x_getR (r := 63) d74_9 gY_74.2.2.2 gF_8_15 rfl (sh_61 hW) (rf_61_2 hW) (by decide) ?_
    refine x_iload_n d74_12 rfl ?_
    have e6 := k.1
    replace k := k.2
    refine x_iald d74_13 (sh_63 hW) e6.1 e6.2 ?_
    have e7 := k.1
    replace k := k.2
    refine x_isub d74_14 e7 ?_
    refine x_iconst d74_15 rfl ?_
    refine x_if2 (pc2 := 23) d74_16 rfl (fun c => ?_) (fun c => ?_)
    · replace c : 1 < (I 63 (x4 + 1).toNat - I 63 (x5).toNat) := c
      rw [if_pos c] at k
      refine x_iconst d74_23 rfl ?_
      refine x_zret d74_24 gR_74 (by decide) ?_
      show Ex (d + 2) 76 45 [some (.inr 61), some (.inl x1), some (.inl x2), some (.inl x3), some (.inl x4), some (.inl x5)] [.inl 0, .inl x4, .inr ((R 61 5) + 1 + (x5).toNat)] (0, 0, n, sh, R, I) _
      refine x_if1 (pc2 := 52) d76_45 rfl (fun _ => ?_) (fun c => absurd (show (0 : Int) = 0 by decide) c)
      refine x_aload_n d76_52 rfl ?_
      refine x_iload d76_53 rfl ?_
      refine x_iload d76_55 rfl ?_
      refine y_invI (as := [.inl x5, .inl x4]) (t := [.inl x4, .inr ((R 61 5) + 1 + (x5).toNat)]) (o := 61) gY_79 d76_57 gY_76.2.2.2 gM_8_49 rfl (sh_61 hW) rfl k (fun v8 I9 k => ?_)
      have e10 := k.1
      replace k := k.2
      refine x_iast d76_60 hj2.2 e10.1 e10.2 ?_
      refine x_iload_n d76_61 rfl ?_
      refine x_aload_n d76_62 rfl ?_
      refine x_getR (r := (R 61 5)) d76_63 gY_76.2.2.2 gF_8_26 rfl (sh_61 hW) rfl hDp.2.2 ?_
      refine x_iload d76_66 rfl ?_
      have hj11 := hDp.2.1 (x5).toNat (by omega)
      refine x_aald (q := ((R 61 5) + 1 + (x5).toNat)) d76_68 hDp.1 e3.1 e3.2 hj11.1 (by omega) ?_
      refine x_iload d76_69 rfl ?_
      refine x_iald d76_71 hj11.2 e10.1 e10.2 ?_
      refine x_aload_n d76_72 rfl ?_
      refine x_getR (r := (R 61 4)) d76_73 gY_76.2.2.2 gF_8_23 rfl (sh_61 hW) rfl hKn.2.2 ?_
      refine x_iload d76_76 rfl ?_
      have hj12 := hKn.2.1 (x5).toNat (by omega)
      refine x_aald (q := ((R 61 4) + 1 + (x5).toNat)) d76_78 hKn.1 e3.1 e3.2 hj12.1 (by omega) ?_
      refine x_iload d76_79 rfl ?_
      refine x_iald d76_81 hj12.2 e10.1 e10.2 ?_
      refine x_if2 (pc2 := 89) d76_82 rfl (fun c => ?_) (fun c => ?_)
      · replace c : (zup I9 ((R 61 5) + 1 + (x5).toNat) (x4).toNat v8) ((R 61 4) + 1 + (x5).toNat) (x4).toNat ≤ (zup I9 ((R 61 5) + 1 + (x5).toNat) (x4).toNat v8) ((R 61 5) + 1 + (x5).toNat) (x4).toNat := c
        rw [if_pos c] at k
        refine x_iconst d76_89 rfl ?_
        refine x_ior d76_90 ?_
        refine x_istore_n (ls2 := [some (.inr 61), some (.inl x1), some (.inl x2), some (.inl (zor x3 0)), some (.inl x4), some (.inl x5)]) d76_91 rfl rfl ?_
        have e13 := k.1
        replace k := k.2
        refine x_iinc (ls2 := [some (.inr 61), some (.inl x1), some (.inl x2), some (.inl (zor x3 0)), some (.inl x4), some (.inl (x5 + 1))]) d76_92 rfl e13 rfl ?_
        refine x_goto (pc2 := 21) d76_95 rfl ?_
        exact k
      · replace c : ¬ ((zup I9 ((R 61 5) + 1 + (x5).toNat) (x4).toNat v8) ((R 61 4) + 1 + (x5).toNat) (x4).toNat ≤ (zup I9 ((R 61 5) + 1 + (x5).toNat) (x4).toNat v8) ((R 61 5) + 1 + (x5).toNat) (x4).toNat) := c
        rw [if_neg c] at k
        refine x_iconst d76_85 rfl ?_
        refine x_goto (pc2 := 90) d76_86 rfl ?_
        refine x_ior d76_90 ?_
        refine x_istore_n (ls2 := [some (.inr 61), some (.inl x1), some (.inl x2), some (.inl (zor x3 1)), some (.inl x4), some (.inl x5)]) d76_91 rfl rfl ?_
        have e14 := k.1
        replace k := k.2
        refine x_iinc (ls2 := [some (.inr 61), some (.inl x1), some (.inl x2), some (.inl (zor x3 1)), some (.inl x4), some (.inl (x5 + 1))]) d76_92 rfl e14 rfl ?_
        refine x_goto (pc2 := 21) d76_95 rfl ?_
        exact k
    · replace c : ¬ (1 < (I 63 (x4 + 1).toNat - I 63 (x5).toNat)) := c
      rw [if_neg c] at k
      refine x_iconst d74_19 rfl ?_
      refine x_goto (pc2 := 24) d74_20 rfl ?_
      refine x_zret d74_24 gR_74 (by decide) ?_
      show Ex (d + 2) 76 45 [some (.inr 61), some (.inl x1), some (.inl x2), some (.inl x3), some (.inl x4), some (.inl x5)] [.inl 1, .inl x4, .inr ((R 61 5) + 1 + (x5).toNat)] (0, 0, n, sh, R, I) _
      refine x_if1 (pc2 := 52) d76_45 rfl (fun c => absurd (show (1 : Int) = 0 from c) (by decide)) (fun _ => ?_)
      refine x_iconst d76_48 rfl ?_
      refine x_goto (pc2 := 60) d76_49 rfl ?_
      have e15 := k.1
      replace k := k.2
      refine x_iast d76_60 hj2.2 e15.1 e15.2 ?_
      refine x_iload_n d76_61 rfl ?_
      refine x_aload_n d76_62 rfl ?_
      refine x_getR (r := (R 61 5)) d76_63 gY_76.2.2.2 gF_8_26 rfl (sh_61 hW) rfl hDp.2.2 ?_
      refine x_iload d76_66 rfl ?_
      have hj16 := hDp.2.1 (x5).toNat (by omega)
      refine x_aald (q := ((R 61 5) + 1 + (x5).toNat)) d76_68 hDp.1 e3.1 e3.2 hj16.1 (by omega) ?_
      refine x_iload d76_69 rfl ?_
      refine x_iald d76_71 hj16.2 e15.1 e15.2 ?_
      refine x_aload_n d76_72 rfl ?_
      refine x_getR (r := (R 61 4)) d76_73 gY_76.2.2.2 gF_8_23 rfl (sh_61 hW) rfl hKn.2.2 ?_
      refine x_iload d76_76 rfl ?_
      have hj17 := hKn.2.1 (x5).toNat (by omega)
      refine x_aald (q := ((R 61 4) + 1 + (x5).toNat)) d76_78 hKn.1 e3.1 e3.2 hj17.1 (by omega) ?_
      refine x_iload d76_79 rfl ?_
      refine x_iald d76_81 hj17.2 e15.1 e15.2 ?_
      refine x_if2 (pc2 := 89) d76_82 rfl (fun c => ?_) (fun c => ?_)
      · replace c : (zup I ((R 61 5) + 1 + (x5).toNat) (x4).toNat 0) ((R 61 4) + 1 + (x5).toNat) (x4).toNat ≤ (zup I ((R 61 5) + 1 + (x5).toNat) (x4).toNat 0) ((R 61 5) + 1 + (x5).toNat) (x4).toNat := c
        rw [if_pos c] at k
        refine x_iconst d76_89 rfl ?_
        refine x_ior d76_90 ?_
        refine x_istore_n (ls2 := [some (.inr 61), some (.inl x1), some (.inl x2), some (.inl (zor x3 0)), some (.inl x4), some (.inl x5)]) d76_91 rfl rfl ?_
        have e18 := k.1
        replace k := k.2
        refine x_iinc (ls2 := [some (.inr 61), some (.inl x1), some (.inl x2), some (.inl (zor x3 0)), some (.inl x4), some (.inl (x5 + 1))]) d76_92 rfl e18 rfl ?_
        refine x_goto (pc2 := 21) d76_95 rfl ?_
        exact k
      · replace c : ¬ ((zup I ((R 61 5) + 1 + (x5).toNat) (x4).toNat 0) ((R 61 4) + 1 + (x5).toNat) (x4).toNat ≤ (zup I ((R 61 5) + 1 + (x5).toNat) (x4).toNat 0) ((R 61 5) + 1 + (x5).toNat) (x4).toNat) := c
        rw [if_neg c] at k
        refine x_iconst d76_85 rfl ?_
        refine x_goto (pc2 := 90) d76_86 rfl ?_
        refine x_ior d76_90 ?_
        refine x_istore_n (ls2 := [some (.inr 61), some (.inl x1), some (.inl x2), some (.inl (zor x3 1)), some (.inl x4), some (.inl x5)]) d76_91 rfl rfl ?_
        have e19 := k.1
        replace k := k.2
        refine x_iinc (ls2 := [some (.inr 61), some (.inl x1), some (.inl x2), some (.inl (zor x3 1)), some (.inl x4), some (.inl (x5 + 1))]) d76_92 rfl e19 rfl ?_
        refine x_goto (pc2 := 21) d76_95 rfl ?_
        exact k
set_option maxHeartbeats 4000000 in
theorem b_A_fewest_0 {d n : Nat} {sh : ZS} {R : ZR} {I : ZI} {Q : Int → ZI → ZR → Prop} (hW : Wf sh R) {s1 : Nat} (hS1 : St sh R s1) {x2 : Int} {x3 : Int} {x4 : Int}
    (k : XV (d + 2) 73 [.inr 61, .inr s1] n sh R I (fun I2 => (zr (x3 + 1)) ∧ (0 ≤ (x3 + 1) ∧ (x3 + 1) < 21) ∧ (0 ≤ x2 ∧ x2 < 21) ∧ (zr (I2 63 (x3 + 1).toNat - I2 63 (x2).toNat)) ∧ (if 1 < (I2 63 (x3 + 1).toNat - I2 63 (x2).toNat) then XRs (d + 3) 72 19 [some (.inr 61), some (.inr s1), some (.inl x2), some (.inl x3), some (.inl x4), some (.inl x2), none] [] n sh R I2 Q else Q 0 I2 R))) : XR (d + 3) 72 [.inr 61, .inr s1, .inl x2, .inl x3, .inl x4] n sh R I Q := by
  refine XR.of (ls := [some (.inr 61), some (.inr s1), some (.inl x2), some (.inl x3), some (.inl x4), none, none]) (zloc_eq gY_72.2.2.1) ?_
  unfold XRs
  refine x_aload_n d72_0 rfl ?_
  refine x_aload_n d72_1 rfl ?_
  refine y_invV (as := [.inr s1]) (t := []) (o := 61) gY_73 d72_2 gY_72.2.2.2 gM_8_33 rfl (sh_61 hW) rfl k (fun I2 k => ?_)
  refine x_aload_n d72_5 rfl ?_
  refine x_iload_n d72_6 rfl ?_
  refine x_iload_n d72_7 rfl ?_
  refine y_inv (as := [.inl x2, .inl x3]) (t := []) (o := 61) (ls2 := [some (.inr 61), some (.inl x2), some (.inl x3)]) gY_74 d72_8 gY_72.2.2.2 gM_8_37 rfl (sh_61 hW) rfl rfl ?_
  refine x_aload_n d74_0 rfl ?_
  refine x_getR (r := 63) d74_1 gY_74.2.2.2 gF_8_15 rfl (sh_61 hW) (rf_61_2 hW) (by decide) ?_
  refine x_iload_n d74_4 rfl ?_
  refine x_iconst d74_5 rfl ?_
  have e3 := k.1
  replace k := k.2
  refine x_iadd d74_6 e3 ?_
  have e4 := k.1
  replace k := k.2
  refine x_iald d74_7 (sh_63 hW) e4.1 e4.2 ?_
  refine x_aload_n d74_8 rfl ?_
  refine x_getR (r := 63) d74_9 gY_74.2.2.2 gF_8_15 rfl (sh_61 hW) (rf_61_2 hW) (by decide) ?_
  refine x_iload_n d74_12 rfl ?_
  have e5 := k.1
  replace k := k.2
  refine x_iald d74_13 (sh_63 hW) e5.1 e5.2 ?_
  have e6 := k.1
  replace k := k.2
  refine x_isub d74_14 e6 ?_
  refine x_iconst d74_15 rfl ?_
  refine x_if2 (pc2 := 23) d74_16 rfl (fun c => ?_) (fun c => ?_)
  · replace c : 1 < (I2 63 (x3 + 1).toNat - I2 63 (x2).toNat) := c
    rw [if_pos c] at k
    refine x_iconst d74_23 rfl ?_
    refine x_zret d74_24 gR_74 (by decide) ?_
    show Ex (d + 3) 72 11 [some (.inr 61), some (.inr s1), some (.inl x2), some (.inl x3), some (.inl x4), none, none] [.inl 0] (0, 0, n, sh, R, I2) _
    refine x_if1 (pc2 := 16) d72_11 rfl (fun _ => ?_) (fun c => absurd (show (0 : Int) = 0 by decide) c)
    refine x_iload_n d72_16 rfl ?_
    refine x_istore (ls2 := [some (.inr 61), some (.inr s1), some (.inl x2), some (.inl x3), some (.inl x4), some (.inl x2), none]) d72_17 rfl rfl ?_
    exact k
  · replace c : ¬ (1 < (I2 63 (x3 + 1).toNat - I2 63 (x2).toNat)) := c
    rw [if_neg c] at k
    refine x_iconst d74_19 rfl ?_
    refine x_goto (pc2 := 24) d74_20 rfl ?_
    refine x_zret d74_24 gR_74 (by decide) ?_
    show Ex (d + 3) 72 11 [some (.inr 61), some (.inr s1), some (.inl x2), some (.inl x3), some (.inl x4), none, none] [.inl 1] (0, 0, n, sh, R, I2) _
    refine x_if1 (pc2 := 16) d72_11 rfl (fun c => absurd (show (1 : Int) = 0 from c) (by decide)) (fun _ => ?_)
    refine x_iconst d72_14 rfl ?_
    exact x_iret d72_15 gR_72 ⟨_, _, _, rfl, rfl, hW, k⟩
set_option maxHeartbeats 4000000 in
theorem b_A_fewest_19 {d n : Nat} {sh : ZS} {R : ZR} {I : ZI} {Q : Int → ZI → ZR → Prop} (hW : Wf sh R) {s1 : Nat} (hS1 : St sh R s1) {u1 : Option AV} {x2 : Int} {x3 : Int} {x4 : Int} {x5 : Int} {u6 : Option AV}
    (k : (if x3 < x5 then XRs (d + 3) 72 80 [some (.inr 61), u1, some (.inl x2), some (.inl x3), some (.inl x4), some (.inl 1), some (.inl 1)] [] n sh R I Q else XRs (d + 3) 72 29 [some (.inr 61), u1, some (.inl x2), some (.inl x3), some (.inl x4), some (.inl x5), some (.inl x5)] [] n sh R I Q)) : XRs (d + 3) 72 19 [some (.inr 61), u1, some (.inl x2), some (.inl x3), some (.inl x4), some (.inl x5), u6] [] n sh R I Q := by
  unfold XRs
  refine x_iload d72_19 rfl ?_
  refine x_iload_n d72_21 rfl ?_
  refine x_if2 (pc2 := 74) d72_22 rfl (fun c => ?_) (fun c => ?_)
  · replace c : x3 < x5 := c
    rw [if_pos c] at k
    refine x_iconst d72_74 rfl ?_
    refine x_istore (ls2 := [some (.inr 61), u1, some (.inl x2), some (.inl x3), some (.inl x4), some (.inl 1), u6]) d72_75 rfl rfl ?_
    refine x_iconst d72_77 rfl ?_
    refine x_istore (ls2 := [some (.inr 61), u1, some (.inl x2), some (.inl x3), some (.inl x4), some (.inl 1), some (.inl 1)]) d72_78 rfl rfl ?_
    exact k
  · replace c : ¬ (x3 < x5) := c
    rw [if_neg c] at k
    refine x_iload d72_25 rfl ?_
    refine x_istore (ls2 := [some (.inr 61), u1, some (.inl x2), some (.inl x3), some (.inl x4), some (.inl x5), some (.inl x5)]) d72_27 rfl rfl ?_
    exact k
set_option maxHeartbeats 4000000 in
theorem b_A_fewest_29 {d n : Nat} {sh : ZS} {R : ZR} {I : ZI} {Q : Int → ZI → ZR → Prop} (hW : Wf sh R) {s1 : Nat} (hS1 : St sh R s1) (hKn : Kn sh R (R 61 4) 20 20) {u1 : Option AV} {x2 : Int} {x3 : Int} {x4 : Int} {x5 : Int} {x6 : Int}
    (k : (if x3 < x6 then (zr (x5 + 1)) ∧ XRs (d + 3) 72 19 [some (.inr 61), u1, some (.inl x2), some (.inl x3), some (.inl x4), some (.inl (x5 + 1)), some (.inl x6)] [] n sh R I Q else (0 ≤ x5 ∧ x5 < 20) ∧ (zr (x6 + 1)) ∧ (0 ≤ (x6 + 1) ∧ (x6 + 1) < 21) ∧ (0 ≤ x5 ∧ x5 < 21) ∧ (zr (I 63 (x6 + 1).toNat - I 63 (x5).toNat)) ∧ (if 1 < (I 63 (x6 + 1).toNat - I 63 (x5).toNat) then (0 ≤ x6 ∧ x6 < 20) ∧ XRs (d + 3) 72 29 [some (.inr 61), u1, some (.inl x2), some (.inl x3), some (.inl x4), some (.inl x5), some (.inl (x6 + 1))] [] n sh R (zup I ((R 61 4) + 1 + (x5).toNat) (x6).toNat 1000000) Q else (0 ≤ x6 ∧ x6 < 20) ∧ XRs (d + 3) 72 29 [some (.inr 61), u1, some (.inl x2), some (.inl x3), some (.inl x4), some (.inl x5), some (.inl (x6 + 1))] [] n sh R (zup I ((R 61 4) + 1 + (x5).toNat) (x6).toNat 0) Q))) : XRs (d + 3) 72 29 [some (.inr 61), u1, some (.inl x2), some (.inl x3), some (.inl x4), some (.inl x5), some (.inl x6)] [] n sh R I Q := by
  unfold XRs
  refine x_iload d72_29 rfl ?_
  refine x_iload_n d72_31 rfl ?_
  refine x_if2 (pc2 := 68) d72_32 rfl (fun c => ?_) (fun c => ?_)
  · replace c : x3 < x6 := c
    rw [if_pos c] at k
    have e1 := k.1
    replace k := k.2
    refine x_iinc (ls2 := [some (.inr 61), u1, some (.inl x2), some (.inl x3), some (.inl x4), some (.inl (x5 + 1)), some (.inl x6)]) d72_68 rfl e1 rfl ?_
    refine x_goto (pc2 := 19) d72_71 rfl ?_
    exact k
  · replace c : ¬ (x3 < x6) := c
    rw [if_neg c] at k
    refine x_aload_n d72_35 rfl ?_
    refine x_getR (r := (R 61 4)) d72_36 gY_72.2.2.2 gF_8_23 rfl (sh_61 hW) rfl hKn.2.2 ?_
    refine x_iload d72_39 rfl ?_
    have e3 := k.1
    replace k := k.2
    have hj2 := hKn.2.1 (x5).toNat (by omega)
    refine x_aald (q := ((R 61 4) + 1 + (x5).toNat)) d72_41 hKn.1 e3.1 e3.2 hj2.1 (by omega) ?_
    refine x_iload d72_42 rfl ?_
    refine x_aload_n d72_44 rfl ?_
    refine x_iload d72_45 rfl ?_
    refine x_iload d72_47 rfl ?_
    refine y_inv (as := [.inl x5, .inl x6]) (t := [.inl x6, .inr ((R 61 4) + 1 + (x5).toNat)]) (o := 61) (ls2 := [some (.inr 61), some (.inl x5), some (.inl x6)]) gY_74 d72_49 gY_72.2.2.2 gM_8_37 rfl (sh_61 hW) rfl rfl ?_
    refine x_aload_n d74_0 rfl ?_
    refine x_getR (r := 63) d74_1 gY_74.2.2.2 gF_8_15 rfl (sh_61 hW) (rf_61_2 hW) (by decide) ?_
    refine x_iload_n d74_4 rfl ?_
    refine x_iconst d74_5 rfl ?_
    have e4 := k.1
    replace k := k.2
    refine x_iadd d74_6 e4 ?_
    have e5 := k.1
    replace k := k.2
    refine x_iald d74_7 (sh_63 hW) e5.1 e5.2 ?_
    refine x_aload_n d74_8 rfl ?_
    refine x_getR (r := 63) d74_9 gY_74.2.2.2 gF_8_15 rfl (sh_61 hW) (rf_61_2 hW) (by decide) ?_
    refine x_iload_n d74_12 rfl ?_
    have e6 := k.1
    replace k := k.2
    refine x_iald d74_13 (sh_63 hW) e6.1 e6.2 ?_
    have e7 := k.1
    replace k := k.2
    refine x_isub d74_14 e7 ?_
    refine x_iconst d74_15 rfl ?_
    refine x_if2 (pc2 := 23) d74_16 rfl (fun c => ?_) (fun c => ?_)
    · replace c : 1 < (I 63 (x6 + 1).toNat - I 63 (x5).toNat) := c
      rw [if_pos c] at k
      refine x_iconst d74_23 rfl ?_
      refine x_zret d74_24 gR_74 (by decide) ?_
      show Ex (d + 3) 72 52 [some (.inr 61), u1, some (.inl x2), some (.inl x3), some (.inl x4), some (.inl x5), some (.inl x6)] [.inl 0, .inl x6, .inr ((R 61 4) + 1 + (x5).toNat)] (0, 0, n, sh, R, I) _
      refine x_if1 (pc2 := 59) d72_52 rfl (fun _ => ?_) (fun c => absurd (show (0 : Int) = 0 by decide) c)
      refine x_ldc d72_59 gY_72.2.2.2 gK_8_41 rfl ?_
      have e8 := k.1
      replace k := k.2
      refine x_iast d72_61 hj2.2 e8.1 e8.2 ?_
      refine x_iinc (ls2 := [some (.inr 61), u1, some (.inl x2), some (.inl x3), some (.inl x4), some (.inl x5), some (.inl (x6 + 1))]) d72_62 rfl e4 rfl ?_
      refine x_goto (pc2 := 29) d72_65 rfl ?_
      exact k
    · replace c : ¬ (1 < (I 63 (x6 + 1).toNat - I 63 (x5).toNat)) := c
      rw [if_neg c] at k
      refine x_iconst d74_19 rfl ?_
      refine x_goto (pc2 := 24) d74_20 rfl ?_
      refine x_zret d74_24 gR_74 (by decide) ?_
      show Ex (d + 3) 72 52 [some (.inr 61), u1, some (.inl x2), some (.inl x3), some (.inl x4), some (.inl x5), some (.inl x6)] [.inl 1, .inl x6, .inr ((R 61 4) + 1 + (x5).toNat)] (0, 0, n, sh, R, I) _
      refine x_if1 (pc2 := 59) d72_52 rfl (fun c => absurd (show (1 : Int) = 0 from c) (by decide)) (fun _ => ?_)
      refine x_iconst d72_55 rfl ?_
      refine x_goto (pc2 := 61) d72_56 rfl ?_
      have e9 := k.1
      replace k := k.2
      refine x_iast d72_61 hj2.2 e9.1 e9.2 ?_
      refine x_iinc (ls2 := [some (.inr 61), u1, some (.inl x2), some (.inl x3), some (.inl x4), some (.inl x5), some (.inl (x6 + 1))]) d72_62 rfl e4 rfl ?_
      refine x_goto (pc2 := 29) d72_65 rfl ?_
      exact k
set_option maxHeartbeats 4000000 in
theorem b_A_fewest_80 {d n : Nat} {sh : ZS} {R : ZR} {I : ZI} {Q : Int → ZI → ZR → Prop} (hW : Wf sh R) {s1 : Nat} (hS1 : St sh R s1) {u1 : Option AV} {x2 : Int} {x3 : Int} {x4 : Int} {x5 : Int} {x6 : Int}
    (k : (if x4 ≤ x6 then XV (d + 2) 77 [.inr 61, .inl x2, .inl x3] n sh R I (fun I2 => XI (d + 2) 79 [.inr 61, .inl x2, .inl x3] n sh R I2 (fun v3 I4 => Q v3 I4 R)) else (if x5 = 0 then XV (d + 2) 77 [.inr 61, .inl x2, .inl x3] n sh R I (fun I6 => XI (d + 2) 79 [.inr 61, .inl x2, .inl x3] n sh R I6 (fun v7 I8 => Q v7 I8 R)) else XR (d + 2) 76 [.inr 61, .inl x2, .inl x3] n sh R I (fun v9 I10 R12 => (zr (x6 + 1)) ∧ XRs (d + 3) 72 80 [some (.inr 61), u1, some (.inl x2), some (.inl x3), some (.inl x4), some (.inl v9), some (.inl (x6 + 1))] [] n sh R12 I10 Q)))) : XRs (d + 3) 72 80 [some (.inr 61), u1, some (.inl x2), some (.inl x3), some (.inl x4), some (.inl x5), some (.inl x6)] [] n sh R I Q := by
  unfold XRs
  refine x_iload d72_80 rfl ?_
  refine x_iload d72_82 rfl ?_
  refine x_if2 (pc2 := 106) d72_84 rfl (fun c => ?_) (fun c => ?_)
  · replace c : x4 ≤ x6 := c
    rw [if_pos c] at k
    refine x_aload_n d72_106 rfl ?_
    refine x_iload_n d72_107 rfl ?_
    refine x_iload_n d72_108 rfl ?_
    refine y_invV (as := [.inl x2, .inl x3]) (t := []) (o := 61) gY_77 d72_109 gY_72.2.2.2 gM_8_45 rfl (sh_61 hW) rfl k (fun I2 k => ?_)
    refine x_aload_n d72_112 rfl ?_
    refine x_iload_n d72_113 rfl ?_
    refine x_iload_n d72_114 rfl ?_
    refine y_invI (as := [.inl x2, .inl x3]) (t := []) (o := 61) gY_79 d72_115 gY_72.2.2.2 gM_8_49 rfl (sh_61 hW) rfl k (fun v3 I4 k => ?_)
    exact x_iret d72_118 gR_72 ⟨_, _, _, rfl, rfl, hW, k⟩
  · replace c : ¬ (x4 ≤ x6) := c
    rw [if_neg c] at k
    refine x_iload d72_87 rfl ?_
    refine x_if1 (pc2 := 106) d72_89 rfl (fun c => ?_) (fun c => ?_)
    · replace c : x5 = 0 := c
      rw [if_pos c] at k
      refine x_aload_n d72_106 rfl ?_
      refine x_iload_n d72_107 rfl ?_
      refine x_iload_n d72_108 rfl ?_
      refine y_invV (as := [.inl x2, .inl x3]) (t := []) (o := 61) gY_77 d72_109 gY_72.2.2.2 gM_8_45 rfl (sh_61 hW) rfl k (fun I6 k => ?_)
      refine x_aload_n d72_112 rfl ?_
      refine x_iload_n d72_113 rfl ?_
      refine x_iload_n d72_114 rfl ?_
      refine y_invI (as := [.inl x2, .inl x3]) (t := []) (o := 61) gY_79 d72_115 gY_72.2.2.2 gM_8_49 rfl (sh_61 hW) rfl k (fun v7 I8 k => ?_)
      exact x_iret d72_118 gR_72 ⟨_, _, _, rfl, rfl, hW, k⟩
    · replace c : ¬ (x5 = 0) := c
      rw [if_neg c] at k
      refine x_aload_n d72_92 rfl ?_
      refine x_iload_n d72_93 rfl ?_
      refine x_iload_n d72_94 rfl ?_
      refine y_invR (as := [.inl x2, .inl x3]) (t := []) (o := 61) gY_76 d72_95 gY_72.2.2.2 gM_8_42 rfl (sh_61 hW) rfl k (fun v9 I10 R12 hWR12 k => ?_)
      refine x_istore (ls2 := [some (.inr 61), u1, some (.inl x2), some (.inl x3), some (.inl x4), some (.inl v9), some (.inl x6)]) d72_98 rfl rfl ?_
      have e11 := k.1
      replace k := k.2
      refine x_iinc (ls2 := [some (.inr 61), u1, some (.inl x2), some (.inl x3), some (.inl x4), some (.inl v9), some (.inl (x6 + 1))]) d72_100 rfl e11 rfl ?_
      refine x_goto (pc2 := 80) d72_103 rfl ?_
      exact k
set_option maxHeartbeats 4000000 in
theorem b_N_tables_0 {d n : Nat} {sh : ZS} {R : ZR} {I : ZI} {Q : Int → ZI → ZR → Prop} (hW : Wf sh R) {x1 : Int} {x2 : Int} {x3 : Int}
    (k : (if x1 < 0 then Q (-1) I R else (if 20 ≤ x1 then Q (-1) I R else (if x2 < 0 then Q (-1) I R else (if 20 ≤ x2 then Q (-1) I R else (if x2 < x1 then Q (-1) I R else (if x3 < 1 then Q (-1) I R else (if 12 < x3 then Q (-1) I R else XR (d + 3) 72 [.inr 61, .inr 18, .inl x1, .inl x2, .inl x3] n sh R I (fun v1 I2 R3 => (if v1 < 1000000 then Q v1 I2 R3 else Q (-2) I2 R3)))))))))) : XR (d + 4) 112 [.inr 1, .inl x1, .inl x2, .inl x3] n sh R I Q := by
  refine XR.of (ls := [some (.inr 1), some (.inl x1), some (.inl x2), some (.inl x3), none]) (zloc_eq gY_112.2.2.1) ?_
  unfold XRs
  refine x_iload_n d112_0 rfl ?_
  refine x_iload_n d112_1 rfl ?_
  refine x_iload_n d112_2 rfl ?_
  refine y_ins (as := [.inl x1, .inl x2, .inl x3]) (t := []) (ls2 := [some (.inl x1), some (.inl x2), some (.inl x3)]) gY_129 d112_3 gY_112.2.2.2 gM_11_234 rfl rfl rfl ?_
  refine x_iload_n d129_0 rfl ?_
  refine y_ins (as := [.inl x1]) (t := []) (ls2 := [some (.inl x1)]) gY_128 d129_1 gY_129.2.2.2 gM_11_112 rfl rfl rfl ?_
  refine x_iload_n d128_0 rfl ?_
  refine x_if1 (pc2 := 14) d128_1 rfl (fun c => ?_) (fun c => ?_)
  · replace c : x1 < 0 := c
    rw [if_pos c] at k
    refine x_iconst d128_14 rfl ?_
    refine x_zret d128_15 gR_128 (by decide) ?_
    show Ex (d + 3) 129 4 [some (.inl x1), some (.inl x2), some (.inl x3)] [.inl 0] (0, 0, n, sh, R, I) _
    refine x_if1 (pc2 := 34) d129_4 rfl (fun _ => ?_) (fun c => absurd (show (0 : Int) = 0 by decide) c)
    refine x_iconst d129_34 rfl ?_
    refine x_zret d129_35 gR_129 (by decide) ?_
    show Ex (d + 4) 112 6 [some (.inr 1), some (.inl x1), some (.inl x2), some (.inl x3), none] [.inl 0] (0, 0, n, sh, R, I) _
    refine x_if1 (pc2 := 11) d112_6 rfl (fun c => absurd (show ¬ (0 : Int) = 0 from c) (by decide)) (fun _ => ?_)
    refine x_iconst d112_9 rfl ?_
    exact x_iret d112_10 gR_112 ⟨_, _, _, rfl, rfl, hW, k⟩
  · replace c : ¬ (x1 < 0) := c
    rw [if_neg c] at k
    refine x_iload_n d128_4 rfl ?_
    refine x_bipush d128_5 rfl ?_
    refine x_if2 (pc2 := 14) d128_7 rfl (fun c => ?_) (fun c => ?_)
    · replace c : 20 ≤ x1 := c
      rw [if_pos c] at k
      refine x_iconst d128_14 rfl ?_
      refine x_zret d128_15 gR_128 (by decide) ?_
      show Ex (d + 3) 129 4 [some (.inl x1), some (.inl x2), some (.inl x3)] [.inl 0] (0, 0, n, sh, R, I) _
      refine x_if1 (pc2 := 34) d129_4 rfl (fun _ => ?_) (fun c => absurd (show (0 : Int) = 0 by decide) c)
      refine x_iconst d129_34 rfl ?_
      refine x_zret d129_35 gR_129 (by decide) ?_
      show Ex (d + 4) 112 6 [some (.inr 1), some (.inl x1), some (.inl x2), some (.inl x3), none] [.inl 0] (0, 0, n, sh, R, I) _
      refine x_if1 (pc2 := 11) d112_6 rfl (fun c => absurd (show ¬ (0 : Int) = 0 from c) (by decide)) (fun _ => ?_)
      refine x_iconst d112_9 rfl ?_
      exact x_iret d112_10 gR_112 ⟨_, _, _, rfl, rfl, hW, k⟩
    · replace c : ¬ (20 ≤ x1) := c
      rw [if_neg c] at k
      refine x_iconst d128_10 rfl ?_
      refine x_goto (pc2 := 15) d128_11 rfl ?_
      refine x_zret d128_15 gR_128 (by decide) ?_
      show Ex (d + 3) 129 4 [some (.inl x1), some (.inl x2), some (.inl x3)] [.inl 1] (0, 0, n, sh, R, I) _
      refine x_if1 (pc2 := 34) d129_4 rfl (fun c => absurd (show (1 : Int) = 0 from c) (by decide)) (fun _ => ?_)
      refine x_iload_n d129_7 rfl ?_
      refine y_ins (as := [.inl x2]) (t := []) (ls2 := [some (.inl x2)]) gY_128 d129_8 gY_129.2.2.2 gM_11_112 rfl rfl rfl ?_
      refine x_iload_n d128_0 rfl ?_
      refine x_if1 (pc2 := 14) d128_1 rfl (fun c => ?_) (fun c => ?_)
      · replace c : x2 < 0 := c
        rw [if_pos c] at k
        refine x_iconst d128_14 rfl ?_
        refine x_zret d128_15 gR_128 (by decide) ?_
        show Ex (d + 3) 129 11 [some (.inl x1), some (.inl x2), some (.inl x3)] [.inl 0] (0, 0, n, sh, R, I) _
        refine x_if1 (pc2 := 34) d129_11 rfl (fun _ => ?_) (fun c => absurd (show (0 : Int) = 0 by decide) c)
        refine x_iconst d129_34 rfl ?_
        refine x_zret d129_35 gR_129 (by decide) ?_
        show Ex (d + 4) 112 6 [some (.inr 1), some (.inl x1), some (.inl x2), some (.inl x3), none] [.inl 0] (0, 0, n, sh, R, I) _
        refine x_if1 (pc2 := 11) d112_6 rfl (fun c => absurd (show ¬ (0 : Int) = 0 from c) (by decide)) (fun _ => ?_)
        refine x_iconst d112_9 rfl ?_
        exact x_iret d112_10 gR_112 ⟨_, _, _, rfl, rfl, hW, k⟩
      · replace c : ¬ (x2 < 0) := c
        rw [if_neg c] at k
        refine x_iload_n d128_4 rfl ?_
        refine x_bipush d128_5 rfl ?_
        refine x_if2 (pc2 := 14) d128_7 rfl (fun c => ?_) (fun c => ?_)
        · replace c : 20 ≤ x2 := c
          rw [if_pos c] at k
          refine x_iconst d128_14 rfl ?_
          refine x_zret d128_15 gR_128 (by decide) ?_
          show Ex (d + 3) 129 11 [some (.inl x1), some (.inl x2), some (.inl x3)] [.inl 0] (0, 0, n, sh, R, I) _
          refine x_if1 (pc2 := 34) d129_11 rfl (fun _ => ?_) (fun c => absurd (show (0 : Int) = 0 by decide) c)
          refine x_iconst d129_34 rfl ?_
          refine x_zret d129_35 gR_129 (by decide) ?_
          show Ex (d + 4) 112 6 [some (.inr 1), some (.inl x1), some (.inl x2), some (.inl x3), none] [.inl 0] (0, 0, n, sh, R, I) _
          refine x_if1 (pc2 := 11) d112_6 rfl (fun c => absurd (show ¬ (0 : Int) = 0 from c) (by decide)) (fun _ => ?_)
          refine x_iconst d112_9 rfl ?_
          exact x_iret d112_10 gR_112 ⟨_, _, _, rfl, rfl, hW, k⟩
        · replace c : ¬ (20 ≤ x2) := c
          rw [if_neg c] at k
          refine x_iconst d128_10 rfl ?_
          refine x_goto (pc2 := 15) d128_11 rfl ?_
          refine x_zret d128_15 gR_128 (by decide) ?_
          show Ex (d + 3) 129 11 [some (.inl x1), some (.inl x2), some (.inl x3)] [.inl 1] (0, 0, n, sh, R, I) _
          refine x_if1 (pc2 := 34) d129_11 rfl (fun c => absurd (show (1 : Int) = 0 from c) (by decide)) (fun _ => ?_)
          refine x_iload_n d129_14 rfl ?_
          refine x_iload_n d129_15 rfl ?_
          refine x_if2 (pc2 := 34) d129_16 rfl (fun c => ?_) (fun c => ?_)
          · replace c : x2 < x1 := c
            rw [if_pos c] at k
            refine x_iconst d129_34 rfl ?_
            refine x_zret d129_35 gR_129 (by decide) ?_
            show Ex (d + 4) 112 6 [some (.inr 1), some (.inl x1), some (.inl x2), some (.inl x3), none] [.inl 0] (0, 0, n, sh, R, I) _
            refine x_if1 (pc2 := 11) d112_6 rfl (fun c => absurd (show ¬ (0 : Int) = 0 from c) (by decide)) (fun _ => ?_)
            refine x_iconst d112_9 rfl ?_
            exact x_iret d112_10 gR_112 ⟨_, _, _, rfl, rfl, hW, k⟩
          · replace c : ¬ (x2 < x1) := c
            rw [if_neg c] at k
            refine x_iload_n d129_19 rfl ?_
            refine x_iconst d129_20 rfl ?_
            refine x_if2 (pc2 := 34) d129_21 rfl (fun c => ?_) (fun c => ?_)
            · replace c : x3 < 1 := c
              rw [if_pos c] at k
              refine x_iconst d129_34 rfl ?_
              refine x_zret d129_35 gR_129 (by decide) ?_
              show Ex (d + 4) 112 6 [some (.inr 1), some (.inl x1), some (.inl x2), some (.inl x3), none] [.inl 0] (0, 0, n, sh, R, I) _
              refine x_if1 (pc2 := 11) d112_6 rfl (fun c => absurd (show ¬ (0 : Int) = 0 from c) (by decide)) (fun _ => ?_)
              refine x_iconst d112_9 rfl ?_
              exact x_iret d112_10 gR_112 ⟨_, _, _, rfl, rfl, hW, k⟩
            · replace c : ¬ (x3 < 1) := c
              rw [if_neg c] at k
              refine x_iload_n d129_24 rfl ?_
              refine x_bipush d129_25 rfl ?_
              refine x_if2 (pc2 := 34) d129_27 rfl (fun c => ?_) (fun c => ?_)
              · replace c : 12 < x3 := c
                rw [if_pos c] at k
                refine x_iconst d129_34 rfl ?_
                refine x_zret d129_35 gR_129 (by decide) ?_
                show Ex (d + 4) 112 6 [some (.inr 1), some (.inl x1), some (.inl x2), some (.inl x3), none] [.inl 0] (0, 0, n, sh, R, I) _
                refine x_if1 (pc2 := 11) d112_6 rfl (fun c => absurd (show ¬ (0 : Int) = 0 from c) (by decide)) (fun _ => ?_)
                refine x_iconst d112_9 rfl ?_
                exact x_iret d112_10 gR_112 ⟨_, _, _, rfl, rfl, hW, k⟩
              · replace c : ¬ (12 < x3) := c
                rw [if_neg c] at k
                refine x_iconst d129_30 rfl ?_
                refine x_goto (pc2 := 35) d129_31 rfl ?_
                refine x_zret d129_35 gR_129 (by decide) ?_
                show Ex (d + 4) 112 6 [some (.inr 1), some (.inl x1), some (.inl x2), some (.inl x3), none] [.inl 1] (0, 0, n, sh, R, I) _
                refine x_if1 (pc2 := 11) d112_6 rfl (fun _ => ?_) (fun c => absurd (show ¬ (1 : Int) = 0 by decide) c)
                refine x_aload_n d112_11 rfl ?_
                refine x_getR (r := 61) d112_12 gY_112.2.2.2 gF_11_88 rfl (sh_1 hW) (rf_1_12 hW) (by decide) ?_
                refine x_aload_n d112_15 rfl ?_
                refine x_getR (r := 18) d112_16 gY_112.2.2.2 gF_11_45 rfl (sh_1 hW) (rf_1_5 hW) (by decide) ?_
                refine x_iload_n d112_19 rfl ?_
                refine x_iload_n d112_20 rfl ?_
                refine x_iload_n d112_21 rfl ?_
                refine y_invR (as := [.inr 18, .inl x1, .inl x2, .inl x3]) (t := []) (o := 61) gY_72 d112_22 gY_112.2.2.2 gM_11_238 rfl (sh_61 hW) rfl k (fun v1 I2 R3 hWR3 k => ?_)
                refine x_istore (ls2 := [some (.inr 1), some (.inl x1), some (.inl x2), some (.inl x3), some (.inl v1)]) d112_25 rfl rfl ?_
                refine x_iload d112_27 rfl ?_
                refine x_ldc d112_29 gY_112.2.2.2 gK_11_241 rfl ?_
                refine x_if2 (pc2 := 39) d112_31 rfl (fun c => ?_) (fun c => ?_)
                · replace c : v1 < 1000000 := c
                  rw [if_pos c] at k
                  refine x_iload d112_39 rfl ?_
                  exact x_iret d112_41 gR_112 ⟨_, _, _, rfl, rfl, hWR3, k⟩
                · replace c : ¬ (v1 < 1000000) := c
                  rw [if_neg c] at k
                  refine x_bipush d112_34 rfl ?_
                  refine x_goto (pc2 := 41) d112_36 rfl ?_
                  exact x_iret d112_41 gR_112 ⟨_, _, _, rfl, rfl, hWR3, k⟩
set_option maxHeartbeats 4000000 in
theorem b_N_table_0 {d n : Nat} {sh : ZS} {R : ZR} {I : ZI} {Q : Int → ZI → ZR → Prop} (hW : Wf sh R) {x1 : Int} {x2 : Int} {x3 : Int} {x4 : Int}
    (k : (if x1 < 0 then Q (-1) I R else (if 20 ≤ x1 then Q (-1) I R else (if x2 < 0 then Q (-1) I R else (if 20 ≤ x2 then Q (-1) I R else (if x2 < x1 then Q (-1) I R else (if x3 < 1 then Q (-1) I R else (if 12 < x3 then Q (-1) I R else (if x4 < 0 then Q (-1) I R else (if x4 < 9 then XR (d + 3) 72 [.inr 61, .inr 18, .inl x1, .inl x2, .inl x3] n sh R I (fun v1 I2 R5 => (if v1 < 1000000 then (if ¬ v1 = 0 then XI (d + 3) 80 [.inr 61, .inl x1, .inl x2, .inl x4] n sh R5 I2 (fun v3 I4 => Q v3 I4 R5) else Q (-2) I2 R5) else Q (-1) I2 R5)) else Q (-1) I R)))))))))) : XR (d + 4) 113 [.inr 1, .inl x1, .inl x2, .inl x3, .inl x4] n sh R I Q := by
  refine XR.of (ls := [some (.inr 1), some (.inl x1), some (.inl x2), some (.inl x3), some (.inl x4), none]) (zloc_eq gY_113.2.2.1) ?_
  unfold XRs
  refine x_iload_n d113_0 rfl ?_
  refine x_iload_n d113_1 rfl ?_
  refine x_iload_n d113_2 rfl ?_
  refine y_ins (as := [.inl x1, .inl x2, .inl x3]) (t := []) (ls2 := [some (.inl x1), some (.inl x2), some (.inl x3)]) gY_129 d113_3 gY_113.2.2.2 gM_11_234 rfl rfl rfl ?_
  refine x_iload_n d129_0 rfl ?_
  refine y_ins (as := [.inl x1]) (t := []) (ls2 := [some (.inl x1)]) gY_128 d129_1 gY_129.2.2.2 gM_11_112 rfl rfl rfl ?_
  refine x_iload_n d128_0 rfl ?_
  refine x_if1 (pc2 := 14) d128_1 rfl (fun c => ?_) (fun c => ?_)
  · replace c : x1 < 0 := c
    rw [if_pos c] at k
    refine x_iconst d128_14 rfl ?_
    refine x_zret d128_15 gR_128 (by decide) ?_
    show Ex (d + 3) 129 4 [some (.inl x1), some (.inl x2), some (.inl x3)] [.inl 0] (0, 0, n, sh, R, I) _
    refine x_if1 (pc2 := 34) d129_4 rfl (fun _ => ?_) (fun c => absurd (show (0 : Int) = 0 by decide) c)
    refine x_iconst d129_34 rfl ?_
    refine x_zret d129_35 gR_129 (by decide) ?_
    show Ex (d + 4) 113 6 [some (.inr 1), some (.inl x1), some (.inl x2), some (.inl x3), some (.inl x4), none] [.inl 0] (0, 0, n, sh, R, I) _
    refine x_if1 (pc2 := 21) d113_6 rfl (fun _ => ?_) (fun c => absurd (show (0 : Int) = 0 by decide) c)
    refine x_iconst d113_21 rfl ?_
    exact x_iret d113_22 gR_113 ⟨_, _, _, rfl, rfl, hW, k⟩
  · replace c : ¬ (x1 < 0) := c
    rw [if_neg c] at k
    refine x_iload_n d128_4 rfl ?_
    refine x_bipush d128_5 rfl ?_
    refine x_if2 (pc2 := 14) d128_7 rfl (fun c => ?_) (fun c => ?_)
    · replace c : 20 ≤ x1 := c
      rw [if_pos c] at k
      refine x_iconst d128_14 rfl ?_
      refine x_zret d128_15 gR_128 (by decide) ?_
      show Ex (d + 3) 129 4 [some (.inl x1), some (.inl x2), some (.inl x3)] [.inl 0] (0, 0, n, sh, R, I) _
      refine x_if1 (pc2 := 34) d129_4 rfl (fun _ => ?_) (fun c => absurd (show (0 : Int) = 0 by decide) c)
      refine x_iconst d129_34 rfl ?_
      refine x_zret d129_35 gR_129 (by decide) ?_
      show Ex (d + 4) 113 6 [some (.inr 1), some (.inl x1), some (.inl x2), some (.inl x3), some (.inl x4), none] [.inl 0] (0, 0, n, sh, R, I) _
      refine x_if1 (pc2 := 21) d113_6 rfl (fun _ => ?_) (fun c => absurd (show (0 : Int) = 0 by decide) c)
      refine x_iconst d113_21 rfl ?_
      exact x_iret d113_22 gR_113 ⟨_, _, _, rfl, rfl, hW, k⟩
    · replace c : ¬ (20 ≤ x1) := c
      rw [if_neg c] at k
      refine x_iconst d128_10 rfl ?_
      refine x_goto (pc2 := 15) d128_11 rfl ?_
      refine x_zret d128_15 gR_128 (by decide) ?_
      show Ex (d + 3) 129 4 [some (.inl x1), some (.inl x2), some (.inl x3)] [.inl 1] (0, 0, n, sh, R, I) _
      refine x_if1 (pc2 := 34) d129_4 rfl (fun c => absurd (show (1 : Int) = 0 from c) (by decide)) (fun _ => ?_)
      refine x_iload_n d129_7 rfl ?_
      refine y_ins (as := [.inl x2]) (t := []) (ls2 := [some (.inl x2)]) gY_128 d129_8 gY_129.2.2.2 gM_11_112 rfl rfl rfl ?_
      refine x_iload_n d128_0 rfl ?_
      refine x_if1 (pc2 := 14) d128_1 rfl (fun c => ?_) (fun c => ?_)
      · replace c : x2 < 0 := c
        rw [if_pos c] at k
        refine x_iconst d128_14 rfl ?_
        refine x_zret d128_15 gR_128 (by decide) ?_
        show Ex (d + 3) 129 11 [some (.inl x1), some (.inl x2), some (.inl x3)] [.inl 0] (0, 0, n, sh, R, I) _
        refine x_if1 (pc2 := 34) d129_11 rfl (fun _ => ?_) (fun c => absurd (show (0 : Int) = 0 by decide) c)
        refine x_iconst d129_34 rfl ?_
        refine x_zret d129_35 gR_129 (by decide) ?_
        show Ex (d + 4) 113 6 [some (.inr 1), some (.inl x1), some (.inl x2), some (.inl x3), some (.inl x4), none] [.inl 0] (0, 0, n, sh, R, I) _
        refine x_if1 (pc2 := 21) d113_6 rfl (fun _ => ?_) (fun c => absurd (show (0 : Int) = 0 by decide) c)
        refine x_iconst d113_21 rfl ?_
        exact x_iret d113_22 gR_113 ⟨_, _, _, rfl, rfl, hW, k⟩
      · replace c : ¬ (x2 < 0) := c
        rw [if_neg c] at k
        refine x_iload_n d128_4 rfl ?_
        refine x_bipush d128_5 rfl ?_
        refine x_if2 (pc2 := 14) d128_7 rfl (fun c => ?_) (fun c => ?_)
        · replace c : 20 ≤ x2 := c
          rw [if_pos c] at k
          refine x_iconst d128_14 rfl ?_
          refine x_zret d128_15 gR_128 (by decide) ?_
          show Ex (d + 3) 129 11 [some (.inl x1), some (.inl x2), some (.inl x3)] [.inl 0] (0, 0, n, sh, R, I) _
          refine x_if1 (pc2 := 34) d129_11 rfl (fun _ => ?_) (fun c => absurd (show (0 : Int) = 0 by decide) c)
          refine x_iconst d129_34 rfl ?_
          refine x_zret d129_35 gR_129 (by decide) ?_
          show Ex (d + 4) 113 6 [some (.inr 1), some (.inl x1), some (.inl x2), some (.inl x3), some (.inl x4), none] [.inl 0] (0, 0, n, sh, R, I) _
          refine x_if1 (pc2 := 21) d113_6 rfl (fun _ => ?_) (fun c => absurd (show (0 : Int) = 0 by decide) c)
          refine x_iconst d113_21 rfl ?_
          exact x_iret d113_22 gR_113 ⟨_, _, _, rfl, rfl, hW, k⟩
        · replace c : ¬ (20 ≤ x2) := c
          rw [if_neg c] at k
          refine x_iconst d128_10 rfl ?_
          refine x_goto (pc2 := 15) d128_11 rfl ?_
          refine x_zret d128_15 gR_128 (by decide) ?_
          show Ex (d + 3) 129 11 [some (.inl x1), some (.inl x2), some (.inl x3)] [.inl 1] (0, 0, n, sh, R, I) _
          refine x_if1 (pc2 := 34) d129_11 rfl (fun c => absurd (show (1 : Int) = 0 from c) (by decide)) (fun _ => ?_)
          refine x_iload_n d129_14 rfl ?_
          refine x_iload_n d129_15 rfl ?_
          refine x_if2 (pc2 := 34) d129_16 rfl (fun c => ?_) (fun c => ?_)
          · replace c : x2 < x1 := c
            rw [if_pos c] at k
            refine x_iconst d129_34 rfl ?_
            refine x_zret d129_35 gR_129 (by decide) ?_
            show Ex (d + 4) 113 6 [some (.inr 1), some (.inl x1), some (.inl x2), some (.inl x3), some (.inl x4), none] [.inl 0] (0, 0, n, sh, R, I) _
            refine x_if1 (pc2 := 21) d113_6 rfl (fun _ => ?_) (fun c => absurd (show (0 : Int) = 0 by decide) c)
            refine x_iconst d113_21 rfl ?_
            exact x_iret d113_22 gR_113 ⟨_, _, _, rfl, rfl, hW, k⟩
          · replace c : ¬ (x2 < x1) := c
            rw [if_neg c] at k
            refine x_iload_n d129_19 rfl ?_
            refine x_iconst d129_20 rfl ?_
            refine x_if2 (pc2 := 34) d129_21 rfl (fun c => ?_) (fun c => ?_)
            · replace c : x3 < 1 := c
              rw [if_pos c] at k
              refine x_iconst d129_34 rfl ?_
              refine x_zret d129_35 gR_129 (by decide) ?_
              show Ex (d + 4) 113 6 [some (.inr 1), some (.inl x1), some (.inl x2), some (.inl x3), some (.inl x4), none] [.inl 0] (0, 0, n, sh, R, I) _
              refine x_if1 (pc2 := 21) d113_6 rfl (fun _ => ?_) (fun c => absurd (show (0 : Int) = 0 by decide) c)
              refine x_iconst d113_21 rfl ?_
              exact x_iret d113_22 gR_113 ⟨_, _, _, rfl, rfl, hW, k⟩
            · replace c : ¬ (x3 < 1) := c
              rw [if_neg c] at k
              refine x_iload_n d129_24 rfl ?_
              refine x_bipush d129_25 rfl ?_
              refine x_if2 (pc2 := 34) d129_27 rfl (fun c => ?_) (fun c => ?_)
              · replace c : 12 < x3 := c
                rw [if_pos c] at k
                refine x_iconst d129_34 rfl ?_
                refine x_zret d129_35 gR_129 (by decide) ?_
                show Ex (d + 4) 113 6 [some (.inr 1), some (.inl x1), some (.inl x2), some (.inl x3), some (.inl x4), none] [.inl 0] (0, 0, n, sh, R, I) _
                refine x_if1 (pc2 := 21) d113_6 rfl (fun _ => ?_) (fun c => absurd (show (0 : Int) = 0 by decide) c)
                refine x_iconst d113_21 rfl ?_
                exact x_iret d113_22 gR_113 ⟨_, _, _, rfl, rfl, hW, k⟩
              · replace c : ¬ (12 < x3) := c
                rw [if_neg c] at k
                refine x_iconst d129_30 rfl ?_
                refine x_goto (pc2 := 35) d129_31 rfl ?_
                refine x_zret d129_35 gR_129 (by decide) ?_
                show Ex (d + 4) 113 6 [some (.inr 1), some (.inl x1), some (.inl x2), some (.inl x3), some (.inl x4), none] [.inl 1] (0, 0, n, sh, R, I) _
                refine x_if1 (pc2 := 21) d113_6 rfl (fun c => absurd (show (1 : Int) = 0 from c) (by decide)) (fun _ => ?_)
                refine x_iload d113_9 rfl ?_
                refine x_if1 (pc2 := 21) d113_11 rfl (fun c => ?_) (fun c => ?_)
                · replace c : x4 < 0 := c
                  rw [if_pos c] at k
                  refine x_iconst d113_21 rfl ?_
                  exact x_iret d113_22 gR_113 ⟨_, _, _, rfl, rfl, hW, k⟩
                · replace c : ¬ (x4 < 0) := c
                  rw [if_neg c] at k
                  refine x_iload d113_14 rfl ?_
                  refine x_bipush d113_16 rfl ?_
                  refine x_if2 (pc2 := 23) d113_18 rfl (fun c => ?_) (fun c => ?_)
                  · replace c : x4 < 9 := c
                    rw [if_pos c] at k
                    refine x_aload_n d113_23 rfl ?_
                    refine x_getR (r := 61) d113_24 gY_113.2.2.2 gF_11_88 rfl (sh_1 hW) (rf_1_12 hW) (by decide) ?_
                    refine x_aload_n d113_27 rfl ?_
                    refine x_getR (r := 18) d113_28 gY_113.2.2.2 gF_11_45 rfl (sh_1 hW) (rf_1_5 hW) (by decide) ?_
                    refine x_iload_n d113_31 rfl ?_
                    refine x_iload_n d113_32 rfl ?_
                    refine x_iload_n d113_33 rfl ?_
                    refine y_invR (as := [.inr 18, .inl x1, .inl x2, .inl x3]) (t := []) (o := 61) gY_72 d113_34 gY_113.2.2.2 gM_11_238 rfl (sh_61 hW) rfl k (fun v1 I2 R5 hWR5 k => ?_)
                    refine x_istore (ls2 := [some (.inr 1), some (.inl x1), some (.inl x2), some (.inl x3), some (.inl x4), some (.inl v1)]) d113_37 rfl rfl ?_
                    refine x_iload d113_39 rfl ?_
                    refine x_ldc d113_41 gY_113.2.2.2 gK_11_241 rfl ?_
                    refine x_if2 (pc2 := 48) d113_43 rfl (fun c => ?_) (fun c => ?_)
                    · replace c : v1 < 1000000 := c
                      rw [if_pos c] at k
                      refine x_iload d113_48 rfl ?_
                      refine x_if1 (pc2 := 58) d113_50 rfl (fun c => ?_) (fun c => ?_)
                      · replace c : ¬ v1 = 0 := c
                        rw [if_pos c] at k
                        refine x_aload_n d113_58 rfl ?_
                        refine x_getR (r := 61) d113_59 gY_113.2.2.2 gF_11_88 rfl (sh_1 hWR5) (rf_1_12 hWR5) (by decide) ?_
                        refine x_iload_n d113_62 rfl ?_
                        refine x_iload_n d113_63 rfl ?_
                        refine x_iload d113_64 rfl ?_
                        refine y_invI (as := [.inl x1, .inl x2, .inl x4]) (t := []) (o := 61) gY_80 d113_66 gY_113.2.2.2 gM_11_242 rfl (sh_61 hWR5) rfl k (fun v3 I4 k => ?_)
                        exact x_iret d113_69 gR_113 ⟨_, _, _, rfl, rfl, hWR5, k⟩
                      · replace c : ¬ (¬ v1 = 0) := c
                        rw [if_neg c] at k
                        refine x_bipush d113_53 rfl ?_
                        refine x_goto (pc2 := 69) d113_55 rfl ?_
                        exact x_iret d113_69 gR_113 ⟨_, _, _, rfl, rfl, hWR5, k⟩
                    · replace c : ¬ (v1 < 1000000) := c
                      rw [if_neg c] at k
                      refine x_iconst d113_46 rfl ?_
                      exact x_iret d113_47 gR_113 ⟨_, _, _, rfl, rfl, hWR5, k⟩
                  · replace c : ¬ (x4 < 9) := c
                    rw [if_neg c] at k
                    refine x_iconst d113_21 rfl ?_
                    exact x_iret d113_22 gR_113 ⟨_, _, _, rfl, rfl, hW, k⟩
set_option maxHeartbeats 4000000 in
theorem b_N_law_0 {d n : Nat} {sh : ZS} {R : ZR} {I : ZI} {Q : Int → ZI → ZR → Prop} (hW : Wf sh R) (hL : Lw sh R (R 42 4)) (hM : Lw sh R (R 4 1)) {x1 : Int}
    (k : (if x1 < 1 then Q (-1) I R else (if 200 < x1 then Q (-1) I R else (if x1 ≤ I 2 1 then XI (d + 10) 19 [.inr 4, .inl x1] n sh R I (fun v1 I2 => (if v1 ≤ 0 then Q v1 (zup I2 2 1 0) R else Q v1 (zup I2 2 1 0) (zup (zup R 4 1 (R 42 4)) 42 4 (R 4 1)))) else Q (-1) I R)))) : XR (d + 11) 100 [.inr 1, .inl x1] n sh R I Q := by
  refine XR.of (ls := [some (.inr 1), some (.inl x1), none]) (zloc_eq gY_100.2.2.1) ?_
  unfold XRs
  refine x_iload_n d100_0 rfl ?_
  refine x_iconst d100_1 rfl ?_
  refine x_if2 (pc2 := 23) d100_2 rfl (fun c => ?_) (fun c => ?_)
  · replace c : x1 < 1 := c
    rw [if_pos c] at k
    refine x_iconst d100_23 rfl ?_
    exact x_iret d100_24 gR_100 ⟨_, _, _, rfl, rfl, hW, k⟩
  · replace c : ¬ (x1 < 1) := c
    rw [if_neg c] at k
    refine x_iload_n d100_5 rfl ?_
    refine x_sipush d100_6 rfl ?_
    refine x_if2 (pc2 := 23) d100_9 rfl (fun c => ?_) (fun c => ?_)
    · replace c : 200 < x1 := c
      rw [if_pos c] at k
      refine x_iconst d100_23 rfl ?_
      exact x_iret d100_24 gR_100 ⟨_, _, _, rfl, rfl, hW, k⟩
    · replace c : ¬ (200 < x1) := c
      rw [if_neg c] at k
      refine x_iload_n d100_12 rfl ?_
      refine x_aload_n d100_13 rfl ?_
      refine x_getR (r := 2) d100_14 gY_100.2.2.2 gF_11_10 rfl (sh_1 hW) (rf_1_0 hW) (by decide) ?_
      refine x_getI d100_17 gY_100.2.2.2 gF_11_138 rfl (sh_2 hW) ?_
      refine x_if2 (pc2 := 25) d100_20 rfl (fun c => ?_) (fun c => ?_)
      · replace c : x1 ≤ I 2 1 := c
        rw [if_pos c] at k
        refine x_aload_n d100_25 rfl ?_
        refine x_getR (r := 4) d100_26 gY_100.2.2.2 gF_11_25 rfl (sh_1 hW) (rf_1_1 hW) (by decide) ?_
        refine x_iload_n d100_29 rfl ?_
        refine y_invI (as := [.inl x1]) (t := []) (o := 4) gY_19 d100_30 gY_100.2.2.2 gM_11_143 rfl (sh_4 hW) rfl k (fun v1 I2 k => ?_)
        refine x_istore_n (ls2 := [some (.inr 1), some (.inl x1), some (.inl v1)]) d100_33 rfl rfl ?_
        refine x_aload_n d100_34 rfl ?_
        refine x_getR (r := 2) d100_35 gY_100.2.2.2 gF_11_10 rfl (sh_1 hW) (rf_1_0 hW) (by decide) ?_
        refine x_iconst d100_38 rfl ?_
        refine x_putI d100_39 gY_100.2.2.2 gF_11_138 rfl rfl (sh_2 hW) ?_
        refine x_iload_n d100_42 rfl ?_
        refine x_if1 (pc2 := 67) d100_43 rfl (fun c => ?_) (fun c => ?_)
        · replace c : v1 ≤ 0 := c
          rw [if_pos c] at k
          refine x_iload_n d100_67 rfl ?_
          exact x_iret d100_68 gR_100 ⟨_, _, _, rfl, rfl, hW, k⟩
        · replace c : ¬ (v1 ≤ 0) := c
          rw [if_neg c] at k
          refine x_aload_n d100_46 rfl ?_
          refine x_getR (r := 42) d100_47 gY_100.2.2.2 gF_11_63 rfl (sh_1 hW) (rf_1_9 hW) (by decide) ?_
          refine x_aload_n d100_50 rfl ?_
          refine x_getR (r := 4) d100_51 gY_100.2.2.2 gF_11_25 rfl (sh_1 hW) (rf_1_1 hW) (by decide) ?_
          refine x_aload_n d100_54 rfl ?_
          refine x_getR (r := 42) d100_55 gY_100.2.2.2 gF_11_63 rfl (sh_1 hW) (rf_1_9 hW) (by decide) ?_
          refine x_getR (r := (R 42 4)) d100_58 gY_100.2.2.2 gF_11_147 rfl (sh_42 hW) rfl hL.1 ?_
          refine y_inv (as := [.inr (R 42 4)]) (t := [.inr 42]) (o := 4) (ls2 := [some (.inr 4), some (.inr (R 42 4)), none]) gY_18 d100_61 gY_100.2.2.2 gM_11_151 rfl (sh_4 hW) rfl rfl ?_
          refine x_aload_n d18_0 rfl ?_
          refine x_getR (r := (R 4 1)) d18_1 gY_18.2.2.2 gF_2_10 rfl (sh_4 hW) rfl hM.1 ?_
          refine x_astore_n (ls2 := [some (.inr 4), some (.inr (R 42 4)), some (.inr (R 4 1))]) d18_4 rfl rfl ?_
          refine x_aload_n d18_5 rfl ?_
          refine x_aload_n d18_6 rfl ?_
          refine x_putRO d18_7 gY_18.2.2.2 gF_2_10 rfl rfl (sh_4 hW) ?_
          refine x_aload_n d18_10 rfl ?_
          refine x_aret d18_11 gR_18 ?_
          show Ex (d + 11) 100 64 [some (.inr 1), some (.inl x1), some (.inl v1)] [.inr (R 4 1), .inr 42] (0, 0, n, sh, (zup R 4 1 (R 42 4)), (zup I2 2 1 0)) _
          refine x_putRO d100_64 gY_100.2.2.2 gF_11_147 rfl rfl (sh_42 (Wf_up (o := 4) (k := 1) (r := (R 42 4)) hW (by decide))) ?_
          refine x_iload_n d100_67 rfl ?_
          exact x_iret d100_68 gR_100 ⟨_, _, _, rfl, rfl, (Wf_up (o := 42) (k := 4) (r := (R 4 1)) (Wf_up (o := 4) (k := 1) (r := (R 42 4)) hW (by decide)) (by decide)), k⟩
      · replace c : ¬ (x1 ≤ I 2 1) := c
        rw [if_neg c] at k
        refine x_iconst d100_23 rfl ?_
        exact x_iret d100_24 gR_100 ⟨_, _, _, rfl, rfl, hW, k⟩
