-- WALKS of the methods that call themselves
set_option maxHeartbeats 4000000 in
theorem b_L_read_0 {d n : Nat} {sh : ZS} {R : ZR} {I : ZI} {Q : Int → ZI → Prop} (hW : Wf sh R) (hM : Lw sh R (R 4 1)) {x1 : Int}
    (k : XV d 7 [.inr (R 4 1)] n sh R (zup (zup (zup I 4 2 (if 220 < x1 then 220 else x1)) 4 3 0) 4 4 0) (fun I2 => XI d 20 [.inr 4] n sh R I2 (fun v3 I4 => XIs (d + 1) 19 37 [some (.inr 4), some (.inl x1), some (.inl v3), some (.inl 1)] [] n sh R I4 Q))) : XI (d + 1) 19 [.inr 4, .inl x1] n sh R I Q := by
  refine XI.of (ls := [some (.inr 4), some (.inl x1), none, none]) (zloc_eq gY_19.2.2.1) ?_
  unfold XIs
  refine x_aload_n d19_0 rfl ?_
  refine x_iload_n d19_1 rfl ?_
  refine x_aload_n d19_2 rfl ?_
  refine x_getR (r := 3) d19_3 gY_19.2.2.2 gF_2_26 rfl (sh_4 hW) (rf_4_0 hW) (by decide) ?_
  refine x_alen d19_6 (sh_3 hW) (by decide) ?_
  refine x_min d19_7 gY_19.2.2.2 gM_2_30 (of_decide_eq_true rfl) ?_
  refine x_putI d19_10 gY_19.2.2.2 gF_2_16 rfl rfl (sh_4 hW) ?_
  refine x_aload_n d19_13 rfl ?_
  refine x_iconst d19_14 rfl ?_
  refine x_putI d19_15 gY_19.2.2.2 gF_2_20 rfl rfl (sh_4 hW) ?_
  refine x_aload_n d19_18 rfl ?_
  refine x_iconst d19_19 rfl ?_
  refine x_putI d19_20 gY_19.2.2.2 gF_2_23 rfl rfl (sh_4 hW) ?_
  refine x_aload_n d19_23 rfl ?_
  refine x_getR (r := (R 4 1)) d19_24 gY_19.2.2.2 gF_2_10 rfl (sh_4 hW) rfl hM.1 ?_
  refine y_invV (as := []) (t := []) (o := (R 4 1)) gY_7 d19_27 gY_19.2.2.2 gM_2_36 rfl hM.2.1 rfl k (fun I2 k => ?_)
  refine x_aload_n d19_30 rfl ?_
  refine y_invI (as := []) (t := []) (o := 4) gY_20 d19_31 gY_19.2.2.2 gM_2_39 rfl (sh_4 hW) rfl k (fun v3 I4 k => ?_)
  refine x_istore_n (ls2 := [some (.inr 4), some (.inl x1), some (.inl v3), none]) d19_34 rfl rfl ?_
  refine x_iconst d19_35 rfl ?_
  refine x_istore_n (ls2 := [some (.inr 4), some (.inl x1), some (.inl v3), some (.inl 1)]) d19_36 rfl rfl ?_
  exact k
set_option maxHeartbeats 4000000 in
theorem b_L_read_37 {d n : Nat} {sh : ZS} {R : ZR} {I : ZI} {Q : Int → ZI → Prop} (hW : Wf sh R) (hM : Lw sh R (R 4 1)) {u1 : Option AV} {x2 : Int} {x3 : Int}
    (k : (if 14 < x3 then (if x2 = 0 then Q (I 4 4) I else Q (I (R 4 1) 7) I) else (if x2 = 0 then (if x2 = 0 then Q (I 4 4) I else Q (I (R 4 1) 7) I) else (if I 4 2 ≤ I 4 3 then (if x2 = 0 then Q (I 4 4) I else Q (I (R 4 1) 7) I) else XI d 31 [.inr 4, .inl 59] n sh R I (fun v1 I2 => (if v1 = 0 then (zr (x3 + 1)) ∧ XIs (d + 1) 19 37 [some (.inr 4), u1, some (.inl 0), some (.inl (x3 + 1))] [] n sh R I2 Q else XI d 20 [.inr 4] n sh R I2 (fun v4 I5 => (if v4 = 0 then (zr (x3 + 1)) ∧ XIs (d + 1) 19 37 [some (.inr 4), u1, some (.inl 0), some (.inl (x3 + 1))] [] n sh R I5 Q else (zr (x3 + 1)) ∧ XIs (d + 1) 19 37 [some (.inr 4), u1, some (.inl 1), some (.inl (x3 + 1))] [] n sh R I5 Q)))))))) : XIs (d + 1) 19 37 [some (.inr 4), u1, some (.inl x2), some (.inl x3)] [] n sh R I Q := by
  unfold XIs
  refine x_iload_n d19_37 rfl ?_
  refine x_bipush d19_38 rfl ?_
  refine x_if2 (pc2 := 86) d19_40 rfl (fun c => ?_) (fun c => ?_)
  · replace c : 14 < x3 := c
    rw [if_pos c] at k
    refine x_iload_n d19_86 rfl ?_
    refine x_if1 (pc2 := 100) d19_87 rfl (fun c => ?_) (fun c => ?_)
    · replace c : x2 = 0 := c
      rw [if_pos c] at k
      refine x_aload_n d19_100 rfl ?_
      refine x_getI d19_101 gY_19.2.2.2 gF_2_23 rfl (sh_4 hW) ?_
      exact x_iret d19_104 gR_19 ⟨_, _, rfl, rfl, k⟩
    · replace c : ¬ (x2 = 0) := c
      rw [if_neg c] at k
      refine x_aload_n d19_90 rfl ?_
      refine x_getR (r := (R 4 1)) d19_91 gY_19.2.2.2 gF_2_10 rfl (sh_4 hW) rfl hM.1 ?_
      refine x_getI d19_94 gY_19.2.2.2 gF_2_47 rfl hM.2.1 ?_
      refine x_goto (pc2 := 104) d19_97 rfl ?_
      exact x_iret d19_104 gR_19 ⟨_, _, rfl, rfl, k⟩
  · replace c : ¬ (14 < x3) := c
    rw [if_neg c] at k
    refine x_iload_n d19_43 rfl ?_
    refine x_if1 (pc2 := 86) d19_44 rfl (fun c => ?_) (fun c => ?_)
    · replace c : x2 = 0 := c
      rw [if_pos c] at k
      refine x_iload_n d19_86 rfl ?_
      refine x_if1 (pc2 := 100) d19_87 rfl (fun c => ?_) (fun c => ?_)
      · replace c : x2 = 0 := c
        rw [if_pos c] at k
        refine x_aload_n d19_100 rfl ?_
        refine x_getI d19_101 gY_19.2.2.2 gF_2_23 rfl (sh_4 hW) ?_
        exact x_iret d19_104 gR_19 ⟨_, _, rfl, rfl, k⟩
      · replace c : ¬ (x2 = 0) := c
        rw [if_neg c] at k
        refine x_aload_n d19_90 rfl ?_
        refine x_getR (r := (R 4 1)) d19_91 gY_19.2.2.2 gF_2_10 rfl (sh_4 hW) rfl hM.1 ?_
        refine x_getI d19_94 gY_19.2.2.2 gF_2_47 rfl hM.2.1 ?_
        refine x_goto (pc2 := 104) d19_97 rfl ?_
        exact x_iret d19_104 gR_19 ⟨_, _, rfl, rfl, k⟩
    · replace c : ¬ (x2 = 0) := c
      rw [if_neg c] at k
      refine x_aload_n d19_47 rfl ?_
      refine x_getI d19_48 gY_19.2.2.2 gF_2_20 rfl (sh_4 hW) ?_
      refine x_aload_n d19_51 rfl ?_
      refine x_getI d19_52 gY_19.2.2.2 gF_2_16 rfl (sh_4 hW) ?_
      refine x_if2 (pc2 := 86) d19_55 rfl (fun c => ?_) (fun c => ?_)
      · replace c : I 4 2 ≤ I 4 3 := c
        rw [if_pos c] at k
        refine x_iload_n d19_86 rfl ?_
        refine x_if1 (pc2 := 100) d19_87 rfl (fun c => ?_) (fun c => ?_)
        · replace c : x2 = 0 := c
          rw [if_pos c] at k
          refine x_aload_n d19_100 rfl ?_
          refine x_getI d19_101 gY_19.2.2.2 gF_2_23 rfl (sh_4 hW) ?_
          exact x_iret d19_104 gR_19 ⟨_, _, rfl, rfl, k⟩
        · replace c : ¬ (x2 = 0) := c
          rw [if_neg c] at k
          refine x_aload_n d19_90 rfl ?_
          refine x_getR (r := (R 4 1)) d19_91 gY_19.2.2.2 gF_2_10 rfl (sh_4 hW) rfl hM.1 ?_
          refine x_getI d19_94 gY_19.2.2.2 gF_2_47 rfl hM.2.1 ?_
          refine x_goto (pc2 := 104) d19_97 rfl ?_
          exact x_iret d19_104 gR_19 ⟨_, _, rfl, rfl, k⟩
      · replace c : ¬ (I 4 2 ≤ I 4 3) := c
        rw [if_neg c] at k
        refine x_aload_n d19_58 rfl ?_
        refine x_bipush d19_59 rfl ?_
        refine y_invI (as := [.inl 59]) (t := []) (o := 4) gY_31 d19_61 gY_19.2.2.2 gM_2_43 rfl (sh_4 hW) rfl k (fun v1 I2 k => ?_)
        refine x_if1 (pc2 := 78) d19_64 rfl (fun c => ?_) (fun c => ?_)
        · replace c : v1 = 0 := c
          rw [if_pos c] at k
          refine x_iconst d19_78 rfl ?_
          refine x_istore_n (ls2 := [some (.inr 4), u1, some (.inl 0), some (.inl x3)]) d19_79 rfl rfl ?_
          have e3 := k.1
          replace k := k.2
          refine x_iinc (ls2 := [some (.inr 4), u1, some (.inl 0), some (.inl (x3 + 1))]) d19_80 rfl e3 rfl ?_
          refine x_goto (pc2 := 37) d19_83 rfl ?_
          exact k
        · replace c : ¬ (v1 = 0) := c
          rw [if_neg c] at k
          refine x_aload_n d19_67 rfl ?_
          refine y_invI (as := []) (t := []) (o := 4) gY_20 d19_68 gY_19.2.2.2 gM_2_39 rfl (sh_4 hW) rfl k (fun v4 I5 k => ?_)
          refine x_if1 (pc2 := 78) d19_71 rfl (fun c => ?_) (fun c => ?_)
          · replace c : v4 = 0 := c
            rw [if_pos c] at k
            refine x_iconst d19_78 rfl ?_
            refine x_istore_n (ls2 := [some (.inr 4), u1, some (.inl 0), some (.inl x3)]) d19_79 rfl rfl ?_
            have e6 := k.1
            replace k := k.2
            refine x_iinc (ls2 := [some (.inr 4), u1, some (.inl 0), some (.inl (x3 + 1))]) d19_80 rfl e6 rfl ?_
            refine x_goto (pc2 := 37) d19_83 rfl ?_
            exact k
          · replace c : ¬ (v4 = 0) := c
            rw [if_neg c] at k
            refine x_iconst d19_74 rfl ?_
            refine x_goto (pc2 := 79) d19_75 rfl ?_
            refine x_istore_n (ls2 := [some (.inr 4), u1, some (.inl 1), some (.inl x3)]) d19_79 rfl rfl ?_
            have e7 := k.1
            replace k := k.2
            refine x_iinc (ls2 := [some (.inr 4), u1, some (.inl 1), some (.inl (x3 + 1))]) d19_80 rfl e7 rfl ?_
            refine x_goto (pc2 := 37) d19_83 rfl ?_
            exact k
set_option maxHeartbeats 4000000 in
theorem b_L_clause_0 {d n : Nat} {sh : ZS} {R : ZR} {I : ZI} {Q : Int → ZI → Prop} (hW : Wf sh R) (hM : Lw sh R (R 4 1))
    (k : XI d 30 [.inr 4] n sh R I (fun v1 I2 => (if v1 = 104 then (if I2 (R 4 1) 7 < 14 then (zr (I2 4 3 + 1)) ∧ (if v1 = 122 then XI d 31 [.inr 4, .inl 40] n sh R (zup I2 4 3 (I2 4 3 + 1)) (fun v4 I5 => (if v4 = 0 then Q 0 I5 else XI d 21 [.inr 4, .inl 1] n sh R I5 (fun v6 I7 => (if v6 = 0 then Q 0 I7 else XI d 31 [.inr 4, .inl 41] n sh R I7 (fun v8 I9 => (if ¬ v8 = 0 then XV d 10 [.inr (R 4 1), .inl v1, .inl ((zup I2 4 3 (I2 4 3 + 1)) (R 4 1) 8), .inl ((zup I2 4 3 (I2 4 3 + 1)) (R 4 1) 8)] n sh R I9 (fun I11 => Q 1 I11) else Q 0 I9)))))) else XI d 25 [.inr 4, .inl 0] n sh R (zup I2 4 3 (I2 4 3 + 1)) (fun v12 I13 => (if ¬ v12 = 0 then XI d 31 [.inr 4, .inl 40] n sh R I13 (fun v14 I15 => (if v14 = 0 then Q 0 I15 else XI d 21 [.inr 4, .inl 1] n sh R I15 (fun v16 I17 => (if v16 = 0 then Q 0 I17 else XI d 31 [.inr 4, .inl 41] n sh R I17 (fun v18 I19 => (if ¬ v18 = 0 then XV d 10 [.inr (R 4 1), .inl v1, .inl ((zup I2 4 3 (I2 4 3 + 1)) (R 4 1) 8), .inl (I13 (R 4 1) 8)] n sh R I19 (fun I21 => Q 1 I21) else Q 0 I19)))))) else Q 0 I13))) else (zr ((-1000) * 4)) ∧ (zr (((-1000) * 4) - I2 4 3)) ∧ Q 0 (zup I2 4 4 (((-1000) * 4) - I2 4 3))) else (if v1 = 116 then (if I2 (R 4 1) 7 < 14 then (zr (I2 4 3 + 1)) ∧ (if v1 = 122 then XI d 31 [.inr 4, .inl 40] n sh R (zup I2 4 3 (I2 4 3 + 1)) (fun v25 I26 => (if v25 = 0 then Q 0 I26 else XI d 21 [.inr 4, .inl 1] n sh R I26 (fun v27 I28 => (if v27 = 0 then Q 0 I28 else XI d 31 [.inr 4, .inl 41] n sh R I28 (fun v29 I30 => (if ¬ v29 = 0 then XV d 10 [.inr (R 4 1), .inl v1, .inl ((zup I2 4 3 (I2 4 3 + 1)) (R 4 1) 8), .inl ((zup I2 4 3 (I2 4 3 + 1)) (R 4 1) 8)] n sh R I30 (fun I32 => Q 1 I32) else Q 0 I30)))))) else XI d 25 [.inr 4, .inl 0] n sh R (zup I2 4 3 (I2 4 3 + 1)) (fun v33 I34 => (if ¬ v33 = 0 then XI d 31 [.inr 4, .inl 40] n sh R I34 (fun v35 I36 => (if v35 = 0 then Q 0 I36 else XI d 21 [.inr 4, .inl 1] n sh R I36 (fun v37 I38 => (if v37 = 0 then Q 0 I38 else XI d 31 [.inr 4, .inl 41] n sh R I38 (fun v39 I40 => (if ¬ v39 = 0 then XV d 10 [.inr (R 4 1), .inl v1, .inl ((zup I2 4 3 (I2 4 3 + 1)) (R 4 1) 8), .inl (I34 (R 4 1) 8)] n sh R I40 (fun I42 => Q 1 I42) else Q 0 I40)))))) else Q 0 I34))) else (zr ((-1000) * 4)) ∧ (zr (((-1000) * 4) - I2 4 3)) ∧ Q 0 (zup I2 4 4 (((-1000) * 4) - I2 4 3))) else (if v1 = 122 then (if I2 (R 4 1) 7 < 14 then (zr (I2 4 3 + 1)) ∧ (if v1 = 122 then XI d 31 [.inr 4, .inl 40] n sh R (zup I2 4 3 (I2 4 3 + 1)) (fun v46 I47 => (if v46 = 0 then Q 0 I47 else XI d 21 [.inr 4, .inl 1] n sh R I47 (fun v48 I49 => (if v48 = 0 then Q 0 I49 else XI d 31 [.inr 4, .inl 41] n sh R I49 (fun v50 I51 => (if ¬ v50 = 0 then XV d 10 [.inr (R 4 1), .inl v1, .inl ((zup I2 4 3 (I2 4 3 + 1)) (R 4 1) 8), .inl ((zup I2 4 3 (I2 4 3 + 1)) (R 4 1) 8)] n sh R I51 (fun I53 => Q 1 I53) else Q 0 I51)))))) else XI d 25 [.inr 4, .inl 0] n sh R (zup I2 4 3 (I2 4 3 + 1)) (fun v54 I55 => (if ¬ v54 = 0 then XI d 31 [.inr 4, .inl 40] n sh R I55 (fun v56 I57 => (if v56 = 0 then Q 0 I57 else XI d 21 [.inr 4, .inl 1] n sh R I57 (fun v58 I59 => (if v58 = 0 then Q 0 I59 else XI d 31 [.inr 4, .inl 41] n sh R I59 (fun v60 I61 => (if ¬ v60 = 0 then XV d 10 [.inr (R 4 1), .inl v1, .inl ((zup I2 4 3 (I2 4 3 + 1)) (R 4 1) 8), .inl (I55 (R 4 1) 8)] n sh R I61 (fun I63 => Q 1 I63) else Q 0 I61)))))) else Q 0 I55))) else (zr ((-1000) * 4)) ∧ (zr (((-1000) * 4) - I2 4 3)) ∧ Q 0 (zup I2 4 4 (((-1000) * 4) - I2 4 3))) else (zr ((-1000) * 1)) ∧ (zr (((-1000) * 1) - I2 4 3)) ∧ Q 0 (zup I2 4 4 (((-1000) * 1) - I2 4 3))))))) : XI (d + 1) 20 [.inr 4] n sh R I Q := by
  refine XI.of (ls := [some (.inr 4), none, none, none]) (zloc_eq gY_20.2.2.1) ?_
  unfold XIs
  refine x_aload_n d20_0 rfl ?_
  refine y_invI (as := []) (t := []) (o := 4) gY_30 d20_1 gY_20.2.2.2 gM_2_50 rfl (sh_4 hW) rfl k (fun v1 I2 k => ?_)
  refine x_istore_n (ls2 := [some (.inr 4), some (.inl v1), none, none]) d20_4 rfl rfl ?_
  refine x_iload_n d20_5 rfl ?_
  refine x_bipush d20_6 rfl ?_
  refine x_if2 (pc2 := 29) d20_8 rfl (fun c => ?_) (fun c => ?_)
  · replace c : v1 = 104 := c
    rw [if_pos c] at k
    refine x_aload_n d20_29 rfl ?_
    refine x_getR (r := (R 4 1)) d20_30 gY_20.2.2.2 gF_2_10 rfl (sh_4 hW) rfl hM.1 ?_
    refine x_getI d20_33 gY_20.2.2.2 gF_2_47 rfl hM.2.1 ?_
    refine x_bipush d20_36 rfl ?_
    refine x_if2 (pc2 := 47) d20_38 rfl (fun c => ?_) (fun c => ?_)
    · replace c : I2 (R 4 1) 7 < 14 := c
      rw [if_pos c] at k
      refine x_aload_n d20_47 rfl ?_
      refine x_dup d20_48 ?_
      refine x_getI d20_49 gY_20.2.2.2 gF_2_20 rfl (sh_4 hW) ?_
      refine x_iconst d20_52 rfl ?_
      have e3 := k.1
      replace k := k.2
      refine x_iadd d20_53 e3 ?_
      refine x_putI d20_54 gY_20.2.2.2 gF_2_20 rfl rfl (sh_4 hW) ?_
      refine x_aload_n d20_57 rfl ?_
      refine x_getR (r := (R 4 1)) d20_58 gY_20.2.2.2 gF_2_10 rfl (sh_4 hW) rfl hM.1 ?_
      refine x_getI d20_61 gY_20.2.2.2 gF_2_57 rfl hM.2.1 ?_
      refine x_istore_n (ls2 := [some (.inr 4), some (.inl v1), some (.inl ((zup I2 4 3 (I2 4 3 + 1)) (R 4 1) 8)), none]) d20_64 rfl rfl ?_
      refine x_iload_n d20_65 rfl ?_
      refine x_bipush d20_66 rfl ?_
      refine x_if2 (pc2 := 81) d20_68 rfl (fun c => ?_) (fun c => ?_)
      · replace c : v1 = 122 := c
        rw [if_pos c] at k
        refine x_aload_n d20_81 rfl ?_
        refine x_getR (r := (R 4 1)) d20_82 gY_20.2.2.2 gF_2_10 rfl (sh_4 hW) rfl hM.1 ?_
        refine x_getI d20_85 gY_20.2.2.2 gF_2_57 rfl hM.2.1 ?_
        refine x_istore_n (ls2 := [some (.inr 4), some (.inl v1), some (.inl ((zup I2 4 3 (I2 4 3 + 1)) (R 4 1) 8)), some (.inl ((zup I2 4 3 (I2 4 3 + 1)) (R 4 1) 8))]) d20_88 rfl rfl ?_
        refine x_aload_n d20_89 rfl ?_
        refine x_bipush d20_90 rfl ?_
        refine y_invI (as := [.inl 40]) (t := []) (o := 4) gY_31 d20_92 gY_20.2.2.2 gM_2_43 rfl (sh_4 hW) rfl k (fun v4 I5 k => ?_)
        refine x_if1 (pc2 := 115) d20_95 rfl (fun c => ?_) (fun c => ?_)
        · replace c : v4 = 0 := c
          rw [if_pos c] at k
          refine x_iconst d20_115 rfl ?_
          exact x_zret d20_116 gR_20 (by decide) ⟨_, _, rfl, rfl, k⟩
        · replace c : ¬ (v4 = 0) := c
          rw [if_neg c] at k
          refine x_aload_n d20_98 rfl ?_
          refine x_iconst d20_99 rfl ?_
          refine y_invI (as := [.inl 1]) (t := []) (o := 4) gY_21 d20_100 gY_20.2.2.2 gM_2_63 rfl (sh_4 hW) rfl k (fun v6 I7 k => ?_)
          refine x_if1 (pc2 := 115) d20_103 rfl (fun c => ?_) (fun c => ?_)
          · replace c : v6 = 0 := c
            rw [if_pos c] at k
            refine x_iconst d20_115 rfl ?_
            exact x_zret d20_116 gR_20 (by decide) ⟨_, _, rfl, rfl, k⟩
          · replace c : ¬ (v6 = 0) := c
            rw [if_neg c] at k
            refine x_aload_n d20_106 rfl ?_
            refine x_bipush d20_107 rfl ?_
            refine y_invI (as := [.inl 41]) (t := []) (o := 4) gY_31 d20_109 gY_20.2.2.2 gM_2_43 rfl (sh_4 hW) rfl k (fun v8 I9 k => ?_)
            refine x_if1 (pc2 := 117) d20_112 rfl (fun c => ?_) (fun c => ?_)
            · replace c : ¬ v8 = 0 := c
              rw [if_pos c] at k
              refine x_aload_n d20_117 rfl ?_
              refine x_getR (r := (R 4 1)) d20_118 gY_20.2.2.2 gF_2_10 rfl (sh_4 hW) rfl hM.1 ?_
              refine x_iload_n d20_121 rfl ?_
              refine x_iload_n d20_122 rfl ?_
              refine x_iload_n d20_123 rfl ?_
              refine y_invV (as := [.inl v1, .inl ((zup I2 4 3 (I2 4 3 + 1)) (R 4 1) 8), .inl ((zup I2 4 3 (I2 4 3 + 1)) (R 4 1) 8)]) (t := []) (o := (R 4 1)) gY_10 d20_124 gY_20.2.2.2 gM_2_66 rfl hM.2.1 rfl k (fun I11 k => ?_)
              refine x_iconst d20_127 rfl ?_
              exact x_zret d20_128 gR_20 (by decide) ⟨_, _, rfl, rfl, k⟩
            · replace c : ¬ (¬ v8 = 0) := c
              rw [if_neg c] at k
              refine x_iconst d20_115 rfl ?_
              exact x_zret d20_116 gR_20 (by decide) ⟨_, _, rfl, rfl, k⟩
      · replace c : ¬ (v1 = 122) := c
        rw [if_neg c] at k
        refine x_aload_n d20_71 rfl ?_
        refine x_iconst d20_72 rfl ?_
        refine y_invI (as := [.inl 0]) (t := []) (o := 4) gY_25 d20_73 gY_20.2.2.2 gM_2_60 rfl (sh_4 hW) rfl k (fun v12 I13 k => ?_)
        refine x_if1 (pc2 := 81) d20_76 rfl (fun c => ?_) (fun c => ?_)
        · replace c : ¬ v12 = 0 := c
          rw [if_pos c] at k
          refine x_aload_n d20_81 rfl ?_
          refine x_getR (r := (R 4 1)) d20_82 gY_20.2.2.2 gF_2_10 rfl (sh_4 hW) rfl hM.1 ?_
          refine x_getI d20_85 gY_20.2.2.2 gF_2_57 rfl hM.2.1 ?_
          refine x_istore_n (ls2 := [some (.inr 4), some (.inl v1), some (.inl ((zup I2 4 3 (I2 4 3 + 1)) (R 4 1) 8)), some (.inl (I13 (R 4 1) 8))]) d20_88 rfl rfl ?_
          refine x_aload_n d20_89 rfl ?_
          refine x_bipush d20_90 rfl ?_
          refine y_invI (as := [.inl 40]) (t := []) (o := 4) gY_31 d20_92 gY_20.2.2.2 gM_2_43 rfl (sh_4 hW) rfl k (fun v14 I15 k => ?_)
          refine x_if1 (pc2 := 115) d20_95 rfl (fun c => ?_) (fun c => ?_)
          · replace c : v14 = 0 := c
            rw [if_pos c] at k
            refine x_iconst d20_115 rfl ?_
            exact x_zret d20_116 gR_20 (by decide) ⟨_, _, rfl, rfl, k⟩
          · replace c : ¬ (v14 = 0) := c
            rw [if_neg c] at k
            refine x_aload_n d20_98 rfl ?_
            refine x_iconst d20_99 rfl ?_
            refine y_invI (as := [.inl 1]) (t := []) (o := 4) gY_21 d20_100 gY_20.2.2.2 gM_2_63 rfl (sh_4 hW) rfl k (fun v16 I17 k => ?_)
            refine x_if1 (pc2 := 115) d20_103 rfl (fun c => ?_) (fun c => ?_)
            · replace c : v16 = 0 := c
              rw [if_pos c] at k
              refine x_iconst d20_115 rfl ?_
              exact x_zret d20_116 gR_20 (by decide) ⟨_, _, rfl, rfl, k⟩
            · replace c : ¬ (v16 = 0) := c
              rw [if_neg c] at k
              refine x_aload_n d20_106 rfl ?_
              refine x_bipush d20_107 rfl ?_
              refine y_invI (as := [.inl 41]) (t := []) (o := 4) gY_31 d20_109 gY_20.2.2.2 gM_2_43 rfl (sh_4 hW) rfl k (fun v18 I19 k => ?_)
              refine x_if1 (pc2 := 117) d20_112 rfl (fun c => ?_) (fun c => ?_)
              · replace c : ¬ v18 = 0 := c
                rw [if_pos c] at k
                refine x_aload_n d20_117 rfl ?_
                refine x_getR (r := (R 4 1)) d20_118 gY_20.2.2.2 gF_2_10 rfl (sh_4 hW) rfl hM.1 ?_
                refine x_iload_n d20_121 rfl ?_
                refine x_iload_n d20_122 rfl ?_
                refine x_iload_n d20_123 rfl ?_
                refine y_invV (as := [.inl v1, .inl ((zup I2 4 3 (I2 4 3 + 1)) (R 4 1) 8), .inl (I13 (R 4 1) 8)]) (t := []) (o := (R 4 1)) gY_10 d20_124 gY_20.2.2.2 gM_2_66 rfl hM.2.1 rfl k (fun I21 k => ?_)
                refine x_iconst d20_127 rfl ?_
                exact x_zret d20_128 gR_20 (by decide) ⟨_, _, rfl, rfl, k⟩
              · replace c : ¬ (¬ v18 = 0) := c
                rw [if_neg c] at k
                refine x_iconst d20_115 rfl ?_
                exact x_zret d20_116 gR_20 (by decide) ⟨_, _, rfl, rfl, k⟩
        · replace c : ¬ (¬ v12 = 0) := c
          rw [if_neg c] at k
          refine x_iconst d20_79 rfl ?_
          exact x_zret d20_80 gR_20 (by decide) ⟨_, _, rfl, rfl, k⟩
    · replace c : ¬ (I2 (R 4 1) 7 < 14) := c
      rw [if_neg c] at k
      refine x_aload_n d20_41 rfl ?_
      refine x_iconst d20_42 rfl ?_
      refine y_inv (as := [.inl 4]) (t := []) (o := 4) (ls2 := [some (.inr 4), some (.inl 4)]) gY_32 d20_43 gY_20.2.2.2 gM_2_54 rfl (sh_4 hW) rfl rfl ?_
      refine x_aload_n d32_0 rfl ?_
      refine x_sipush d32_1 rfl ?_
      refine x_iload_n d32_4 rfl ?_
      have e22 := k.1
      replace k := k.2
      refine x_imul d32_5 e22 ?_
      refine x_aload_n d32_6 rfl ?_
      refine x_getI d32_7 gY_32.2.2.2 gF_2_20 rfl (sh_4 hW) ?_
      have e23 := k.1
      replace k := k.2
      refine x_isub d32_10 e23 ?_
      refine x_putI d32_11 gY_32.2.2.2 gF_2_23 rfl rfl (sh_4 hW) ?_
      refine x_iconst d32_14 rfl ?_
      refine x_zret d32_15 gR_32 (by decide) ?_
      show Ex (d + 1) 20 46 [some (.inr 4), some (.inl v1), none, none] [.inl 0] (0, 0, n, sh, R, (zup I2 4 4 (((-1000) * 4) - I2 4 3))) _
      exact x_zret d20_46 gR_20 (by decide) ⟨_, _, rfl, rfl, k⟩
  · replace c : ¬ (v1 = 104) := c
    rw [if_neg c] at k
    refine x_iload_n d20_11 rfl ?_
    refine x_bipush d20_12 rfl ?_
    refine x_if2 (pc2 := 29) d20_14 rfl (fun c => ?_) (fun c => ?_)
    · replace c : v1 = 116 := c
      rw [if_pos c] at k
      refine x_aload_n d20_29 rfl ?_
      refine x_getR (r := (R 4 1)) d20_30 gY_20.2.2.2 gF_2_10 rfl (sh_4 hW) rfl hM.1 ?_
      refine x_getI d20_33 gY_20.2.2.2 gF_2_47 rfl hM.2.1 ?_
      refine x_bipush d20_36 rfl ?_
      refine x_if2 (pc2 := 47) d20_38 rfl (fun c => ?_) (fun c => ?_)
      · replace c : I2 (R 4 1) 7 < 14 := c
        rw [if_pos c] at k
        refine x_aload_n d20_47 rfl ?_
        refine x_dup d20_48 ?_
        refine x_getI d20_49 gY_20.2.2.2 gF_2_20 rfl (sh_4 hW) ?_
        refine x_iconst d20_52 rfl ?_
        have e24 := k.1
        replace k := k.2
        refine x_iadd d20_53 e24 ?_
        refine x_putI d20_54 gY_20.2.2.2 gF_2_20 rfl rfl (sh_4 hW) ?_
        refine x_aload_n d20_57 rfl ?_
        refine x_getR (r := (R 4 1)) d20_58 gY_20.2.2.2 gF_2_10 rfl (sh_4 hW) rfl hM.1 ?_
        refine x_getI d20_61 gY_20.2.2.2 gF_2_57 rfl hM.2.1 ?_
        refine x_istore_n (ls2 := [some (.inr 4), some (.inl v1), some (.inl ((zup I2 4 3 (I2 4 3 + 1)) (R 4 1) 8)), none]) d20_64 rfl rfl ?_
        refine x_iload_n d20_65 rfl ?_
        refine x_bipush d20_66 rfl ?_
        refine x_if2 (pc2 := 81) d20_68 rfl (fun c => ?_) (fun c => ?_)
        · replace c : v1 = 122 := c
          rw [if_pos c] at k
          refine x_aload_n d20_81 rfl ?_
          refine x_getR (r := (R 4 1)) d20_82 gY_20.2.2.2 gF_2_10 rfl (sh_4 hW) rfl hM.1 ?_
          refine x_getI d20_85 gY_20.2.2.2 gF_2_57 rfl hM.2.1 ?_
          refine x_istore_n (ls2 := [some (.inr 4), some (.inl v1), some (.inl ((zup I2 4 3 (I2 4 3 + 1)) (R 4 1) 8)), some (.inl ((zup I2 4 3 (I2 4 3 + 1)) (R 4 1) 8))]) d20_88 rfl rfl ?_
          refine x_aload_n d20_89 rfl ?_
          refine x_bipush d20_90 rfl ?_
          refine y_invI (as := [.inl 40]) (t := []) (o := 4) gY_31 d20_92 gY_20.2.2.2 gM_2_43 rfl (sh_4 hW) rfl k (fun v25 I26 k => ?_)
          refine x_if1 (pc2 := 115) d20_95 rfl (fun c => ?_) (fun c => ?_)
          · replace c : v25 = 0 := c
            rw [if_pos c] at k
            refine x_iconst d20_115 rfl ?_
            exact x_zret d20_116 gR_20 (by decide) ⟨_, _, rfl, rfl, k⟩
          · replace c : ¬ (v25 = 0) := c
            rw [if_neg c] at k
            refine x_aload_n d20_98 rfl ?_
            refine x_iconst d20_99 rfl ?_
            refine y_invI (as := [.inl 1]) (t := []) (o := 4) gY_21 d20_100 gY_20.2.2.2 gM_2_63 rfl (sh_4 hW) rfl k (fun v27 I28 k => ?_)
            refine x_if1 (pc2 := 115) d20_103 rfl (fun c => ?_) (fun c => ?_)
            · replace c : v27 = 0 := c
              rw [if_pos c] at k
              refine x_iconst d20_115 rfl ?_
              exact x_zret d20_116 gR_20 (by decide) ⟨_, _, rfl, rfl, k⟩
            · replace c : ¬ (v27 = 0) := c
              rw [if_neg c] at k
              refine x_aload_n d20_106 rfl ?_
              refine x_bipush d20_107 rfl ?_
              refine y_invI (as := [.inl 41]) (t := []) (o := 4) gY_31 d20_109 gY_20.2.2.2 gM_2_43 rfl (sh_4 hW) rfl k (fun v29 I30 k => ?_)
              refine x_if1 (pc2 := 117) d20_112 rfl (fun c => ?_) (fun c => ?_)
              · replace c : ¬ v29 = 0 := c
                rw [if_pos c] at k
                refine x_aload_n d20_117 rfl ?_
                refine x_getR (r := (R 4 1)) d20_118 gY_20.2.2.2 gF_2_10 rfl (sh_4 hW) rfl hM.1 ?_
                refine x_iload_n d20_121 rfl ?_
                refine x_iload_n d20_122 rfl ?_
                refine x_iload_n d20_123 rfl ?_
                refine y_invV (as := [.inl v1, .inl ((zup I2 4 3 (I2 4 3 + 1)) (R 4 1) 8), .inl ((zup I2 4 3 (I2 4 3 + 1)) (R 4 1) 8)]) (t := []) (o := (R 4 1)) gY_10 d20_124 gY_20.2.2.2 gM_2_66 rfl hM.2.1 rfl k (fun I32 k => ?_)
                refine x_iconst d20_127 rfl ?_
                exact x_zret d20_128 gR_20 (by decide) ⟨_, _, rfl, rfl, k⟩
              · replace c : ¬ (¬ v29 = 0) := c
                rw [if_neg c] at k
                refine x_iconst d20_115 rfl ?_
                exact x_zret d20_116 gR_20 (by decide) ⟨_, _, rfl, rfl, k⟩
        · replace c : ¬ (v1 = 122) := c
          rw [if_neg c] at k
          refine x_aload_n d20_71 rfl ?_
          refine x_iconst d20_72 rfl ?_
          refine y_invI (as := [.inl 0]) (t := []) (o := 4) gY_25 d20_73 gY_20.2.2.2 gM_2_60 rfl (sh_4 hW) rfl k (fun v33 I34 k => ?_)
          refine x_if1 (pc2 := 81) d20_76 rfl (fun c => ?_) (fun c => ?_)
          · replace c : ¬ v33 = 0 := c
            rw [if_pos c] at k
            refine x_aload_n d20_81 rfl ?_
            refine x_getR (r := (R 4 1)) d20_82 gY_20.2.2.2 gF_2_10 rfl (sh_4 hW) rfl hM.1 ?_
            refine x_getI d20_85 gY_20.2.2.2 gF_2_57 rfl hM.2.1 ?_
            refine x_istore_n (ls2 := [some (.inr 4), some (.inl v1), some (.inl ((zup I2 4 3 (I2 4 3 + 1)) (R 4 1) 8)), some (.inl (I34 (R 4 1) 8))]) d20_88 rfl rfl ?_
            refine x_aload_n d20_89 rfl ?_
            refine x_bipush d20_90 rfl ?_
            refine y_invI (as := [.inl 40]) (t := []) (o := 4) gY_31 d20_92 gY_20.2.2.2 gM_2_43 rfl (sh_4 hW) rfl k (fun v35 I36 k => ?_)
            refine x_if1 (pc2 := 115) d20_95 rfl (fun c => ?_) (fun c => ?_)
            · replace c : v35 = 0 := c
              rw [if_pos c] at k
              refine x_iconst d20_115 rfl ?_
              exact x_zret d20_116 gR_20 (by decide) ⟨_, _, rfl, rfl, k⟩
            · replace c : ¬ (v35 = 0) := c
              rw [if_neg c] at k
              refine x_aload_n d20_98 rfl ?_
              refine x_iconst d20_99 rfl ?_
              refine y_invI (as := [.inl 1]) (t := []) (o := 4) gY_21 d20_100 gY_20.2.2.2 gM_2_63 rfl (sh_4 hW) rfl k (fun v37 I38 k => ?_)
              refine x_if1 (pc2 := 115) d20_103 rfl (fun c => ?_) (fun c => ?_)
              · replace c : v37 = 0 := c
                rw [if_pos c] at k
                refine x_iconst d20_115 rfl ?_
                exact x_zret d20_116 gR_20 (by decide) ⟨_, _, rfl, rfl, k⟩
              · replace c : ¬ (v37 = 0) := c
                rw [if_neg c] at k
                refine x_aload_n d20_106 rfl ?_
                refine x_bipush d20_107 rfl ?_
                refine y_invI (as := [.inl 41]) (t := []) (o := 4) gY_31 d20_109 gY_20.2.2.2 gM_2_43 rfl (sh_4 hW) rfl k (fun v39 I40 k => ?_)
                refine x_if1 (pc2 := 117) d20_112 rfl (fun c => ?_) (fun c => ?_)
                · replace c : ¬ v39 = 0 := c
                  rw [if_pos c] at k
                  refine x_aload_n d20_117 rfl ?_
                  refine x_getR (r := (R 4 1)) d20_118 gY_20.2.2.2 gF_2_10 rfl (sh_4 hW) rfl hM.1 ?_
                  refine x_iload_n d20_121 rfl ?_
                  refine x_iload_n d20_122 rfl ?_
                  refine x_iload_n d20_123 rfl ?_
                  refine y_invV (as := [.inl v1, .inl ((zup I2 4 3 (I2 4 3 + 1)) (R 4 1) 8), .inl (I34 (R 4 1) 8)]) (t := []) (o := (R 4 1)) gY_10 d20_124 gY_20.2.2.2 gM_2_66 rfl hM.2.1 rfl k (fun I42 k => ?_)
                  refine x_iconst d20_127 rfl ?_
                  exact x_zret d20_128 gR_20 (by decide) ⟨_, _, rfl, rfl, k⟩
                · replace c : ¬ (¬ v39 = 0) := c
                  rw [if_neg c] at k
                  refine x_iconst d20_115 rfl ?_
                  exact x_zret d20_116 gR_20 (by decide) ⟨_, _, rfl, rfl, k⟩
          · replace c : ¬ (¬ v33 = 0) := c
            rw [if_neg c] at k
            refine x_iconst d20_79 rfl ?_
            exact x_zret d20_80 gR_20 (by decide) ⟨_, _, rfl, rfl, k⟩
      · replace c : ¬ (I2 (R 4 1) 7 < 14) := c
        rw [if_neg c] at k
        refine x_aload_n d20_41 rfl ?_
        refine x_iconst d20_42 rfl ?_
        refine y_inv (as := [.inl 4]) (t := []) (o := 4) (ls2 := [some (.inr 4), some (.inl 4)]) gY_32 d20_43 gY_20.2.2.2 gM_2_54 rfl (sh_4 hW) rfl rfl ?_
        refine x_aload_n d32_0 rfl ?_
        refine x_sipush d32_1 rfl ?_
        refine x_iload_n d32_4 rfl ?_
        have e43 := k.1
        replace k := k.2
        refine x_imul d32_5 e43 ?_
        refine x_aload_n d32_6 rfl ?_
        refine x_getI d32_7 gY_32.2.2.2 gF_2_20 rfl (sh_4 hW) ?_
        have e44 := k.1
        replace k := k.2
        refine x_isub d32_10 e44 ?_
        refine x_putI d32_11 gY_32.2.2.2 gF_2_23 rfl rfl (sh_4 hW) ?_
        refine x_iconst d32_14 rfl ?_
        refine x_zret d32_15 gR_32 (by decide) ?_
        show Ex (d + 1) 20 46 [some (.inr 4), some (.inl v1), none, none] [.inl 0] (0, 0, n, sh, R, (zup I2 4 4 (((-1000) * 4) - I2 4 3))) _
        exact x_zret d20_46 gR_20 (by decide) ⟨_, _, rfl, rfl, k⟩
    · replace c : ¬ (v1 = 116) := c
      rw [if_neg c] at k
      refine x_iload_n d20_17 rfl ?_
      refine x_bipush d20_18 rfl ?_
      refine x_if2 (pc2 := 29) d20_20 rfl (fun c => ?_) (fun c => ?_)
      · replace c : v1 = 122 := c
        rw [if_pos c] at k
        refine x_aload_n d20_29 rfl ?_
        refine x_getR (r := (R 4 1)) d20_30 gY_20.2.2.2 gF_2_10 rfl (sh_4 hW) rfl hM.1 ?_
        refine x_getI d20_33 gY_20.2.2.2 gF_2_47 rfl hM.2.1 ?_
        refine x_bipush d20_36 rfl ?_
        refine x_if2 (pc2 := 47) d20_38 rfl (fun c => ?_) (fun c => ?_)
        · replace c : I2 (R 4 1) 7 < 14 := c
          rw [if_pos c] at k
          refine x_aload_n d20_47 rfl ?_
          refine x_dup d20_48 ?_
          refine x_getI d20_49 gY_20.2.2.2 gF_2_20 rfl (sh_4 hW) ?_
          refine x_iconst d20_52 rfl ?_
          have e45 := k.1
          replace k := k.2
          refine x_iadd d20_53 e45 ?_
          refine x_putI d20_54 gY_20.2.2.2 gF_2_20 rfl rfl (sh_4 hW) ?_
          refine x_aload_n d20_57 rfl ?_
          refine x_getR (r := (R 4 1)) d20_58 gY_20.2.2.2 gF_2_10 rfl (sh_4 hW) rfl hM.1 ?_
          refine x_getI d20_61 gY_20.2.2.2 gF_2_57 rfl hM.2.1 ?_
          refine x_istore_n (ls2 := [some (.inr 4), some (.inl v1), some (.inl ((zup I2 4 3 (I2 4 3 + 1)) (R 4 1) 8)), none]) d20_64 rfl rfl ?_
          refine x_iload_n d20_65 rfl ?_
          refine x_bipush d20_66 rfl ?_
          refine x_if2 (pc2 := 81) d20_68 rfl (fun c => ?_) (fun c => ?_)
          · replace c : v1 = 122 := c
            rw [if_pos c] at k
            refine x_aload_n d20_81 rfl ?_
            refine x_getR (r := (R 4 1)) d20_82 gY_20.2.2.2 gF_2_10 rfl (sh_4 hW) rfl hM.1 ?_
            refine x_getI d20_85 gY_20.2.2.2 gF_2_57 rfl hM.2.1 ?_
            refine x_istore_n (ls2 := [some (.inr 4), some (.inl v1), some (.inl ((zup I2 4 3 (I2 4 3 + 1)) (R 4 1) 8)), some (.inl ((zup I2 4 3 (I2 4 3 + 1)) (R 4 1) 8))]) d20_88 rfl rfl ?_
            refine x_aload_n d20_89 rfl ?_
            refine x_bipush d20_90 rfl ?_
            refine y_invI (as := [.inl 40]) (t := []) (o := 4) gY_31 d20_92 gY_20.2.2.2 gM_2_43 rfl (sh_4 hW) rfl k (fun v46 I47 k => ?_)
            refine x_if1 (pc2 := 115) d20_95 rfl (fun c => ?_) (fun c => ?_)
            · replace c : v46 = 0 := c
              rw [if_pos c] at k
              refine x_iconst d20_115 rfl ?_
              exact x_zret d20_116 gR_20 (by decide) ⟨_, _, rfl, rfl, k⟩
            · replace c : ¬ (v46 = 0) := c
              rw [if_neg c] at k
              refine x_aload_n d20_98 rfl ?_
              refine x_iconst d20_99 rfl ?_
              refine y_invI (as := [.inl 1]) (t := []) (o := 4) gY_21 d20_100 gY_20.2.2.2 gM_2_63 rfl (sh_4 hW) rfl k (fun v48 I49 k => ?_)
              refine x_if1 (pc2 := 115) d20_103 rfl (fun c => ?_) (fun c => ?_)
              · replace c : v48 = 0 := c
                rw [if_pos c] at k
                refine x_iconst d20_115 rfl ?_
                exact x_zret d20_116 gR_20 (by decide) ⟨_, _, rfl, rfl, k⟩
              · replace c : ¬ (v48 = 0) := c
                rw [if_neg c] at k
                refine x_aload_n d20_106 rfl ?_
                refine x_bipush d20_107 rfl ?_
                refine y_invI (as := [.inl 41]) (t := []) (o := 4) gY_31 d20_109 gY_20.2.2.2 gM_2_43 rfl (sh_4 hW) rfl k (fun v50 I51 k => ?_)
                refine x_if1 (pc2 := 117) d20_112 rfl (fun c => ?_) (fun c => ?_)
                · replace c : ¬ v50 = 0 := c
                  rw [if_pos c] at k
                  refine x_aload_n d20_117 rfl ?_
                  refine x_getR (r := (R 4 1)) d20_118 gY_20.2.2.2 gF_2_10 rfl (sh_4 hW) rfl hM.1 ?_
                  refine x_iload_n d20_121 rfl ?_
                  refine x_iload_n d20_122 rfl ?_
                  refine x_iload_n d20_123 rfl ?_
                  refine y_invV (as := [.inl v1, .inl ((zup I2 4 3 (I2 4 3 + 1)) (R 4 1) 8), .inl ((zup I2 4 3 (I2 4 3 + 1)) (R 4 1) 8)]) (t := []) (o := (R 4 1)) gY_10 d20_124 gY_20.2.2.2 gM_2_66 rfl hM.2.1 rfl k (fun I53 k => ?_)
                  refine x_iconst d20_127 rfl ?_
                  exact x_zret d20_128 gR_20 (by decide) ⟨_, _, rfl, rfl, k⟩
                · replace c : ¬ (¬ v50 = 0) := c
                  rw [if_neg c] at k
                  refine x_iconst d20_115 rfl ?_
                  exact x_zret d20_116 gR_20 (by decide) ⟨_, _, rfl, rfl, k⟩
          · replace c : ¬ (v1 = 122) := c
            rw [if_neg c] at k
            refine x_aload_n d20_71 rfl ?_
            refine x_iconst d20_72 rfl ?_
            refine y_invI (as := [.inl 0]) (t := []) (o := 4) gY_25 d20_73 gY_20.2.2.2 gM_2_60 rfl (sh_4 hW) rfl k (fun v54 I55 k => ?_)
            refine x_if1 (pc2 := 81) d20_76 rfl (fun c => ?_) (fun c => ?_)
            · replace c : ¬ v54 = 0 := c
              rw [if_pos c] at k
              refine x_aload_n d20_81 rfl ?_
              refine x_getR (r := (R 4 1)) d20_82 gY_20.2.2.2 gF_2_10 rfl (sh_4 hW) rfl hM.1 ?_
              refine x_getI d20_85 gY_20.2.2.2 gF_2_57 rfl hM.2.1 ?_
              refine x_istore_n (ls2 := [some (.inr 4), some (.inl v1), some (.inl ((zup I2 4 3 (I2 4 3 + 1)) (R 4 1) 8)), some (.inl (I55 (R 4 1) 8))]) d20_88 rfl rfl ?_
              refine x_aload_n d20_89 rfl ?_
              refine x_bipush d20_90 rfl ?_
              refine y_invI (as := [.inl 40]) (t := []) (o := 4) gY_31 d20_92 gY_20.2.2.2 gM_2_43 rfl (sh_4 hW) rfl k (fun v56 I57 k => ?_)
              refine x_if1 (pc2 := 115) d20_95 rfl (fun c => ?_) (fun c => ?_)
              · replace c : v56 = 0 := c
                rw [if_pos c] at k
                refine x_iconst d20_115 rfl ?_
                exact x_zret d20_116 gR_20 (by decide) ⟨_, _, rfl, rfl, k⟩
              · replace c : ¬ (v56 = 0) := c
                rw [if_neg c] at k
                refine x_aload_n d20_98 rfl ?_
                refine x_iconst d20_99 rfl ?_
                refine y_invI (as := [.inl 1]) (t := []) (o := 4) gY_21 d20_100 gY_20.2.2.2 gM_2_63 rfl (sh_4 hW) rfl k (fun v58 I59 k => ?_)
                refine x_if1 (pc2 := 115) d20_103 rfl (fun c => ?_) (fun c => ?_)
                · replace c : v58 = 0 := c
                  rw [if_pos c] at k
                  refine x_iconst d20_115 rfl ?_
                  exact x_zret d20_116 gR_20 (by decide) ⟨_, _, rfl, rfl, k⟩
                · replace c : ¬ (v58 = 0) := c
                  rw [if_neg c] at k
                  refine x_aload_n d20_106 rfl ?_
                  refine x_bipush d20_107 rfl ?_
                  refine y_invI (as := [.inl 41]) (t := []) (o := 4) gY_31 d20_109 gY_20.2.2.2 gM_2_43 rfl (sh_4 hW) rfl k (fun v60 I61 k => ?_)
                  refine x_if1 (pc2 := 117) d20_112 rfl (fun c => ?_) (fun c => ?_)
                  · replace c : ¬ v60 = 0 := c
                    rw [if_pos c] at k
                    refine x_aload_n d20_117 rfl ?_
                    refine x_getR (r := (R 4 1)) d20_118 gY_20.2.2.2 gF_2_10 rfl (sh_4 hW) rfl hM.1 ?_
                    refine x_iload_n d20_121 rfl ?_
                    refine x_iload_n d20_122 rfl ?_
                    refine x_iload_n d20_123 rfl ?_
                    refine y_invV (as := [.inl v1, .inl ((zup I2 4 3 (I2 4 3 + 1)) (R 4 1) 8), .inl (I55 (R 4 1) 8)]) (t := []) (o := (R 4 1)) gY_10 d20_124 gY_20.2.2.2 gM_2_66 rfl hM.2.1 rfl k (fun I63 k => ?_)
                    refine x_iconst d20_127 rfl ?_
                    exact x_zret d20_128 gR_20 (by decide) ⟨_, _, rfl, rfl, k⟩
                  · replace c : ¬ (¬ v60 = 0) := c
                    rw [if_neg c] at k
                    refine x_iconst d20_115 rfl ?_
                    exact x_zret d20_116 gR_20 (by decide) ⟨_, _, rfl, rfl, k⟩
            · replace c : ¬ (¬ v54 = 0) := c
              rw [if_neg c] at k
              refine x_iconst d20_79 rfl ?_
              exact x_zret d20_80 gR_20 (by decide) ⟨_, _, rfl, rfl, k⟩
        · replace c : ¬ (I2 (R 4 1) 7 < 14) := c
          rw [if_neg c] at k
          refine x_aload_n d20_41 rfl ?_
          refine x_iconst d20_42 rfl ?_
          refine y_inv (as := [.inl 4]) (t := []) (o := 4) (ls2 := [some (.inr 4), some (.inl 4)]) gY_32 d20_43 gY_20.2.2.2 gM_2_54 rfl (sh_4 hW) rfl rfl ?_
          refine x_aload_n d32_0 rfl ?_
          refine x_sipush d32_1 rfl ?_
          refine x_iload_n d32_4 rfl ?_
          have e64 := k.1
          replace k := k.2
          refine x_imul d32_5 e64 ?_
          refine x_aload_n d32_6 rfl ?_
          refine x_getI d32_7 gY_32.2.2.2 gF_2_20 rfl (sh_4 hW) ?_
          have e65 := k.1
          replace k := k.2
          refine x_isub d32_10 e65 ?_
          refine x_putI d32_11 gY_32.2.2.2 gF_2_23 rfl rfl (sh_4 hW) ?_
          refine x_iconst d32_14 rfl ?_
          refine x_zret d32_15 gR_32 (by decide) ?_
          show Ex (d + 1) 20 46 [some (.inr 4), some (.inl v1), none, none] [.inl 0] (0, 0, n, sh, R, (zup I2 4 4 (((-1000) * 4) - I2 4 3))) _
          exact x_zret d20_46 gR_20 (by decide) ⟨_, _, rfl, rfl, k⟩
      · replace c : ¬ (v1 = 122) := c
        rw [if_neg c] at k
        refine x_aload_n d20_23 rfl ?_
        refine x_iconst d20_24 rfl ?_
        refine y_inv (as := [.inl 1]) (t := []) (o := 4) (ls2 := [some (.inr 4), some (.inl 1)]) gY_32 d20_25 gY_20.2.2.2 gM_2_54 rfl (sh_4 hW) rfl rfl ?_
        refine x_aload_n d32_0 rfl ?_
        refine x_sipush d32_1 rfl ?_
        refine x_iload_n d32_4 rfl ?_
        have e66 := k.1
        replace k := k.2
        refine x_imul d32_5 e66 ?_
        refine x_aload_n d32_6 rfl ?_
        refine x_getI d32_7 gY_32.2.2.2 gF_2_20 rfl (sh_4 hW) ?_
        have e67 := k.1
        replace k := k.2
        refine x_isub d32_10 e67 ?_
        refine x_putI d32_11 gY_32.2.2.2 gF_2_23 rfl rfl (sh_4 hW) ?_
        refine x_iconst d32_14 rfl ?_
        refine x_zret d32_15 gR_32 (by decide) ?_
        show Ex (d + 1) 20 28 [some (.inr 4), some (.inl v1), none, none] [.inl 0] (0, 0, n, sh, R, (zup I2 4 4 (((-1000) * 1) - I2 4 3))) _
        exact x_zret d20_28 gR_20 (by decide) ⟨_, _, rfl, rfl, k⟩
set_option maxHeartbeats 4000000 in
theorem b_L_condition_0 {d n : Nat} {sh : ZS} {R : ZR} {I : ZI} {Q : Int → ZI → Prop} (hW : Wf sh R) {x1 : Int}
    (k : XI d 22 [.inr 4, .inl x1] n sh R I (fun v1 I2 => XIs (d + 1) 21 11 [some (.inr 4), some (.inl x1), some (.inl v1), some (.inl (I2 4 3)), none] [] n sh R I2 Q)) : XI (d + 1) 21 [.inr 4, .inl x1] n sh R I Q := by
  refine XI.of (ls := [some (.inr 4), some (.inl x1), none, none, none]) (zloc_eq gY_21.2.2.1) ?_
  unfold XIs
  refine x_aload_n d21_0 rfl ?_
  refine x_iload_n d21_1 rfl ?_
  refine y_invI (as := [.inl x1]) (t := []) (o := 4) gY_22 d21_2 gY_21.2.2.2 gM_2_70 rfl (sh_4 hW) rfl k (fun v1 I2 k => ?_)
  refine x_istore_n (ls2 := [some (.inr 4), some (.inl x1), some (.inl v1), none, none]) d21_5 rfl rfl ?_
  refine x_aload_n d21_6 rfl ?_
  refine x_getI d21_7 gY_21.2.2.2 gF_2_20 rfl (sh_4 hW) ?_
  refine x_istore_n (ls2 := [some (.inr 4), some (.inl x1), some (.inl v1), some (.inl (I2 4 3)), none]) d21_10 rfl rfl ?_
  exact k
set_option maxHeartbeats 4000000 in
theorem b_L_condition_11 {d n : Nat} {sh : ZS} {R : ZR} {I : ZI} {Q : Int → ZI → Prop} (hW : Wf sh R) (hM : Lw sh R (R 4 1)) {x1 : Int} {x2 : Int} {x3 : Int} {u4 : Option AV}
    (k : (if I 4 2 ≤ x3 then (x2 = 0 ∨ x2 = 1) ∧ Q x2 I else (if x2 = 0 then (x2 = 0 ∨ x2 = 1) ∧ Q x2 I else XI d 30 [.inr 4] n sh R I (fun v3 I4 => (if ¬ v3 = 124 then (x2 = 0 ∨ x2 = 1) ∧ Q x2 I4 else XI d 29 [.inr 4, .inl 124] n sh R I4 (fun v6 I7 => XI d 22 [.inr 4, .inl x1] n sh R I7 (fun v8 I9 => XV d 9 [.inr (R 4 1), .inl v6] n sh R I9 (fun I11 => (zr (x3 + 1)) ∧ XIs (d + 1) 21 11 [some (.inr 4), some (.inl x1), some (.inl v8), some (.inl (x3 + 1)), some (.inl v6)] [] n sh R I11 Q)))))))) : XIs (d + 1) 21 11 [some (.inr 4), some (.inl x1), some (.inl x2), some (.inl x3), u4] [] n sh R I Q := by
  unfold XIs
  refine x_iload_n d21_11 rfl ?_
  refine x_aload_n d21_12 rfl ?_
  refine x_getI d21_13 gY_21.2.2.2 gF_2_16 rfl (sh_4 hW) ?_
  refine x_if2 (pc2 := 61) d21_16 rfl (fun c => ?_) (fun c => ?_)
  · replace c : I 4 2 ≤ x3 := c
    rw [if_pos c] at k
    refine x_iload_n d21_61 rfl ?_
    have e1 := k.1
    replace k := k.2
    exact x_zret d21_62 gR_21 e1 ⟨_, _, rfl, rfl, k⟩
  · replace c : ¬ (I 4 2 ≤ x3) := c
    rw [if_neg c] at k
    refine x_iload_n d21_19 rfl ?_
    refine x_if1 (pc2 := 61) d21_20 rfl (fun c => ?_) (fun c => ?_)
    · replace c : x2 = 0 := c
      rw [if_pos c] at k
      refine x_iload_n d21_61 rfl ?_
      have e2 := k.1
      replace k := k.2
      exact x_zret d21_62 gR_21 e2 ⟨_, _, rfl, rfl, k⟩
    · replace c : ¬ (x2 = 0) := c
      rw [if_neg c] at k
      refine x_aload_n d21_23 rfl ?_
      refine y_invI (as := []) (t := []) (o := 4) gY_30 d21_24 gY_21.2.2.2 gM_2_50 rfl (sh_4 hW) rfl k (fun v3 I4 k => ?_)
      refine x_bipush d21_27 rfl ?_
      refine x_if2 (pc2 := 61) d21_29 rfl (fun c => ?_) (fun c => ?_)
      · replace c : ¬ v3 = 124 := c
        rw [if_pos c] at k
        refine x_iload_n d21_61 rfl ?_
        have e5 := k.1
        replace k := k.2
        exact x_zret d21_62 gR_21 e5 ⟨_, _, rfl, rfl, k⟩
      · replace c : ¬ (¬ v3 = 124) := c
        rw [if_neg c] at k
        refine x_aload_n d21_32 rfl ?_
        refine x_bipush d21_33 rfl ?_
        refine y_invI (as := [.inl 124]) (t := []) (o := 4) gY_29 d21_35 gY_21.2.2.2 gM_2_73 rfl (sh_4 hW) rfl k (fun v6 I7 k => ?_)
        refine x_istore (ls2 := [some (.inr 4), some (.inl x1), some (.inl x2), some (.inl x3), some (.inl v6)]) d21_38 rfl rfl ?_
        refine x_aload_n d21_40 rfl ?_
        refine x_iload_n d21_41 rfl ?_
        refine y_invI (as := [.inl x1]) (t := []) (o := 4) gY_22 d21_42 gY_21.2.2.2 gM_2_70 rfl (sh_4 hW) rfl k (fun v8 I9 k => ?_)
        refine x_istore_n (ls2 := [some (.inr 4), some (.inl x1), some (.inl v8), some (.inl x3), some (.inl v6)]) d21_45 rfl rfl ?_
        refine x_aload_n d21_46 rfl ?_
        refine x_getR (r := (R 4 1)) d21_47 gY_21.2.2.2 gF_2_10 rfl (sh_4 hW) rfl hM.1 ?_
        refine x_iload d21_50 rfl ?_
        refine y_invV (as := [.inl v6]) (t := []) (o := (R 4 1)) gY_9 d21_52 gY_21.2.2.2 gM_2_77 rfl hM.2.1 rfl k (fun I11 k => ?_)
        have e12 := k.1
        replace k := k.2
        refine x_iinc (ls2 := [some (.inr 4), some (.inl x1), some (.inl v8), some (.inl (x3 + 1)), some (.inl v6)]) d21_55 rfl e12 rfl ?_
        refine x_goto (pc2 := 11) d21_58 rfl ?_
        exact k
set_option maxHeartbeats 4000000 in
theorem b_L_part_0 {d n : Nat} {sh : ZS} {R : ZR} {I : ZI} {Q : Int → ZI → Prop} (hW : Wf sh R) {x1 : Int}
    (k : XI d 23 [.inr 4, .inl x1] n sh R I (fun v1 I2 => XIs (d + 1) 22 11 [some (.inr 4), some (.inl x1), some (.inl v1), some (.inl (I2 4 3)), none] [] n sh R I2 Q)) : XI (d + 1) 22 [.inr 4, .inl x1] n sh R I Q := by
  refine XI.of (ls := [some (.inr 4), some (.inl x1), none, none, none]) (zloc_eq gY_22.2.2.1) ?_
  unfold XIs
  refine x_aload_n d22_0 rfl ?_
  refine x_iload_n d22_1 rfl ?_
  refine y_invI (as := [.inl x1]) (t := []) (o := 4) gY_23 d22_2 gY_22.2.2.2 gM_2_81 rfl (sh_4 hW) rfl k (fun v1 I2 k => ?_)
  refine x_istore_n (ls2 := [some (.inr 4), some (.inl x1), some (.inl v1), none, none]) d22_5 rfl rfl ?_
  refine x_aload_n d22_6 rfl ?_
  refine x_getI d22_7 gY_22.2.2.2 gF_2_20 rfl (sh_4 hW) ?_
  refine x_istore_n (ls2 := [some (.inr 4), some (.inl x1), some (.inl v1), some (.inl (I2 4 3)), none]) d22_10 rfl rfl ?_
  exact k
set_option maxHeartbeats 4000000 in
theorem b_L_part_11 {d n : Nat} {sh : ZS} {R : ZR} {I : ZI} {Q : Int → ZI → Prop} (hW : Wf sh R) (hM : Lw sh R (R 4 1)) {x1 : Int} {x2 : Int} {x3 : Int} {u4 : Option AV}
    (k : (if I 4 2 ≤ x3 then (x2 = 0 ∨ x2 = 1) ∧ Q x2 I else (if x2 = 0 then (x2 = 0 ∨ x2 = 1) ∧ Q x2 I else XI d 30 [.inr 4] n sh R I (fun v3 I4 => (if ¬ v3 = 38 then (x2 = 0 ∨ x2 = 1) ∧ Q x2 I4 else XI d 29 [.inr 4, .inl 38] n sh R I4 (fun v6 I7 => XI d 23 [.inr 4, .inl x1] n sh R I7 (fun v8 I9 => XV d 9 [.inr (R 4 1), .inl v6] n sh R I9 (fun I11 => (zr (x3 + 1)) ∧ XIs (d + 1) 22 11 [some (.inr 4), some (.inl x1), some (.inl v8), some (.inl (x3 + 1)), some (.inl v6)] [] n sh R I11 Q)))))))) : XIs (d + 1) 22 11 [some (.inr 4), some (.inl x1), some (.inl x2), some (.inl x3), u4] [] n sh R I Q := by
  unfold XIs
  refine x_iload_n d22_11 rfl ?_
  refine x_aload_n d22_12 rfl ?_
  refine x_getI d22_13 gY_22.2.2.2 gF_2_16 rfl (sh_4 hW) ?_
  refine x_if2 (pc2 := 61) d22_16 rfl (fun c => ?_) (fun c => ?_)
  · replace c : I 4 2 ≤ x3 := c
    rw [if_pos c] at k
    refine x_iload_n d22_61 rfl ?_
    have e1 := k.1
    replace k := k.2
    exact x_zret d22_62 gR_22 e1 ⟨_, _, rfl, rfl, k⟩
  · replace c : ¬ (I 4 2 ≤ x3) := c
    rw [if_neg c] at k
    refine x_iload_n d22_19 rfl ?_
    refine x_if1 (pc2 := 61) d22_20 rfl (fun c => ?_) (fun c => ?_)
    · replace c : x2 = 0 := c
      rw [if_pos c] at k
      refine x_iload_n d22_61 rfl ?_
      have e2 := k.1
      replace k := k.2
      exact x_zret d22_62 gR_22 e2 ⟨_, _, rfl, rfl, k⟩
    · replace c : ¬ (x2 = 0) := c
      rw [if_neg c] at k
      refine x_aload_n d22_23 rfl ?_
      refine y_invI (as := []) (t := []) (o := 4) gY_30 d22_24 gY_22.2.2.2 gM_2_50 rfl (sh_4 hW) rfl k (fun v3 I4 k => ?_)
      refine x_bipush d22_27 rfl ?_
      refine x_if2 (pc2 := 61) d22_29 rfl (fun c => ?_) (fun c => ?_)
      · replace c : ¬ v3 = 38 := c
        rw [if_pos c] at k
        refine x_iload_n d22_61 rfl ?_
        have e5 := k.1
        replace k := k.2
        exact x_zret d22_62 gR_22 e5 ⟨_, _, rfl, rfl, k⟩
      · replace c : ¬ (¬ v3 = 38) := c
        rw [if_neg c] at k
        refine x_aload_n d22_32 rfl ?_
        refine x_bipush d22_33 rfl ?_
        refine y_invI (as := [.inl 38]) (t := []) (o := 4) gY_29 d22_35 gY_22.2.2.2 gM_2_73 rfl (sh_4 hW) rfl k (fun v6 I7 k => ?_)
        refine x_istore (ls2 := [some (.inr 4), some (.inl x1), some (.inl x2), some (.inl x3), some (.inl v6)]) d22_38 rfl rfl ?_
        refine x_aload_n d22_40 rfl ?_
        refine x_iload_n d22_41 rfl ?_
        refine y_invI (as := [.inl x1]) (t := []) (o := 4) gY_23 d22_42 gY_22.2.2.2 gM_2_81 rfl (sh_4 hW) rfl k (fun v8 I9 k => ?_)
        refine x_istore_n (ls2 := [some (.inr 4), some (.inl x1), some (.inl v8), some (.inl x3), some (.inl v6)]) d22_45 rfl rfl ?_
        refine x_aload_n d22_46 rfl ?_
        refine x_getR (r := (R 4 1)) d22_47 gY_22.2.2.2 gF_2_10 rfl (sh_4 hW) rfl hM.1 ?_
        refine x_iload d22_50 rfl ?_
        refine y_invV (as := [.inl v6]) (t := []) (o := (R 4 1)) gY_9 d22_52 gY_22.2.2.2 gM_2_77 rfl hM.2.1 rfl k (fun I11 k => ?_)
        have e12 := k.1
        replace k := k.2
        refine x_iinc (ls2 := [some (.inr 4), some (.inl x1), some (.inl v8), some (.inl (x3 + 1)), some (.inl v6)]) d22_55 rfl e12 rfl ?_
        refine x_goto (pc2 := 11) d22_58 rfl ?_
        exact k
set_option maxHeartbeats 4000000 in
theorem b_L_piece_0 {d n : Nat} {sh : ZS} {R : ZR} {I : ZI} {Q : Int → ZI → Prop} (hW : Wf sh R) (hM : Lw sh R (R 4 1)) {x1 : Int}
    (k : XI d 30 [.inr 4] n sh R I (fun v1 I2 => (if v1 = 33 then (if x1 < 6 then (zr (I2 4 3 + 1)) ∧ (if ¬ v1 = 40 then (zr (x1 + 1)) ∧ XI d 23 [.inr 4, .inl (x1 + 1)] n sh R (zup I2 4 3 (I2 4 3 + 1)) (fun v5 I6 => (if ¬ v5 = 0 then XI d 8 [.inr (R 4 1), .inl 33, .inl 0] n sh R I6 (fun v7 I8 => Q 1 I8) else Q 0 I6)) else (zr (x1 + 1)) ∧ XI d 21 [.inr 4, .inl (x1 + 1)] n sh R (zup I2 4 3 (I2 4 3 + 1)) (fun v10 I11 => (if v10 = 0 then Q 0 I11 else XI d 31 [.inr 4, .inl 41] n sh R I11 (fun v12 I13 => (if v12 = 0 then Q 0 I13 else Q 1 I13))))) else (zr ((-1000) * 5)) ∧ (zr (((-1000) * 5) - I2 4 3)) ∧ Q 0 (zup I2 4 4 (((-1000) * 5) - I2 4 3))) else (if v1 = 40 then (if x1 < 6 then (zr (I2 4 3 + 1)) ∧ (if ¬ v1 = 40 then (zr (x1 + 1)) ∧ XI d 23 [.inr 4, .inl (x1 + 1)] n sh R (zup I2 4 3 (I2 4 3 + 1)) (fun v18 I19 => (if ¬ v18 = 0 then XI d 8 [.inr (R 4 1), .inl 33, .inl 0] n sh R I19 (fun v20 I21 => Q 1 I21) else Q 0 I19)) else (zr (x1 + 1)) ∧ XI d 21 [.inr 4, .inl (x1 + 1)] n sh R (zup I2 4 3 (I2 4 3 + 1)) (fun v23 I24 => (if v23 = 0 then Q 0 I24 else XI d 31 [.inr 4, .inl 41] n sh R I24 (fun v25 I26 => (if v25 = 0 then Q 0 I26 else Q 1 I26))))) else (zr ((-1000) * 5)) ∧ (zr (((-1000) * 5) - I2 4 3)) ∧ Q 0 (zup I2 4 4 (((-1000) * 5) - I2 4 3))) else XI d 24 [.inr 4, .inl x1] n sh R I2 (fun v29 I30 => (v29 = 0 ∨ v29 = 1) ∧ Q v29 I30))))) : XI (d + 1) 23 [.inr 4, .inl x1] n sh R I Q := by
  refine XI.of (ls := [some (.inr 4), some (.inl x1), none]) (zloc_eq gY_23.2.2.1) ?_
  unfold XIs
  refine x_aload_n d23_0 rfl ?_
  refine y_invI (as := []) (t := []) (o := 4) gY_30 d23_1 gY_23.2.2.2 gM_2_50 rfl (sh_4 hW) rfl k (fun v1 I2 k => ?_)
  refine x_istore_n (ls2 := [some (.inr 4), some (.inl x1), some (.inl v1)]) d23_4 rfl rfl ?_
  refine x_iload_n d23_5 rfl ?_
  refine x_bipush d23_6 rfl ?_
  refine x_if2 (pc2 := 23) d23_8 rfl (fun c => ?_) (fun c => ?_)
  · replace c : v1 = 33 := c
    rw [if_pos c] at k
    refine x_iload_n d23_23 rfl ?_
    refine x_bipush d23_24 rfl ?_
    refine x_if2 (pc2 := 35) d23_26 rfl (fun c => ?_) (fun c => ?_)
    · replace c : x1 < 6 := c
      rw [if_pos c] at k
      refine x_aload_n d23_35 rfl ?_
      refine x_dup d23_36 ?_
      refine x_getI d23_37 gY_23.2.2.2 gF_2_20 rfl (sh_4 hW) ?_
      refine x_iconst d23_40 rfl ?_
      have e3 := k.1
      replace k := k.2
      refine x_iadd d23_41 e3 ?_
      refine x_putI d23_42 gY_23.2.2.2 gF_2_20 rfl rfl (sh_4 hW) ?_
      refine x_iload_n d23_45 rfl ?_
      refine x_bipush d23_46 rfl ?_
      refine x_if2 (pc2 := 76) d23_48 rfl (fun c => ?_) (fun c => ?_)
      · replace c : ¬ v1 = 40 := c
        rw [if_pos c] at k
        refine x_aload_n d23_76 rfl ?_
        refine x_iload_n d23_77 rfl ?_
        refine x_iconst d23_78 rfl ?_
        have e4 := k.1
        replace k := k.2
        refine x_iadd d23_79 e4 ?_
        refine y_invI (as := [.inl (x1 + 1)]) (t := []) (o := 4) gY_23 d23_80 gY_23.2.2.2 gM_2_81 rfl (sh_4 hW) rfl k (fun v5 I6 k => ?_)
        refine x_if1 (pc2 := 88) d23_83 rfl (fun c => ?_) (fun c => ?_)
        · replace c : ¬ v5 = 0 := c
          rw [if_pos c] at k
          refine x_aload_n d23_88 rfl ?_
          refine x_getR (r := (R 4 1)) d23_89 gY_23.2.2.2 gF_2_10 rfl (sh_4 hW) rfl hM.1 ?_
          refine x_bipush d23_92 rfl ?_
          refine x_iconst d23_94 rfl ?_
          refine y_invI (as := [.inl 33, .inl 0]) (t := []) (o := (R 4 1)) gY_8 d23_95 gY_23.2.2.2 gM_2_87 rfl hM.2.1 rfl k (fun v7 I8 k => ?_)
          refine x_pop d23_98 ?_
          refine x_iconst d23_99 rfl ?_
          exact x_zret d23_100 gR_23 (by decide) ⟨_, _, rfl, rfl, k⟩
        · replace c : ¬ (¬ v5 = 0) := c
          rw [if_neg c] at k
          refine x_iconst d23_86 rfl ?_
          exact x_zret d23_87 gR_23 (by decide) ⟨_, _, rfl, rfl, k⟩
      · replace c : ¬ (¬ v1 = 40) := c
        rw [if_neg c] at k
        refine x_aload_n d23_51 rfl ?_
        refine x_iload_n d23_52 rfl ?_
        refine x_iconst d23_53 rfl ?_
        have e9 := k.1
        replace k := k.2
        refine x_iadd d23_54 e9 ?_
        refine y_invI (as := [.inl (x1 + 1)]) (t := []) (o := 4) gY_21 d23_55 gY_23.2.2.2 gM_2_63 rfl (sh_4 hW) rfl k (fun v10 I11 k => ?_)
        refine x_if1 (pc2 := 74) d23_58 rfl (fun c => ?_) (fun c => ?_)
        · replace c : v10 = 0 := c
          rw [if_pos c] at k
          refine x_iconst d23_74 rfl ?_
          exact x_zret d23_75 gR_23 (by decide) ⟨_, _, rfl, rfl, k⟩
        · replace c : ¬ (v10 = 0) := c
          rw [if_neg c] at k
          refine x_aload_n d23_61 rfl ?_
          refine x_bipush d23_62 rfl ?_
          refine y_invI (as := [.inl 41]) (t := []) (o := 4) gY_31 d23_64 gY_23.2.2.2 gM_2_43 rfl (sh_4 hW) rfl k (fun v12 I13 k => ?_)
          refine x_if1 (pc2 := 74) d23_67 rfl (fun c => ?_) (fun c => ?_)
          · replace c : v12 = 0 := c
            rw [if_pos c] at k
            refine x_iconst d23_74 rfl ?_
            exact x_zret d23_75 gR_23 (by decide) ⟨_, _, rfl, rfl, k⟩
          · replace c : ¬ (v12 = 0) := c
            rw [if_neg c] at k
            refine x_iconst d23_70 rfl ?_
            refine x_goto (pc2 := 75) d23_71 rfl ?_
            exact x_zret d23_75 gR_23 (by decide) ⟨_, _, rfl, rfl, k⟩
    · replace c : ¬ (x1 < 6) := c
      rw [if_neg c] at k
      refine x_aload_n d23_29 rfl ?_
      refine x_iconst d23_30 rfl ?_
      refine y_inv (as := [.inl 5]) (t := []) (o := 4) (ls2 := [some (.inr 4), some (.inl 5)]) gY_32 d23_31 gY_23.2.2.2 gM_2_54 rfl (sh_4 hW) rfl rfl ?_
      refine x_aload_n d32_0 rfl ?_
      refine x_sipush d32_1 rfl ?_
      refine x_iload_n d32_4 rfl ?_
      have e14 := k.1
      replace k := k.2
      refine x_imul d32_5 e14 ?_
      refine x_aload_n d32_6 rfl ?_
      refine x_getI d32_7 gY_32.2.2.2 gF_2_20 rfl (sh_4 hW) ?_
      have e15 := k.1
      replace k := k.2
      refine x_isub d32_10 e15 ?_
      refine x_putI d32_11 gY_32.2.2.2 gF_2_23 rfl rfl (sh_4 hW) ?_
      refine x_iconst d32_14 rfl ?_
      refine x_zret d32_15 gR_32 (by decide) ?_
      show Ex (d + 1) 23 34 [some (.inr 4), some (.inl x1), some (.inl v1)] [.inl 0] (0, 0, n, sh, R, (zup I2 4 4 (((-1000) * 5) - I2 4 3))) _
      exact x_zret d23_34 gR_23 (by decide) ⟨_, _, rfl, rfl, k⟩
  · replace c : ¬ (v1 = 33) := c
    rw [if_neg c] at k
    refine x_iload_n d23_11 rfl ?_
    refine x_bipush d23_12 rfl ?_
    refine x_if2 (pc2 := 23) d23_14 rfl (fun c => ?_) (fun c => ?_)
    · replace c : v1 = 40 := c
      rw [if_pos c] at k
      refine x_iload_n d23_23 rfl ?_
      refine x_bipush d23_24 rfl ?_
      refine x_if2 (pc2 := 35) d23_26 rfl (fun c => ?_) (fun c => ?_)
      · replace c : x1 < 6 := c
        rw [if_pos c] at k
        refine x_aload_n d23_35 rfl ?_
        refine x_dup d23_36 ?_
        refine x_getI d23_37 gY_23.2.2.2 gF_2_20 rfl (sh_4 hW) ?_
        refine x_iconst d23_40 rfl ?_
        have e16 := k.1
        replace k := k.2
        refine x_iadd d23_41 e16 ?_
        refine x_putI d23_42 gY_23.2.2.2 gF_2_20 rfl rfl (sh_4 hW) ?_
        refine x_iload_n d23_45 rfl ?_
        refine x_bipush d23_46 rfl ?_
        refine x_if2 (pc2 := 76) d23_48 rfl (fun c => ?_) (fun c => ?_)
        · replace c : ¬ v1 = 40 := c
          rw [if_pos c] at k
          refine x_aload_n d23_76 rfl ?_
          refine x_iload_n d23_77 rfl ?_
          refine x_iconst d23_78 rfl ?_
          have e17 := k.1
          replace k := k.2
          refine x_iadd d23_79 e17 ?_
          refine y_invI (as := [.inl (x1 + 1)]) (t := []) (o := 4) gY_23 d23_80 gY_23.2.2.2 gM_2_81 rfl (sh_4 hW) rfl k (fun v18 I19 k => ?_)
          refine x_if1 (pc2 := 88) d23_83 rfl (fun c => ?_) (fun c => ?_)
          · replace c : ¬ v18 = 0 := c
            rw [if_pos c] at k
            refine x_aload_n d23_88 rfl ?_
            refine x_getR (r := (R 4 1)) d23_89 gY_23.2.2.2 gF_2_10 rfl (sh_4 hW) rfl hM.1 ?_
            refine x_bipush d23_92 rfl ?_
            refine x_iconst d23_94 rfl ?_
            refine y_invI (as := [.inl 33, .inl 0]) (t := []) (o := (R 4 1)) gY_8 d23_95 gY_23.2.2.2 gM_2_87 rfl hM.2.1 rfl k (fun v20 I21 k => ?_)
            refine x_pop d23_98 ?_
            refine x_iconst d23_99 rfl ?_
            exact x_zret d23_100 gR_23 (by decide) ⟨_, _, rfl, rfl, k⟩
          · replace c : ¬ (¬ v18 = 0) := c
            rw [if_neg c] at k
            refine x_iconst d23_86 rfl ?_
            exact x_zret d23_87 gR_23 (by decide) ⟨_, _, rfl, rfl, k⟩
        · replace c : ¬ (¬ v1 = 40) := c
          rw [if_neg c] at k
          refine x_aload_n d23_51 rfl ?_
          refine x_iload_n d23_52 rfl ?_
          refine x_iconst d23_53 rfl ?_
          have e22 := k.1
          replace k := k.2
          refine x_iadd d23_54 e22 ?_
          refine y_invI (as := [.inl (x1 + 1)]) (t := []) (o := 4) gY_21 d23_55 gY_23.2.2.2 gM_2_63 rfl (sh_4 hW) rfl k (fun v23 I24 k => ?_)
          refine x_if1 (pc2 := 74) d23_58 rfl (fun c => ?_) (fun c => ?_)
          · replace c : v23 = 0 := c
            rw [if_pos c] at k
            refine x_iconst d23_74 rfl ?_
            exact x_zret d23_75 gR_23 (by decide) ⟨_, _, rfl, rfl, k⟩
          · replace c : ¬ (v23 = 0) := c
            rw [if_neg c] at k
            refine x_aload_n d23_61 rfl ?_
            refine x_bipush d23_62 rfl ?_
            refine y_invI (as := [.inl 41]) (t := []) (o := 4) gY_31 d23_64 gY_23.2.2.2 gM_2_43 rfl (sh_4 hW) rfl k (fun v25 I26 k => ?_)
            refine x_if1 (pc2 := 74) d23_67 rfl (fun c => ?_) (fun c => ?_)
            · replace c : v25 = 0 := c
              rw [if_pos c] at k
              refine x_iconst d23_74 rfl ?_
              exact x_zret d23_75 gR_23 (by decide) ⟨_, _, rfl, rfl, k⟩
            · replace c : ¬ (v25 = 0) := c
              rw [if_neg c] at k
              refine x_iconst d23_70 rfl ?_
              refine x_goto (pc2 := 75) d23_71 rfl ?_
              exact x_zret d23_75 gR_23 (by decide) ⟨_, _, rfl, rfl, k⟩
      · replace c : ¬ (x1 < 6) := c
        rw [if_neg c] at k
        refine x_aload_n d23_29 rfl ?_
        refine x_iconst d23_30 rfl ?_
        refine y_inv (as := [.inl 5]) (t := []) (o := 4) (ls2 := [some (.inr 4), some (.inl 5)]) gY_32 d23_31 gY_23.2.2.2 gM_2_54 rfl (sh_4 hW) rfl rfl ?_
        refine x_aload_n d32_0 rfl ?_
        refine x_sipush d32_1 rfl ?_
        refine x_iload_n d32_4 rfl ?_
        have e27 := k.1
        replace k := k.2
        refine x_imul d32_5 e27 ?_
        refine x_aload_n d32_6 rfl ?_
        refine x_getI d32_7 gY_32.2.2.2 gF_2_20 rfl (sh_4 hW) ?_
        have e28 := k.1
        replace k := k.2
        refine x_isub d32_10 e28 ?_
        refine x_putI d32_11 gY_32.2.2.2 gF_2_23 rfl rfl (sh_4 hW) ?_
        refine x_iconst d32_14 rfl ?_
        refine x_zret d32_15 gR_32 (by decide) ?_
        show Ex (d + 1) 23 34 [some (.inr 4), some (.inl x1), some (.inl v1)] [.inl 0] (0, 0, n, sh, R, (zup I2 4 4 (((-1000) * 5) - I2 4 3))) _
        exact x_zret d23_34 gR_23 (by decide) ⟨_, _, rfl, rfl, k⟩
    · replace c : ¬ (v1 = 40) := c
      rw [if_neg c] at k
      refine x_aload_n d23_17 rfl ?_
      refine x_iload_n d23_18 rfl ?_
      refine y_invI (as := [.inl x1]) (t := []) (o := 4) gY_24 d23_19 gY_23.2.2.2 gM_2_84 rfl (sh_4 hW) rfl k (fun v29 I30 k => ?_)
      have e31 := k.1
      replace k := k.2
      exact x_zret d23_22 gR_23 e31 ⟨_, _, rfl, rfl, k⟩
set_option maxHeartbeats 4000000 in
theorem b_L_comparison_0 {d n : Nat} {sh : ZS} {R : ZR} {I : ZI} {Q : Int → ZI → Prop} (hW : Wf sh R) (hM : Lw sh R (R 4 1)) {x1 : Int}
    (k : XI d 25 [.inr 4, .inl x1] n sh R I (fun v1 I2 => (if ¬ v1 = 0 then XI d 30 [.inr 4] n sh R I2 (fun v3 I4 => (if v3 = 60 then (zr (I4 4 3 + 1)) ∧ XI d 25 [.inr 4, .inl x1] n sh R (zup I4 4 3 (I4 4 3 + 1)) (fun v6 I7 => (if ¬ v6 = 0 then XI d 8 [.inr (R 4 1), .inl v3, .inl 0] n sh R I7 (fun v8 I9 => Q 1 I9) else Q 0 I7)) else (if v3 = 62 then (zr (I4 4 3 + 1)) ∧ XI d 25 [.inr 4, .inl x1] n sh R (zup I4 4 3 (I4 4 3 + 1)) (fun v11 I12 => (if ¬ v11 = 0 then XI d 8 [.inr (R 4 1), .inl v3, .inl 0] n sh R I12 (fun v13 I14 => Q 1 I14) else Q 0 I12)) else (if v3 = 61 then (zr (I4 4 3 + 1)) ∧ XI d 25 [.inr 4, .inl x1] n sh R (zup I4 4 3 (I4 4 3 + 1)) (fun v16 I17 => (if ¬ v16 = 0 then XI d 8 [.inr (R 4 1), .inl v3, .inl 0] n sh R I17 (fun v18 I19 => Q 1 I19) else Q 0 I17)) else (zr ((-1000) * 1)) ∧ (zr (((-1000) * 1) - I4 4 3)) ∧ Q 0 (zup I4 4 4 (((-1000) * 1) - I4 4 3)))))) else Q 0 I2))) : XI (d + 1) 24 [.inr 4, .inl x1] n sh R I Q := by
  refine XI.of (ls := [some (.inr 4), some (.inl x1), none]) (zloc_eq gY_24.2.2.1) ?_
  unfold XIs
  refine x_aload_n d24_0 rfl ?_
  refine x_iload_n d24_1 rfl ?_
  refine y_invI (as := [.inl x1]) (t := []) (o := 4) gY_25 d24_2 gY_24.2.2.2 gM_2_60 rfl (sh_4 hW) rfl k (fun v1 I2 k => ?_)
  refine x_if1 (pc2 := 10) d24_5 rfl (fun c => ?_) (fun c => ?_)
  · replace c : ¬ v1 = 0 := c
    rw [if_pos c] at k
    refine x_aload_n d24_10 rfl ?_
    refine y_invI (as := []) (t := []) (o := 4) gY_30 d24_11 gY_24.2.2.2 gM_2_50 rfl (sh_4 hW) rfl k (fun v3 I4 k => ?_)
    refine x_istore_n (ls2 := [some (.inr 4), some (.inl x1), some (.inl v3)]) d24_14 rfl rfl ?_
    refine x_iload_n d24_15 rfl ?_
    refine x_bipush d24_16 rfl ?_
    refine x_if2 (pc2 := 39) d24_18 rfl (fun c => ?_) (fun c => ?_)
    · replace c : v3 = 60 := c
      rw [if_pos c] at k
      refine x_aload_n d24_39 rfl ?_
      refine x_dup d24_40 ?_
      refine x_getI d24_41 gY_24.2.2.2 gF_2_20 rfl (sh_4 hW) ?_
      refine x_iconst d24_44 rfl ?_
      have e5 := k.1
      replace k := k.2
      refine x_iadd d24_45 e5 ?_
      refine x_putI d24_46 gY_24.2.2.2 gF_2_20 rfl rfl (sh_4 hW) ?_
      refine x_aload_n d24_49 rfl ?_
      refine x_iload_n d24_50 rfl ?_
      refine y_invI (as := [.inl x1]) (t := []) (o := 4) gY_25 d24_51 gY_24.2.2.2 gM_2_60 rfl (sh_4 hW) rfl k (fun v6 I7 k => ?_)
      refine x_if1 (pc2 := 59) d24_54 rfl (fun c => ?_) (fun c => ?_)
      · replace c : ¬ v6 = 0 := c
        rw [if_pos c] at k
        refine x_aload_n d24_59 rfl ?_
        refine x_getR (r := (R 4 1)) d24_60 gY_24.2.2.2 gF_2_10 rfl (sh_4 hW) rfl hM.1 ?_
        refine x_iload_n d24_63 rfl ?_
        refine x_iconst d24_64 rfl ?_
        refine y_invI (as := [.inl v3, .inl 0]) (t := []) (o := (R 4 1)) gY_8 d24_65 gY_24.2.2.2 gM_2_87 rfl hM.2.1 rfl k (fun v8 I9 k => ?_)
        refine x_pop d24_68 ?_
        refine x_iconst d24_69 rfl ?_
        exact x_zret d24_70 gR_24 (by decide) ⟨_, _, rfl, rfl, k⟩
      · replace c : ¬ (¬ v6 = 0) := c
        rw [if_neg c] at k
        refine x_iconst d24_57 rfl ?_
        exact x_zret d24_58 gR_24 (by decide) ⟨_, _, rfl, rfl, k⟩
    · replace c : ¬ (v3 = 60) := c
      rw [if_neg c] at k
      refine x_iload_n d24_21 rfl ?_
      refine x_bipush d24_22 rfl ?_
      refine x_if2 (pc2 := 39) d24_24 rfl (fun c => ?_) (fun c => ?_)
      · replace c : v3 = 62 := c
        rw [if_pos c] at k
        refine x_aload_n d24_39 rfl ?_
        refine x_dup d24_40 ?_
        refine x_getI d24_41 gY_24.2.2.2 gF_2_20 rfl (sh_4 hW) ?_
        refine x_iconst d24_44 rfl ?_
        have e10 := k.1
        replace k := k.2
        refine x_iadd d24_45 e10 ?_
        refine x_putI d24_46 gY_24.2.2.2 gF_2_20 rfl rfl (sh_4 hW) ?_
        refine x_aload_n d24_49 rfl ?_
        refine x_iload_n d24_50 rfl ?_
        refine y_invI (as := [.inl x1]) (t := []) (o := 4) gY_25 d24_51 gY_24.2.2.2 gM_2_60 rfl (sh_4 hW) rfl k (fun v11 I12 k => ?_)
        refine x_if1 (pc2 := 59) d24_54 rfl (fun c => ?_) (fun c => ?_)
        · replace c : ¬ v11 = 0 := c
          rw [if_pos c] at k
          refine x_aload_n d24_59 rfl ?_
          refine x_getR (r := (R 4 1)) d24_60 gY_24.2.2.2 gF_2_10 rfl (sh_4 hW) rfl hM.1 ?_
          refine x_iload_n d24_63 rfl ?_
          refine x_iconst d24_64 rfl ?_
          refine y_invI (as := [.inl v3, .inl 0]) (t := []) (o := (R 4 1)) gY_8 d24_65 gY_24.2.2.2 gM_2_87 rfl hM.2.1 rfl k (fun v13 I14 k => ?_)
          refine x_pop d24_68 ?_
          refine x_iconst d24_69 rfl ?_
          exact x_zret d24_70 gR_24 (by decide) ⟨_, _, rfl, rfl, k⟩
        · replace c : ¬ (¬ v11 = 0) := c
          rw [if_neg c] at k
          refine x_iconst d24_57 rfl ?_
          exact x_zret d24_58 gR_24 (by decide) ⟨_, _, rfl, rfl, k⟩
      · replace c : ¬ (v3 = 62) := c
        rw [if_neg c] at k
        refine x_iload_n d24_27 rfl ?_
        refine x_bipush d24_28 rfl ?_
        refine x_if2 (pc2 := 39) d24_30 rfl (fun c => ?_) (fun c => ?_)
        · replace c : v3 = 61 := c
          rw [if_pos c] at k
          refine x_aload_n d24_39 rfl ?_
          refine x_dup d24_40 ?_
          refine x_getI d24_41 gY_24.2.2.2 gF_2_20 rfl (sh_4 hW) ?_
          refine x_iconst d24_44 rfl ?_
          have e15 := k.1
          replace k := k.2
          refine x_iadd d24_45 e15 ?_
          refine x_putI d24_46 gY_24.2.2.2 gF_2_20 rfl rfl (sh_4 hW) ?_
          refine x_aload_n d24_49 rfl ?_
          refine x_iload_n d24_50 rfl ?_
          refine y_invI (as := [.inl x1]) (t := []) (o := 4) gY_25 d24_51 gY_24.2.2.2 gM_2_60 rfl (sh_4 hW) rfl k (fun v16 I17 k => ?_)
          refine x_if1 (pc2 := 59) d24_54 rfl (fun c => ?_) (fun c => ?_)
          · replace c : ¬ v16 = 0 := c
            rw [if_pos c] at k
            refine x_aload_n d24_59 rfl ?_
            refine x_getR (r := (R 4 1)) d24_60 gY_24.2.2.2 gF_2_10 rfl (sh_4 hW) rfl hM.1 ?_
            refine x_iload_n d24_63 rfl ?_
            refine x_iconst d24_64 rfl ?_
            refine y_invI (as := [.inl v3, .inl 0]) (t := []) (o := (R 4 1)) gY_8 d24_65 gY_24.2.2.2 gM_2_87 rfl hM.2.1 rfl k (fun v18 I19 k => ?_)
            refine x_pop d24_68 ?_
            refine x_iconst d24_69 rfl ?_
            exact x_zret d24_70 gR_24 (by decide) ⟨_, _, rfl, rfl, k⟩
          · replace c : ¬ (¬ v16 = 0) := c
            rw [if_neg c] at k
            refine x_iconst d24_57 rfl ?_
            exact x_zret d24_58 gR_24 (by decide) ⟨_, _, rfl, rfl, k⟩
        · replace c : ¬ (v3 = 61) := c
          rw [if_neg c] at k
          refine x_aload_n d24_33 rfl ?_
          refine x_iconst d24_34 rfl ?_
          refine y_inv (as := [.inl 1]) (t := []) (o := 4) (ls2 := [some (.inr 4), some (.inl 1)]) gY_32 d24_35 gY_24.2.2.2 gM_2_54 rfl (sh_4 hW) rfl rfl ?_
          refine x_aload_n d32_0 rfl ?_
          refine x_sipush d32_1 rfl ?_
          refine x_iload_n d32_4 rfl ?_
          have e20 := k.1
          replace k := k.2
          refine x_imul d32_5 e20 ?_
          refine x_aload_n d32_6 rfl ?_
          refine x_getI d32_7 gY_32.2.2.2 gF_2_20 rfl (sh_4 hW) ?_
          have e21 := k.1
          replace k := k.2
          refine x_isub d32_10 e21 ?_
          refine x_putI d32_11 gY_32.2.2.2 gF_2_23 rfl rfl (sh_4 hW) ?_
          refine x_iconst d32_14 rfl ?_
          refine x_zret d32_15 gR_32 (by decide) ?_
          show Ex (d + 1) 24 38 [some (.inr 4), some (.inl x1), some (.inl v3)] [.inl 0] (0, 0, n, sh, R, (zup I4 4 4 (((-1000) * 1) - I4 4 3))) _
          exact x_zret d24_38 gR_24 (by decide) ⟨_, _, rfl, rfl, k⟩
  · replace c : ¬ (¬ v1 = 0) := c
    rw [if_neg c] at k
    refine x_iconst d24_8 rfl ?_
    exact x_zret d24_9 gR_24 (by decide) ⟨_, _, rfl, rfl, k⟩
set_option maxHeartbeats 4000000 in
theorem b_L_sum_0 {d n : Nat} {sh : ZS} {R : ZR} {I : ZI} {Q : Int → ZI → Prop} (hW : Wf sh R) {x1 : Int}
    (k : XI d 26 [.inr 4, .inl x1] n sh R I (fun v1 I2 => XIs (d + 1) 25 11 [some (.inr 4), some (.inl x1), some (.inl v1), some (.inl (I2 4 3)), none] [] n sh R I2 Q)) : XI (d + 1) 25 [.inr 4, .inl x1] n sh R I Q := by
  refine XI.of (ls := [some (.inr 4), some (.inl x1), none, none, none]) (zloc_eq gY_25.2.2.1) ?_
  unfold XIs
  refine x_aload_n d25_0 rfl ?_
  refine x_iload_n d25_1 rfl ?_
  refine y_invI (as := [.inl x1]) (t := []) (o := 4) gY_26 d25_2 gY_25.2.2.2 gM_2_90 rfl (sh_4 hW) rfl k (fun v1 I2 k => ?_)
  refine x_istore_n (ls2 := [some (.inr 4), some (.inl x1), some (.inl v1), none, none]) d25_5 rfl rfl ?_
  refine x_aload_n d25_6 rfl ?_
  refine x_getI d25_7 gY_25.2.2.2 gF_2_20 rfl (sh_4 hW) ?_
  refine x_istore_n (ls2 := [some (.inr 4), some (.inl x1), some (.inl v1), some (.inl (I2 4 3)), none]) d25_10 rfl rfl ?_
  exact k
set_option maxHeartbeats 4000000 in
theorem b_L_sum_11 {d n : Nat} {sh : ZS} {R : ZR} {I : ZI} {Q : Int → ZI → Prop} (hW : Wf sh R) (hM : Lw sh R (R 4 1)) {x1 : Int} {x2 : Int} {x3 : Int} {u4 : Option AV}
    (k : (if I 4 2 ≤ x3 then (x2 = 0 ∨ x2 = 1) ∧ Q x2 I else (if x2 = 0 then (x2 = 0 ∨ x2 = 1) ∧ Q x2 I else XI d 30 [.inr 4] n sh R I (fun v3 I4 => (if v3 = 43 then XI d 30 [.inr 4] n sh R I4 (fun v5 I6 => (zr (I6 4 3 + 1)) ∧ XI d 26 [.inr 4, .inl x1] n sh R (zup I6 4 3 (I6 4 3 + 1)) (fun v8 I9 => XI d 8 [.inr (R 4 1), .inl v5, .inl 0] n sh R I9 (fun v10 I11 => (zr (x3 + 1)) ∧ XIs (d + 1) 25 11 [some (.inr 4), some (.inl x1), some (.inl v8), some (.inl (x3 + 1)), some (.inl v5)] [] n sh R I11 Q))) else XI d 30 [.inr 4] n sh R I4 (fun v13 I14 => (if ¬ v13 = 45 then (x2 = 0 ∨ x2 = 1) ∧ Q x2 I14 else XI d 30 [.inr 4] n sh R I14 (fun v16 I17 => (zr (I17 4 3 + 1)) ∧ XI d 26 [.inr 4, .inl x1] n sh R (zup I17 4 3 (I17 4 3 + 1)) (fun v19 I20 => XI d 8 [.inr (R 4 1), .inl v16, .inl 0] n sh R I20 (fun v21 I22 => (zr (x3 + 1)) ∧ XIs (d + 1) 25 11 [some (.inr 4), some (.inl x1), some (.inl v19), some (.inl (x3 + 1)), some (.inl v16)] [] n sh R I22 Q)))))))))) : XIs (d + 1) 25 11 [some (.inr 4), some (.inl x1), some (.inl x2), some (.inl x3), u4] [] n sh R I Q := by
  unfold XIs
  refine x_iload_n d25_11 rfl ?_
  refine x_aload_n d25_12 rfl ?_
  refine x_getI d25_13 gY_25.2.2.2 gF_2_16 rfl (sh_4 hW) ?_
  refine x_if2 (pc2 := 80) d25_16 rfl (fun c => ?_) (fun c => ?_)
  · replace c : I 4 2 ≤ x3 := c
    rw [if_pos c] at k
    refine x_iload_n d25_80 rfl ?_
    have e1 := k.1
    replace k := k.2
    exact x_zret d25_81 gR_25 e1 ⟨_, _, rfl, rfl, k⟩
  · replace c : ¬ (I 4 2 ≤ x3) := c
    rw [if_neg c] at k
    refine x_iload_n d25_19 rfl ?_
    refine x_if1 (pc2 := 80) d25_20 rfl (fun c => ?_) (fun c => ?_)
    · replace c : x2 = 0 := c
      rw [if_pos c] at k
      refine x_iload_n d25_80 rfl ?_
      have e2 := k.1
      replace k := k.2
      exact x_zret d25_81 gR_25 e2 ⟨_, _, rfl, rfl, k⟩
    · replace c : ¬ (x2 = 0) := c
      rw [if_neg c] at k
      refine x_aload_n d25_23 rfl ?_
      refine y_invI (as := []) (t := []) (o := 4) gY_30 d25_24 gY_25.2.2.2 gM_2_50 rfl (sh_4 hW) rfl k (fun v3 I4 k => ?_)
      refine x_bipush d25_27 rfl ?_
      refine x_if2 (pc2 := 41) d25_29 rfl (fun c => ?_) (fun c => ?_)
      · replace c : v3 = 43 := c
        rw [if_pos c] at k
        refine x_aload_n d25_41 rfl ?_
        refine y_invI (as := []) (t := []) (o := 4) gY_30 d25_42 gY_25.2.2.2 gM_2_50 rfl (sh_4 hW) rfl k (fun v5 I6 k => ?_)
        refine x_istore (ls2 := [some (.inr 4), some (.inl x1), some (.inl x2), some (.inl x3), some (.inl v5)]) d25_45 rfl rfl ?_
        refine x_aload_n d25_47 rfl ?_
        refine x_dup d25_48 ?_
        refine x_getI d25_49 gY_25.2.2.2 gF_2_20 rfl (sh_4 hW) ?_
        refine x_iconst d25_52 rfl ?_
        have e7 := k.1
        replace k := k.2
        refine x_iadd d25_53 e7 ?_
        refine x_putI d25_54 gY_25.2.2.2 gF_2_20 rfl rfl (sh_4 hW) ?_
        refine x_aload_n d25_57 rfl ?_
        refine x_iload_n d25_58 rfl ?_
        refine y_invI (as := [.inl x1]) (t := []) (o := 4) gY_26 d25_59 gY_25.2.2.2 gM_2_90 rfl (sh_4 hW) rfl k (fun v8 I9 k => ?_)
        refine x_istore_n (ls2 := [some (.inr 4), some (.inl x1), some (.inl v8), some (.inl x3), some (.inl v5)]) d25_62 rfl rfl ?_
        refine x_aload_n d25_63 rfl ?_
        refine x_getR (r := (R 4 1)) d25_64 gY_25.2.2.2 gF_2_10 rfl (sh_4 hW) rfl hM.1 ?_
        refine x_iload d25_67 rfl ?_
        refine x_iconst d25_69 rfl ?_
        refine y_invI (as := [.inl v5, .inl 0]) (t := []) (o := (R 4 1)) gY_8 d25_70 gY_25.2.2.2 gM_2_87 rfl hM.2.1 rfl k (fun v10 I11 k => ?_)
        refine x_pop d25_73 ?_
        have e12 := k.1
        replace k := k.2
        refine x_iinc (ls2 := [some (.inr 4), some (.inl x1), some (.inl v8), some (.inl (x3 + 1)), some (.inl v5)]) d25_74 rfl e12 rfl ?_
        refine x_goto (pc2 := 11) d25_77 rfl ?_
        exact k
      · replace c : ¬ (v3 = 43) := c
        rw [if_neg c] at k
        refine x_aload_n d25_32 rfl ?_
        refine y_invI (as := []) (t := []) (o := 4) gY_30 d25_33 gY_25.2.2.2 gM_2_50 rfl (sh_4 hW) rfl k (fun v13 I14 k => ?_)
        refine x_bipush d25_36 rfl ?_
        refine x_if2 (pc2 := 80) d25_38 rfl (fun c => ?_) (fun c => ?_)
        · replace c : ¬ v13 = 45 := c
          rw [if_pos c] at k
          refine x_iload_n d25_80 rfl ?_
          have e15 := k.1
          replace k := k.2
          exact x_zret d25_81 gR_25 e15 ⟨_, _, rfl, rfl, k⟩
        · replace c : ¬ (¬ v13 = 45) := c
          rw [if_neg c] at k
          refine x_aload_n d25_41 rfl ?_
          refine y_invI (as := []) (t := []) (o := 4) gY_30 d25_42 gY_25.2.2.2 gM_2_50 rfl (sh_4 hW) rfl k (fun v16 I17 k => ?_)
          refine x_istore (ls2 := [some (.inr 4), some (.inl x1), some (.inl x2), some (.inl x3), some (.inl v16)]) d25_45 rfl rfl ?_
          refine x_aload_n d25_47 rfl ?_
          refine x_dup d25_48 ?_
          refine x_getI d25_49 gY_25.2.2.2 gF_2_20 rfl (sh_4 hW) ?_
          refine x_iconst d25_52 rfl ?_
          have e18 := k.1
          replace k := k.2
          refine x_iadd d25_53 e18 ?_
          refine x_putI d25_54 gY_25.2.2.2 gF_2_20 rfl rfl (sh_4 hW) ?_
          refine x_aload_n d25_57 rfl ?_
          refine x_iload_n d25_58 rfl ?_
          refine y_invI (as := [.inl x1]) (t := []) (o := 4) gY_26 d25_59 gY_25.2.2.2 gM_2_90 rfl (sh_4 hW) rfl k (fun v19 I20 k => ?_)
          refine x_istore_n (ls2 := [some (.inr 4), some (.inl x1), some (.inl v19), some (.inl x3), some (.inl v16)]) d25_62 rfl rfl ?_
          refine x_aload_n d25_63 rfl ?_
          refine x_getR (r := (R 4 1)) d25_64 gY_25.2.2.2 gF_2_10 rfl (sh_4 hW) rfl hM.1 ?_
          refine x_iload d25_67 rfl ?_
          refine x_iconst d25_69 rfl ?_
          refine y_invI (as := [.inl v16, .inl 0]) (t := []) (o := (R 4 1)) gY_8 d25_70 gY_25.2.2.2 gM_2_87 rfl hM.2.1 rfl k (fun v21 I22 k => ?_)
          refine x_pop d25_73 ?_
          have e23 := k.1
          replace k := k.2
          refine x_iinc (ls2 := [some (.inr 4), some (.inl x1), some (.inl v19), some (.inl (x3 + 1)), some (.inl v16)]) d25_74 rfl e23 rfl ?_
          refine x_goto (pc2 := 11) d25_77 rfl ?_
          exact k
set_option maxHeartbeats 4000000 in
theorem b_L_term_0 {d n : Nat} {sh : ZS} {R : ZR} {I : ZI} {Q : Int → ZI → Prop} (hW : Wf sh R) {x1 : Int}
    (k : XI d 27 [.inr 4, .inl x1] n sh R I (fun v1 I2 => XIs (d + 1) 26 11 [some (.inr 4), some (.inl x1), some (.inl v1), some (.inl (I2 4 3)), none] [] n sh R I2 Q)) : XI (d + 1) 26 [.inr 4, .inl x1] n sh R I Q := by
  refine XI.of (ls := [some (.inr 4), some (.inl x1), none, none, none]) (zloc_eq gY_26.2.2.1) ?_
  unfold XIs
  refine x_aload_n d26_0 rfl ?_
  refine x_iload_n d26_1 rfl ?_
  refine y_invI (as := [.inl x1]) (t := []) (o := 4) gY_27 d26_2 gY_26.2.2.2 gM_2_93 rfl (sh_4 hW) rfl k (fun v1 I2 k => ?_)
  refine x_istore_n (ls2 := [some (.inr 4), some (.inl x1), some (.inl v1), none, none]) d26_5 rfl rfl ?_
  refine x_aload_n d26_6 rfl ?_
  refine x_getI d26_7 gY_26.2.2.2 gF_2_20 rfl (sh_4 hW) ?_
  refine x_istore_n (ls2 := [some (.inr 4), some (.inl x1), some (.inl v1), some (.inl (I2 4 3)), none]) d26_10 rfl rfl ?_
  exact k
set_option maxHeartbeats 4000000 in
theorem b_L_term_11 {d n : Nat} {sh : ZS} {R : ZR} {I : ZI} {Q : Int → ZI → Prop} (hW : Wf sh R) (hM : Lw sh R (R 4 1)) {x1 : Int} {x2 : Int} {x3 : Int} {u4 : Option AV}
    (k : (if I 4 2 ≤ x3 then (x2 = 0 ∨ x2 = 1) ∧ Q x2 I else (if x2 = 0 then (x2 = 0 ∨ x2 = 1) ∧ Q x2 I else XI d 30 [.inr 4] n sh R I (fun v3 I4 => (if v3 = 42 then XI d 30 [.inr 4] n sh R I4 (fun v5 I6 => (zr (I6 4 3 + 1)) ∧ XI d 27 [.inr 4, .inl x1] n sh R (zup I6 4 3 (I6 4 3 + 1)) (fun v8 I9 => XI d 8 [.inr (R 4 1), .inl v5, .inl 0] n sh R I9 (fun v10 I11 => (zr (x3 + 1)) ∧ XIs (d + 1) 26 11 [some (.inr 4), some (.inl x1), some (.inl v8), some (.inl (x3 + 1)), some (.inl v5)] [] n sh R I11 Q))) else XI d 30 [.inr 4] n sh R I4 (fun v13 I14 => (if v13 = 47 then XI d 30 [.inr 4] n sh R I14 (fun v15 I16 => (zr (I16 4 3 + 1)) ∧ XI d 27 [.inr 4, .inl x1] n sh R (zup I16 4 3 (I16 4 3 + 1)) (fun v18 I19 => XI d 8 [.inr (R 4 1), .inl v15, .inl 0] n sh R I19 (fun v20 I21 => (zr (x3 + 1)) ∧ XIs (d + 1) 26 11 [some (.inr 4), some (.inl x1), some (.inl v18), some (.inl (x3 + 1)), some (.inl v15)] [] n sh R I21 Q))) else XI d 30 [.inr 4] n sh R I14 (fun v23 I24 => (if ¬ v23 = 37 then (x2 = 0 ∨ x2 = 1) ∧ Q x2 I24 else XI d 30 [.inr 4] n sh R I24 (fun v26 I27 => (zr (I27 4 3 + 1)) ∧ XI d 27 [.inr 4, .inl x1] n sh R (zup I27 4 3 (I27 4 3 + 1)) (fun v29 I30 => XI d 8 [.inr (R 4 1), .inl v26, .inl 0] n sh R I30 (fun v31 I32 => (zr (x3 + 1)) ∧ XIs (d + 1) 26 11 [some (.inr 4), some (.inl x1), some (.inl v29), some (.inl (x3 + 1)), some (.inl v26)] [] n sh R I32 Q)))))))))))) : XIs (d + 1) 26 11 [some (.inr 4), some (.inl x1), some (.inl x2), some (.inl x3), u4] [] n sh R I Q := by
  unfold XIs
  refine x_iload_n d26_11 rfl ?_
  refine x_aload_n d26_12 rfl ?_
  refine x_getI d26_13 gY_26.2.2.2 gF_2_16 rfl (sh_4 hW) ?_
  refine x_if2 (pc2 := 89) d26_16 rfl (fun c => ?_) (fun c => ?_)
  · replace c : I 4 2 ≤ x3 := c
    rw [if_pos c] at k
    refine x_iload_n d26_89 rfl ?_
    have e1 := k.1
    replace k := k.2
    exact x_zret d26_90 gR_26 e1 ⟨_, _, rfl, rfl, k⟩
  · replace c : ¬ (I 4 2 ≤ x3) := c
    rw [if_neg c] at k
    refine x_iload_n d26_19 rfl ?_
    refine x_if1 (pc2 := 89) d26_20 rfl (fun c => ?_) (fun c => ?_)
    · replace c : x2 = 0 := c
      rw [if_pos c] at k
      refine x_iload_n d26_89 rfl ?_
      have e2 := k.1
      replace k := k.2
      exact x_zret d26_90 gR_26 e2 ⟨_, _, rfl, rfl, k⟩
    · replace c : ¬ (x2 = 0) := c
      rw [if_neg c] at k
      refine x_aload_n d26_23 rfl ?_
      refine y_invI (as := []) (t := []) (o := 4) gY_30 d26_24 gY_26.2.2.2 gM_2_50 rfl (sh_4 hW) rfl k (fun v3 I4 k => ?_)
      refine x_bipush d26_27 rfl ?_
      refine x_if2 (pc2 := 50) d26_29 rfl (fun c => ?_) (fun c => ?_)
      · replace c : v3 = 42 := c
        rw [if_pos c] at k
        refine x_aload_n d26_50 rfl ?_
        refine y_invI (as := []) (t := []) (o := 4) gY_30 d26_51 gY_26.2.2.2 gM_2_50 rfl (sh_4 hW) rfl k (fun v5 I6 k => ?_)
        refine x_istore (ls2 := [some (.inr 4), some (.inl x1), some (.inl x2), some (.inl x3), some (.inl v5)]) d26_54 rfl rfl ?_
        refine x_aload_n d26_56 rfl ?_
        refine x_dup d26_57 ?_
        refine x_getI d26_58 gY_26.2.2.2 gF_2_20 rfl (sh_4 hW) ?_
        refine x_iconst d26_61 rfl ?_
        have e7 := k.1
        replace k := k.2
        refine x_iadd d26_62 e7 ?_
        refine x_putI d26_63 gY_26.2.2.2 gF_2_20 rfl rfl (sh_4 hW) ?_
        refine x_aload_n d26_66 rfl ?_
        refine x_iload_n d26_67 rfl ?_
        refine y_invI (as := [.inl x1]) (t := []) (o := 4) gY_27 d26_68 gY_26.2.2.2 gM_2_93 rfl (sh_4 hW) rfl k (fun v8 I9 k => ?_)
        refine x_istore_n (ls2 := [some (.inr 4), some (.inl x1), some (.inl v8), some (.inl x3), some (.inl v5)]) d26_71 rfl rfl ?_
        refine x_aload_n d26_72 rfl ?_
        refine x_getR (r := (R 4 1)) d26_73 gY_26.2.2.2 gF_2_10 rfl (sh_4 hW) rfl hM.1 ?_
        refine x_iload d26_76 rfl ?_
        refine x_iconst d26_78 rfl ?_
        refine y_invI (as := [.inl v5, .inl 0]) (t := []) (o := (R 4 1)) gY_8 d26_79 gY_26.2.2.2 gM_2_87 rfl hM.2.1 rfl k (fun v10 I11 k => ?_)
        refine x_pop d26_82 ?_
        have e12 := k.1
        replace k := k.2
        refine x_iinc (ls2 := [some (.inr 4), some (.inl x1), some (.inl v8), some (.inl (x3 + 1)), some (.inl v5)]) d26_83 rfl e12 rfl ?_
        refine x_goto (pc2 := 11) d26_86 rfl ?_
        exact k
      · replace c : ¬ (v3 = 42) := c
        rw [if_neg c] at k
        refine x_aload_n d26_32 rfl ?_
        refine y_invI (as := []) (t := []) (o := 4) gY_30 d26_33 gY_26.2.2.2 gM_2_50 rfl (sh_4 hW) rfl k (fun v13 I14 k => ?_)
        refine x_bipush d26_36 rfl ?_
        refine x_if2 (pc2 := 50) d26_38 rfl (fun c => ?_) (fun c => ?_)
        · replace c : v13 = 47 := c
          rw [if_pos c] at k
          refine x_aload_n d26_50 rfl ?_
          refine y_invI (as := []) (t := []) (o := 4) gY_30 d26_51 gY_26.2.2.2 gM_2_50 rfl (sh_4 hW) rfl k (fun v15 I16 k => ?_)
          refine x_istore (ls2 := [some (.inr 4), some (.inl x1), some (.inl x2), some (.inl x3), some (.inl v15)]) d26_54 rfl rfl ?_
          refine x_aload_n d26_56 rfl ?_
          refine x_dup d26_57 ?_
          refine x_getI d26_58 gY_26.2.2.2 gF_2_20 rfl (sh_4 hW) ?_
          refine x_iconst d26_61 rfl ?_
          have e17 := k.1
          replace k := k.2
          refine x_iadd d26_62 e17 ?_
          refine x_putI d26_63 gY_26.2.2.2 gF_2_20 rfl rfl (sh_4 hW) ?_
          refine x_aload_n d26_66 rfl ?_
          refine x_iload_n d26_67 rfl ?_
          refine y_invI (as := [.inl x1]) (t := []) (o := 4) gY_27 d26_68 gY_26.2.2.2 gM_2_93 rfl (sh_4 hW) rfl k (fun v18 I19 k => ?_)
          refine x_istore_n (ls2 := [some (.inr 4), some (.inl x1), some (.inl v18), some (.inl x3), some (.inl v15)]) d26_71 rfl rfl ?_
          refine x_aload_n d26_72 rfl ?_
          refine x_getR (r := (R 4 1)) d26_73 gY_26.2.2.2 gF_2_10 rfl (sh_4 hW) rfl hM.1 ?_
          refine x_iload d26_76 rfl ?_
          refine x_iconst d26_78 rfl ?_
          refine y_invI (as := [.inl v15, .inl 0]) (t := []) (o := (R 4 1)) gY_8 d26_79 gY_26.2.2.2 gM_2_87 rfl hM.2.1 rfl k (fun v20 I21 k => ?_)
          refine x_pop d26_82 ?_
          have e22 := k.1
          replace k := k.2
          refine x_iinc (ls2 := [some (.inr 4), some (.inl x1), some (.inl v18), some (.inl (x3 + 1)), some (.inl v15)]) d26_83 rfl e22 rfl ?_
          refine x_goto (pc2 := 11) d26_86 rfl ?_
          exact k
        · replace c : ¬ (v13 = 47) := c
          rw [if_neg c] at k
          refine x_aload_n d26_41 rfl ?_
          refine y_invI (as := []) (t := []) (o := 4) gY_30 d26_42 gY_26.2.2.2 gM_2_50 rfl (sh_4 hW) rfl k (fun v23 I24 k => ?_)
          refine x_bipush d26_45 rfl ?_
          refine x_if2 (pc2 := 89) d26_47 rfl (fun c => ?_) (fun c => ?_)
          · replace c : ¬ v23 = 37 := c
            rw [if_pos c] at k
            refine x_iload_n d26_89 rfl ?_
            have e25 := k.1
            replace k := k.2
            exact x_zret d26_90 gR_26 e25 ⟨_, _, rfl, rfl, k⟩
          · replace c : ¬ (¬ v23 = 37) := c
            rw [if_neg c] at k
            refine x_aload_n d26_50 rfl ?_
            refine y_invI (as := []) (t := []) (o := 4) gY_30 d26_51 gY_26.2.2.2 gM_2_50 rfl (sh_4 hW) rfl k (fun v26 I27 k => ?_)
            refine x_istore (ls2 := [some (.inr 4), some (.inl x1), some (.inl x2), some (.inl x3), some (.inl v26)]) d26_54 rfl rfl ?_
            refine x_aload_n d26_56 rfl ?_
            refine x_dup d26_57 ?_
            refine x_getI d26_58 gY_26.2.2.2 gF_2_20 rfl (sh_4 hW) ?_
            refine x_iconst d26_61 rfl ?_
            have e28 := k.1
            replace k := k.2
            refine x_iadd d26_62 e28 ?_
            refine x_putI d26_63 gY_26.2.2.2 gF_2_20 rfl rfl (sh_4 hW) ?_
            refine x_aload_n d26_66 rfl ?_
            refine x_iload_n d26_67 rfl ?_
            refine y_invI (as := [.inl x1]) (t := []) (o := 4) gY_27 d26_68 gY_26.2.2.2 gM_2_93 rfl (sh_4 hW) rfl k (fun v29 I30 k => ?_)
            refine x_istore_n (ls2 := [some (.inr 4), some (.inl x1), some (.inl v29), some (.inl x3), some (.inl v26)]) d26_71 rfl rfl ?_
            refine x_aload_n d26_72 rfl ?_
            refine x_getR (r := (R 4 1)) d26_73 gY_26.2.2.2 gF_2_10 rfl (sh_4 hW) rfl hM.1 ?_
            refine x_iload d26_76 rfl ?_
            refine x_iconst d26_78 rfl ?_
            refine y_invI (as := [.inl v26, .inl 0]) (t := []) (o := (R 4 1)) gY_8 d26_79 gY_26.2.2.2 gM_2_87 rfl hM.2.1 rfl k (fun v31 I32 k => ?_)
            refine x_pop d26_82 ?_
            have e33 := k.1
            replace k := k.2
            refine x_iinc (ls2 := [some (.inr 4), some (.inl x1), some (.inl v29), some (.inl (x3 + 1)), some (.inl v26)]) d26_83 rfl e33 rfl ?_
            refine x_goto (pc2 := 11) d26_86 rfl ?_
            exact k
set_option maxHeartbeats 4000000 in
theorem b_L_factor_0 {d n : Nat} {sh : ZS} {R : ZR} {I : ZI} {Q : Int → ZI → Prop} (hW : Wf sh R) (hM : Lw sh R (R 4 1)) {x1 : Int}
    (k : XI d 30 [.inr 4] n sh R I (fun v1 I2 => XI d 33 [.inl v1] n sh R I2 (fun v3 I4 => (if v3 = 0 then (if ¬ v1 = 91 then (if ¬ v1 = (-1) then (if 0 ≤ (zIdx (zi2c v1)) then (zr (I4 4 3 + 1)) ∧ XI d 8 [.inr (R 4 1), .inl 120, .inl (zIdx (zi2c v1))] n sh R (zup I4 4 3 (I4 4 3 + 1)) (fun v6 I7 => Q 1 I7) else (zr ((-1000) * 1)) ∧ (zr (((-1000) * 1) - I4 4 3)) ∧ Q 0 (zup I4 4 4 (((-1000) * 1) - I4 4 3))) else (zr ((-1000) * 1)) ∧ (zr (((-1000) * 1) - I4 4 3)) ∧ Q 0 (zup I4 4 4 (((-1000) * 1) - I4 4 3))) else (if x1 < 6 then (zr (I4 4 3 + 1)) ∧ (zr (x1 + 1)) ∧ XI d 25 [.inr 4, .inl (x1 + 1)] n sh R (zup I4 4 3 (I4 4 3 + 1)) (fun v14 I15 => (if v14 = 0 then Q 0 I15 else XI d 31 [.inr 4, .inl 93] n sh R I15 (fun v16 I17 => (if v16 = 0 then Q 0 I17 else Q 1 I17)))) else (zr ((-1000) * 5)) ∧ (zr (((-1000) * 5) - I4 4 3)) ∧ Q 0 (zup I4 4 4 (((-1000) * 5) - I4 4 3)))) else XI d 28 [.inr 4] n sh R I4 (fun v20 I21 => (v20 = 0 ∨ v20 = 1) ∧ Q v20 I21))))) : XI (d + 1) 27 [.inr 4, .inl x1] n sh R I Q := by
  refine XI.of (ls := [some (.inr 4), some (.inl x1), none, none]) (zloc_eq gY_27.2.2.1) ?_
  unfold XIs
  refine x_aload_n d27_0 rfl ?_
  refine y_invI (as := []) (t := []) (o := 4) gY_30 d27_1 gY_27.2.2.2 gM_2_50 rfl (sh_4 hW) rfl k (fun v1 I2 k => ?_)
  refine x_istore_n (ls2 := [some (.inr 4), some (.inl x1), some (.inl v1), none]) d27_4 rfl rfl ?_
  refine x_iload_n d27_5 rfl ?_
  refine y_insI (as := [.inl v1]) (t := []) gY_33 d27_6 gY_27.2.2.2 gM_2_96 rfl rfl k (fun v3 I4 k => ?_)
  refine x_if1 (pc2 := 17) d27_9 rfl (fun c => ?_) (fun c => ?_)
  · replace c : v3 = 0 := c
    rw [if_pos c] at k
    refine x_iload_n d27_17 rfl ?_
    refine x_bipush d27_18 rfl ?_
    refine x_if2 (pc2 := 70) d27_20 rfl (fun c => ?_) (fun c => ?_)
    · replace c : ¬ v1 = 91 := c
      rw [if_pos c] at k
      refine x_iload_n d27_70 rfl ?_
      refine x_iconst d27_71 rfl ?_
      refine x_if2 (pc2 := 79) d27_72 rfl (fun c => ?_) (fun c => ?_)
      · replace c : ¬ v1 = (-1) := c
        rw [if_pos c] at k
        refine x_ldcS d27_79 gY_27.2.2.2 gK_2_102.1 gK_2_102.2 hW.2.2 ?_
        refine x_iload_n d27_81 rfl ?_
        refine x_i2c d27_82 ?_
        refine x_idx d27_83 gY_27.2.2.2 gM_2_104 (of_decide_eq_true rfl) hW.2.2 ?_
        refine x_istore_n (ls2 := [some (.inr 4), some (.inl x1), some (.inl v1), some (.inl (zIdx (zi2c v1)))]) d27_86 rfl rfl ?_
        refine x_iload_n d27_87 rfl ?_
        refine x_if1 (pc2 := 97) d27_88 rfl (fun c => ?_) (fun c => ?_)
        · replace c : 0 ≤ (zIdx (zi2c v1)) := c
          rw [if_pos c] at k
          refine x_aload_n d27_97 rfl ?_
          refine x_dup d27_98 ?_
          refine x_getI d27_99 gY_27.2.2.2 gF_2_20 rfl (sh_4 hW) ?_
          refine x_iconst d27_102 rfl ?_
          have e5 := k.1
          replace k := k.2
          refine x_iadd d27_103 e5 ?_
          refine x_putI d27_104 gY_27.2.2.2 gF_2_20 rfl rfl (sh_4 hW) ?_
          refine x_aload_n d27_107 rfl ?_
          refine x_getR (r := (R 4 1)) d27_108 gY_27.2.2.2 gF_2_10 rfl (sh_4 hW) rfl hM.1 ?_
          refine x_bipush d27_111 rfl ?_
          refine x_iload_n d27_113 rfl ?_
          refine y_invI (as := [.inl 120, .inl (zIdx (zi2c v1))]) (t := []) (o := (R 4 1)) gY_8 d27_114 gY_27.2.2.2 gM_2_87 rfl hM.2.1 rfl k (fun v6 I7 k => ?_)
          refine x_pop d27_117 ?_
          refine x_iconst d27_118 rfl ?_
          exact x_zret d27_119 gR_27 (by decide) ⟨_, _, rfl, rfl, k⟩
        · replace c : ¬ (0 ≤ (zIdx (zi2c v1))) := c
          rw [if_neg c] at k
          refine x_aload_n d27_91 rfl ?_
          refine x_iconst d27_92 rfl ?_
          refine y_inv (as := [.inl 1]) (t := []) (o := 4) (ls2 := [some (.inr 4), some (.inl 1)]) gY_32 d27_93 gY_27.2.2.2 gM_2_54 rfl (sh_4 hW) rfl rfl ?_
          refine x_aload_n d32_0 rfl ?_
          refine x_sipush d32_1 rfl ?_
          refine x_iload_n d32_4 rfl ?_
          have e8 := k.1
          replace k := k.2
          refine x_imul d32_5 e8 ?_
          refine x_aload_n d32_6 rfl ?_
          refine x_getI d32_7 gY_32.2.2.2 gF_2_20 rfl (sh_4 hW) ?_
          have e9 := k.1
          replace k := k.2
          refine x_isub d32_10 e9 ?_
          refine x_putI d32_11 gY_32.2.2.2 gF_2_23 rfl rfl (sh_4 hW) ?_
          refine x_iconst d32_14 rfl ?_
          refine x_zret d32_15 gR_32 (by decide) ?_
          show Ex (d + 1) 27 96 [some (.inr 4), some (.inl x1), some (.inl v1), some (.inl (zIdx (zi2c v1)))] [.inl 0] (0, 0, n, sh, R, (zup I4 4 4 (((-1000) * 1) - I4 4 3))) _
          exact x_zret d27_96 gR_27 (by decide) ⟨_, _, rfl, rfl, k⟩
      · replace c : ¬ (¬ v1 = (-1)) := c
        rw [if_neg c] at k
        refine x_iconst d27_75 rfl ?_
        refine x_goto (pc2 := 86) d27_76 rfl ?_
        refine x_istore_n (ls2 := [some (.inr 4), some (.inl x1), some (.inl v1), some (.inl (-1))]) d27_86 rfl rfl ?_
        refine x_iload_n d27_87 rfl ?_
        refine x_if1 (pc2 := 97) d27_88 rfl (fun c => absurd (show 0 ≤ ((-1) : Int) from c) (by decide)) (fun _ => ?_)
        refine x_aload_n d27_91 rfl ?_
        refine x_iconst d27_92 rfl ?_
        refine y_inv (as := [.inl 1]) (t := []) (o := 4) (ls2 := [some (.inr 4), some (.inl 1)]) gY_32 d27_93 gY_27.2.2.2 gM_2_54 rfl (sh_4 hW) rfl rfl ?_
        refine x_aload_n d32_0 rfl ?_
        refine x_sipush d32_1 rfl ?_
        refine x_iload_n d32_4 rfl ?_
        have e10 := k.1
        replace k := k.2
        refine x_imul d32_5 e10 ?_
        refine x_aload_n d32_6 rfl ?_
        refine x_getI d32_7 gY_32.2.2.2 gF_2_20 rfl (sh_4 hW) ?_
        have e11 := k.1
        replace k := k.2
        refine x_isub d32_10 e11 ?_
        refine x_putI d32_11 gY_32.2.2.2 gF_2_23 rfl rfl (sh_4 hW) ?_
        refine x_iconst d32_14 rfl ?_
        refine x_zret d32_15 gR_32 (by decide) ?_
        show Ex (d + 1) 27 96 [some (.inr 4), some (.inl x1), some (.inl v1), some (.inl (-1))] [.inl 0] (0, 0, n, sh, R, (zup I4 4 4 (((-1000) * 1) - I4 4 3))) _
        exact x_zret d27_96 gR_27 (by decide) ⟨_, _, rfl, rfl, k⟩
    · replace c : ¬ (¬ v1 = 91) := c
      rw [if_neg c] at k
      refine x_iload_n d27_23 rfl ?_
      refine x_bipush d27_24 rfl ?_
      refine x_if2 (pc2 := 35) d27_26 rfl (fun c => ?_) (fun c => ?_)
      · replace c : x1 < 6 := c
        rw [if_pos c] at k
        refine x_aload_n d27_35 rfl ?_
        refine x_dup d27_36 ?_
        refine x_getI d27_37 gY_27.2.2.2 gF_2_20 rfl (sh_4 hW) ?_
        refine x_iconst d27_40 rfl ?_
        have e12 := k.1
        replace k := k.2
        refine x_iadd d27_41 e12 ?_
        refine x_putI d27_42 gY_27.2.2.2 gF_2_20 rfl rfl (sh_4 hW) ?_
        refine x_aload_n d27_45 rfl ?_
        refine x_iload_n d27_46 rfl ?_
        refine x_iconst d27_47 rfl ?_
        have e13 := k.1
        replace k := k.2
        refine x_iadd d27_48 e13 ?_
        refine y_invI (as := [.inl (x1 + 1)]) (t := []) (o := 4) gY_25 d27_49 gY_27.2.2.2 gM_2_60 rfl (sh_4 hW) rfl k (fun v14 I15 k => ?_)
        refine x_if1 (pc2 := 68) d27_52 rfl (fun c => ?_) (fun c => ?_)
        · replace c : v14 = 0 := c
          rw [if_pos c] at k
          refine x_iconst d27_68 rfl ?_
          exact x_zret d27_69 gR_27 (by decide) ⟨_, _, rfl, rfl, k⟩
        · replace c : ¬ (v14 = 0) := c
          rw [if_neg c] at k
          refine x_aload_n d27_55 rfl ?_
          refine x_bipush d27_56 rfl ?_
          refine y_invI (as := [.inl 93]) (t := []) (o := 4) gY_31 d27_58 gY_27.2.2.2 gM_2_43 rfl (sh_4 hW) rfl k (fun v16 I17 k => ?_)
          refine x_if1 (pc2 := 68) d27_61 rfl (fun c => ?_) (fun c => ?_)
          · replace c : v16 = 0 := c
            rw [if_pos c] at k
            refine x_iconst d27_68 rfl ?_
            exact x_zret d27_69 gR_27 (by decide) ⟨_, _, rfl, rfl, k⟩
          · replace c : ¬ (v16 = 0) := c
            rw [if_neg c] at k
            refine x_iconst d27_64 rfl ?_
            refine x_goto (pc2 := 69) d27_65 rfl ?_
            exact x_zret d27_69 gR_27 (by decide) ⟨_, _, rfl, rfl, k⟩
      · replace c : ¬ (x1 < 6) := c
        rw [if_neg c] at k
        refine x_aload_n d27_29 rfl ?_
        refine x_iconst d27_30 rfl ?_
        refine y_inv (as := [.inl 5]) (t := []) (o := 4) (ls2 := [some (.inr 4), some (.inl 5)]) gY_32 d27_31 gY_27.2.2.2 gM_2_54 rfl (sh_4 hW) rfl rfl ?_
        refine x_aload_n d32_0 rfl ?_
        refine x_sipush d32_1 rfl ?_
        refine x_iload_n d32_4 rfl ?_
        have e18 := k.1
        replace k := k.2
        refine x_imul d32_5 e18 ?_
        refine x_aload_n d32_6 rfl ?_
        refine x_getI d32_7 gY_32.2.2.2 gF_2_20 rfl (sh_4 hW) ?_
        have e19 := k.1
        replace k := k.2
        refine x_isub d32_10 e19 ?_
        refine x_putI d32_11 gY_32.2.2.2 gF_2_23 rfl rfl (sh_4 hW) ?_
        refine x_iconst d32_14 rfl ?_
        refine x_zret d32_15 gR_32 (by decide) ?_
        show Ex (d + 1) 27 34 [some (.inr 4), some (.inl x1), some (.inl v1), none] [.inl 0] (0, 0, n, sh, R, (zup I4 4 4 (((-1000) * 5) - I4 4 3))) _
        exact x_zret d27_34 gR_27 (by decide) ⟨_, _, rfl, rfl, k⟩
  · replace c : ¬ (v3 = 0) := c
    rw [if_neg c] at k
    refine x_aload_n d27_12 rfl ?_
    refine y_invI (as := []) (t := []) (o := 4) gY_28 d27_13 gY_27.2.2.2 gM_2_99 rfl (sh_4 hW) rfl k (fun v20 I21 k => ?_)
    have e22 := k.1
    replace k := k.2
    exact x_zret d27_16 gR_27 e22 ⟨_, _, rfl, rfl, k⟩
set_option maxHeartbeats 4000000 in
theorem b_Y_settle_0 {d n : Nat} {sh : ZS} {R : ZR} {I : ZI} {Q : Int → ZI → Prop} (hW : Wf sh R) {x2 : Int}
    (k : XIs (d + 1) 90 2 [some (.inr 117), some (.inr 14), some (.inl x2), some (.inl 0), none, none] [] n sh R I Q) : XI (d + 1) 90 [.inr 117, .inr 14, .inl x2] n sh R I Q := by
  refine XI.of (ls := [some (.inr 117), some (.inr 14), some (.inl x2), none, none, none]) (zloc_eq gY_90.2.2.1) ?_
  unfold XIs
  refine x_iconst d90_0 rfl ?_
  refine x_istore_n (ls2 := [some (.inr 117), some (.inr 14), some (.inl x2), some (.inl 0), none, none]) d90_1 rfl rfl ?_
  exact k
set_option maxHeartbeats 4000000 in
theorem b_Y_settle_2 {d n : Nat} {sh : ZS} {R : ZR} {I : ZI} {Q : Int → ZI → Prop} (hW : Wf sh R) {x2 : Int} {x3 : Int} {u4 : Option AV} {u5 : Option AV}
    (k : (if I 15 0 ≤ x3 then XIs (d + 1) 90 47 [some (.inr 117), some (.inr 14), some (.inl x2), some (.inl 1), some (.inl 0), u5] [] n sh R I Q else (if x3 < 0 then (0 ≤ x3 ∧ x3 < 9) ∧ (zr (x3 + 1)) ∧ XIs (d + 1) 90 2 [some (.inr 117), some (.inr 14), some (.inl x2), some (.inl (x3 + 1)), u4, u5] [] n sh R (zup I 118 (x3).toNat (-1)) Q else (if (zand (zshr (I 15 1) x3) 1) = 0 then (0 ≤ x3 ∧ x3 < 9) ∧ (zr (x3 + 1)) ∧ XIs (d + 1) 90 2 [some (.inr 117), some (.inr 14), some (.inl x2), some (.inl (x3 + 1)), u4, u5] [] n sh R (zup I 118 (x3).toNat (-1)) Q else (0 ≤ x3 ∧ x3 < 9) ∧ (zr (x3 + 1)) ∧ XIs (d + 1) 90 2 [some (.inr 117), some (.inr 14), some (.inl x2), some (.inl (x3 + 1)), u4, u5] [] n sh R (zup I 118 (x3).toNat 20) Q)))) : XIs (d + 1) 90 2 [some (.inr 117), some (.inr 14), some (.inl x2), some (.inl x3), u4, u5] [] n sh R I Q := by
  unfold XIs
  refine x_iload_n d90_2 rfl ?_
  refine x_aload_n d90_3 rfl ?_
  refine x_getR (r := 15) d90_4 gY_90.2.2.2 gF_10_21 rfl (sh_117 hW) (rf_117_0 hW) (by decide) ?_
  refine x_getI d90_7 gY_90.2.2.2 gF_10_31 rfl (sh_15 hW) ?_
  refine x_if2 (pc2 := 42) d90_10 rfl (fun c => ?_) (fun c => ?_)
  · replace c : I 15 0 ≤ x3 := c
    rw [if_pos c] at k
    refine x_iconst d90_42 rfl ?_
    refine x_istore_n (ls2 := [some (.inr 117), some (.inr 14), some (.inl x2), some (.inl 1), u4, u5]) d90_43 rfl rfl ?_
    refine x_iconst d90_44 rfl ?_
    refine x_istore (ls2 := [some (.inr 117), some (.inr 14), some (.inl x2), some (.inl 1), some (.inl 0), u5]) d90_45 rfl rfl ?_
    exact k
  · replace c : ¬ (I 15 0 ≤ x3) := c
    rw [if_neg c] at k
    refine x_aload_n d90_13 rfl ?_
    refine x_getR (r := 118) d90_14 gY_90.2.2.2 gF_10_9 rfl (sh_117 hW) (rf_117_1 hW) (by decide) ?_
    refine x_iload_n d90_17 rfl ?_
    refine x_aload_n d90_18 rfl ?_
    refine x_getR (r := 15) d90_19 gY_90.2.2.2 gF_10_21 rfl (sh_117 hW) (rf_117_0 hW) (by decide) ?_
    refine x_iload_n d90_22 rfl ?_
    refine y_inv (as := [.inl x3]) (t := [.inl x3, .inr 118]) (o := 15) (ls2 := [some (.inr 15), some (.inl x3)]) gY_41 d90_23 gY_90.2.2.2 gM_10_37 rfl (sh_15 hW) rfl rfl ?_
    refine x_iload_n d41_0 rfl ?_
    refine x_if1 (pc2 := 19) d41_1 rfl (fun c => ?_) (fun c => ?_)
    · replace c : x3 < 0 := c
      rw [if_pos c] at k
      refine x_iconst d41_19 rfl ?_
      refine x_zret d41_20 gR_41 (by decide) ?_
      show Ex (d + 1) 90 26 [some (.inr 117), some (.inr 14), some (.inl x2), some (.inl x3), u4, u5] [.inl 0, .inl x3, .inr 118] (0, 0, n, sh, R, I) _
      refine x_if1 (pc2 := 34) d90_26 rfl (fun _ => ?_) (fun c => absurd (show (0 : Int) = 0 by decide) c)
      refine x_iconst d90_34 rfl ?_
      have e1 := k.1
      replace k := k.2
      refine x_iast d90_35 (sh_118 hW) e1.1 e1.2 ?_
      have e2 := k.1
      replace k := k.2
      refine x_iinc (ls2 := [some (.inr 117), some (.inr 14), some (.inl x2), some (.inl (x3 + 1)), u4, u5]) d90_36 rfl e2 rfl ?_
      refine x_goto (pc2 := 2) d90_39 rfl ?_
      exact k
    · replace c : ¬ (x3 < 0) := c
      rw [if_neg c] at k
      refine x_aload_n d41_4 rfl ?_
      refine x_getI d41_5 gY_41.2.2.2 gF_4_15 rfl (sh_15 hW) ?_
      refine x_iload_n d41_8 rfl ?_
      refine x_ishr d41_9 ?_
      refine x_iconst d41_10 rfl ?_
      refine x_iand d41_11 ?_
      refine x_if1 (pc2 := 19) d41_12 rfl (fun c => ?_) (fun c => ?_)
      · replace c : (zand (zshr (I 15 1) x3) 1) = 0 := c
        rw [if_pos c] at k
        refine x_iconst d41_19 rfl ?_
        refine x_zret d41_20 gR_41 (by decide) ?_
        show Ex (d + 1) 90 26 [some (.inr 117), some (.inr 14), some (.inl x2), some (.inl x3), u4, u5] [.inl 0, .inl x3, .inr 118] (0, 0, n, sh, R, I) _
        refine x_if1 (pc2 := 34) d90_26 rfl (fun _ => ?_) (fun c => absurd (show (0 : Int) = 0 by decide) c)
        refine x_iconst d90_34 rfl ?_
        have e3 := k.1
        replace k := k.2
        refine x_iast d90_35 (sh_118 hW) e3.1 e3.2 ?_
        have e4 := k.1
        replace k := k.2
        refine x_iinc (ls2 := [some (.inr 117), some (.inr 14), some (.inl x2), some (.inl (x3 + 1)), u4, u5]) d90_36 rfl e4 rfl ?_
        refine x_goto (pc2 := 2) d90_39 rfl ?_
        exact k
      · replace c : ¬ ((zand (zshr (I 15 1) x3) 1) = 0) := c
        rw [if_neg c] at k
        refine x_iconst d41_15 rfl ?_
        refine x_goto (pc2 := 20) d41_16 rfl ?_
        refine x_zret d41_20 gR_41 (by decide) ?_
        show Ex (d + 1) 90 26 [some (.inr 117), some (.inr 14), some (.inl x2), some (.inl x3), u4, u5] [.inl 1, .inl x3, .inr 118] (0, 0, n, sh, R, I) _
        refine x_if1 (pc2 := 34) d90_26 rfl (fun c => absurd (show (1 : Int) = 0 from c) (by decide)) (fun _ => ?_)
        refine x_bipush d90_29 rfl ?_
        refine x_goto (pc2 := 35) d90_31 rfl ?_
        have e5 := k.1
        replace k := k.2
        refine x_iast d90_35 (sh_118 hW) e5.1 e5.2 ?_
        have e6 := k.1
        replace k := k.2
        refine x_iinc (ls2 := [some (.inr 117), some (.inr 14), some (.inl x2), some (.inl (x3 + 1)), u4, u5]) d90_36 rfl e6 rfl ?_
        refine x_goto (pc2 := 2) d90_39 rfl ?_
        exact k
set_option maxHeartbeats 4000000 in
theorem b_Y_settle_47 {d n : Nat} {sh : ZS} {R : ZR} {I : ZI} {Q : Int → ZI → Prop} (hW : Wf sh R) {x2 : Int} {x3 : Int} {x4 : Int} {u5 : Option AV}
    (k : (if x2 ≤ x4 then (x3 = 0 ∨ x3 = 1) ∧ Q x3 I else (if x3 = 0 then (x3 = 0 ∨ x3 = 1) ∧ Q x3 I else XIs (d + 1) 90 62 [some (.inr 117), some (.inr 14), some (.inl x2), some (.inl 0), some (.inl x4), some (.inl 0)] [] n sh R I Q))) : XIs (d + 1) 90 47 [some (.inr 117), some (.inr 14), some (.inl x2), some (.inl x3), some (.inl x4), u5] [] n sh R I Q := by
  unfold XIs
  refine x_iload d90_47 rfl ?_
  refine x_iload_n d90_49 rfl ?_
  refine x_if2 (pc2 := 126) d90_50 rfl (fun c => ?_) (fun c => ?_)
  · replace c : x2 ≤ x4 := c
    rw [if_pos c] at k
    refine x_iload_n d90_126 rfl ?_
    have e1 := k.1
    replace k := k.2
    exact x_zret d90_127 gR_90 e1 ⟨_, _, rfl, rfl, k⟩
  · replace c : ¬ (x2 ≤ x4) := c
    rw [if_neg c] at k
    refine x_iload_n d90_53 rfl ?_
    refine x_if1 (pc2 := 126) d90_54 rfl (fun c => ?_) (fun c => ?_)
    · replace c : x3 = 0 := c
      rw [if_pos c] at k
      refine x_iload_n d90_126 rfl ?_
      have e2 := k.1
      replace k := k.2
      exact x_zret d90_127 gR_90 e2 ⟨_, _, rfl, rfl, k⟩
    · replace c : ¬ (x3 = 0) := c
      rw [if_neg c] at k
      refine x_iconst d90_57 rfl ?_
      refine x_istore_n (ls2 := [some (.inr 117), some (.inr 14), some (.inl x2), some (.inl 0), some (.inl x4), u5]) d90_58 rfl rfl ?_
      refine x_iconst d90_59 rfl ?_
      refine x_istore (ls2 := [some (.inr 117), some (.inr 14), some (.inl x2), some (.inl 0), some (.inl x4), some (.inl 0)]) d90_60 rfl rfl ?_
      exact k
set_option maxHeartbeats 4000000 in
theorem b_Y_settle_62 {d n : Nat} {sh : ZS} {R : ZR} {I : ZI} {Q : Int → ZI → Prop} (hW : Wf sh R) {x2 : Int} {x3 : Int} {x4 : Int} {x5 : Int}
    (k : (if I 15 0 ≤ x5 then (0 ≤ x4 ∧ x4 < 10) ∧ (0 ≤ x4 ∧ x4 < 32) ∧ (0 ≤ I 120 (x4).toNat ∧ I 120 (x4).toNat < 9) ∧ (zr (x4 + 1)) ∧ XIs (d + 1) 90 47 [some (.inr 117), some (.inr 14), some (.inl x2), some (.inl x3), some (.inl (x4 + 1)), some (.inl x5)] [] n sh R (zup I 118 (I 120 (x4).toNat).toNat (I 14 (x4).toNat)) Q else (if ¬ x3 = 0 then (0 ≤ x4 ∧ x4 < 10) ∧ (0 ≤ x4 ∧ x4 < 32) ∧ (0 ≤ I 120 (x4).toNat ∧ I 120 (x4).toNat < 9) ∧ (zr (x4 + 1)) ∧ XIs (d + 1) 90 47 [some (.inr 117), some (.inr 14), some (.inl x2), some (.inl x3), some (.inl (x4 + 1)), some (.inl x5)] [] n sh R (zup I 118 (I 120 (x4).toNat).toNat (I 14 (x4).toNat)) Q else XI d 92 [.inr 117, .inl x5, .inr 14, .inl x4, .inl x2] n sh R I (fun v9 I10 => (0 ≤ x4 ∧ x4 < 10) ∧ (zr (x5 + 1)) ∧ XIs (d + 1) 90 62 [some (.inr 117), some (.inr 14), some (.inl x2), some (.inl v9), some (.inl x4), some (.inl (x5 + 1))] [] n sh R (zup I10 120 (x4).toNat x5) Q)))) : XIs (d + 1) 90 62 [some (.inr 117), some (.inr 14), some (.inl x2), some (.inl x3), some (.inl x4), some (.inl x5)] [] n sh R I Q := by
  unfold XIs
  refine x_iload d90_62 rfl ?_
  refine x_aload_n d90_64 rfl ?_
  refine x_getR (r := 15) d90_65 gY_90.2.2.2 gF_10_21 rfl (sh_117 hW) (rf_117_0 hW) (by decide) ?_
  refine x_getI d90_68 gY_90.2.2.2 gF_10_31 rfl (sh_15 hW) ?_
  refine x_if2 (pc2 := 104) d90_71 rfl (fun c => ?_) (fun c => ?_)
  · replace c : I 15 0 ≤ x5 := c
    rw [if_pos c] at k
    refine x_aload_n d90_104 rfl ?_
    refine x_getR (r := 118) d90_105 gY_90.2.2.2 gF_10_9 rfl (sh_117 hW) (rf_117_1 hW) (by decide) ?_
    refine x_aload_n d90_108 rfl ?_
    refine x_getR (r := 120) d90_109 gY_90.2.2.2 gF_10_18 rfl (sh_117 hW) (rf_117_3 hW) (by decide) ?_
    refine x_iload d90_112 rfl ?_
    have e1 := k.1
    replace k := k.2
    refine x_iald d90_114 (sh_120 hW) e1.1 e1.2 ?_
    refine x_aload_n d90_115 rfl ?_
    refine x_iload d90_116 rfl ?_
    have e2 := k.1
    replace k := k.2
    refine x_iald d90_118 (sh_14 hW) e2.1 e2.2 ?_
    have e3 := k.1
    replace k := k.2
    refine x_iast d90_119 (sh_118 hW) e3.1 e3.2 ?_
    have e4 := k.1
    replace k := k.2
    refine x_iinc (ls2 := [some (.inr 117), some (.inr 14), some (.inl x2), some (.inl x3), some (.inl (x4 + 1)), some (.inl x5)]) d90_120 rfl e4 rfl ?_
    refine x_goto (pc2 := 47) d90_123 rfl ?_
    exact k
  · replace c : ¬ (I 15 0 ≤ x5) := c
    rw [if_neg c] at k
    refine x_iload_n d90_74 rfl ?_
    refine x_if1 (pc2 := 104) d90_75 rfl (fun c => ?_) (fun c => ?_)
    · replace c : ¬ x3 = 0 := c
      rw [if_pos c] at k
      refine x_aload_n d90_104 rfl ?_
      refine x_getR (r := 118) d90_105 gY_90.2.2.2 gF_10_9 rfl (sh_117 hW) (rf_117_1 hW) (by decide) ?_
      refine x_aload_n d90_108 rfl ?_
      refine x_getR (r := 120) d90_109 gY_90.2.2.2 gF_10_18 rfl (sh_117 hW) (rf_117_3 hW) (by decide) ?_
      refine x_iload d90_112 rfl ?_
      have e5 := k.1
      replace k := k.2
      refine x_iald d90_114 (sh_120 hW) e5.1 e5.2 ?_
      refine x_aload_n d90_115 rfl ?_
      refine x_iload d90_116 rfl ?_
      have e6 := k.1
      replace k := k.2
      refine x_iald d90_118 (sh_14 hW) e6.1 e6.2 ?_
      have e7 := k.1
      replace k := k.2
      refine x_iast d90_119 (sh_118 hW) e7.1 e7.2 ?_
      have e8 := k.1
      replace k := k.2
      refine x_iinc (ls2 := [some (.inr 117), some (.inr 14), some (.inl x2), some (.inl x3), some (.inl (x4 + 1)), some (.inl x5)]) d90_120 rfl e8 rfl ?_
      refine x_goto (pc2 := 47) d90_123 rfl ?_
      exact k
    · replace c : ¬ (¬ x3 = 0) := c
      rw [if_neg c] at k
      refine x_aload_n d90_78 rfl ?_
      refine x_iload d90_79 rfl ?_
      refine x_aload_n d90_81 rfl ?_
      refine x_iload d90_82 rfl ?_
      refine x_iload_n d90_84 rfl ?_
      refine y_invI (as := [.inl x5, .inr 14, .inl x4, .inl x2]) (t := []) (o := 117) gY_92 d90_85 gY_90.2.2.2 gM_10_41 rfl (sh_117 hW) rfl k (fun v9 I10 k => ?_)
      refine x_istore_n (ls2 := [some (.inr 117), some (.inr 14), some (.inl x2), some (.inl v9), some (.inl x4), some (.inl x5)]) d90_88 rfl rfl ?_
      refine x_aload_n d90_89 rfl ?_
      refine x_getR (r := 120) d90_90 gY_90.2.2.2 gF_10_18 rfl (sh_117 hW) (rf_117_3 hW) (by decide) ?_
      refine x_iload d90_93 rfl ?_
      refine x_iload d90_95 rfl ?_
      have e11 := k.1
      replace k := k.2
      refine x_iast d90_97 (sh_120 hW) e11.1 e11.2 ?_
      have e12 := k.1
      replace k := k.2
      refine x_iinc (ls2 := [some (.inr 117), some (.inr 14), some (.inl x2), some (.inl v9), some (.inl x4), some (.inl (x5 + 1))]) d90_98 rfl e12 rfl ?_
      refine x_goto (pc2 := 62) d90_101 rfl ?_
      exact k
set_option maxHeartbeats 4000000 in
theorem b_Y_canPut_0 {d n : Nat} {sh : ZS} {R : ZR} {I : ZI} {Q : Int → ZI → Prop} (hW : Wf sh R) {x2 : Int} {x3 : Int}
    (k : (if x2 < x3 then (0 ≤ x2 ∧ x2 < 32) ∧ XI d 94 [.inr 117, .inl (I 14 (x2).toNat), .inl 0] n sh R I (fun v2 I3 => XI d 92 [.inr 117, .inl v2, .inr 14, .inl x2, .inl x3] n sh R I3 (fun v4 I5 => (if ¬ v4 = 0 then Q 1 I5 else XI d 94 [.inr 117, .inl (I5 14 (x2).toNat), .inl 1] n sh R I5 (fun v6 I7 => XI d 92 [.inr 117, .inl v6, .inr 14, .inl x2, .inl x3] n sh R I7 (fun v8 I9 => (if v8 = 0 then Q 0 I9 else Q 1 I9)))))) else Q 1 I)) : XI (d + 1) 93 [.inr 117, .inr 14, .inl x2, .inl x3] n sh R I Q := by
  refine XI.of (ls := [some (.inr 117), some (.inr 14), some (.inl x2), some (.inl x3)]) (zloc_eq gY_93.2.2.1) ?_
  unfold XIs
  refine x_iload_n d93_0 rfl ?_
  refine x_iload_n d93_1 rfl ?_
  refine x_if2 (pc2 := 7) d93_2 rfl (fun c => ?_) (fun c => ?_)
  · replace c : x2 < x3 := c
    rw [if_pos c] at k
    refine x_aload_n d93_7 rfl ?_
    refine x_aload_n d93_8 rfl ?_
    refine x_aload_n d93_9 rfl ?_
    refine x_iload_n d93_10 rfl ?_
    have e1 := k.1
    replace k := k.2
    refine x_iald d93_11 (sh_14 hW) e1.1 e1.2 ?_
    refine x_iconst d93_12 rfl ?_
    refine y_invI (as := [.inl (I 14 (x2).toNat), .inl 0]) (t := [.inr 117]) (o := 117) gY_94 d93_13 gY_93.2.2.2 gM_10_53 rfl (sh_117 hW) rfl k (fun v2 I3 k => ?_)
    refine x_aload_n d93_16 rfl ?_
    refine x_iload_n d93_17 rfl ?_
    refine x_iload_n d93_18 rfl ?_
    refine y_invI (as := [.inl v2, .inr 14, .inl x2, .inl x3]) (t := []) (o := 117) gY_92 d93_19 gY_93.2.2.2 gM_10_41 rfl (sh_117 hW) rfl k (fun v4 I5 k => ?_)
    refine x_if1 (pc2 := 43) d93_22 rfl (fun c => ?_) (fun c => ?_)
    · replace c : ¬ v4 = 0 := c
      rw [if_pos c] at k
      refine x_iconst d93_43 rfl ?_
      refine x_goto (pc2 := 48) d93_44 rfl ?_
      exact x_zret d93_48 gR_93 (by decide) ⟨_, _, rfl, rfl, k⟩
    · replace c : ¬ (¬ v4 = 0) := c
      rw [if_neg c] at k
      refine x_aload_n d93_25 rfl ?_
      refine x_aload_n d93_26 rfl ?_
      refine x_aload_n d93_27 rfl ?_
      refine x_iload_n d93_28 rfl ?_
      refine x_iald d93_29 (sh_14 hW) e1.1 e1.2 ?_
      refine x_iconst d93_30 rfl ?_
      refine y_invI (as := [.inl (I5 14 (x2).toNat), .inl 1]) (t := [.inr 117]) (o := 117) gY_94 d93_31 gY_93.2.2.2 gM_10_53 rfl (sh_117 hW) rfl k (fun v6 I7 k => ?_)
      refine x_aload_n d93_34 rfl ?_
      refine x_iload_n d93_35 rfl ?_
      refine x_iload_n d93_36 rfl ?_
      refine y_invI (as := [.inl v6, .inr 14, .inl x2, .inl x3]) (t := []) (o := 117) gY_92 d93_37 gY_93.2.2.2 gM_10_41 rfl (sh_117 hW) rfl k (fun v8 I9 k => ?_)
      refine x_if1 (pc2 := 47) d93_40 rfl (fun c => ?_) (fun c => ?_)
      · replace c : v8 = 0 := c
        rw [if_pos c] at k
        refine x_iconst d93_47 rfl ?_
        exact x_zret d93_48 gR_93 (by decide) ⟨_, _, rfl, rfl, k⟩
      · replace c : ¬ (v8 = 0) := c
        rw [if_neg c] at k
        refine x_iconst d93_43 rfl ?_
        refine x_goto (pc2 := 48) d93_44 rfl ?_
        exact x_zret d93_48 gR_93 (by decide) ⟨_, _, rfl, rfl, k⟩
  · replace c : ¬ (x2 < x3) := c
    rw [if_neg c] at k
    refine x_iconst d93_5 rfl ?_
    exact x_zret d93_6 gR_93 (by decide) ⟨_, _, rfl, rfl, k⟩
set_option maxHeartbeats 4000000 in
theorem b_Y_canPutInto_0 {d n : Nat} {sh : ZS} {R : ZR} {I : ZI} {Q : Int → ZI → Prop} (hW : Wf sh R) {x1 : Int} {x3 : Int} {x4 : Int}
    (k : (if x1 < 0 then Q 0 I else (0 ≤ x3 ∧ x3 < 32) ∧ XI d 91 [.inr 117, .inl x1, .inl (I 14 (x3).toNat)] n sh R I (fun v2 I3 => (if ¬ v2 = 0 then (0 ≤ x1 ∧ x1 < 9) ∧ (zr (x3 + 1)) ∧ XI d 93 [.inr 117, .inr 14, .inl (x3 + 1), .inl x4] n sh R (zup I3 118 (x1).toNat (I3 14 (x3).toNat)) (fun v6 I7 => (v6 = 0 ∨ v6 = 1) ∧ Q v6 (zup I7 118 (x1).toNat (I3 118 (x1).toNat))) else Q 0 I3)))) : XI (d + 1) 92 [.inr 117, .inl x1, .inr 14, .inl x3, .inl x4] n sh R I Q := by
  refine XI.of (ls := [some (.inr 117), some (.inl x1), some (.inr 14), some (.inl x3), some (.inl x4), none, none]) (zloc_eq gY_92.2.2.1) ?_
  unfold XIs
  refine x_iload_n d92_0 rfl ?_
  refine x_if1 (pc2 := 15) d92_1 rfl (fun c => ?_) (fun c => ?_)
  · replace c : x1 < 0 := c
    rw [if_pos c] at k
    refine x_iconst d92_15 rfl ?_
    exact x_zret d92_16 gR_92 (by decide) ⟨_, _, rfl, rfl, k⟩
  · replace c : ¬ (x1 < 0) := c
    rw [if_neg c] at k
    refine x_aload_n d92_4 rfl ?_
    refine x_iload_n d92_5 rfl ?_
    refine x_aload_n d92_6 rfl ?_
    refine x_iload_n d92_7 rfl ?_
    have e1 := k.1
    replace k := k.2
    refine x_iald d92_8 (sh_14 hW) e1.1 e1.2 ?_
    refine y_invI (as := [.inl x1, .inl (I 14 (x3).toNat)]) (t := []) (o := 117) gY_91 d92_9 gY_92.2.2.2 gM_10_45 rfl (sh_117 hW) rfl k (fun v2 I3 k => ?_)
    refine x_if1 (pc2 := 17) d92_12 rfl (fun c => ?_) (fun c => ?_)
    · replace c : ¬ v2 = 0 := c
      rw [if_pos c] at k
      refine x_aload_n d92_17 rfl ?_
      refine x_getR (r := 118) d92_18 gY_92.2.2.2 gF_10_9 rfl (sh_117 hW) (rf_117_1 hW) (by decide) ?_
      refine x_iload_n d92_21 rfl ?_
      have e4 := k.1
      replace k := k.2
      refine x_iald d92_22 (sh_118 hW) e4.1 e4.2 ?_
      refine x_istore (ls2 := [some (.inr 117), some (.inl x1), some (.inr 14), some (.inl x3), some (.inl x4), some (.inl (I3 118 (x1).toNat)), none]) d92_23 rfl rfl ?_
      refine x_aload_n d92_25 rfl ?_
      refine x_getR (r := 118) d92_26 gY_92.2.2.2 gF_10_9 rfl (sh_117 hW) (rf_117_1 hW) (by decide) ?_
      refine x_iload_n d92_29 rfl ?_
      refine x_aload_n d92_30 rfl ?_
      refine x_iload_n d92_31 rfl ?_
      refine x_iald d92_32 (sh_14 hW) e1.1 e1.2 ?_
      refine x_iast d92_33 (sh_118 hW) e4.1 e4.2 ?_
      refine x_aload_n d92_34 rfl ?_
      refine x_aload_n d92_35 rfl ?_
      refine x_iload_n d92_36 rfl ?_
      refine x_iconst d92_37 rfl ?_
      have e5 := k.1
      replace k := k.2
      refine x_iadd d92_38 e5 ?_
      refine x_iload d92_39 rfl ?_
      refine y_invI (as := [.inr 14, .inl (x3 + 1), .inl x4]) (t := []) (o := 117) gY_93 d92_41 gY_92.2.2.2 gM_10_49 rfl (sh_117 hW) rfl k (fun v6 I7 k => ?_)
      refine x_istore (ls2 := [some (.inr 117), some (.inl x1), some (.inr 14), some (.inl x3), some (.inl x4), some (.inl (I3 118 (x1).toNat)), some (.inl v6)]) d92_44 rfl rfl ?_
      refine x_aload_n d92_46 rfl ?_
      refine x_getR (r := 118) d92_47 gY_92.2.2.2 gF_10_9 rfl (sh_117 hW) (rf_117_1 hW) (by decide) ?_
      refine x_iload_n d92_50 rfl ?_
      refine x_iload d92_51 rfl ?_
      refine x_iast d92_53 (sh_118 hW) e4.1 e4.2 ?_
      refine x_iload d92_54 rfl ?_
      have e8 := k.1
      replace k := k.2
      exact x_zret d92_56 gR_92 e8 ⟨_, _, rfl, rfl, k⟩
    · replace c : ¬ (¬ v2 = 0) := c
      rw [if_neg c] at k
      refine x_iconst d92_15 rfl ?_
      exact x_zret d92_16 gR_92 (by decide) ⟨_, _, rfl, rfl, k⟩
set_option maxHeartbeats 4000000 in
theorem b_N_yard_0 {d n : Nat} {sh : ZS} {R : ZR} {I : ZI} {Q : Int → ZI → Prop} (hW : Wf sh R) {x1 : Int} {x2 : Int}
    (k : (if x1 < 1 then Q (-1) I else (if 10 < x1 then Q (-1) I else (if x1 ≤ I 18 6 then (if x2 = (-1) then XV d 134 [.inr 1] n sh R I (fun I2 => XI d 90 [.inr 117, .inr 14, .inl x1] n sh R I2 (fun v3 I4 => (if ¬ x2 = (-1) then (if v3 = 0 then Q (-2) I4 else (0 ≤ x2 ∧ x2 < 10) ∧ Q (I4 120 (x2).toNat) I4) else (if v3 = 0 then Q 0 I4 else Q 1 I4)))) else (if x2 < 0 then Q (-3) I else (if x2 < x1 then XV d 134 [.inr 1] n sh R I (fun I7 => XI d 90 [.inr 117, .inr 14, .inl x1] n sh R I7 (fun v8 I9 => (if ¬ x2 = (-1) then (if v8 = 0 then Q (-2) I9 else (0 ≤ x2 ∧ x2 < 10) ∧ Q (I9 120 (x2).toNat) I9) else (if v8 = 0 then Q 0 I9 else Q 1 I9)))) else Q (-3) I))) else Q (-1) I)))) : XI (d + 1) 116 [.inr 1, .inl x1, .inl x2] n sh R I Q := by
  refine XI.of (ls := [some (.inr 1), some (.inl x1), some (.inl x2), none]) (zloc_eq gY_116.2.2.1) ?_
  unfold XIs
  refine x_iload_n d116_0 rfl ?_
  refine x_iconst d116_1 rfl ?_
  refine x_if2 (pc2 := 22) d116_2 rfl (fun c => ?_) (fun c => ?_)
  · replace c : x1 < 1 := c
    rw [if_pos c] at k
    refine x_iconst d116_22 rfl ?_
    exact x_iret d116_23 gR_116 ⟨_, _, rfl, rfl, k⟩
  · replace c : ¬ (x1 < 1) := c
    rw [if_neg c] at k
    refine x_iload_n d116_5 rfl ?_
    refine x_bipush d116_6 rfl ?_
    refine x_if2 (pc2 := 22) d116_8 rfl (fun c => ?_) (fun c => ?_)
    · replace c : 10 < x1 := c
      rw [if_pos c] at k
      refine x_iconst d116_22 rfl ?_
      exact x_iret d116_23 gR_116 ⟨_, _, rfl, rfl, k⟩
    · replace c : ¬ (10 < x1) := c
      rw [if_neg c] at k
      refine x_iload_n d116_11 rfl ?_
      refine x_aload_n d116_12 rfl ?_
      refine x_getR (r := 18) d116_13 gY_116.2.2.2 gF_11_45 rfl (sh_1 hW) (rf_1_5 hW) (by decide) ?_
      refine x_getI d116_16 gY_116.2.2.2 gF_11_155 rfl (sh_18 hW) ?_
      refine x_if2 (pc2 := 24) d116_19 rfl (fun c => ?_) (fun c => ?_)
      · replace c : x1 ≤ I 18 6 := c
        rw [if_pos c] at k
        refine x_iload_n d116_24 rfl ?_
        refine x_iconst d116_25 rfl ?_
        refine x_if2 (pc2 := 41) d116_26 rfl (fun c => ?_) (fun c => ?_)
        · replace c : x2 = (-1) := c
          rw [if_pos c] at k
          refine x_aload_n d116_41 rfl ?_
          refine y_invV (as := []) (t := []) (o := 1) gY_134 d116_42 gY_116.2.2.2 gM_11_245 rfl (sh_1 hW) rfl k (fun I2 k => ?_)
          refine x_aload_n d116_45 rfl ?_
          refine x_getR (r := 117) d116_46 gY_116.2.2.2 gF_11_95 rfl (sh_1 hW) (rf_1_13 hW) (by decide) ?_
          refine x_aload_n d116_49 rfl ?_
          refine x_getR (r := 14) d116_50 gY_116.2.2.2 gF_11_32 rfl (sh_1 hW) (rf_1_3 hW) (by decide) ?_
          refine x_iload_n d116_53 rfl ?_
          refine y_invI (as := [.inr 14, .inl x1]) (t := []) (o := 117) gY_90 d116_54 gY_116.2.2.2 gM_11_252 rfl (sh_117 hW) rfl k (fun v3 I4 k => ?_)
          refine x_istore_n (ls2 := [some (.inr 1), some (.inl x1), some (.inl x2), some (.inl v3)]) d116_57 rfl rfl ?_
          refine x_iload_n d116_58 rfl ?_
          refine x_iconst d116_59 rfl ?_
          refine x_if2 (pc2 := 73) d116_60 rfl (fun c => ?_) (fun c => ?_)
          · replace c : ¬ x2 = (-1) := c
            rw [if_pos c] at k
            refine x_iload_n d116_73 rfl ?_
            refine x_if1 (pc2 := 89) d116_74 rfl (fun c => ?_) (fun c => ?_)
            · replace c : v3 = 0 := c
              rw [if_pos c] at k
              refine x_bipush d116_89 rfl ?_
              exact x_iret d116_91 gR_116 ⟨_, _, rfl, rfl, k⟩
            · replace c : ¬ (v3 = 0) := c
              rw [if_neg c] at k
              refine x_aload_n d116_77 rfl ?_
              refine x_getR (r := 117) d116_78 gY_116.2.2.2 gF_11_95 rfl (sh_1 hW) (rf_1_13 hW) (by decide) ?_
              refine x_getR (r := 120) d116_81 gY_116.2.2.2 gF_11_256 rfl (sh_117 hW) (rf_117_3 hW) (by decide) ?_
              refine x_iload_n d116_84 rfl ?_
              have e5 := k.1
              replace k := k.2
              refine x_iald d116_85 (sh_120 hW) e5.1 e5.2 ?_
              refine x_goto (pc2 := 91) d116_86 rfl ?_
              exact x_iret d116_91 gR_116 ⟨_, _, rfl, rfl, k⟩
          · replace c : ¬ (¬ x2 = (-1)) := c
            rw [if_neg c] at k
            refine x_iload_n d116_63 rfl ?_
            refine x_if1 (pc2 := 71) d116_64 rfl (fun c => ?_) (fun c => ?_)
            · replace c : v3 = 0 := c
              rw [if_pos c] at k
              refine x_iconst d116_71 rfl ?_
              exact x_iret d116_72 gR_116 ⟨_, _, rfl, rfl, k⟩
            · replace c : ¬ (v3 = 0) := c
              rw [if_neg c] at k
              refine x_iconst d116_67 rfl ?_
              refine x_goto (pc2 := 72) d116_68 rfl ?_
              exact x_iret d116_72 gR_116 ⟨_, _, rfl, rfl, k⟩
        · replace c : ¬ (x2 = (-1)) := c
          rw [if_neg c] at k
          refine x_iload_n d116_29 rfl ?_
          refine x_if1 (pc2 := 38) d116_30 rfl (fun c => ?_) (fun c => ?_)
          · replace c : x2 < 0 := c
            rw [if_pos c] at k
            refine x_bipush d116_38 rfl ?_
            exact x_iret d116_40 gR_116 ⟨_, _, rfl, rfl, k⟩
          · replace c : ¬ (x2 < 0) := c
            rw [if_neg c] at k
            refine x_iload_n d116_33 rfl ?_
            refine x_iload_n d116_34 rfl ?_
            refine x_if2 (pc2 := 41) d116_35 rfl (fun c => ?_) (fun c => ?_)
            · replace c : x2 < x1 := c
              rw [if_pos c] at k
              refine x_aload_n d116_41 rfl ?_
              refine y_invV (as := []) (t := []) (o := 1) gY_134 d116_42 gY_116.2.2.2 gM_11_245 rfl (sh_1 hW) rfl k (fun I7 k => ?_)
              refine x_aload_n d116_45 rfl ?_
              refine x_getR (r := 117) d116_46 gY_116.2.2.2 gF_11_95 rfl (sh_1 hW) (rf_1_13 hW) (by decide) ?_
              refine x_aload_n d116_49 rfl ?_
              refine x_getR (r := 14) d116_50 gY_116.2.2.2 gF_11_32 rfl (sh_1 hW) (rf_1_3 hW) (by decide) ?_
              refine x_iload_n d116_53 rfl ?_
              refine y_invI (as := [.inr 14, .inl x1]) (t := []) (o := 117) gY_90 d116_54 gY_116.2.2.2 gM_11_252 rfl (sh_117 hW) rfl k (fun v8 I9 k => ?_)
              refine x_istore_n (ls2 := [some (.inr 1), some (.inl x1), some (.inl x2), some (.inl v8)]) d116_57 rfl rfl ?_
              refine x_iload_n d116_58 rfl ?_
              refine x_iconst d116_59 rfl ?_
              refine x_if2 (pc2 := 73) d116_60 rfl (fun c => ?_) (fun c => ?_)
              · replace c : ¬ x2 = (-1) := c
                rw [if_pos c] at k
                refine x_iload_n d116_73 rfl ?_
                refine x_if1 (pc2 := 89) d116_74 rfl (fun c => ?_) (fun c => ?_)
                · replace c : v8 = 0 := c
                  rw [if_pos c] at k
                  refine x_bipush d116_89 rfl ?_
                  exact x_iret d116_91 gR_116 ⟨_, _, rfl, rfl, k⟩
                · replace c : ¬ (v8 = 0) := c
                  rw [if_neg c] at k
                  refine x_aload_n d116_77 rfl ?_
                  refine x_getR (r := 117) d116_78 gY_116.2.2.2 gF_11_95 rfl (sh_1 hW) (rf_1_13 hW) (by decide) ?_
                  refine x_getR (r := 120) d116_81 gY_116.2.2.2 gF_11_256 rfl (sh_117 hW) (rf_117_3 hW) (by decide) ?_
                  refine x_iload_n d116_84 rfl ?_
                  have e10 := k.1
                  replace k := k.2
                  refine x_iald d116_85 (sh_120 hW) e10.1 e10.2 ?_
                  refine x_goto (pc2 := 91) d116_86 rfl ?_
                  exact x_iret d116_91 gR_116 ⟨_, _, rfl, rfl, k⟩
              · replace c : ¬ (¬ x2 = (-1)) := c
                rw [if_neg c] at k
                refine x_iload_n d116_63 rfl ?_
                refine x_if1 (pc2 := 71) d116_64 rfl (fun c => ?_) (fun c => ?_)
                · replace c : v8 = 0 := c
                  rw [if_pos c] at k
                  refine x_iconst d116_71 rfl ?_
                  exact x_iret d116_72 gR_116 ⟨_, _, rfl, rfl, k⟩
                · replace c : ¬ (v8 = 0) := c
                  rw [if_neg c] at k
                  refine x_iconst d116_67 rfl ?_
                  refine x_goto (pc2 := 72) d116_68 rfl ?_
                  exact x_iret d116_72 gR_116 ⟨_, _, rfl, rfl, k⟩
            · replace c : ¬ (x2 < x1) := c
              rw [if_neg c] at k
              refine x_bipush d116_38 rfl ?_
              exact x_iret d116_40 gR_116 ⟨_, _, rfl, rfl, k⟩
      · replace c : ¬ (x1 ≤ I 18 6) := c
        rw [if_neg c] at k
        refine x_iconst d116_22 rfl ?_
        exact x_iret d116_23 gR_116 ⟨_, _, rfl, rfl, k⟩
