set_option maxHeartbeats 4000000 in
theorem b_N_letter_0 {d n : Nat} {sh : ZS} {R : ZR} {I : ZI} {Q : Int → ZI → Prop} (hW : Wf sh R) {x1 : Int} {x2 : Int} {x3 : Int}
    (k : (if x1 < 0 then (if x3 ≤ 0 then Q (-1) I else (if I 18 7 < x3 then Q (-1) I else Q (-1) I)) else (if 20 ≤ x1 then (if x3 ≤ 0 then Q (-1) I else (if I 18 7 < x3 then Q (-1) I else Q (-1) I)) else (if x2 < 0 then (if x3 ≤ 0 then Q (-1) I else (if I 18 7 < x3 then Q (-1) I else Q (-1) I)) else (if 99 < x2 then (if x3 ≤ 0 then Q (-1) I else (if I 18 7 < x3 then Q (-1) I else Q (-1) I)) else (if x3 < 0 then (if x3 ≤ 0 then Q (-1) I else (if I 18 7 < x3 then Q (-1) I else Q (-1) I)) else (if 12 < x3 then (if x3 ≤ 0 then Q (-1) I else (if I 18 7 < x3 then Q (-1) I else Q (-1) I)) else (if x3 ≤ 0 then XI (d + 1) 63 [.inr 18, .inl x1, .inl x2, .inl x3] n sh R I (fun v1 I2 => Q v1 I2) else (if I 18 7 < x3 then XI (d + 1) 63 [.inr 18, .inl x1, .inl x2, .inl x3] n sh R I (fun v3 I4 => Q v3 I4) else Q (-1) I))))))))) : XI (d + 2) 96 [.inr 1, .inl x1, .inl x2, .inl x3] n sh R I Q := by
  refine XI.of (ls := [some (.inr 1), some (.inl x1), some (.inl x2), some (.inl x3), none, none]) (zloc_eq gY_96.2.2.1) ?_
  unfold XIs
  refine x_iload_n d96_0 rfl ?_
  refine y_ins (as := [.inl x1]) (t := []) (ls2 := [some (.inl x1)]) gY_128 d96_1 gY_96.2.2.2 gM_11_112 rfl rfl rfl ?_
  refine x_iload_n d128_0 rfl ?_
  refine x_if1 (pc2 := 14) d128_1 rfl (fun c => ?_) (fun c => ?_)
  · replace c : x1 < 0 := c
    rw [if_pos c] at k
    refine x_iconst d128_14 rfl ?_
    refine x_zret d128_15 gR_128 (by decide) ?_
    show Ex (d + 2) 96 4 [some (.inr 1), some (.inl x1), some (.inl x2), some (.inl x3), none, none] [.inl 0] (0, 0, n, sh, R, I) _
    refine x_if1 (pc2 := 31) d96_4 rfl (fun _ => ?_) (fun c => absurd (show (0 : Int) = 0 by decide) c)
    refine x_iconst d96_31 rfl ?_
    refine x_istore (ls2 := [some (.inr 1), some (.inl x1), some (.inl x2), some (.inl x3), some (.inl 0), none]) d96_32 rfl rfl ?_
    refine x_iload_n d96_34 rfl ?_
    refine x_if1 (pc2 := 53) d96_35 rfl (fun c => ?_) (fun c => ?_)
    · replace c : x3 ≤ 0 := c
      rw [if_pos c] at k
      refine x_iconst d96_53 rfl ?_
      refine x_istore (ls2 := [some (.inr 1), some (.inl x1), some (.inl x2), some (.inl x3), some (.inl 0), some (.inl 0)]) d96_54 rfl rfl ?_
      refine x_iload d96_56 rfl ?_
      refine x_if1 (pc2 := 79) d96_58 rfl (fun _ => ?_) (fun c => absurd (show (0 : Int) = 0 by decide) c)
      refine x_iconst d96_79 rfl ?_
      exact x_iret d96_80 gR_96 ⟨_, _, rfl, rfl, k⟩
    · replace c : ¬ (x3 ≤ 0) := c
      rw [if_neg c] at k
      refine x_iload_n d96_38 rfl ?_
      refine x_aload_n d96_39 rfl ?_
      refine x_getR (r := 18) d96_40 gY_96.2.2.2 gF_11_45 rfl (sh_1 hW) (rf_1_5 hW) (by decide) ?_
      refine x_getI d96_43 gY_96.2.2.2 gF_11_116 rfl (sh_18 hW) ?_
      refine x_if2 (pc2 := 53) d96_46 rfl (fun c => ?_) (fun c => ?_)
      · replace c : I 18 7 < x3 := c
        rw [if_pos c] at k
        refine x_iconst d96_53 rfl ?_
        refine x_istore (ls2 := [some (.inr 1), some (.inl x1), some (.inl x2), some (.inl x3), some (.inl 0), some (.inl 0)]) d96_54 rfl rfl ?_
        refine x_iload d96_56 rfl ?_
        refine x_if1 (pc2 := 79) d96_58 rfl (fun _ => ?_) (fun c => absurd (show (0 : Int) = 0 by decide) c)
        refine x_iconst d96_79 rfl ?_
        exact x_iret d96_80 gR_96 ⟨_, _, rfl, rfl, k⟩
      · replace c : ¬ (I 18 7 < x3) := c
        rw [if_neg c] at k
        refine x_iconst d96_49 rfl ?_
        refine x_goto (pc2 := 54) d96_50 rfl ?_
        refine x_istore (ls2 := [some (.inr 1), some (.inl x1), some (.inl x2), some (.inl x3), some (.inl 0), some (.inl 1)]) d96_54 rfl rfl ?_
        refine x_iload d96_56 rfl ?_
        refine x_if1 (pc2 := 79) d96_58 rfl (fun _ => ?_) (fun c => absurd (show (0 : Int) = 0 by decide) c)
        refine x_iconst d96_79 rfl ?_
        exact x_iret d96_80 gR_96 ⟨_, _, rfl, rfl, k⟩
  · replace c : ¬ (x1 < 0) := c
    rw [if_neg c] at k
    refine x_iload_n d128_4 rfl ?_
    refine x_bipush d128_5 rfl ?_
    refine x_if2 (pc2 := 14) d128_7 rfl (fun c => ?_) (fun c => ?_)
    · replace c : 20 ≤ x1 := c
      rw [if_pos c] at k
      refine x_iconst d128_14 rfl ?_
      refine x_zret d128_15 gR_128 (by decide) ?_
      show Ex (d + 2) 96 4 [some (.inr 1), some (.inl x1), some (.inl x2), some (.inl x3), none, none] [.inl 0] (0, 0, n, sh, R, I) _
      refine x_if1 (pc2 := 31) d96_4 rfl (fun _ => ?_) (fun c => absurd (show (0 : Int) = 0 by decide) c)
      refine x_iconst d96_31 rfl ?_
      refine x_istore (ls2 := [some (.inr 1), some (.inl x1), some (.inl x2), some (.inl x3), some (.inl 0), none]) d96_32 rfl rfl ?_
      refine x_iload_n d96_34 rfl ?_
      refine x_if1 (pc2 := 53) d96_35 rfl (fun c => ?_) (fun c => ?_)
      · replace c : x3 ≤ 0 := c
        rw [if_pos c] at k
        refine x_iconst d96_53 rfl ?_
        refine x_istore (ls2 := [some (.inr 1), some (.inl x1), some (.inl x2), some (.inl x3), some (.inl 0), some (.inl 0)]) d96_54 rfl rfl ?_
        refine x_iload d96_56 rfl ?_
        refine x_if1 (pc2 := 79) d96_58 rfl (fun _ => ?_) (fun c => absurd (show (0 : Int) = 0 by decide) c)
        refine x_iconst d96_79 rfl ?_
        exact x_iret d96_80 gR_96 ⟨_, _, rfl, rfl, k⟩
      · replace c : ¬ (x3 ≤ 0) := c
        rw [if_neg c] at k
        refine x_iload_n d96_38 rfl ?_
        refine x_aload_n d96_39 rfl ?_
        refine x_getR (r := 18) d96_40 gY_96.2.2.2 gF_11_45 rfl (sh_1 hW) (rf_1_5 hW) (by decide) ?_
        refine x_getI d96_43 gY_96.2.2.2 gF_11_116 rfl (sh_18 hW) ?_
        refine x_if2 (pc2 := 53) d96_46 rfl (fun c => ?_) (fun c => ?_)
        · replace c : I 18 7 < x3 := c
          rw [if_pos c] at k
          refine x_iconst d96_53 rfl ?_
          refine x_istore (ls2 := [some (.inr 1), some (.inl x1), some (.inl x2), some (.inl x3), some (.inl 0), some (.inl 0)]) d96_54 rfl rfl ?_
          refine x_iload d96_56 rfl ?_
          refine x_if1 (pc2 := 79) d96_58 rfl (fun _ => ?_) (fun c => absurd (show (0 : Int) = 0 by decide) c)
          refine x_iconst d96_79 rfl ?_
          exact x_iret d96_80 gR_96 ⟨_, _, rfl, rfl, k⟩
        · replace c : ¬ (I 18 7 < x3) := c
          rw [if_neg c] at k
          refine x_iconst d96_49 rfl ?_
          refine x_goto (pc2 := 54) d96_50 rfl ?_
          refine x_istore (ls2 := [some (.inr 1), some (.inl x1), some (.inl x2), some (.inl x3), some (.inl 0), some (.inl 1)]) d96_54 rfl rfl ?_
          refine x_iload d96_56 rfl ?_
          refine x_if1 (pc2 := 79) d96_58 rfl (fun _ => ?_) (fun c => absurd (show (0 : Int) = 0 by decide) c)
          refine x_iconst d96_79 rfl ?_
          exact x_iret d96_80 gR_96 ⟨_, _, rfl, rfl, k⟩
    · replace c : ¬ (20 ≤ x1) := c
      rw [if_neg c] at k
      refine x_iconst d128_10 rfl ?_
      refine x_goto (pc2 := 15) d128_11 rfl ?_
      refine x_zret d128_15 gR_128 (by decide) ?_
      show Ex (d + 2) 96 4 [some (.inr 1), some (.inl x1), some (.inl x2), some (.inl x3), none, none] [.inl 1] (0, 0, n, sh, R, I) _
      refine x_if1 (pc2 := 31) d96_4 rfl (fun c => absurd (show (1 : Int) = 0 from c) (by decide)) (fun _ => ?_)
      refine x_iload_n d96_7 rfl ?_
      refine x_if1 (pc2 := 31) d96_8 rfl (fun c => ?_) (fun c => ?_)
      · replace c : x2 < 0 := c
        rw [if_pos c] at k
        refine x_iconst d96_31 rfl ?_
        refine x_istore (ls2 := [some (.inr 1), some (.inl x1), some (.inl x2), some (.inl x3), some (.inl 0), none]) d96_32 rfl rfl ?_
        refine x_iload_n d96_34 rfl ?_
        refine x_if1 (pc2 := 53) d96_35 rfl (fun c => ?_) (fun c => ?_)
        · replace c : x3 ≤ 0 := c
          rw [if_pos c] at k
          refine x_iconst d96_53 rfl ?_
          refine x_istore (ls2 := [some (.inr 1), some (.inl x1), some (.inl x2), some (.inl x3), some (.inl 0), some (.inl 0)]) d96_54 rfl rfl ?_
          refine x_iload d96_56 rfl ?_
          refine x_if1 (pc2 := 79) d96_58 rfl (fun _ => ?_) (fun c => absurd (show (0 : Int) = 0 by decide) c)
          refine x_iconst d96_79 rfl ?_
          exact x_iret d96_80 gR_96 ⟨_, _, rfl, rfl, k⟩
        · replace c : ¬ (x3 ≤ 0) := c
          rw [if_neg c] at k
          refine x_iload_n d96_38 rfl ?_
          refine x_aload_n d96_39 rfl ?_
          refine x_getR (r := 18) d96_40 gY_96.2.2.2 gF_11_45 rfl (sh_1 hW) (rf_1_5 hW) (by decide) ?_
          refine x_getI d96_43 gY_96.2.2.2 gF_11_116 rfl (sh_18 hW) ?_
          refine x_if2 (pc2 := 53) d96_46 rfl (fun c => ?_) (fun c => ?_)
          · replace c : I 18 7 < x3 := c
            rw [if_pos c] at k
            refine x_iconst d96_53 rfl ?_
            refine x_istore (ls2 := [some (.inr 1), some (.inl x1), some (.inl x2), some (.inl x3), some (.inl 0), some (.inl 0)]) d96_54 rfl rfl ?_
            refine x_iload d96_56 rfl ?_
            refine x_if1 (pc2 := 79) d96_58 rfl (fun _ => ?_) (fun c => absurd (show (0 : Int) = 0 by decide) c)
            refine x_iconst d96_79 rfl ?_
            exact x_iret d96_80 gR_96 ⟨_, _, rfl, rfl, k⟩
          · replace c : ¬ (I 18 7 < x3) := c
            rw [if_neg c] at k
            refine x_iconst d96_49 rfl ?_
            refine x_goto (pc2 := 54) d96_50 rfl ?_
            refine x_istore (ls2 := [some (.inr 1), some (.inl x1), some (.inl x2), some (.inl x3), some (.inl 0), some (.inl 1)]) d96_54 rfl rfl ?_
            refine x_iload d96_56 rfl ?_
            refine x_if1 (pc2 := 79) d96_58 rfl (fun _ => ?_) (fun c => absurd (show (0 : Int) = 0 by decide) c)
            refine x_iconst d96_79 rfl ?_
            exact x_iret d96_80 gR_96 ⟨_, _, rfl, rfl, k⟩
      · replace c : ¬ (x2 < 0) := c
        rw [if_neg c] at k
        refine x_iload_n d96_11 rfl ?_
        refine x_bipush d96_12 rfl ?_
        refine x_if2 (pc2 := 31) d96_14 rfl (fun c => ?_) (fun c => ?_)
        · replace c : 99 < x2 := c
          rw [if_pos c] at k
          refine x_iconst d96_31 rfl ?_
          refine x_istore (ls2 := [some (.inr 1), some (.inl x1), some (.inl x2), some (.inl x3), some (.inl 0), none]) d96_32 rfl rfl ?_
          refine x_iload_n d96_34 rfl ?_
          refine x_if1 (pc2 := 53) d96_35 rfl (fun c => ?_) (fun c => ?_)
          · replace c : x3 ≤ 0 := c
            rw [if_pos c] at k
            refine x_iconst d96_53 rfl ?_
            refine x_istore (ls2 := [some (.inr 1), some (.inl x1), some (.inl x2), some (.inl x3), some (.inl 0), some (.inl 0)]) d96_54 rfl rfl ?_
            refine x_iload d96_56 rfl ?_
            refine x_if1 (pc2 := 79) d96_58 rfl (fun _ => ?_) (fun c => absurd (show (0 : Int) = 0 by decide) c)
            refine x_iconst d96_79 rfl ?_
            exact x_iret d96_80 gR_96 ⟨_, _, rfl, rfl, k⟩
          · replace c : ¬ (x3 ≤ 0) := c
            rw [if_neg c] at k
            refine x_iload_n d96_38 rfl ?_
            refine x_aload_n d96_39 rfl ?_
            refine x_getR (r := 18) d96_40 gY_96.2.2.2 gF_11_45 rfl (sh_1 hW) (rf_1_5 hW) (by decide) ?_
            refine x_getI d96_43 gY_96.2.2.2 gF_11_116 rfl (sh_18 hW) ?_
            refine x_if2 (pc2 := 53) d96_46 rfl (fun c => ?_) (fun c => ?_)
            · replace c : I 18 7 < x3 := c
              rw [if_pos c] at k
              refine x_iconst d96_53 rfl ?_
              refine x_istore (ls2 := [some (.inr 1), some (.inl x1), some (.inl x2), some (.inl x3), some (.inl 0), some (.inl 0)]) d96_54 rfl rfl ?_
              refine x_iload d96_56 rfl ?_
              refine x_if1 (pc2 := 79) d96_58 rfl (fun _ => ?_) (fun c => absurd (show (0 : Int) = 0 by decide) c)
              refine x_iconst d96_79 rfl ?_
              exact x_iret d96_80 gR_96 ⟨_, _, rfl, rfl, k⟩
            · replace c : ¬ (I 18 7 < x3) := c
              rw [if_neg c] at k
              refine x_iconst d96_49 rfl ?_
              refine x_goto (pc2 := 54) d96_50 rfl ?_
              refine x_istore (ls2 := [some (.inr 1), some (.inl x1), some (.inl x2), some (.inl x3), some (.inl 0), some (.inl 1)]) d96_54 rfl rfl ?_
              refine x_iload d96_56 rfl ?_
              refine x_if1 (pc2 := 79) d96_58 rfl (fun _ => ?_) (fun c => absurd (show (0 : Int) = 0 by decide) c)
              refine x_iconst d96_79 rfl ?_
              exact x_iret d96_80 gR_96 ⟨_, _, rfl, rfl, k⟩
        · replace c : ¬ (99 < x2) := c
          rw [if_neg c] at k
          refine x_iload_n d96_17 rfl ?_
          refine x_if1 (pc2 := 31) d96_18 rfl (fun c => ?_) (fun c => ?_)
          · replace c : x3 < 0 := c
            rw [if_pos c] at k
            refine x_iconst d96_31 rfl ?_
            refine x_istore (ls2 := [some (.inr 1), some (.inl x1), some (.inl x2), some (.inl x3), some (.inl 0), none]) d96_32 rfl rfl ?_
            refine x_iload_n d96_34 rfl ?_
            refine x_if1 (pc2 := 53) d96_35 rfl (fun c => ?_) (fun c => ?_)
            · replace c : x3 ≤ 0 := c
              rw [if_pos c] at k
              refine x_iconst d96_53 rfl ?_
              refine x_istore (ls2 := [some (.inr 1), some (.inl x1), some (.inl x2), some (.inl x3), some (.inl 0), some (.inl 0)]) d96_54 rfl rfl ?_
              refine x_iload d96_56 rfl ?_
              refine x_if1 (pc2 := 79) d96_58 rfl (fun _ => ?_) (fun c => absurd (show (0 : Int) = 0 by decide) c)
              refine x_iconst d96_79 rfl ?_
              exact x_iret d96_80 gR_96 ⟨_, _, rfl, rfl, k⟩
            · replace c : ¬ (x3 ≤ 0) := c
              rw [if_neg c] at k
              refine x_iload_n d96_38 rfl ?_
              refine x_aload_n d96_39 rfl ?_
              refine x_getR (r := 18) d96_40 gY_96.2.2.2 gF_11_45 rfl (sh_1 hW) (rf_1_5 hW) (by decide) ?_
              refine x_getI d96_43 gY_96.2.2.2 gF_11_116 rfl (sh_18 hW) ?_
              refine x_if2 (pc2 := 53) d96_46 rfl (fun c => ?_) (fun c => ?_)
              · replace c : I 18 7 < x3 := c
                rw [if_pos c] at k
                refine x_iconst d96_53 rfl ?_
                refine x_istore (ls2 := [some (.inr 1), some (.inl x1), some (.inl x2), some (.inl x3), some (.inl 0), some (.inl 0)]) d96_54 rfl rfl ?_
                refine x_iload d96_56 rfl ?_
                refine x_if1 (pc2 := 79) d96_58 rfl (fun _ => ?_) (fun c => absurd (show (0 : Int) = 0 by decide) c)
                refine x_iconst d96_79 rfl ?_
                exact x_iret d96_80 gR_96 ⟨_, _, rfl, rfl, k⟩
              · replace c : ¬ (I 18 7 < x3) := c
                rw [if_neg c] at k
                refine x_iconst d96_49 rfl ?_
                refine x_goto (pc2 := 54) d96_50 rfl ?_
                refine x_istore (ls2 := [some (.inr 1), some (.inl x1), some (.inl x2), some (.inl x3), some (.inl 0), some (.inl 1)]) d96_54 rfl rfl ?_
                refine x_iload d96_56 rfl ?_
                refine x_if1 (pc2 := 79) d96_58 rfl (fun _ => ?_) (fun c => absurd (show (0 : Int) = 0 by decide) c)
                refine x_iconst d96_79 rfl ?_
                exact x_iret d96_80 gR_96 ⟨_, _, rfl, rfl, k⟩
          · replace c : ¬ (x3 < 0) := c
            rw [if_neg c] at k
            refine x_iload_n d96_21 rfl ?_
            refine x_bipush d96_22 rfl ?_
            refine x_if2 (pc2 := 31) d96_24 rfl (fun c => ?_) (fun c => ?_)
            · replace c : 12 < x3 := c
              rw [if_pos c] at k
              refine x_iconst d96_31 rfl ?_
              refine x_istore (ls2 := [some (.inr 1), some (.inl x1), some (.inl x2), some (.inl x3), some (.inl 0), none]) d96_32 rfl rfl ?_
              refine x_iload_n d96_34 rfl ?_
              refine x_if1 (pc2 := 53) d96_35 rfl (fun c => ?_) (fun c => ?_)
              · replace c : x3 ≤ 0 := c
                rw [if_pos c] at k
                refine x_iconst d96_53 rfl ?_
                refine x_istore (ls2 := [some (.inr 1), some (.inl x1), some (.inl x2), some (.inl x3), some (.inl 0), some (.inl 0)]) d96_54 rfl rfl ?_
                refine x_iload d96_56 rfl ?_
                refine x_if1 (pc2 := 79) d96_58 rfl (fun _ => ?_) (fun c => absurd (show (0 : Int) = 0 by decide) c)
                refine x_iconst d96_79 rfl ?_
                exact x_iret d96_80 gR_96 ⟨_, _, rfl, rfl, k⟩
              · replace c : ¬ (x3 ≤ 0) := c
                rw [if_neg c] at k
                refine x_iload_n d96_38 rfl ?_
                refine x_aload_n d96_39 rfl ?_
                refine x_getR (r := 18) d96_40 gY_96.2.2.2 gF_11_45 rfl (sh_1 hW) (rf_1_5 hW) (by decide) ?_
                refine x_getI d96_43 gY_96.2.2.2 gF_11_116 rfl (sh_18 hW) ?_
                refine x_if2 (pc2 := 53) d96_46 rfl (fun c => ?_) (fun c => ?_)
                · replace c : I 18 7 < x3 := c
                  rw [if_pos c] at k
                  refine x_iconst d96_53 rfl ?_
                  refine x_istore (ls2 := [some (.inr 1), some (.inl x1), some (.inl x2), some (.inl x3), some (.inl 0), some (.inl 0)]) d96_54 rfl rfl ?_
                  refine x_iload d96_56 rfl ?_
                  refine x_if1 (pc2 := 79) d96_58 rfl (fun _ => ?_) (fun c => absurd (show (0 : Int) = 0 by decide) c)
                  refine x_iconst d96_79 rfl ?_
                  exact x_iret d96_80 gR_96 ⟨_, _, rfl, rfl, k⟩
                · replace c : ¬ (I 18 7 < x3) := c
                  rw [if_neg c] at k
                  refine x_iconst d96_49 rfl ?_
                  refine x_goto (pc2 := 54) d96_50 rfl ?_
                  refine x_istore (ls2 := [some (.inr 1), some (.inl x1), some (.inl x2), some (.inl x3), some (.inl 0), some (.inl 1)]) d96_54 rfl rfl ?_
                  refine x_iload d96_56 rfl ?_
                  refine x_if1 (pc2 := 79) d96_58 rfl (fun _ => ?_) (fun c => absurd (show (0 : Int) = 0 by decide) c)
                  refine x_iconst d96_79 rfl ?_
                  exact x_iret d96_80 gR_96 ⟨_, _, rfl, rfl, k⟩
            · replace c : ¬ (12 < x3) := c
              rw [if_neg c] at k
              refine x_iconst d96_27 rfl ?_
              refine x_goto (pc2 := 32) d96_28 rfl ?_
              refine x_istore (ls2 := [some (.inr 1), some (.inl x1), some (.inl x2), some (.inl x3), some (.inl 1), none]) d96_32 rfl rfl ?_
              refine x_iload_n d96_34 rfl ?_
              refine x_if1 (pc2 := 53) d96_35 rfl (fun c => ?_) (fun c => ?_)
              · replace c : x3 ≤ 0 := c
                rw [if_pos c] at k
                refine x_iconst d96_53 rfl ?_
                refine x_istore (ls2 := [some (.inr 1), some (.inl x1), some (.inl x2), some (.inl x3), some (.inl 1), some (.inl 0)]) d96_54 rfl rfl ?_
                refine x_iload d96_56 rfl ?_
                refine x_if1 (pc2 := 79) d96_58 rfl (fun c => absurd (show (1 : Int) = 0 from c) (by decide)) (fun _ => ?_)
                refine x_iload d96_61 rfl ?_
                refine x_if1 (pc2 := 79) d96_63 rfl (fun c => absurd (show ¬ (0 : Int) = 0 from c) (by decide)) (fun _ => ?_)
                refine x_aload_n d96_66 rfl ?_
                refine x_getR (r := 18) d96_67 gY_96.2.2.2 gF_11_45 rfl (sh_1 hW) (rf_1_5 hW) (by decide) ?_
                refine x_iload_n d96_70 rfl ?_
                refine x_iload_n d96_71 rfl ?_
                refine x_iload_n d96_72 rfl ?_
                refine y_invI (as := [.inl x1, .inl x2, .inl x3]) (t := []) (o := 18) gY_63 d96_73 gY_96.2.2.2 gM_11_120 rfl (sh_18 hW) rfl k (fun v1 I2 k => ?_)
                refine x_goto (pc2 := 80) d96_76 rfl ?_
                exact x_iret d96_80 gR_96 ⟨_, _, rfl, rfl, k⟩
              · replace c : ¬ (x3 ≤ 0) := c
                rw [if_neg c] at k
                refine x_iload_n d96_38 rfl ?_
                refine x_aload_n d96_39 rfl ?_
                refine x_getR (r := 18) d96_40 gY_96.2.2.2 gF_11_45 rfl (sh_1 hW) (rf_1_5 hW) (by decide) ?_
                refine x_getI d96_43 gY_96.2.2.2 gF_11_116 rfl (sh_18 hW) ?_
                refine x_if2 (pc2 := 53) d96_46 rfl (fun c => ?_) (fun c => ?_)
                · replace c : I 18 7 < x3 := c
                  rw [if_pos c] at k
                  refine x_iconst d96_53 rfl ?_
                  refine x_istore (ls2 := [some (.inr 1), some (.inl x1), some (.inl x2), some (.inl x3), some (.inl 1), some (.inl 0)]) d96_54 rfl rfl ?_
                  refine x_iload d96_56 rfl ?_
                  refine x_if1 (pc2 := 79) d96_58 rfl (fun c => absurd (show (1 : Int) = 0 from c) (by decide)) (fun _ => ?_)
                  refine x_iload d96_61 rfl ?_
                  refine x_if1 (pc2 := 79) d96_63 rfl (fun c => absurd (show ¬ (0 : Int) = 0 from c) (by decide)) (fun _ => ?_)
                  refine x_aload_n d96_66 rfl ?_
                  refine x_getR (r := 18) d96_67 gY_96.2.2.2 gF_11_45 rfl (sh_1 hW) (rf_1_5 hW) (by decide) ?_
                  refine x_iload_n d96_70 rfl ?_
                  refine x_iload_n d96_71 rfl ?_
                  refine x_iload_n d96_72 rfl ?_
                  refine y_invI (as := [.inl x1, .inl x2, .inl x3]) (t := []) (o := 18) gY_63 d96_73 gY_96.2.2.2 gM_11_120 rfl (sh_18 hW) rfl k (fun v3 I4 k => ?_)
                  refine x_goto (pc2 := 80) d96_76 rfl ?_
                  exact x_iret d96_80 gR_96 ⟨_, _, rfl, rfl, k⟩
                · replace c : ¬ (I 18 7 < x3) := c
                  rw [if_neg c] at k
                  refine x_iconst d96_49 rfl ?_
                  refine x_goto (pc2 := 54) d96_50 rfl ?_
                  refine x_istore (ls2 := [some (.inr 1), some (.inl x1), some (.inl x2), some (.inl x3), some (.inl 1), some (.inl 1)]) d96_54 rfl rfl ?_
                  refine x_iload d96_56 rfl ?_
                  refine x_if1 (pc2 := 79) d96_58 rfl (fun c => absurd (show (1 : Int) = 0 from c) (by decide)) (fun _ => ?_)
                  refine x_iload d96_61 rfl ?_
                  refine x_if1 (pc2 := 79) d96_63 rfl (fun _ => ?_) (fun c => absurd (show ¬ (1 : Int) = 0 by decide) c)
                  refine x_iconst d96_79 rfl ?_
                  exact x_iret d96_80 gR_96 ⟨_, _, rfl, rfl, k⟩
set_option maxHeartbeats 4000000 in
theorem b_N_rank_0 {d n : Nat} {sh : ZS} {R : ZR} {I : ZI} {Q : Int → ZI → Prop} (hW : Wf sh R) {x1 : Int} {x2 : Int}
    (k : (if x1 < 0 then Q 0 I else (if 20 ≤ x1 then Q 0 I else (if x2 < 0 then Q 0 I else (if 20 ≤ x2 then Q 0 I else (0 ≤ x1 ∧ x1 < 20) ∧ Q 1 (zup I 13 (x1).toNat x2)))))) : XI (d + 1) 97 [.inr 1, .inl x1, .inl x2] n sh R I Q := by
  refine XI.of (ls := [some (.inr 1), some (.inl x1), some (.inl x2)]) (zloc_eq gY_97.2.2.1) ?_
  unfold XIs
  refine x_iload_n d97_0 rfl ?_
  refine y_ins (as := [.inl x1]) (t := []) (ls2 := [some (.inl x1)]) gY_128 d97_1 gY_97.2.2.2 gM_11_112 rfl rfl rfl ?_
  refine x_iload_n d128_0 rfl ?_
  refine x_if1 (pc2 := 14) d128_1 rfl (fun c => ?_) (fun c => ?_)
  · replace c : x1 < 0 := c
    rw [if_pos c] at k
    refine x_iconst d128_14 rfl ?_
    refine x_zret d128_15 gR_128 (by decide) ?_
    show Ex (d + 1) 97 4 [some (.inr 1), some (.inl x1), some (.inl x2)] [.inl 0] (0, 0, n, sh, R, I) _
    refine x_if1 (pc2 := 14) d97_4 rfl (fun _ => ?_) (fun c => absurd (show (0 : Int) = 0 by decide) c)
    refine x_iconst d97_14 rfl ?_
    exact x_zret d97_15 gR_97 (by decide) ⟨_, _, rfl, rfl, k⟩
  · replace c : ¬ (x1 < 0) := c
    rw [if_neg c] at k
    refine x_iload_n d128_4 rfl ?_
    refine x_bipush d128_5 rfl ?_
    refine x_if2 (pc2 := 14) d128_7 rfl (fun c => ?_) (fun c => ?_)
    · replace c : 20 ≤ x1 := c
      rw [if_pos c] at k
      refine x_iconst d128_14 rfl ?_
      refine x_zret d128_15 gR_128 (by decide) ?_
      show Ex (d + 1) 97 4 [some (.inr 1), some (.inl x1), some (.inl x2)] [.inl 0] (0, 0, n, sh, R, I) _
      refine x_if1 (pc2 := 14) d97_4 rfl (fun _ => ?_) (fun c => absurd (show (0 : Int) = 0 by decide) c)
      refine x_iconst d97_14 rfl ?_
      exact x_zret d97_15 gR_97 (by decide) ⟨_, _, rfl, rfl, k⟩
    · replace c : ¬ (20 ≤ x1) := c
      rw [if_neg c] at k
      refine x_iconst d128_10 rfl ?_
      refine x_goto (pc2 := 15) d128_11 rfl ?_
      refine x_zret d128_15 gR_128 (by decide) ?_
      show Ex (d + 1) 97 4 [some (.inr 1), some (.inl x1), some (.inl x2)] [.inl 1] (0, 0, n, sh, R, I) _
      refine x_if1 (pc2 := 14) d97_4 rfl (fun c => absurd (show (1 : Int) = 0 from c) (by decide)) (fun _ => ?_)
      refine x_iload_n d97_7 rfl ?_
      refine y_ins (as := [.inl x2]) (t := []) (ls2 := [some (.inl x2)]) gY_128 d97_8 gY_97.2.2.2 gM_11_112 rfl rfl rfl ?_
      refine x_iload_n d128_0 rfl ?_
      refine x_if1 (pc2 := 14) d128_1 rfl (fun c => ?_) (fun c => ?_)
      · replace c : x2 < 0 := c
        rw [if_pos c] at k
        refine x_iconst d128_14 rfl ?_
        refine x_zret d128_15 gR_128 (by decide) ?_
        show Ex (d + 1) 97 11 [some (.inr 1), some (.inl x1), some (.inl x2)] [.inl 0] (0, 0, n, sh, R, I) _
        refine x_if1 (pc2 := 16) d97_11 rfl (fun c => absurd (show ¬ (0 : Int) = 0 from c) (by decide)) (fun _ => ?_)
        refine x_iconst d97_14 rfl ?_
        exact x_zret d97_15 gR_97 (by decide) ⟨_, _, rfl, rfl, k⟩
      · replace c : ¬ (x2 < 0) := c
        rw [if_neg c] at k
        refine x_iload_n d128_4 rfl ?_
        refine x_bipush d128_5 rfl ?_
        refine x_if2 (pc2 := 14) d128_7 rfl (fun c => ?_) (fun c => ?_)
        · replace c : 20 ≤ x2 := c
          rw [if_pos c] at k
          refine x_iconst d128_14 rfl ?_
          refine x_zret d128_15 gR_128 (by decide) ?_
          show Ex (d + 1) 97 11 [some (.inr 1), some (.inl x1), some (.inl x2)] [.inl 0] (0, 0, n, sh, R, I) _
          refine x_if1 (pc2 := 16) d97_11 rfl (fun c => absurd (show ¬ (0 : Int) = 0 from c) (by decide)) (fun _ => ?_)
          refine x_iconst d97_14 rfl ?_
          exact x_zret d97_15 gR_97 (by decide) ⟨_, _, rfl, rfl, k⟩
        · replace c : ¬ (20 ≤ x2) := c
          rw [if_neg c] at k
          refine x_iconst d128_10 rfl ?_
          refine x_goto (pc2 := 15) d128_11 rfl ?_
          refine x_zret d128_15 gR_128 (by decide) ?_
          show Ex (d + 1) 97 11 [some (.inr 1), some (.inl x1), some (.inl x2)] [.inl 1] (0, 0, n, sh, R, I) _
          refine x_if1 (pc2 := 16) d97_11 rfl (fun _ => ?_) (fun c => absurd (show ¬ (1 : Int) = 0 by decide) c)
          refine x_aload_n d97_16 rfl ?_
          refine x_getR (r := 13) d97_17 gY_97.2.2.2 gF_11_29 rfl (sh_1 hW) (rf_1_2 hW) (by decide) ?_
          refine x_iload_n d97_20 rfl ?_
          refine x_iload_n d97_21 rfl ?_
          have e1 := k.1
          replace k := k.2
          refine x_iast d97_22 (sh_13 hW) e1.1 e1.2 ?_
          refine x_iconst d97_23 rfl ?_
          exact x_zret d97_24 gR_97 (by decide) ⟨_, _, rfl, rfl, k⟩
set_option maxHeartbeats 4000000 in
theorem b_N_rack_0 {d n : Nat} {sh : ZS} {R : ZR} {I : ZI} {Q : Int → ZI → Prop} (hW : Wf sh R) {x1 : Int} {x2 : Int}
    (k : (if x1 < 1 then Q 0 I else (if 9 < x1 then Q 0 I else (if x2 < 0 then Q 0 I else (if x2 < (zshl 1 x1) then Q 1 (zup (zup I 15 0 x1) 15 1 x2) else Q 0 I))))) : XI d 98 [.inr 1, .inl x1, .inl x2] n sh R I Q := by
  refine XI.of (ls := [some (.inr 1), some (.inl x1), some (.inl x2)]) (zloc_eq gY_98.2.2.1) ?_
  unfold XIs
  refine x_iload_n d98_0 rfl ?_
  refine x_iconst d98_1 rfl ?_
  refine x_if2 (pc2 := 22) d98_2 rfl (fun c => ?_) (fun c => ?_)
  · replace c : x1 < 1 := c
    rw [if_pos c] at k
    refine x_iconst d98_22 rfl ?_
    exact x_zret d98_23 gR_98 (by decide) ⟨_, _, rfl, rfl, k⟩
  · replace c : ¬ (x1 < 1) := c
    rw [if_neg c] at k
    refine x_iload_n d98_5 rfl ?_
    refine x_bipush d98_6 rfl ?_
    refine x_if2 (pc2 := 22) d98_8 rfl (fun c => ?_) (fun c => ?_)
    · replace c : 9 < x1 := c
      rw [if_pos c] at k
      refine x_iconst d98_22 rfl ?_
      exact x_zret d98_23 gR_98 (by decide) ⟨_, _, rfl, rfl, k⟩
    · replace c : ¬ (9 < x1) := c
      rw [if_neg c] at k
      refine x_iload_n d98_11 rfl ?_
      refine x_if1 (pc2 := 22) d98_12 rfl (fun c => ?_) (fun c => ?_)
      · replace c : x2 < 0 := c
        rw [if_pos c] at k
        refine x_iconst d98_22 rfl ?_
        exact x_zret d98_23 gR_98 (by decide) ⟨_, _, rfl, rfl, k⟩
      · replace c : ¬ (x2 < 0) := c
        rw [if_neg c] at k
        refine x_iload_n d98_15 rfl ?_
        refine x_iconst d98_16 rfl ?_
        refine x_iload_n d98_17 rfl ?_
        refine x_ishl d98_18 ?_
        refine x_if2 (pc2 := 24) d98_19 rfl (fun c => ?_) (fun c => ?_)
        · replace c : x2 < (zshl 1 x1) := c
          rw [if_pos c] at k
          refine x_aload_n d98_24 rfl ?_
          refine x_getR (r := 15) d98_25 gY_98.2.2.2 gF_11_38 rfl (sh_1 hW) (rf_1_4 hW) (by decide) ?_
          refine x_iload_n d98_28 rfl ?_
          refine x_putI d98_29 gY_98.2.2.2 gF_11_124 rfl rfl (sh_15 hW) ?_
          refine x_aload_n d98_32 rfl ?_
          refine x_getR (r := 15) d98_33 gY_98.2.2.2 gF_11_38 rfl (sh_1 hW) (rf_1_4 hW) (by decide) ?_
          refine x_iload_n d98_36 rfl ?_
          refine x_putI d98_37 gY_98.2.2.2 gF_11_127 rfl rfl (sh_15 hW) ?_
          refine x_iconst d98_40 rfl ?_
          exact x_zret d98_41 gR_98 (by decide) ⟨_, _, rfl, rfl, k⟩
        · replace c : ¬ (x2 < (zshl 1 x1)) := c
          rw [if_neg c] at k
          refine x_iconst d98_22 rfl ?_
          exact x_zret d98_23 gR_98 (by decide) ⟨_, _, rfl, rfl, k⟩
set_option maxHeartbeats 4000000 in
theorem b_N_feed_0 {d n : Nat} {sh : ZS} {R : ZR} {I : ZI} {Q : Int → ZI → Prop} (hW : Wf sh R) {x1 : Int} {x2 : Int} {x3 : Int} {x4 : Int} {x5 : Int}
    (k : (zr (I 2 1 + 20)) ∧ (if 220 < (I 2 1 + 20) then Q (-1) I else XV d 83 [.inr 2, .inl x1] n sh R I (fun I3 => XV d 83 [.inr 2, .inl x2] n sh R I3 (fun I5 => XV d 83 [.inr 2, .inl x3] n sh R I5 (fun I7 => XV d 83 [.inr 2, .inl x4] n sh R I7 (fun I9 => XV d 83 [.inr 2, .inl x5] n sh R I9 (fun I11 => Q (I11 2 1) I11))))))) : XI (d + 1) 99 [.inr 1, .inl x1, .inl x2, .inl x3, .inl x4, .inl x5] n sh R I Q := by
  refine XI.of (ls := [some (.inr 1), some (.inl x1), some (.inl x2), some (.inl x3), some (.inl x4), some (.inl x5)]) (zloc_eq gY_99.2.2.1) ?_
  unfold XIs
  refine x_aload_n d99_0 rfl ?_
  refine x_getR (r := 2) d99_1 gY_99.2.2.2 gF_11_10 rfl (sh_1 hW) (rf_1_0 hW) (by decide) ?_
  refine y_inv (as := []) (t := []) (o := 2) (ls2 := [some (.inr 2)]) gY_82 d99_4 gY_99.2.2.2 gM_11_130 rfl (sh_2 hW) rfl rfl ?_
  refine x_aload_n d82_0 rfl ?_
  refine x_getI d82_1 gY_82.2.2.2 gF_9_13 rfl (sh_2 hW) ?_
  refine x_bipush d82_4 rfl ?_
  have e1 := k.1
  replace k := k.2
  refine x_iadd d82_6 e1 ?_
  refine x_sipush d82_7 rfl ?_
  refine x_if2 (pc2 := 17) d82_10 rfl (fun c => ?_) (fun c => ?_)
  · replace c : 220 < (I 2 1 + 20) := c
    rw [if_pos c] at k
    refine x_iconst d82_17 rfl ?_
    refine x_zret d82_18 gR_82 (by decide) ?_
    show Ex (d + 1) 99 7 [some (.inr 1), some (.inl x1), some (.inl x2), some (.inl x3), some (.inl x4), some (.inl x5)] [.inl 0] (0, 0, n, sh, R, I) _
    refine x_if1 (pc2 := 12) d99_7 rfl (fun c => absurd (show ¬ (0 : Int) = 0 from c) (by decide)) (fun _ => ?_)
    refine x_iconst d99_10 rfl ?_
    exact x_iret d99_11 gR_99 ⟨_, _, rfl, rfl, k⟩
  · replace c : ¬ (220 < (I 2 1 + 20)) := c
    rw [if_neg c] at k
    refine x_iconst d82_13 rfl ?_
    refine x_goto (pc2 := 18) d82_14 rfl ?_
    refine x_zret d82_18 gR_82 (by decide) ?_
    show Ex (d + 1) 99 7 [some (.inr 1), some (.inl x1), some (.inl x2), some (.inl x3), some (.inl x4), some (.inl x5)] [.inl 1] (0, 0, n, sh, R, I) _
    refine x_if1 (pc2 := 12) d99_7 rfl (fun _ => ?_) (fun c => absurd (show ¬ (1 : Int) = 0 by decide) c)
    refine x_aload_n d99_12 rfl ?_
    refine x_getR (r := 2) d99_13 gY_99.2.2.2 gF_11_10 rfl (sh_1 hW) (rf_1_0 hW) (by decide) ?_
    refine x_iload_n d99_16 rfl ?_
    refine y_invV (as := [.inl x1]) (t := []) (o := 2) gY_83 d99_17 gY_99.2.2.2 gM_11_134 rfl (sh_2 hW) rfl k (fun I3 k => ?_)
    refine x_aload_n d99_20 rfl ?_
    refine x_getR (r := 2) d99_21 gY_99.2.2.2 gF_11_10 rfl (sh_1 hW) (rf_1_0 hW) (by decide) ?_
    refine x_iload_n d99_24 rfl ?_
    refine y_invV (as := [.inl x2]) (t := []) (o := 2) gY_83 d99_25 gY_99.2.2.2 gM_11_134 rfl (sh_2 hW) rfl k (fun I5 k => ?_)
    refine x_aload_n d99_28 rfl ?_
    refine x_getR (r := 2) d99_29 gY_99.2.2.2 gF_11_10 rfl (sh_1 hW) (rf_1_0 hW) (by decide) ?_
    refine x_iload_n d99_32 rfl ?_
    refine y_invV (as := [.inl x3]) (t := []) (o := 2) gY_83 d99_33 gY_99.2.2.2 gM_11_134 rfl (sh_2 hW) rfl k (fun I7 k => ?_)
    refine x_aload_n d99_36 rfl ?_
    refine x_getR (r := 2) d99_37 gY_99.2.2.2 gF_11_10 rfl (sh_1 hW) (rf_1_0 hW) (by decide) ?_
    refine x_iload d99_40 rfl ?_
    refine y_invV (as := [.inl x4]) (t := []) (o := 2) gY_83 d99_42 gY_99.2.2.2 gM_11_134 rfl (sh_2 hW) rfl k (fun I9 k => ?_)
    refine x_aload_n d99_45 rfl ?_
    refine x_getR (r := 2) d99_46 gY_99.2.2.2 gF_11_10 rfl (sh_1 hW) (rf_1_0 hW) (by decide) ?_
    refine x_iload d99_49 rfl ?_
    refine y_invV (as := [.inl x5]) (t := []) (o := 2) gY_83 d99_51 gY_99.2.2.2 gM_11_134 rfl (sh_2 hW) rfl k (fun I11 k => ?_)
    refine x_aload_n d99_54 rfl ?_
    refine x_getR (r := 2) d99_55 gY_99.2.2.2 gF_11_10 rfl (sh_1 hW) (rf_1_0 hW) (by decide) ?_
    refine x_getI d99_58 gY_99.2.2.2 gF_11_138 rfl (sh_2 hW) ?_
    exact x_iret d99_61 gR_99 ⟨_, _, rfl, rfl, k⟩
set_option maxHeartbeats 4000000 in
theorem b_N_order_0 {d n : Nat} {sh : ZS} {R : ZR} {I : ZI} {Q : Int → ZI → Prop} (hW : Wf sh R) {x1 : Int}
    (k : (if ¬ x1 = I 18 6 then Q 0 I else (if x1 ≤ I 2 1 then XI (d + 1) 87 [.inr 2, .inr 18] n sh R I (fun v1 I2 => (if v1 = 0 then (v1 = 0 ∨ v1 = 1) ∧ Q v1 (zup I2 2 1 0) else XIs (d + 2) 101 42 [some (.inr 1), some (.inl x1), some (.inl v1), some (.inl 0)] [] n sh R I2 Q)) else Q 0 I))) : XI (d + 2) 101 [.inr 1, .inl x1] n sh R I Q := by
  refine XI.of (ls := [some (.inr 1), some (.inl x1), none, none]) (zloc_eq gY_101.2.2.1) ?_
  unfold XIs
  refine x_iload_n d101_0 rfl ?_
  refine x_aload_n d101_1 rfl ?_
  refine x_getR (r := 18) d101_2 gY_101.2.2.2 gF_11_45 rfl (sh_1 hW) (rf_1_5 hW) (by decide) ?_
  refine x_getI d101_5 gY_101.2.2.2 gF_11_155 rfl (sh_18 hW) ?_
  refine x_if2 (pc2 := 22) d101_8 rfl (fun c => ?_) (fun c => ?_)
  · replace c : ¬ x1 = I 18 6 := c
    rw [if_pos c] at k
    refine x_iconst d101_22 rfl ?_
    exact x_zret d101_23 gR_101 (by decide) ⟨_, _, rfl, rfl, k⟩
  · replace c : ¬ (¬ x1 = I 18 6) := c
    rw [if_neg c] at k
    refine x_iload_n d101_11 rfl ?_
    refine x_aload_n d101_12 rfl ?_
    refine x_getR (r := 2) d101_13 gY_101.2.2.2 gF_11_10 rfl (sh_1 hW) (rf_1_0 hW) (by decide) ?_
    refine x_getI d101_16 gY_101.2.2.2 gF_11_138 rfl (sh_2 hW) ?_
    refine x_if2 (pc2 := 24) d101_19 rfl (fun c => ?_) (fun c => ?_)
    · replace c : x1 ≤ I 2 1 := c
      rw [if_pos c] at k
      refine x_aload_n d101_24 rfl ?_
      refine x_getR (r := 2) d101_25 gY_101.2.2.2 gF_11_10 rfl (sh_1 hW) (rf_1_0 hW) (by decide) ?_
      refine x_aload_n d101_28 rfl ?_
      refine x_getR (r := 18) d101_29 gY_101.2.2.2 gF_11_45 rfl (sh_1 hW) (rf_1_5 hW) (by decide) ?_
      refine y_invI (as := [.inr 18]) (t := []) (o := 2) gY_87 d101_32 gY_101.2.2.2 gM_11_156 rfl (sh_2 hW) rfl k (fun v1 I2 k => ?_)
      refine x_istore_n (ls2 := [some (.inr 1), some (.inl x1), some (.inl v1), none]) d101_35 rfl rfl ?_
      refine x_iload_n d101_36 rfl ?_
      refine x_if1 (pc2 := 70) d101_37 rfl (fun c => ?_) (fun c => ?_)
      · replace c : v1 = 0 := c
        rw [if_pos c] at k
        refine x_aload_n d101_70 rfl ?_
        refine x_getR (r := 2) d101_71 gY_101.2.2.2 gF_11_10 rfl (sh_1 hW) (rf_1_0 hW) (by decide) ?_
        refine x_iconst d101_74 rfl ?_
        refine x_putI d101_75 gY_101.2.2.2 gF_11_138 rfl rfl (sh_2 hW) ?_
        refine x_iload_n d101_78 rfl ?_
        have e3 := k.1
        replace k := k.2
        exact x_zret d101_79 gR_101 e3 ⟨_, _, rfl, rfl, k⟩
      · replace c : ¬ (v1 = 0) := c
        rw [if_neg c] at k
        refine x_iconst d101_40 rfl ?_
        refine x_istore_n (ls2 := [some (.inr 1), some (.inl x1), some (.inl v1), some (.inl 0)]) d101_41 rfl rfl ?_
        exact k
    · replace c : ¬ (x1 ≤ I 2 1) := c
      rw [if_neg c] at k
      refine x_iconst d101_22 rfl ?_
      exact x_zret d101_23 gR_101 (by decide) ⟨_, _, rfl, rfl, k⟩
set_option maxHeartbeats 4000000 in
theorem b_N_order_42 {d n : Nat} {sh : ZS} {R : ZR} {I : ZI} {Q : Int → ZI → Prop} (hW : Wf sh R) {x1 : Int} {x2 : Int} {x3 : Int}
    (k : (if x1 ≤ x3 then (x2 = 0 ∨ x2 = 1) ∧ Q x2 (zup I 2 1 0) else (if x3 < 0 then (0 ≤ x3 ∧ x3 < 32) ∧ (zr (x3 + 1)) ∧ XIs (d + 2) 101 42 [some (.inr 1), some (.inl x1), some (.inl x2), some (.inl (x3 + 1))] [] n sh R (zup I 23 (x3).toNat (-1)) Q else (if I 2 1 ≤ x3 then (0 ≤ x3 ∧ x3 < 32) ∧ (zr (x3 + 1)) ∧ XIs (d + 2) 101 42 [some (.inr 1), some (.inl x1), some (.inl x2), some (.inl (x3 + 1))] [] n sh R (zup I 23 (x3).toNat (-1)) Q else (0 ≤ x3 ∧ x3 < 220) ∧ (0 ≤ x3 ∧ x3 < 32) ∧ (zr (x3 + 1)) ∧ XIs (d + 2) 101 42 [some (.inr 1), some (.inl x1), some (.inl x2), some (.inl (x3 + 1))] [] n sh R (zup I 23 (x3).toNat (I 3 (x3).toNat)) Q)))) : XIs (d + 2) 101 42 [some (.inr 1), some (.inl x1), some (.inl x2), some (.inl x3)] [] n sh R I Q := by
  unfold XIs
  refine x_iload_n d101_42 rfl ?_
  refine x_iload_n d101_43 rfl ?_
  refine x_if2 (pc2 := 70) d101_44 rfl (fun c => ?_) (fun c => ?_)
  · replace c : x1 ≤ x3 := c
    rw [if_pos c] at k
    refine x_aload_n d101_70 rfl ?_
    refine x_getR (r := 2) d101_71 gY_101.2.2.2 gF_11_10 rfl (sh_1 hW) (rf_1_0 hW) (by decide) ?_
    refine x_iconst d101_74 rfl ?_
    refine x_putI d101_75 gY_101.2.2.2 gF_11_138 rfl rfl (sh_2 hW) ?_
    refine x_iload_n d101_78 rfl ?_
    have e1 := k.1
    replace k := k.2
    exact x_zret d101_79 gR_101 e1 ⟨_, _, rfl, rfl, k⟩
  · replace c : ¬ (x1 ≤ x3) := c
    rw [if_neg c] at k
    refine x_aload_n d101_47 rfl ?_
    refine x_getR (r := 18) d101_48 gY_101.2.2.2 gF_11_45 rfl (sh_1 hW) (rf_1_5 hW) (by decide) ?_
    refine x_getR (r := 23) d101_51 gY_101.2.2.2 gF_11_160 rfl (sh_18 hW) (rf_18_4 hW) (by decide) ?_
    refine x_iload_n d101_54 rfl ?_
    refine x_aload_n d101_55 rfl ?_
    refine x_getR (r := 2) d101_56 gY_101.2.2.2 gF_11_10 rfl (sh_1 hW) (rf_1_0 hW) (by decide) ?_
    refine x_iload_n d101_59 rfl ?_
    refine y_inv (as := [.inl x3]) (t := [.inl x3, .inr 23]) (o := 2) (ls2 := [some (.inr 2), some (.inl x3)]) gY_84 d101_60 gY_101.2.2.2 gM_11_163 rfl (sh_2 hW) rfl rfl ?_
    refine x_iload_n d84_0 rfl ?_
    refine x_if1 (pc2 := 21) d84_1 rfl (fun c => ?_) (fun c => ?_)
    · replace c : x3 < 0 := c
      rw [if_pos c] at k
      refine x_iconst d84_21 rfl ?_
      refine x_iret d84_22 gR_84 ?_
      show Ex (d + 2) 101 63 [some (.inr 1), some (.inl x1), some (.inl x2), some (.inl x3)] [.inl (-1), .inl x3, .inr 23] (0, 0, n, sh, R, I) _
      have e2 := k.1
      replace k := k.2
      refine x_iast d101_63 (sh_23 hW) e2.1 e2.2 ?_
      have e3 := k.1
      replace k := k.2
      refine x_iinc (ls2 := [some (.inr 1), some (.inl x1), some (.inl x2), some (.inl (x3 + 1))]) d101_64 rfl e3 rfl ?_
      refine x_goto (pc2 := 42) d101_67 rfl ?_
      exact k
    · replace c : ¬ (x3 < 0) := c
      rw [if_neg c] at k
      refine x_iload_n d84_4 rfl ?_
      refine x_aload_n d84_5 rfl ?_
      refine x_getI d84_6 gY_84.2.2.2 gF_9_13 rfl (sh_2 hW) ?_
      refine x_if2 (pc2 := 21) d84_9 rfl (fun c => ?_) (fun c => ?_)
      · replace c : I 2 1 ≤ x3 := c
        rw [if_pos c] at k
        refine x_iconst d84_21 rfl ?_
        refine x_iret d84_22 gR_84 ?_
        show Ex (d + 2) 101 63 [some (.inr 1), some (.inl x1), some (.inl x2), some (.inl x3)] [.inl (-1), .inl x3, .inr 23] (0, 0, n, sh, R, I) _
        have e4 := k.1
        replace k := k.2
        refine x_iast d101_63 (sh_23 hW) e4.1 e4.2 ?_
        have e5 := k.1
        replace k := k.2
        refine x_iinc (ls2 := [some (.inr 1), some (.inl x1), some (.inl x2), some (.inl (x3 + 1))]) d101_64 rfl e5 rfl ?_
        refine x_goto (pc2 := 42) d101_67 rfl ?_
        exact k
      · replace c : ¬ (I 2 1 ≤ x3) := c
        rw [if_neg c] at k
        refine x_aload_n d84_12 rfl ?_
        refine x_getR (r := 3) d84_13 gY_84.2.2.2 gF_9_9 rfl (sh_2 hW) (rf_2_0 hW) (by decide) ?_
        refine x_iload_n d84_16 rfl ?_
        have e6 := k.1
        replace k := k.2
        refine x_iald d84_17 (sh_3 hW) e6.1 e6.2 ?_
        refine x_goto (pc2 := 22) d84_18 rfl ?_
        refine x_iret d84_22 gR_84 ?_
        show Ex (d + 2) 101 63 [some (.inr 1), some (.inl x1), some (.inl x2), some (.inl x3)] [.inl (I 3 (x3).toNat), .inl x3, .inr 23] (0, 0, n, sh, R, I) _
        have e7 := k.1
        replace k := k.2
        refine x_iast d101_63 (sh_23 hW) e7.1 e7.2 ?_
        have e8 := k.1
        replace k := k.2
        refine x_iinc (ls2 := [some (.inr 1), some (.inl x1), some (.inl x2), some (.inl (x3 + 1))]) d101_64 rfl e8 rfl ?_
        refine x_goto (pc2 := 42) d101_67 rfl ?_
        exact k
set_option maxHeartbeats 4000000 in
theorem b_N_letterIs_0 {d n : Nat} {sh : ZS} {R : ZR} {I : ZI} {Q : Int → ZI → Prop} (hW : Wf sh R) {x1 : Int} {x2 : Int}
    (k : (if x1 < 0 then Q (-1) I else (if I 18 5 ≤ x1 then Q (-1) I else XI (d + 4) 66 [.inr 18, .inl x1] n sh R I (fun v1 I2 => (if x2 = 0 then (0 ≤ x1 ∧ x1 < 32) ∧ Q (I2 19 (x1).toNat) I2 else (if x2 = 1 then (0 ≤ x1 ∧ x1 < 32) ∧ Q (I2 20 (x1).toNat) I2 else (if x2 = 2 then (if 0 ≤ v1 then Q v1 I2 else Q (-2) I2) else (if x2 = 3 then (0 ≤ x1 ∧ x1 < 32) ∧ Q (I2 22 (x1).toNat) I2 else (if x2 = 4 then (if 0 ≤ v1 then XI (d + 4) 132 [.inr 1, .inl v1] n sh R I2 (fun v6 I7 => Q v6 I7) else Q (-2) I2) else Q (-1) I2))))))))) : XI (d + 5) 102 [.inr 1, .inl x1, .inl x2] n sh R I Q := by
  refine XI.of (ls := [some (.inr 1), some (.inl x1), some (.inl x2), none]) (zloc_eq gY_102.2.2.1) ?_
  unfold XIs
  refine x_aload_n d102_0 rfl ?_
  refine x_iload_n d102_1 rfl ?_
  refine y_inv (as := [.inl x1]) (t := []) (o := 1) (ls2 := [some (.inr 1), some (.inl x1)]) gY_130 d102_2 gY_102.2.2.2 gM_11_166 rfl (sh_1 hW) rfl rfl ?_
  refine x_iload_n d130_0 rfl ?_
  refine x_if1 (pc2 := 19) d130_1 rfl (fun c => ?_) (fun c => ?_)
  · replace c : x1 < 0 := c
    rw [if_pos c] at k
    refine x_iconst d130_19 rfl ?_
    refine x_zret d130_20 gR_130 (by decide) ?_
    show Ex (d + 5) 102 5 [some (.inr 1), some (.inl x1), some (.inl x2), none] [.inl 0] (0, 0, n, sh, R, I) _
    refine x_if1 (pc2 := 10) d102_5 rfl (fun c => absurd (show ¬ (0 : Int) = 0 from c) (by decide)) (fun _ => ?_)
    refine x_iconst d102_8 rfl ?_
    exact x_iret d102_9 gR_102 ⟨_, _, rfl, rfl, k⟩
  · replace c : ¬ (x1 < 0) := c
    rw [if_neg c] at k
    refine x_iload_n d130_4 rfl ?_
    refine x_aload_n d130_5 rfl ?_
    refine x_getR (r := 18) d130_6 gY_130.2.2.2 gF_11_45 rfl (sh_1 hW) (rf_1_5 hW) (by decide) ?_
    refine x_getI d130_9 gY_130.2.2.2 gF_11_328 rfl (sh_18 hW) ?_
    refine x_if2 (pc2 := 19) d130_12 rfl (fun c => ?_) (fun c => ?_)
    · replace c : I 18 5 ≤ x1 := c
      rw [if_pos c] at k
      refine x_iconst d130_19 rfl ?_
      refine x_zret d130_20 gR_130 (by decide) ?_
      show Ex (d + 5) 102 5 [some (.inr 1), some (.inl x1), some (.inl x2), none] [.inl 0] (0, 0, n, sh, R, I) _
      refine x_if1 (pc2 := 10) d102_5 rfl (fun c => absurd (show ¬ (0 : Int) = 0 from c) (by decide)) (fun _ => ?_)
      refine x_iconst d102_8 rfl ?_
      exact x_iret d102_9 gR_102 ⟨_, _, rfl, rfl, k⟩
    · replace c : ¬ (I 18 5 ≤ x1) := c
      rw [if_neg c] at k
      refine x_iconst d130_15 rfl ?_
      refine x_goto (pc2 := 20) d130_16 rfl ?_
      refine x_zret d130_20 gR_130 (by decide) ?_
      show Ex (d + 5) 102 5 [some (.inr 1), some (.inl x1), some (.inl x2), none] [.inl 1] (0, 0, n, sh, R, I) _
      refine x_if1 (pc2 := 10) d102_5 rfl (fun _ => ?_) (fun c => absurd (show ¬ (1 : Int) = 0 by decide) c)
      refine x_aload_n d102_10 rfl ?_
      refine x_getR (r := 18) d102_11 gY_102.2.2.2 gF_11_45 rfl (sh_1 hW) (rf_1_5 hW) (by decide) ?_
      refine x_iload_n d102_14 rfl ?_
      refine y_invI (as := [.inl x1]) (t := []) (o := 18) gY_66 d102_15 gY_102.2.2.2 gM_11_169 rfl (sh_18 hW) rfl k (fun v1 I2 k => ?_)
      refine x_istore_n (ls2 := [some (.inr 1), some (.inl x1), some (.inl x2), some (.inl v1)]) d102_18 rfl rfl ?_
      refine x_iload_n d102_19 rfl ?_
      by_cases c : x2 = 0
      · rw [if_pos c] at k
        refine x_tsw (off := 36) (pc2 := 56) d102_20 (by rw [c]; decide) rfl ?_
        refine x_aload_n d102_56 rfl ?_
        refine x_getR (r := 18) d102_57 gY_102.2.2.2 gF_11_45 rfl (sh_1 hW) (rf_1_5 hW) (by decide) ?_
        refine x_getR (r := 19) d102_60 gY_102.2.2.2 gF_11_172 rfl (sh_18 hW) (rf_18_0 hW) (by decide) ?_
        refine x_iload_n d102_63 rfl ?_
        have e3 := k.1
        replace k := k.2
        refine x_iald d102_64 (sh_19 hW) e3.1 e3.2 ?_
        exact x_iret d102_65 gR_102 ⟨_, _, rfl, rfl, k⟩
      rw [if_neg c] at k
      have c0 := c
      clear c
      by_cases c : x2 = 1
      · rw [if_pos c] at k
        refine x_tsw (off := 46) (pc2 := 66) d102_20 (by rw [c]; decide) rfl ?_
        refine x_aload_n d102_66 rfl ?_
        refine x_getR (r := 18) d102_67 gY_102.2.2.2 gF_11_45 rfl (sh_1 hW) (rf_1_5 hW) (by decide) ?_
        refine x_getR (r := 20) d102_70 gY_102.2.2.2 gF_11_175 rfl (sh_18 hW) (rf_18_1 hW) (by decide) ?_
        refine x_iload_n d102_73 rfl ?_
        have e4 := k.1
        replace k := k.2
        refine x_iald d102_74 (sh_20 hW) e4.1 e4.2 ?_
        exact x_iret d102_75 gR_102 ⟨_, _, rfl, rfl, k⟩
      rw [if_neg c] at k
      have c1 := c
      clear c
      by_cases c : x2 = 2
      · rw [if_pos c] at k
        refine x_tsw (off := 56) (pc2 := 76) d102_20 (by rw [c]; decide) rfl ?_
        refine x_iload_n d102_76 rfl ?_
        refine x_if1 (pc2 := 85) d102_77 rfl (fun c => ?_) (fun c => ?_)
        · replace c : 0 ≤ v1 := c
          rw [if_pos c] at k
          refine x_iload_n d102_85 rfl ?_
          exact x_iret d102_86 gR_102 ⟨_, _, rfl, rfl, k⟩
        · replace c : ¬ (0 ≤ v1) := c
          rw [if_neg c] at k
          refine x_bipush d102_80 rfl ?_
          refine x_goto (pc2 := 86) d102_82 rfl ?_
          exact x_iret d102_86 gR_102 ⟨_, _, rfl, rfl, k⟩
      rw [if_neg c] at k
      have c2 := c
      clear c
      by_cases c : x2 = 3
      · rw [if_pos c] at k
        refine x_tsw (off := 67) (pc2 := 87) d102_20 (by rw [c]; decide) rfl ?_
        refine x_aload_n d102_87 rfl ?_
        refine x_getR (r := 18) d102_88 gY_102.2.2.2 gF_11_45 rfl (sh_1 hW) (rf_1_5 hW) (by decide) ?_
        refine x_getR (r := 22) d102_91 gY_102.2.2.2 gF_11_178 rfl (sh_18 hW) (rf_18_3 hW) (by decide) ?_
        refine x_iload_n d102_94 rfl ?_
        have e5 := k.1
        replace k := k.2
        refine x_iald d102_95 (sh_22 hW) e5.1 e5.2 ?_
        exact x_iret d102_96 gR_102 ⟨_, _, rfl, rfl, k⟩
      rw [if_neg c] at k
      have c3 := c
      clear c
      by_cases c : x2 = 4
      · rw [if_pos c] at k
        refine x_tsw (off := 77) (pc2 := 97) d102_20 (by rw [c]; decide) rfl ?_
        refine x_iload_n d102_97 rfl ?_
        refine x_if1 (pc2 := 106) d102_98 rfl (fun c => ?_) (fun c => ?_)
        · replace c : 0 ≤ v1 := c
          rw [if_pos c] at k
          refine x_aload_n d102_106 rfl ?_
          refine x_iload_n d102_107 rfl ?_
          refine y_invI (as := [.inl v1]) (t := []) (o := 1) gY_132 d102_108 gY_102.2.2.2 gM_11_181 rfl (sh_1 hW) rfl k (fun v6 I7 k => ?_)
          exact x_iret d102_111 gR_102 ⟨_, _, rfl, rfl, k⟩
        · replace c : ¬ (0 ≤ v1) := c
          rw [if_neg c] at k
          refine x_bipush d102_101 rfl ?_
          refine x_goto (pc2 := 111) d102_103 rfl ?_
          exact x_iret d102_111 gR_102 ⟨_, _, rfl, rfl, k⟩
      rw [if_neg c] at k
      have c4 := c
      clear c
      refine x_tsw (off := 92) (pc2 := 112) d102_20 (zts_dflt [0, 1, 2, 3, 4] (by decide) (by intro v hv; simp at hv; omega)) rfl ?_
      refine x_iconst d102_112 rfl ?_
      exact x_iret d102_113 gR_102 ⟨_, _, rfl, rfl, k⟩
set_option maxHeartbeats 4000000 in
theorem b_N_at_0 {d n : Nat} {sh : ZS} {R : ZR} {I : ZI} {Q : Int → ZI → Prop} (hW : Wf sh R) {x1 : Int}
    (k : (if x1 < 0 then Q (-1) I else (if I 18 6 ≤ x1 then Q (-1) I else (0 ≤ x1 ∧ x1 < 32) ∧ Q (I 23 (x1).toNat) I))) : XI d 103 [.inr 1, .inl x1] n sh R I Q := by
  refine XI.of (ls := [some (.inr 1), some (.inl x1)]) (zloc_eq gY_103.2.2.1) ?_
  unfold XIs
  refine x_iload_n d103_0 rfl ?_
  refine x_if1 (pc2 := 27) d103_1 rfl (fun c => ?_) (fun c => ?_)
  · replace c : x1 < 0 := c
    rw [if_pos c] at k
    refine x_iconst d103_27 rfl ?_
    exact x_iret d103_28 gR_103 ⟨_, _, rfl, rfl, k⟩
  · replace c : ¬ (x1 < 0) := c
    rw [if_neg c] at k
    refine x_iload_n d103_4 rfl ?_
    refine x_aload_n d103_5 rfl ?_
    refine x_getR (r := 18) d103_6 gY_103.2.2.2 gF_11_45 rfl (sh_1 hW) (rf_1_5 hW) (by decide) ?_
    refine x_getI d103_9 gY_103.2.2.2 gF_11_155 rfl (sh_18 hW) ?_
    refine x_if2 (pc2 := 27) d103_12 rfl (fun c => ?_) (fun c => ?_)
    · replace c : I 18 6 ≤ x1 := c
      rw [if_pos c] at k
      refine x_iconst d103_27 rfl ?_
      exact x_iret d103_28 gR_103 ⟨_, _, rfl, rfl, k⟩
    · replace c : ¬ (I 18 6 ≤ x1) := c
      rw [if_neg c] at k
      refine x_aload_n d103_15 rfl ?_
      refine x_getR (r := 18) d103_16 gY_103.2.2.2 gF_11_45 rfl (sh_1 hW) (rf_1_5 hW) (by decide) ?_
      refine x_getR (r := 23) d103_19 gY_103.2.2.2 gF_11_160 rfl (sh_18 hW) (rf_18_4 hW) (by decide) ?_
      refine x_iload_n d103_22 rfl ?_
      have e1 := k.1
      replace k := k.2
      refine x_iald d103_23 (sh_23 hW) e1.1 e1.2 ?_
      refine x_goto (pc2 := 28) d103_24 rfl ?_
      exact x_iret d103_28 gR_103 ⟨_, _, rfl, rfl, k⟩
set_option maxHeartbeats 4000000 in
theorem b_N_goes_0 {d n : Nat} {sh : ZS} {R : ZR} {I : ZI} {Q : Int → ZI → Prop} (hW : Wf sh R) {x1 : Int}
    (k : (if x1 < 1 then Q (-1) I else (if 12 < x1 then Q (-1) I else (zr (I 18 7 + x1)) ∧ (if 12 < (I 18 7 + x1) then Q (-1) I else XV (d + 5) 55 [.inr 42, .inr 18, .inl x1] n sh R I (fun I3 => Q (I3 42 5) I3))))) : XI (d + 6) 104 [.inr 1, .inl x1] n sh R I Q := by
  refine XI.of (ls := [some (.inr 1), some (.inl x1)]) (zloc_eq gY_104.2.2.1) ?_
  unfold XIs
  refine x_aload_n d104_0 rfl ?_
  refine x_iload_n d104_1 rfl ?_
  refine x_bipush d104_2 rfl ?_
  refine y_inv (as := [.inl x1, .inl 12]) (t := []) (o := 1) (ls2 := [some (.inr 1), some (.inl x1), some (.inl 12)]) gY_131 d104_4 gY_104.2.2.2 gM_11_184 rfl (sh_1 hW) rfl rfl ?_
  refine x_iload_n d131_0 rfl ?_
  refine x_iconst d131_1 rfl ?_
  refine x_if2 (pc2 := 28) d131_2 rfl (fun c => ?_) (fun c => ?_)
  · replace c : x1 < 1 := c
    rw [if_pos c] at k
    refine x_iconst d131_28 rfl ?_
    refine x_zret d131_29 gR_131 (by decide) ?_
    show Ex (d + 6) 104 7 [some (.inr 1), some (.inl x1)] [.inl 0] (0, 0, n, sh, R, I) _
    refine x_if1 (pc2 := 12) d104_7 rfl (fun c => absurd (show ¬ (0 : Int) = 0 from c) (by decide)) (fun _ => ?_)
    refine x_iconst d104_10 rfl ?_
    exact x_iret d104_11 gR_104 ⟨_, _, rfl, rfl, k⟩
  · replace c : ¬ (x1 < 1) := c
    rw [if_neg c] at k
    refine x_iload_n d131_5 rfl ?_
    refine x_iload_n d131_6 rfl ?_
    refine x_if2 (pc2 := 28) d131_7 rfl (fun c => ?_) (fun c => ?_)
    · replace c : 12 < x1 := c
      rw [if_pos c] at k
      refine x_iconst d131_28 rfl ?_
      refine x_zret d131_29 gR_131 (by decide) ?_
      show Ex (d + 6) 104 7 [some (.inr 1), some (.inl x1)] [.inl 0] (0, 0, n, sh, R, I) _
      refine x_if1 (pc2 := 12) d104_7 rfl (fun c => absurd (show ¬ (0 : Int) = 0 from c) (by decide)) (fun _ => ?_)
      refine x_iconst d104_10 rfl ?_
      exact x_iret d104_11 gR_104 ⟨_, _, rfl, rfl, k⟩
    · replace c : ¬ (12 < x1) := c
      rw [if_neg c] at k
      refine x_aload_n d131_10 rfl ?_
      refine x_getR (r := 18) d131_11 gY_131.2.2.2 gF_11_45 rfl (sh_1 hW) (rf_1_5 hW) (by decide) ?_
      refine x_getI d131_14 gY_131.2.2.2 gF_11_116 rfl (sh_18 hW) ?_
      refine x_iload_n d131_17 rfl ?_
      have e1 := k.1
      replace k := k.2
      refine x_iadd d131_18 e1 ?_
      refine x_bipush d131_19 rfl ?_
      refine x_if2 (pc2 := 28) d131_21 rfl (fun c => ?_) (fun c => ?_)
      · replace c : 12 < (I 18 7 + x1) := c
        rw [if_pos c] at k
        refine x_iconst d131_28 rfl ?_
        refine x_zret d131_29 gR_131 (by decide) ?_
        show Ex (d + 6) 104 7 [some (.inr 1), some (.inl x1)] [.inl 0] (0, 0, n, sh, R, I) _
        refine x_if1 (pc2 := 12) d104_7 rfl (fun c => absurd (show ¬ (0 : Int) = 0 from c) (by decide)) (fun _ => ?_)
        refine x_iconst d104_10 rfl ?_
        exact x_iret d104_11 gR_104 ⟨_, _, rfl, rfl, k⟩
      · replace c : ¬ (12 < (I 18 7 + x1)) := c
        rw [if_neg c] at k
        refine x_iconst d131_24 rfl ?_
        refine x_goto (pc2 := 29) d131_25 rfl ?_
        refine x_zret d131_29 gR_131 (by decide) ?_
        show Ex (d + 6) 104 7 [some (.inr 1), some (.inl x1)] [.inl 1] (0, 0, n, sh, R, I) _
        refine x_if1 (pc2 := 12) d104_7 rfl (fun _ => ?_) (fun c => absurd (show ¬ (1 : Int) = 0 by decide) c)
        refine x_aload_n d104_12 rfl ?_
        refine x_getR (r := 42) d104_13 gY_104.2.2.2 gF_11_63 rfl (sh_1 hW) (rf_1_9 hW) (by decide) ?_
        refine x_aload_n d104_16 rfl ?_
        refine x_getR (r := 18) d104_17 gY_104.2.2.2 gF_11_45 rfl (sh_1 hW) (rf_1_5 hW) (by decide) ?_
        refine x_iload_n d104_20 rfl ?_
        refine y_invV (as := [.inr 18, .inl x1]) (t := []) (o := 42) gY_55 d104_21 gY_104.2.2.2 gM_11_188 rfl (sh_42 hW) rfl k (fun I3 k => ?_)
        refine x_aload_n d104_24 rfl ?_
        refine x_getR (r := 42) d104_25 gY_104.2.2.2 gF_11_63 rfl (sh_1 hW) (rf_1_9 hW) (by decide) ?_
        refine x_getI d104_28 gY_104.2.2.2 gF_11_192 rfl (sh_42 hW) ?_
        exact x_iret d104_31 gR_104 ⟨_, _, rfl, rfl, k⟩
set_option maxHeartbeats 4000000 in
theorem b_N_tried_0 {d n : Nat} {sh : ZS} {R : ZR} {I : ZI} {Q : Int → ZI → Prop} (hW : Wf sh R) {x1 : Int} {x2 : Int}
    (k : (if x2 < 10 then (if x2 < 0 then Q (-1) I else (if 3 < x2 then Q (-1) I else (if x1 < 1 then Q (-1) I else (if 12 < x1 then Q (-1) I else (zr (I 18 7 + x1)) ∧ (if 12 < (I 18 7 + x1) then Q (-1) I else XV (d + 5) 61 [.inr 30, .inr 18] n sh R I (fun I3 => XV (d + 5) 55 [.inr 42, .inr 30, .inl x1] n sh R I3 (fun I5 => (if x2 = 0 then Q (I5 42 5) I5 else (if x2 = 1 then Q (I5 42 6) I5 else (if x2 = 2 then Q (I5 42 7) I5 else (if x2 = 3 then XI (d + 5) 133 [.inr 1, .inr 30] n sh R I5 (fun v6 I7 => Q v6 I7) else (zr (x2 - 10)) ∧ (if I5 30 6 ≤ (x2 - 10) then Q (-2) I5 else (0 ≤ (x2 - 10) ∧ (x2 - 10) < 32) ∧ Q (I5 35 (x2 - 10).toNat) I5)))))))))))) else (if 42 ≤ x2 then (if x2 < 0 then Q (-1) I else (if 3 < x2 then Q (-1) I else (if x1 < 1 then Q (-1) I else (if 12 < x1 then Q (-1) I else (zr (I 18 7 + x1)) ∧ (if 12 < (I 18 7 + x1) then Q (-1) I else XV (d + 5) 61 [.inr 30, .inr 18] n sh R I (fun I12 => XV (d + 5) 55 [.inr 42, .inr 30, .inl x1] n sh R I12 (fun I14 => (if x2 = 0 then Q (I14 42 5) I14 else (if x2 = 1 then Q (I14 42 6) I14 else (if x2 = 2 then Q (I14 42 7) I14 else (if x2 = 3 then XI (d + 5) 133 [.inr 1, .inr 30] n sh R I14 (fun v15 I16 => Q v15 I16) else (zr (x2 - 10)) ∧ (if I14 30 6 ≤ (x2 - 10) then Q (-2) I14 else (0 ≤ (x2 - 10) ∧ (x2 - 10) < 32) ∧ Q (I14 35 (x2 - 10).toNat) I14)))))))))))) else (if x1 < 1 then Q (-1) I else (if 12 < x1 then Q (-1) I else (zr (I 18 7 + x1)) ∧ (if 12 < (I 18 7 + x1) then Q (-1) I else XV (d + 5) 61 [.inr 30, .inr 18] n sh R I (fun I21 => XV (d + 5) 55 [.inr 42, .inr 30, .inl x1] n sh R I21 (fun I23 => (if x2 = 0 then Q (I23 42 5) I23 else (if x2 = 1 then Q (I23 42 6) I23 else (if x2 = 2 then Q (I23 42 7) I23 else (if x2 = 3 then XI (d + 5) 133 [.inr 1, .inr 30] n sh R I23 (fun v24 I25 => Q v24 I25) else (zr (x2 - 10)) ∧ (if I23 30 6 ≤ (x2 - 10) then Q (-2) I23 else (0 ≤ (x2 - 10) ∧ (x2 - 10) < 32) ∧ Q (I23 35 (x2 - 10).toNat) I23))))))))))))) : XI (d + 6) 105 [.inr 1, .inl x1, .inl x2] n sh R I Q := by
  refine XI.of (ls := [some (.inr 1), some (.inl x1), some (.inl x2), none, none]) (zloc_eq gY_105.2.2.1) ?_
  unfold XIs
  refine x_iload_n d105_0 rfl ?_
  refine x_bipush d105_1 rfl ?_
  refine x_if2 (pc2 := 16) d105_3 rfl (fun c => ?_) (fun c => ?_)
  · replace c : x2 < 10 := c
    rw [if_pos c] at k
    refine x_iconst d105_16 rfl ?_
    refine x_istore_n (ls2 := [some (.inr 1), some (.inl x1), some (.inl x2), some (.inl 0), none]) d105_17 rfl rfl ?_
    refine x_iload_n d105_18 rfl ?_
    refine x_if1 (pc2 := 31) d105_19 rfl (fun c => absurd (show ¬ (0 : Int) = 0 from c) (by decide)) (fun _ => ?_)
    refine x_iload_n d105_22 rfl ?_
    refine x_if1 (pc2 := 35) d105_23 rfl (fun c => ?_) (fun c => ?_)
    · replace c : x2 < 0 := c
      rw [if_pos c] at k
      refine x_iconst d105_35 rfl ?_
      refine x_istore (ls2 := [some (.inr 1), some (.inl x1), some (.inl x2), some (.inl 0), some (.inl 0)]) d105_36 rfl rfl ?_
      refine x_iload d105_38 rfl ?_
      refine x_if1 (pc2 := 53) d105_40 rfl (fun _ => ?_) (fun c => absurd (show (0 : Int) = 0 by decide) c)
      refine x_iconst d105_53 rfl ?_
      exact x_iret d105_54 gR_105 ⟨_, _, rfl, rfl, k⟩
    · replace c : ¬ (x2 < 0) := c
      rw [if_neg c] at k
      refine x_iload_n d105_26 rfl ?_
      refine x_iconst d105_27 rfl ?_
      refine x_if2 (pc2 := 35) d105_28 rfl (fun c => ?_) (fun c => ?_)
      · replace c : 3 < x2 := c
        rw [if_pos c] at k
        refine x_iconst d105_35 rfl ?_
        refine x_istore (ls2 := [some (.inr 1), some (.inl x1), some (.inl x2), some (.inl 0), some (.inl 0)]) d105_36 rfl rfl ?_
        refine x_iload d105_38 rfl ?_
        refine x_if1 (pc2 := 53) d105_40 rfl (fun _ => ?_) (fun c => absurd (show (0 : Int) = 0 by decide) c)
        refine x_iconst d105_53 rfl ?_
        exact x_iret d105_54 gR_105 ⟨_, _, rfl, rfl, k⟩
      · replace c : ¬ (3 < x2) := c
        rw [if_neg c] at k
        refine x_iconst d105_31 rfl ?_
        refine x_goto (pc2 := 36) d105_32 rfl ?_
        refine x_istore (ls2 := [some (.inr 1), some (.inl x1), some (.inl x2), some (.inl 0), some (.inl 1)]) d105_36 rfl rfl ?_
        refine x_iload d105_38 rfl ?_
        refine x_if1 (pc2 := 53) d105_40 rfl (fun c => absurd (show (1 : Int) = 0 from c) (by decide)) (fun _ => ?_)
        refine x_aload_n d105_43 rfl ?_
        refine x_iload_n d105_44 rfl ?_
        refine x_bipush d105_45 rfl ?_
        refine y_inv (as := [.inl x1, .inl 12]) (t := []) (o := 1) (ls2 := [some (.inr 1), some (.inl x1), some (.inl 12)]) gY_131 d105_47 gY_105.2.2.2 gM_11_184 rfl (sh_1 hW) rfl rfl ?_
        refine x_iload_n d131_0 rfl ?_
        refine x_iconst d131_1 rfl ?_
        refine x_if2 (pc2 := 28) d131_2 rfl (fun c => ?_) (fun c => ?_)
        · replace c : x1 < 1 := c
          rw [if_pos c] at k
          refine x_iconst d131_28 rfl ?_
          refine x_zret d131_29 gR_131 (by decide) ?_
          show Ex (d + 6) 105 50 [some (.inr 1), some (.inl x1), some (.inl x2), some (.inl 0), some (.inl 1)] [.inl 0] (0, 0, n, sh, R, I) _
          refine x_if1 (pc2 := 55) d105_50 rfl (fun c => absurd (show ¬ (0 : Int) = 0 from c) (by decide)) (fun _ => ?_)
          refine x_iconst d105_53 rfl ?_
          exact x_iret d105_54 gR_105 ⟨_, _, rfl, rfl, k⟩
        · replace c : ¬ (x1 < 1) := c
          rw [if_neg c] at k
          refine x_iload_n d131_5 rfl ?_
          refine x_iload_n d131_6 rfl ?_
          refine x_if2 (pc2 := 28) d131_7 rfl (fun c => ?_) (fun c => ?_)
          · replace c : 12 < x1 := c
            rw [if_pos c] at k
            refine x_iconst d131_28 rfl ?_
            refine x_zret d131_29 gR_131 (by decide) ?_
            show Ex (d + 6) 105 50 [some (.inr 1), some (.inl x1), some (.inl x2), some (.inl 0), some (.inl 1)] [.inl 0] (0, 0, n, sh, R, I) _
            refine x_if1 (pc2 := 55) d105_50 rfl (fun c => absurd (show ¬ (0 : Int) = 0 from c) (by decide)) (fun _ => ?_)
            refine x_iconst d105_53 rfl ?_
            exact x_iret d105_54 gR_105 ⟨_, _, rfl, rfl, k⟩
          · replace c : ¬ (12 < x1) := c
            rw [if_neg c] at k
            refine x_aload_n d131_10 rfl ?_
            refine x_getR (r := 18) d131_11 gY_131.2.2.2 gF_11_45 rfl (sh_1 hW) (rf_1_5 hW) (by decide) ?_
            refine x_getI d131_14 gY_131.2.2.2 gF_11_116 rfl (sh_18 hW) ?_
            refine x_iload_n d131_17 rfl ?_
            have e1 := k.1
            replace k := k.2
            refine x_iadd d131_18 e1 ?_
            refine x_bipush d131_19 rfl ?_
            refine x_if2 (pc2 := 28) d131_21 rfl (fun c => ?_) (fun c => ?_)
            · replace c : 12 < (I 18 7 + x1) := c
              rw [if_pos c] at k
              refine x_iconst d131_28 rfl ?_
              refine x_zret d131_29 gR_131 (by decide) ?_
              show Ex (d + 6) 105 50 [some (.inr 1), some (.inl x1), some (.inl x2), some (.inl 0), some (.inl 1)] [.inl 0] (0, 0, n, sh, R, I) _
              refine x_if1 (pc2 := 55) d105_50 rfl (fun c => absurd (show ¬ (0 : Int) = 0 from c) (by decide)) (fun _ => ?_)
              refine x_iconst d105_53 rfl ?_
              exact x_iret d105_54 gR_105 ⟨_, _, rfl, rfl, k⟩
            · replace c : ¬ (12 < (I 18 7 + x1)) := c
              rw [if_neg c] at k
              refine x_iconst d131_24 rfl ?_
              refine x_goto (pc2 := 29) d131_25 rfl ?_
              refine x_zret d131_29 gR_131 (by decide) ?_
              show Ex (d + 6) 105 50 [some (.inr 1), some (.inl x1), some (.inl x2), some (.inl 0), some (.inl 1)] [.inl 1] (0, 0, n, sh, R, I) _
              refine x_if1 (pc2 := 55) d105_50 rfl (fun _ => ?_) (fun c => absurd (show ¬ (1 : Int) = 0 by decide) c)
              refine x_aload_n d105_55 rfl ?_
              refine x_getR (r := 30) d105_56 gY_105.2.2.2 gF_11_52 rfl (sh_1 hW) (rf_1_7 hW) (by decide) ?_
              refine x_aload_n d105_59 rfl ?_
              refine x_getR (r := 18) d105_60 gY_105.2.2.2 gF_11_45 rfl (sh_1 hW) (rf_1_5 hW) (by decide) ?_
              refine y_invV (as := [.inr 18]) (t := []) (o := 30) gY_61 d105_63 gY_105.2.2.2 gM_11_195 rfl (sh_30 hW) rfl k (fun I3 k => ?_)
              refine x_aload_n d105_66 rfl ?_
              refine x_getR (r := 42) d105_67 gY_105.2.2.2 gF_11_63 rfl (sh_1 hW) (rf_1_9 hW) (by decide) ?_
              refine x_aload_n d105_70 rfl ?_
              refine x_getR (r := 30) d105_71 gY_105.2.2.2 gF_11_52 rfl (sh_1 hW) (rf_1_7 hW) (by decide) ?_
              refine x_iload_n d105_74 rfl ?_
              refine y_invV (as := [.inr 30, .inl x1]) (t := []) (o := 42) gY_55 d105_75 gY_105.2.2.2 gM_11_188 rfl (sh_42 hW) rfl k (fun I5 k => ?_)
              refine x_iload_n d105_78 rfl ?_
              by_cases c : x2 = 0
              · rw [if_pos c] at k
                refine x_tsw (off := 29) (pc2 := 108) d105_79 (by rw [c]; decide) rfl ?_
                refine x_aload_n d105_108 rfl ?_
                refine x_getR (r := 42) d105_109 gY_105.2.2.2 gF_11_63 rfl (sh_1 hW) (rf_1_9 hW) (by decide) ?_
                refine x_getI d105_112 gY_105.2.2.2 gF_11_192 rfl (sh_42 hW) ?_
                exact x_iret d105_115 gR_105 ⟨_, _, rfl, rfl, k⟩
              rw [if_neg c] at k
              have c0 := c
              clear c
              by_cases c : x2 = 1
              · rw [if_pos c] at k
                refine x_tsw (off := 37) (pc2 := 116) d105_79 (by rw [c]; decide) rfl ?_
                refine x_aload_n d105_116 rfl ?_
                refine x_getR (r := 42) d105_117 gY_105.2.2.2 gF_11_63 rfl (sh_1 hW) (rf_1_9 hW) (by decide) ?_
                refine x_getI d105_120 gY_105.2.2.2 gF_11_199 rfl (sh_42 hW) ?_
                exact x_iret d105_123 gR_105 ⟨_, _, rfl, rfl, k⟩
              rw [if_neg c] at k
              have c1 := c
              clear c
              by_cases c : x2 = 2
              · rw [if_pos c] at k
                refine x_tsw (off := 45) (pc2 := 124) d105_79 (by rw [c]; decide) rfl ?_
                refine x_aload_n d105_124 rfl ?_
                refine x_getR (r := 42) d105_125 gY_105.2.2.2 gF_11_63 rfl (sh_1 hW) (rf_1_9 hW) (by decide) ?_
                refine x_getI d105_128 gY_105.2.2.2 gF_11_202 rfl (sh_42 hW) ?_
                exact x_iret d105_131 gR_105 ⟨_, _, rfl, rfl, k⟩
              rw [if_neg c] at k
              have c2 := c
              clear c
              by_cases c : x2 = 3
              · rw [if_pos c] at k
                refine x_tsw (off := 53) (pc2 := 132) d105_79 (by rw [c]; decide) rfl ?_
                refine x_aload_n d105_132 rfl ?_
                refine x_aload_n d105_133 rfl ?_
                refine x_getR (r := 30) d105_134 gY_105.2.2.2 gF_11_52 rfl (sh_1 hW) (rf_1_7 hW) (by decide) ?_
                refine y_invI (as := [.inr 30]) (t := []) (o := 1) gY_133 d105_137 gY_105.2.2.2 gM_11_205 rfl (sh_1 hW) rfl k (fun v6 I7 k => ?_)
                exact x_iret d105_140 gR_105 ⟨_, _, rfl, rfl, k⟩
              rw [if_neg c] at k
              have c3 := c
              clear c
              refine x_tsw (off := 62) (pc2 := 141) d105_79 (zts_dflt [0, 1, 2, 3] (by decide) (by intro v hv; simp at hv; omega)) rfl ?_
              refine x_iload_n d105_141 rfl ?_
              refine x_bipush d105_142 rfl ?_
              have e8 := k.1
              replace k := k.2
              refine x_isub d105_144 e8 ?_
              refine x_aload_n d105_145 rfl ?_
              refine x_getR (r := 30) d105_146 gY_105.2.2.2 gF_11_52 rfl (sh_1 hW) (rf_1_7 hW) (by decide) ?_
              refine x_getI d105_149 gY_105.2.2.2 gF_11_155 rfl (sh_30 hW) ?_
              refine x_if2 (pc2 := 170) d105_152 rfl (fun c => ?_) (fun c => ?_)
              · replace c : I5 30 6 ≤ (x2 - 10) := c
                rw [if_pos c] at k
                refine x_bipush d105_170 rfl ?_
                exact x_iret d105_172 gR_105 ⟨_, _, rfl, rfl, k⟩
              · replace c : ¬ (I5 30 6 ≤ (x2 - 10)) := c
                rw [if_neg c] at k
                refine x_aload_n d105_155 rfl ?_
                refine x_getR (r := 30) d105_156 gY_105.2.2.2 gF_11_52 rfl (sh_1 hW) (rf_1_7 hW) (by decide) ?_
                refine x_getR (r := 35) d105_159 gY_105.2.2.2 gF_11_160 rfl (sh_30 hW) (rf_30_4 hW) (by decide) ?_
                refine x_iload_n d105_162 rfl ?_
                refine x_bipush d105_163 rfl ?_
                refine x_isub d105_165 e8 ?_
                have e9 := k.1
                replace k := k.2
                refine x_iald d105_166 (sh_35 hW) e9.1 e9.2 ?_
                refine x_goto (pc2 := 172) d105_167 rfl ?_
                exact x_iret d105_172 gR_105 ⟨_, _, rfl, rfl, k⟩
  · replace c : ¬ (x2 < 10) := c
    rw [if_neg c] at k
    refine x_iload_n d105_6 rfl ?_
    refine x_bipush d105_7 rfl ?_
    refine x_if2 (pc2 := 16) d105_9 rfl (fun c => ?_) (fun c => ?_)
    · replace c : 42 ≤ x2 := c
      rw [if_pos c] at k
      refine x_iconst d105_16 rfl ?_
      refine x_istore_n (ls2 := [some (.inr 1), some (.inl x1), some (.inl x2), some (.inl 0), none]) d105_17 rfl rfl ?_
      refine x_iload_n d105_18 rfl ?_
      refine x_if1 (pc2 := 31) d105_19 rfl (fun c => absurd (show ¬ (0 : Int) = 0 from c) (by decide)) (fun _ => ?_)
      refine x_iload_n d105_22 rfl ?_
      refine x_if1 (pc2 := 35) d105_23 rfl (fun c => ?_) (fun c => ?_)
      · replace c : x2 < 0 := c
        rw [if_pos c] at k
        refine x_iconst d105_35 rfl ?_
        refine x_istore (ls2 := [some (.inr 1), some (.inl x1), some (.inl x2), some (.inl 0), some (.inl 0)]) d105_36 rfl rfl ?_
        refine x_iload d105_38 rfl ?_
        refine x_if1 (pc2 := 53) d105_40 rfl (fun _ => ?_) (fun c => absurd (show (0 : Int) = 0 by decide) c)
        refine x_iconst d105_53 rfl ?_
        exact x_iret d105_54 gR_105 ⟨_, _, rfl, rfl, k⟩
      · replace c : ¬ (x2 < 0) := c
        rw [if_neg c] at k
        refine x_iload_n d105_26 rfl ?_
        refine x_iconst d105_27 rfl ?_
        refine x_if2 (pc2 := 35) d105_28 rfl (fun c => ?_) (fun c => ?_)
        · replace c : 3 < x2 := c
          rw [if_pos c] at k
          refine x_iconst d105_35 rfl ?_
          refine x_istore (ls2 := [some (.inr 1), some (.inl x1), some (.inl x2), some (.inl 0), some (.inl 0)]) d105_36 rfl rfl ?_
          refine x_iload d105_38 rfl ?_
          refine x_if1 (pc2 := 53) d105_40 rfl (fun _ => ?_) (fun c => absurd (show (0 : Int) = 0 by decide) c)
          refine x_iconst d105_53 rfl ?_
          exact x_iret d105_54 gR_105 ⟨_, _, rfl, rfl, k⟩
        · replace c : ¬ (3 < x2) := c
          rw [if_neg c] at k
          refine x_iconst d105_31 rfl ?_
          refine x_goto (pc2 := 36) d105_32 rfl ?_
          refine x_istore (ls2 := [some (.inr 1), some (.inl x1), some (.inl x2), some (.inl 0), some (.inl 1)]) d105_36 rfl rfl ?_
          refine x_iload d105_38 rfl ?_
          refine x_if1 (pc2 := 53) d105_40 rfl (fun c => absurd (show (1 : Int) = 0 from c) (by decide)) (fun _ => ?_)
          refine x_aload_n d105_43 rfl ?_
          refine x_iload_n d105_44 rfl ?_
          refine x_bipush d105_45 rfl ?_
          refine y_inv (as := [.inl x1, .inl 12]) (t := []) (o := 1) (ls2 := [some (.inr 1), some (.inl x1), some (.inl 12)]) gY_131 d105_47 gY_105.2.2.2 gM_11_184 rfl (sh_1 hW) rfl rfl ?_
          refine x_iload_n d131_0 rfl ?_
          refine x_iconst d131_1 rfl ?_
          refine x_if2 (pc2 := 28) d131_2 rfl (fun c => ?_) (fun c => ?_)
          · replace c : x1 < 1 := c
            rw [if_pos c] at k
            refine x_iconst d131_28 rfl ?_
            refine x_zret d131_29 gR_131 (by decide) ?_
            show Ex (d + 6) 105 50 [some (.inr 1), some (.inl x1), some (.inl x2), some (.inl 0), some (.inl 1)] [.inl 0] (0, 0, n, sh, R, I) _
            refine x_if1 (pc2 := 55) d105_50 rfl (fun c => absurd (show ¬ (0 : Int) = 0 from c) (by decide)) (fun _ => ?_)
            refine x_iconst d105_53 rfl ?_
            exact x_iret d105_54 gR_105 ⟨_, _, rfl, rfl, k⟩
          · replace c : ¬ (x1 < 1) := c
            rw [if_neg c] at k
            refine x_iload_n d131_5 rfl ?_
            refine x_iload_n d131_6 rfl ?_
            refine x_if2 (pc2 := 28) d131_7 rfl (fun c => ?_) (fun c => ?_)
            · replace c : 12 < x1 := c
              rw [if_pos c] at k
              refine x_iconst d131_28 rfl ?_
              refine x_zret d131_29 gR_131 (by decide) ?_
              show Ex (d + 6) 105 50 [some (.inr 1), some (.inl x1), some (.inl x2), some (.inl 0), some (.inl 1)] [.inl 0] (0, 0, n, sh, R, I) _
              refine x_if1 (pc2 := 55) d105_50 rfl (fun c => absurd (show ¬ (0 : Int) = 0 from c) (by decide)) (fun _ => ?_)
              refine x_iconst d105_53 rfl ?_
              exact x_iret d105_54 gR_105 ⟨_, _, rfl, rfl, k⟩
            · replace c : ¬ (12 < x1) := c
              rw [if_neg c] at k
              refine x_aload_n d131_10 rfl ?_
              refine x_getR (r := 18) d131_11 gY_131.2.2.2 gF_11_45 rfl (sh_1 hW) (rf_1_5 hW) (by decide) ?_
              refine x_getI d131_14 gY_131.2.2.2 gF_11_116 rfl (sh_18 hW) ?_
              refine x_iload_n d131_17 rfl ?_
              have e10 := k.1
              replace k := k.2
              refine x_iadd d131_18 e10 ?_
              refine x_bipush d131_19 rfl ?_
              refine x_if2 (pc2 := 28) d131_21 rfl (fun c => ?_) (fun c => ?_)
              · replace c : 12 < (I 18 7 + x1) := c
                rw [if_pos c] at k
                refine x_iconst d131_28 rfl ?_
                refine x_zret d131_29 gR_131 (by decide) ?_
                show Ex (d + 6) 105 50 [some (.inr 1), some (.inl x1), some (.inl x2), some (.inl 0), some (.inl 1)] [.inl 0] (0, 0, n, sh, R, I) _
                refine x_if1 (pc2 := 55) d105_50 rfl (fun c => absurd (show ¬ (0 : Int) = 0 from c) (by decide)) (fun _ => ?_)
                refine x_iconst d105_53 rfl ?_
                exact x_iret d105_54 gR_105 ⟨_, _, rfl, rfl, k⟩
              · replace c : ¬ (12 < (I 18 7 + x1)) := c
                rw [if_neg c] at k
                refine x_iconst d131_24 rfl ?_
                refine x_goto (pc2 := 29) d131_25 rfl ?_
                refine x_zret d131_29 gR_131 (by decide) ?_
                show Ex (d + 6) 105 50 [some (.inr 1), some (.inl x1), some (.inl x2), some (.inl 0), some (.inl 1)] [.inl 1] (0, 0, n, sh, R, I) _
                refine x_if1 (pc2 := 55) d105_50 rfl (fun _ => ?_) (fun c => absurd (show ¬ (1 : Int) = 0 by decide) c)
                refine x_aload_n d105_55 rfl ?_
                refine x_getR (r := 30) d105_56 gY_105.2.2.2 gF_11_52 rfl (sh_1 hW) (rf_1_7 hW) (by decide) ?_
                refine x_aload_n d105_59 rfl ?_
                refine x_getR (r := 18) d105_60 gY_105.2.2.2 gF_11_45 rfl (sh_1 hW) (rf_1_5 hW) (by decide) ?_
                refine y_invV (as := [.inr 18]) (t := []) (o := 30) gY_61 d105_63 gY_105.2.2.2 gM_11_195 rfl (sh_30 hW) rfl k (fun I12 k => ?_)
                refine x_aload_n d105_66 rfl ?_
                refine x_getR (r := 42) d105_67 gY_105.2.2.2 gF_11_63 rfl (sh_1 hW) (rf_1_9 hW) (by decide) ?_
                refine x_aload_n d105_70 rfl ?_
                refine x_getR (r := 30) d105_71 gY_105.2.2.2 gF_11_52 rfl (sh_1 hW) (rf_1_7 hW) (by decide) ?_
                refine x_iload_n d105_74 rfl ?_
                refine y_invV (as := [.inr 30, .inl x1]) (t := []) (o := 42) gY_55 d105_75 gY_105.2.2.2 gM_11_188 rfl (sh_42 hW) rfl k (fun I14 k => ?_)
                refine x_iload_n d105_78 rfl ?_
                by_cases c : x2 = 0
                · rw [if_pos c] at k
                  refine x_tsw (off := 29) (pc2 := 108) d105_79 (by rw [c]; decide) rfl ?_
                  refine x_aload_n d105_108 rfl ?_
                  refine x_getR (r := 42) d105_109 gY_105.2.2.2 gF_11_63 rfl (sh_1 hW) (rf_1_9 hW) (by decide) ?_
                  refine x_getI d105_112 gY_105.2.2.2 gF_11_192 rfl (sh_42 hW) ?_
                  exact x_iret d105_115 gR_105 ⟨_, _, rfl, rfl, k⟩
                rw [if_neg c] at k
                have c0 := c
                clear c
                by_cases c : x2 = 1
                · rw [if_pos c] at k
                  refine x_tsw (off := 37) (pc2 := 116) d105_79 (by rw [c]; decide) rfl ?_
                  refine x_aload_n d105_116 rfl ?_
                  refine x_getR (r := 42) d105_117 gY_105.2.2.2 gF_11_63 rfl (sh_1 hW) (rf_1_9 hW) (by decide) ?_
                  refine x_getI d105_120 gY_105.2.2.2 gF_11_199 rfl (sh_42 hW) ?_
                  exact x_iret d105_123 gR_105 ⟨_, _, rfl, rfl, k⟩
                rw [if_neg c] at k
                have c1 := c
                clear c
                by_cases c : x2 = 2
                · rw [if_pos c] at k
                  refine x_tsw (off := 45) (pc2 := 124) d105_79 (by rw [c]; decide) rfl ?_
                  refine x_aload_n d105_124 rfl ?_
                  refine x_getR (r := 42) d105_125 gY_105.2.2.2 gF_11_63 rfl (sh_1 hW) (rf_1_9 hW) (by decide) ?_
                  refine x_getI d105_128 gY_105.2.2.2 gF_11_202 rfl (sh_42 hW) ?_
                  exact x_iret d105_131 gR_105 ⟨_, _, rfl, rfl, k⟩
                rw [if_neg c] at k
                have c2 := c
                clear c
                by_cases c : x2 = 3
                · rw [if_pos c] at k
                  refine x_tsw (off := 53) (pc2 := 132) d105_79 (by rw [c]; decide) rfl ?_
                  refine x_aload_n d105_132 rfl ?_
                  refine x_aload_n d105_133 rfl ?_
                  refine x_getR (r := 30) d105_134 gY_105.2.2.2 gF_11_52 rfl (sh_1 hW) (rf_1_7 hW) (by decide) ?_
                  refine y_invI (as := [.inr 30]) (t := []) (o := 1) gY_133 d105_137 gY_105.2.2.2 gM_11_205 rfl (sh_1 hW) rfl k (fun v15 I16 k => ?_)
                  exact x_iret d105_140 gR_105 ⟨_, _, rfl, rfl, k⟩
                rw [if_neg c] at k
                have c3 := c
                clear c
                refine x_tsw (off := 62) (pc2 := 141) d105_79 (zts_dflt [0, 1, 2, 3] (by decide) (by intro v hv; simp at hv; omega)) rfl ?_
                refine x_iload_n d105_141 rfl ?_
                refine x_bipush d105_142 rfl ?_
                have e17 := k.1
                replace k := k.2
                refine x_isub d105_144 e17 ?_
                refine x_aload_n d105_145 rfl ?_
                refine x_getR (r := 30) d105_146 gY_105.2.2.2 gF_11_52 rfl (sh_1 hW) (rf_1_7 hW) (by decide) ?_
                refine x_getI d105_149 gY_105.2.2.2 gF_11_155 rfl (sh_30 hW) ?_
                refine x_if2 (pc2 := 170) d105_152 rfl (fun c => ?_) (fun c => ?_)
                · replace c : I14 30 6 ≤ (x2 - 10) := c
                  rw [if_pos c] at k
                  refine x_bipush d105_170 rfl ?_
                  exact x_iret d105_172 gR_105 ⟨_, _, rfl, rfl, k⟩
                · replace c : ¬ (I14 30 6 ≤ (x2 - 10)) := c
                  rw [if_neg c] at k
                  refine x_aload_n d105_155 rfl ?_
                  refine x_getR (r := 30) d105_156 gY_105.2.2.2 gF_11_52 rfl (sh_1 hW) (rf_1_7 hW) (by decide) ?_
                  refine x_getR (r := 35) d105_159 gY_105.2.2.2 gF_11_160 rfl (sh_30 hW) (rf_30_4 hW) (by decide) ?_
                  refine x_iload_n d105_162 rfl ?_
                  refine x_bipush d105_163 rfl ?_
                  refine x_isub d105_165 e17 ?_
                  have e18 := k.1
                  replace k := k.2
                  refine x_iald d105_166 (sh_35 hW) e18.1 e18.2 ?_
                  refine x_goto (pc2 := 172) d105_167 rfl ?_
                  exact x_iret d105_172 gR_105 ⟨_, _, rfl, rfl, k⟩
    · replace c : ¬ (42 ≤ x2) := c
      rw [if_neg c] at k
      refine x_iconst d105_12 rfl ?_
      refine x_goto (pc2 := 17) d105_13 rfl ?_
      refine x_istore_n (ls2 := [some (.inr 1), some (.inl x1), some (.inl x2), some (.inl 1), none]) d105_17 rfl rfl ?_
      refine x_iload_n d105_18 rfl ?_
      refine x_if1 (pc2 := 31) d105_19 rfl (fun _ => ?_) (fun c => absurd (show ¬ (1 : Int) = 0 by decide) c)
      refine x_iconst d105_31 rfl ?_
      refine x_goto (pc2 := 36) d105_32 rfl ?_
      refine x_istore (ls2 := [some (.inr 1), some (.inl x1), some (.inl x2), some (.inl 1), some (.inl 1)]) d105_36 rfl rfl ?_
      refine x_iload d105_38 rfl ?_
      refine x_if1 (pc2 := 53) d105_40 rfl (fun c => absurd (show (1 : Int) = 0 from c) (by decide)) (fun _ => ?_)
      refine x_aload_n d105_43 rfl ?_
      refine x_iload_n d105_44 rfl ?_
      refine x_bipush d105_45 rfl ?_
      refine y_inv (as := [.inl x1, .inl 12]) (t := []) (o := 1) (ls2 := [some (.inr 1), some (.inl x1), some (.inl 12)]) gY_131 d105_47 gY_105.2.2.2 gM_11_184 rfl (sh_1 hW) rfl rfl ?_
      refine x_iload_n d131_0 rfl ?_
      refine x_iconst d131_1 rfl ?_
      refine x_if2 (pc2 := 28) d131_2 rfl (fun c => ?_) (fun c => ?_)
      · replace c : x1 < 1 := c
        rw [if_pos c] at k
        refine x_iconst d131_28 rfl ?_
        refine x_zret d131_29 gR_131 (by decide) ?_
        show Ex (d + 6) 105 50 [some (.inr 1), some (.inl x1), some (.inl x2), some (.inl 1), some (.inl 1)] [.inl 0] (0, 0, n, sh, R, I) _
        refine x_if1 (pc2 := 55) d105_50 rfl (fun c => absurd (show ¬ (0 : Int) = 0 from c) (by decide)) (fun _ => ?_)
        refine x_iconst d105_53 rfl ?_
        exact x_iret d105_54 gR_105 ⟨_, _, rfl, rfl, k⟩
      · replace c : ¬ (x1 < 1) := c
        rw [if_neg c] at k
        refine x_iload_n d131_5 rfl ?_
        refine x_iload_n d131_6 rfl ?_
        refine x_if2 (pc2 := 28) d131_7 rfl (fun c => ?_) (fun c => ?_)
        · replace c : 12 < x1 := c
          rw [if_pos c] at k
          refine x_iconst d131_28 rfl ?_
          refine x_zret d131_29 gR_131 (by decide) ?_
          show Ex (d + 6) 105 50 [some (.inr 1), some (.inl x1), some (.inl x2), some (.inl 1), some (.inl 1)] [.inl 0] (0, 0, n, sh, R, I) _
          refine x_if1 (pc2 := 55) d105_50 rfl (fun c => absurd (show ¬ (0 : Int) = 0 from c) (by decide)) (fun _ => ?_)
          refine x_iconst d105_53 rfl ?_
          exact x_iret d105_54 gR_105 ⟨_, _, rfl, rfl, k⟩
        · replace c : ¬ (12 < x1) := c
          rw [if_neg c] at k
          refine x_aload_n d131_10 rfl ?_
          refine x_getR (r := 18) d131_11 gY_131.2.2.2 gF_11_45 rfl (sh_1 hW) (rf_1_5 hW) (by decide) ?_
          refine x_getI d131_14 gY_131.2.2.2 gF_11_116 rfl (sh_18 hW) ?_
          refine x_iload_n d131_17 rfl ?_
          have e19 := k.1
          replace k := k.2
          refine x_iadd d131_18 e19 ?_
          refine x_bipush d131_19 rfl ?_
          refine x_if2 (pc2 := 28) d131_21 rfl (fun c => ?_) (fun c => ?_)
          · replace c : 12 < (I 18 7 + x1) := c
            rw [if_pos c] at k
            refine x_iconst d131_28 rfl ?_
            refine x_zret d131_29 gR_131 (by decide) ?_
            show Ex (d + 6) 105 50 [some (.inr 1), some (.inl x1), some (.inl x2), some (.inl 1), some (.inl 1)] [.inl 0] (0, 0, n, sh, R, I) _
            refine x_if1 (pc2 := 55) d105_50 rfl (fun c => absurd (show ¬ (0 : Int) = 0 from c) (by decide)) (fun _ => ?_)
            refine x_iconst d105_53 rfl ?_
            exact x_iret d105_54 gR_105 ⟨_, _, rfl, rfl, k⟩
          · replace c : ¬ (12 < (I 18 7 + x1)) := c
            rw [if_neg c] at k
            refine x_iconst d131_24 rfl ?_
            refine x_goto (pc2 := 29) d131_25 rfl ?_
            refine x_zret d131_29 gR_131 (by decide) ?_
            show Ex (d + 6) 105 50 [some (.inr 1), some (.inl x1), some (.inl x2), some (.inl 1), some (.inl 1)] [.inl 1] (0, 0, n, sh, R, I) _
            refine x_if1 (pc2 := 55) d105_50 rfl (fun _ => ?_) (fun c => absurd (show ¬ (1 : Int) = 0 by decide) c)
            refine x_aload_n d105_55 rfl ?_
            refine x_getR (r := 30) d105_56 gY_105.2.2.2 gF_11_52 rfl (sh_1 hW) (rf_1_7 hW) (by decide) ?_
            refine x_aload_n d105_59 rfl ?_
            refine x_getR (r := 18) d105_60 gY_105.2.2.2 gF_11_45 rfl (sh_1 hW) (rf_1_5 hW) (by decide) ?_
            refine y_invV (as := [.inr 18]) (t := []) (o := 30) gY_61 d105_63 gY_105.2.2.2 gM_11_195 rfl (sh_30 hW) rfl k (fun I21 k => ?_)
            refine x_aload_n d105_66 rfl ?_
            refine x_getR (r := 42) d105_67 gY_105.2.2.2 gF_11_63 rfl (sh_1 hW) (rf_1_9 hW) (by decide) ?_
            refine x_aload_n d105_70 rfl ?_
            refine x_getR (r := 30) d105_71 gY_105.2.2.2 gF_11_52 rfl (sh_1 hW) (rf_1_7 hW) (by decide) ?_
            refine x_iload_n d105_74 rfl ?_
            refine y_invV (as := [.inr 30, .inl x1]) (t := []) (o := 42) gY_55 d105_75 gY_105.2.2.2 gM_11_188 rfl (sh_42 hW) rfl k (fun I23 k => ?_)
            refine x_iload_n d105_78 rfl ?_
            by_cases c : x2 = 0
            · rw [if_pos c] at k
              refine x_tsw (off := 29) (pc2 := 108) d105_79 (by rw [c]; decide) rfl ?_
              refine x_aload_n d105_108 rfl ?_
              refine x_getR (r := 42) d105_109 gY_105.2.2.2 gF_11_63 rfl (sh_1 hW) (rf_1_9 hW) (by decide) ?_
              refine x_getI d105_112 gY_105.2.2.2 gF_11_192 rfl (sh_42 hW) ?_
              exact x_iret d105_115 gR_105 ⟨_, _, rfl, rfl, k⟩
            rw [if_neg c] at k
            have c0 := c
            clear c
            by_cases c : x2 = 1
            · rw [if_pos c] at k
              refine x_tsw (off := 37) (pc2 := 116) d105_79 (by rw [c]; decide) rfl ?_
              refine x_aload_n d105_116 rfl ?_
              refine x_getR (r := 42) d105_117 gY_105.2.2.2 gF_11_63 rfl (sh_1 hW) (rf_1_9 hW) (by decide) ?_
              refine x_getI d105_120 gY_105.2.2.2 gF_11_199 rfl (sh_42 hW) ?_
              exact x_iret d105_123 gR_105 ⟨_, _, rfl, rfl, k⟩
            rw [if_neg c] at k
            have c1 := c
            clear c
            by_cases c : x2 = 2
            · rw [if_pos c] at k
              refine x_tsw (off := 45) (pc2 := 124) d105_79 (by rw [c]; decide) rfl ?_
              refine x_aload_n d105_124 rfl ?_
              refine x_getR (r := 42) d105_125 gY_105.2.2.2 gF_11_63 rfl (sh_1 hW) (rf_1_9 hW) (by decide) ?_
              refine x_getI d105_128 gY_105.2.2.2 gF_11_202 rfl (sh_42 hW) ?_
              exact x_iret d105_131 gR_105 ⟨_, _, rfl, rfl, k⟩
            rw [if_neg c] at k
            have c2 := c
            clear c
            by_cases c : x2 = 3
            · rw [if_pos c] at k
              refine x_tsw (off := 53) (pc2 := 132) d105_79 (by rw [c]; decide) rfl ?_
              refine x_aload_n d105_132 rfl ?_
              refine x_aload_n d105_133 rfl ?_
              refine x_getR (r := 30) d105_134 gY_105.2.2.2 gF_11_52 rfl (sh_1 hW) (rf_1_7 hW) (by decide) ?_
              refine y_invI (as := [.inr 30]) (t := []) (o := 1) gY_133 d105_137 gY_105.2.2.2 gM_11_205 rfl (sh_1 hW) rfl k (fun v24 I25 k => ?_)
              exact x_iret d105_140 gR_105 ⟨_, _, rfl, rfl, k⟩
            rw [if_neg c] at k
            have c3 := c
            clear c
            refine x_tsw (off := 62) (pc2 := 141) d105_79 (zts_dflt [0, 1, 2, 3] (by decide) (by intro v hv; simp at hv; omega)) rfl ?_
            refine x_iload_n d105_141 rfl ?_
            refine x_bipush d105_142 rfl ?_
            have e26 := k.1
            replace k := k.2
            refine x_isub d105_144 e26 ?_
            refine x_aload_n d105_145 rfl ?_
            refine x_getR (r := 30) d105_146 gY_105.2.2.2 gF_11_52 rfl (sh_1 hW) (rf_1_7 hW) (by decide) ?_
            refine x_getI d105_149 gY_105.2.2.2 gF_11_155 rfl (sh_30 hW) ?_
            refine x_if2 (pc2 := 170) d105_152 rfl (fun c => ?_) (fun c => ?_)
            · replace c : I23 30 6 ≤ (x2 - 10) := c
              rw [if_pos c] at k
              refine x_bipush d105_170 rfl ?_
              exact x_iret d105_172 gR_105 ⟨_, _, rfl, rfl, k⟩
            · replace c : ¬ (I23 30 6 ≤ (x2 - 10)) := c
              rw [if_neg c] at k
              refine x_aload_n d105_155 rfl ?_
              refine x_getR (r := 30) d105_156 gY_105.2.2.2 gF_11_52 rfl (sh_1 hW) (rf_1_7 hW) (by decide) ?_
              refine x_getR (r := 35) d105_159 gY_105.2.2.2 gF_11_160 rfl (sh_30 hW) (rf_30_4 hW) (by decide) ?_
              refine x_iload_n d105_162 rfl ?_
              refine x_bipush d105_163 rfl ?_
              refine x_isub d105_165 e26 ?_
              have e27 := k.1
              replace k := k.2
              refine x_iald d105_166 (sh_35 hW) e27.1 e27.2 ?_
              refine x_goto (pc2 := 172) d105_167 rfl ?_
              exact x_iret d105_172 gR_105 ⟨_, _, rfl, rfl, k⟩
set_option maxHeartbeats 4000000 in
theorem b_N_out_0 {d n : Nat} {sh : ZS} {R : ZR} {I : ZI} {Q : Int → ZI → Prop} (hW : Wf sh R) 
    (k : XI (d + 1) 133 [.inr 1, .inr 18] n sh R I (fun v1 I2 => Q v1 I2)) : XI (d + 2) 106 [.inr 1] n sh R I Q := by
  refine XI.of (ls := [some (.inr 1)]) (zloc_eq gY_106.2.2.1) ?_
  unfold XIs
  refine x_aload_n d106_0 rfl ?_
  refine x_aload_n d106_1 rfl ?_
  refine x_getR (r := 18) d106_2 gY_106.2.2.2 gF_11_45 rfl (sh_1 hW) (rf_1_5 hW) (by decide) ?_
  refine y_invI (as := [.inr 18]) (t := []) (o := 1) gY_133 d106_5 gY_106.2.2.2 gM_11_205 rfl (sh_1 hW) rfl k (fun v1 I2 k => ?_)
  exact x_iret d106_8 gR_106 ⟨_, _, rfl, rfl, k⟩
set_option maxHeartbeats 4000000 in
theorem b_N_forAny_0 {d n : Nat} {sh : ZS} {R : ZR} {I : ZI} {Q : Int → ZI → Prop} (hW : Wf sh R) {x1 : Int} {x2 : Int}
    (k : (if x1 < 1 then Q (-1) I else (if 10000 < x1 then Q (-1) I else (if x2 < 1 then Q (-1) I else (if x2 ≤ 9 then (if ¬ x2 = 1 then XIs d 107 47 [some (.inr 1), some (.inl x1), some (.inl x2), some (.inl 0), some (.inl 1)] [] n sh R I Q else (if ¬ x1 = 1 then Q (-2) I else Q 0 I)) else Q (-1) I))))) : XI d 107 [.inr 1, .inl x1, .inl x2] n sh R I Q := by
  refine XI.of (ls := [some (.inr 1), some (.inl x1), some (.inl x2), none, none]) (zloc_eq gY_107.2.2.1) ?_
  unfold XIs
  refine x_iload_n d107_0 rfl ?_
  refine x_iconst d107_1 rfl ?_
  refine x_if2 (pc2 := 23) d107_2 rfl (fun c => ?_) (fun c => ?_)
  · replace c : x1 < 1 := c
    rw [if_pos c] at k
    refine x_iconst d107_23 rfl ?_
    exact x_iret d107_24 gR_107 ⟨_, _, rfl, rfl, k⟩
  · replace c : ¬ (x1 < 1) := c
    rw [if_neg c] at k
    refine x_iload_n d107_5 rfl ?_
    refine x_sipush d107_6 rfl ?_
    refine x_if2 (pc2 := 23) d107_9 rfl (fun c => ?_) (fun c => ?_)
    · replace c : 10000 < x1 := c
      rw [if_pos c] at k
      refine x_iconst d107_23 rfl ?_
      exact x_iret d107_24 gR_107 ⟨_, _, rfl, rfl, k⟩
    · replace c : ¬ (10000 < x1) := c
      rw [if_neg c] at k
      refine x_iload_n d107_12 rfl ?_
      refine x_iconst d107_13 rfl ?_
      refine x_if2 (pc2 := 23) d107_14 rfl (fun c => ?_) (fun c => ?_)
      · replace c : x2 < 1 := c
        rw [if_pos c] at k
        refine x_iconst d107_23 rfl ?_
        exact x_iret d107_24 gR_107 ⟨_, _, rfl, rfl, k⟩
      · replace c : ¬ (x2 < 1) := c
        rw [if_neg c] at k
        refine x_iload_n d107_17 rfl ?_
        refine x_bipush d107_18 rfl ?_
        refine x_if2 (pc2 := 25) d107_20 rfl (fun c => ?_) (fun c => ?_)
        · replace c : x2 ≤ 9 := c
          rw [if_pos c] at k
          refine x_iload_n d107_25 rfl ?_
          refine x_iconst d107_26 rfl ?_
          refine x_if2 (pc2 := 42) d107_27 rfl (fun c => ?_) (fun c => ?_)
          · replace c : ¬ x2 = 1 := c
            rw [if_pos c] at k
            refine x_iconst d107_42 rfl ?_
            refine x_istore_n (ls2 := [some (.inr 1), some (.inl x1), some (.inl x2), some (.inl 0), none]) d107_43 rfl rfl ?_
            refine x_iconst d107_44 rfl ?_
            refine x_istore (ls2 := [some (.inr 1), some (.inl x1), some (.inl x2), some (.inl 0), some (.inl 1)]) d107_45 rfl rfl ?_
            exact k
          · replace c : ¬ (¬ x2 = 1) := c
            rw [if_neg c] at k
            refine x_iload_n d107_30 rfl ?_
            refine x_iconst d107_31 rfl ?_
            refine x_if2 (pc2 := 39) d107_32 rfl (fun c => ?_) (fun c => ?_)
            · replace c : ¬ x1 = 1 := c
              rw [if_pos c] at k
              refine x_bipush d107_39 rfl ?_
              exact x_iret d107_41 gR_107 ⟨_, _, rfl, rfl, k⟩
            · replace c : ¬ (¬ x1 = 1) := c
              rw [if_neg c] at k
              refine x_iconst d107_35 rfl ?_
              refine x_goto (pc2 := 41) d107_36 rfl ?_
              exact x_iret d107_41 gR_107 ⟨_, _, rfl, rfl, k⟩
        · replace c : ¬ (x2 ≤ 9) := c
          rw [if_neg c] at k
          refine x_iconst d107_23 rfl ?_
          exact x_iret d107_24 gR_107 ⟨_, _, rfl, rfl, k⟩
set_option maxHeartbeats 4000000 in
theorem b_N_forAny_47 {d n : Nat} {sh : ZS} {R : ZR} {I : ZI} {Q : Int → ZI → Prop} (hW : Wf sh R) {u0 : Option AV} {x1 : Int} {x2 : Int} {x3 : Int} {x4 : Int}
    (k : (if x1 ≤ x4 then Q x3 I else (zr (x3 + 1)) ∧ (zr (x4 * x2)) ∧ XIs d 107 47 [u0, some (.inl x1), some (.inl x2), some (.inl (x3 + 1)), some (.inl (x4 * x2))] [] n sh R I Q)) : XIs d 107 47 [u0, some (.inl x1), some (.inl x2), some (.inl x3), some (.inl x4)] [] n sh R I Q := by
  unfold XIs
  refine x_iload d107_47 rfl ?_
  refine x_iload_n d107_49 rfl ?_
  refine x_if2 (pc2 := 65) d107_50 rfl (fun c => ?_) (fun c => ?_)
  · replace c : x1 ≤ x4 := c
    rw [if_pos c] at k
    refine x_iload_n d107_65 rfl ?_
    exact x_iret d107_66 gR_107 ⟨_, _, rfl, rfl, k⟩
  · replace c : ¬ (x1 ≤ x4) := c
    rw [if_neg c] at k
    have e1 := k.1
    replace k := k.2
    refine x_iinc (ls2 := [u0, some (.inl x1), some (.inl x2), some (.inl (x3 + 1)), some (.inl x4)]) d107_53 rfl e1 rfl ?_
    refine x_iload d107_56 rfl ?_
    refine x_iload_n d107_58 rfl ?_
    have e2 := k.1
    replace k := k.2
    refine x_imul d107_59 e2 ?_
    refine x_istore (ls2 := [u0, some (.inl x1), some (.inl x2), some (.inl (x3 + 1)), some (.inl (x4 * x2))]) d107_60 rfl rfl ?_
    refine x_goto (pc2 := 47) d107_62 rfl ?_
    exact k
set_option maxHeartbeats 4000000 in
theorem b_N_runs_0 {d n : Nat} {sh : ZS} {R : ZR} {I : ZI} {Q : Int → ZI → Prop} (hW : Wf sh R) {x1 : Int}
    (k : (if x1 = 0 then XV (d + 2) 135 [.inr 1] n sh R I (fun I2 => (if ¬ x1 = 0 then XI (d + 2) 46 [.inr 53, .inl 0] n sh R I2 (fun v3 I4 => Q v3 I4) else XI (d + 2) 46 [.inr 53, .inl 1] n sh R I2 (fun v5 I6 => Q v5 I6))) else (if x1 = 1 then XV (d + 2) 135 [.inr 1] n sh R I (fun I8 => (if ¬ x1 = 0 then XI (d + 2) 46 [.inr 53, .inl 0] n sh R I8 (fun v9 I10 => Q v9 I10) else XI (d + 2) 46 [.inr 53, .inl 1] n sh R I8 (fun v11 I12 => Q v11 I12))) else Q (-1) I))) : XI (d + 3) 108 [.inr 1, .inl x1] n sh R I Q := by
  refine XI.of (ls := [some (.inr 1), some (.inl x1)]) (zloc_eq gY_108.2.2.1) ?_
  unfold XIs
  refine x_iload_n d108_0 rfl ?_
  refine x_if1 (pc2 := 11) d108_1 rfl (fun c => ?_) (fun c => ?_)
  · replace c : x1 = 0 := c
    rw [if_pos c] at k
    refine x_aload_n d108_11 rfl ?_
    refine y_invV (as := []) (t := []) (o := 1) gY_135 d108_12 gY_108.2.2.2 gM_11_209 rfl (sh_1 hW) rfl k (fun I2 k => ?_)
    refine x_aload_n d108_15 rfl ?_
    refine x_getR (r := 53) d108_16 gY_108.2.2.2 gF_11_70 rfl (sh_1 hW) (rf_1_10 hW) (by decide) ?_
    refine x_iload_n d108_19 rfl ?_
    refine x_if1 (pc2 := 27) d108_20 rfl (fun c => ?_) (fun c => ?_)
    · replace c : ¬ x1 = 0 := c
      rw [if_pos c] at k
      refine x_iconst d108_27 rfl ?_
      refine y_invI (as := [.inl 0]) (t := []) (o := 53) gY_46 d108_28 gY_108.2.2.2 gM_11_212 rfl (sh_53 hW) rfl k (fun v3 I4 k => ?_)
      exact x_iret d108_31 gR_108 ⟨_, _, rfl, rfl, k⟩
    · replace c : ¬ (¬ x1 = 0) := c
      rw [if_neg c] at k
      refine x_iconst d108_23 rfl ?_
      refine x_goto (pc2 := 28) d108_24 rfl ?_
      refine y_invI (as := [.inl 1]) (t := []) (o := 53) gY_46 d108_28 gY_108.2.2.2 gM_11_212 rfl (sh_53 hW) rfl k (fun v5 I6 k => ?_)
      exact x_iret d108_31 gR_108 ⟨_, _, rfl, rfl, k⟩
  · replace c : ¬ (x1 = 0) := c
    rw [if_neg c] at k
    refine x_iload_n d108_4 rfl ?_
    refine x_iconst d108_5 rfl ?_
    refine x_if2 (pc2 := 11) d108_6 rfl (fun c => ?_) (fun c => ?_)
    · replace c : x1 = 1 := c
      rw [if_pos c] at k
      refine x_aload_n d108_11 rfl ?_
      refine y_invV (as := []) (t := []) (o := 1) gY_135 d108_12 gY_108.2.2.2 gM_11_209 rfl (sh_1 hW) rfl k (fun I8 k => ?_)
      refine x_aload_n d108_15 rfl ?_
      refine x_getR (r := 53) d108_16 gY_108.2.2.2 gF_11_70 rfl (sh_1 hW) (rf_1_10 hW) (by decide) ?_
      refine x_iload_n d108_19 rfl ?_
      refine x_if1 (pc2 := 27) d108_20 rfl (fun c => ?_) (fun c => ?_)
      · replace c : ¬ x1 = 0 := c
        rw [if_pos c] at k
        refine x_iconst d108_27 rfl ?_
        refine y_invI (as := [.inl 0]) (t := []) (o := 53) gY_46 d108_28 gY_108.2.2.2 gM_11_212 rfl (sh_53 hW) rfl k (fun v9 I10 k => ?_)
        exact x_iret d108_31 gR_108 ⟨_, _, rfl, rfl, k⟩
      · replace c : ¬ (¬ x1 = 0) := c
        rw [if_neg c] at k
        refine x_iconst d108_23 rfl ?_
        refine x_goto (pc2 := 28) d108_24 rfl ?_
        refine y_invI (as := [.inl 1]) (t := []) (o := 53) gY_46 d108_28 gY_108.2.2.2 gM_11_212 rfl (sh_53 hW) rfl k (fun v11 I12 k => ?_)
        exact x_iret d108_31 gR_108 ⟨_, _, rfl, rfl, k⟩
    · replace c : ¬ (x1 = 1) := c
      rw [if_neg c] at k
      refine x_iconst d108_9 rfl ?_
      exact x_iret d108_10 gR_108 ⟨_, _, rfl, rfl, k⟩
set_option maxHeartbeats 4000000 in
theorem b_N_plan_0 {d n : Nat} {sh : ZS} {R : ZR} {I : ZI} {Q : Int → ZI → Prop} (hW : Wf sh R) 
    (k : XI (d + 5) 136 [.inr 1] n sh R I (fun v1 I2 => Q v1 I2)) : XI (d + 6) 109 [.inr 1] n sh R I Q := by
  refine XI.of (ls := [some (.inr 1)]) (zloc_eq gY_109.2.2.1) ?_
  unfold XIs
  refine x_aload_n d109_0 rfl ?_
  refine y_invI (as := []) (t := []) (o := 1) gY_136 d109_1 gY_109.2.2.2 gM_11_216 rfl (sh_1 hW) rfl k (fun v1 I2 k => ?_)
  exact x_iret d109_4 gR_109 ⟨_, _, rfl, rfl, k⟩
set_option maxHeartbeats 4000000 in
theorem b_N_planned_0 {d n : Nat} {sh : ZS} {R : ZR} {I : ZI} {Q : Int → ZI → Prop} (hW : Wf sh R) {x1 : Int} {x2 : Int}
    (k : (if x1 < 0 then Q (-1) I else (if I 18 5 ≤ x1 then Q (-1) I else XI (d + 5) 136 [.inr 1] n sh R I (fun v1 I2 => XI (d + 5) 66 [.inr 18, .inl x1] n sh R I2 (fun v3 I4 => (if v3 < 0 then Q (-2) I4 else (if x2 < 0 then Q (-2) I4 else (if x2 < v1 then (0 ≤ x1 ∧ x1 < 32) ∧ (0 ≤ I4 19 (x1).toNat ∧ I4 19 (x1).toNat < 20) ∧ XI (d + 5) 38 [.inr 59, .inl (I4 13 (I4 19 (x1).toNat).toNat), .inl x2] n sh R I4 (fun v7 I8 => Q v7 I8) else Q (-2) I4)))))))) : XI (d + 6) 110 [.inr 1, .inl x1, .inl x2] n sh R I Q := by
  refine XI.of (ls := [some (.inr 1), some (.inl x1), some (.inl x2), none]) (zloc_eq gY_110.2.2.1) ?_
  unfold XIs
  refine x_aload_n d110_0 rfl ?_
  refine x_iload_n d110_1 rfl ?_
  refine y_inv (as := [.inl x1]) (t := []) (o := 1) (ls2 := [some (.inr 1), some (.inl x1)]) gY_130 d110_2 gY_110.2.2.2 gM_11_166 rfl (sh_1 hW) rfl rfl ?_
  refine x_iload_n d130_0 rfl ?_
  refine x_if1 (pc2 := 19) d130_1 rfl (fun c => ?_) (fun c => ?_)
  · replace c : x1 < 0 := c
    rw [if_pos c] at k
    refine x_iconst d130_19 rfl ?_
    refine x_zret d130_20 gR_130 (by decide) ?_
    show Ex (d + 6) 110 5 [some (.inr 1), some (.inl x1), some (.inl x2), none] [.inl 0] (0, 0, n, sh, R, I) _
    refine x_if1 (pc2 := 10) d110_5 rfl (fun c => absurd (show ¬ (0 : Int) = 0 from c) (by decide)) (fun _ => ?_)
    refine x_iconst d110_8 rfl ?_
    exact x_iret d110_9 gR_110 ⟨_, _, rfl, rfl, k⟩
  · replace c : ¬ (x1 < 0) := c
    rw [if_neg c] at k
    refine x_iload_n d130_4 rfl ?_
    refine x_aload_n d130_5 rfl ?_
    refine x_getR (r := 18) d130_6 gY_130.2.2.2 gF_11_45 rfl (sh_1 hW) (rf_1_5 hW) (by decide) ?_
    refine x_getI d130_9 gY_130.2.2.2 gF_11_328 rfl (sh_18 hW) ?_
    refine x_if2 (pc2 := 19) d130_12 rfl (fun c => ?_) (fun c => ?_)
    · replace c : I 18 5 ≤ x1 := c
      rw [if_pos c] at k
      refine x_iconst d130_19 rfl ?_
      refine x_zret d130_20 gR_130 (by decide) ?_
      show Ex (d + 6) 110 5 [some (.inr 1), some (.inl x1), some (.inl x2), none] [.inl 0] (0, 0, n, sh, R, I) _
      refine x_if1 (pc2 := 10) d110_5 rfl (fun c => absurd (show ¬ (0 : Int) = 0 from c) (by decide)) (fun _ => ?_)
      refine x_iconst d110_8 rfl ?_
      exact x_iret d110_9 gR_110 ⟨_, _, rfl, rfl, k⟩
    · replace c : ¬ (I 18 5 ≤ x1) := c
      rw [if_neg c] at k
      refine x_iconst d130_15 rfl ?_
      refine x_goto (pc2 := 20) d130_16 rfl ?_
      refine x_zret d130_20 gR_130 (by decide) ?_
      show Ex (d + 6) 110 5 [some (.inr 1), some (.inl x1), some (.inl x2), none] [.inl 1] (0, 0, n, sh, R, I) _
      refine x_if1 (pc2 := 10) d110_5 rfl (fun _ => ?_) (fun c => absurd (show ¬ (1 : Int) = 0 by decide) c)
      refine x_aload_n d110_10 rfl ?_
      refine y_invI (as := []) (t := []) (o := 1) gY_136 d110_11 gY_110.2.2.2 gM_11_216 rfl (sh_1 hW) rfl k (fun v1 I2 k => ?_)
      refine x_istore_n (ls2 := [some (.inr 1), some (.inl x1), some (.inl x2), some (.inl v1)]) d110_14 rfl rfl ?_
      refine x_aload_n d110_15 rfl ?_
      refine x_getR (r := 18) d110_16 gY_110.2.2.2 gF_11_45 rfl (sh_1 hW) (rf_1_5 hW) (by decide) ?_
      refine x_iload_n d110_19 rfl ?_
      refine y_invI (as := [.inl x1]) (t := []) (o := 18) gY_66 d110_20 gY_110.2.2.2 gM_11_169 rfl (sh_18 hW) rfl k (fun v3 I4 k => ?_)
      refine x_if1 (pc2 := 35) d110_23 rfl (fun c => ?_) (fun c => ?_)
      · replace c : v3 < 0 := c
        rw [if_pos c] at k
        refine x_bipush d110_35 rfl ?_
        exact x_iret d110_37 gR_110 ⟨_, _, rfl, rfl, k⟩
      · replace c : ¬ (v3 < 0) := c
        rw [if_neg c] at k
        refine x_iload_n d110_26 rfl ?_
        refine x_if1 (pc2 := 35) d110_27 rfl (fun c => ?_) (fun c => ?_)
        · replace c : x2 < 0 := c
          rw [if_pos c] at k
          refine x_bipush d110_35 rfl ?_
          exact x_iret d110_37 gR_110 ⟨_, _, rfl, rfl, k⟩
        · replace c : ¬ (x2 < 0) := c
          rw [if_neg c] at k
          refine x_iload_n d110_30 rfl ?_
          refine x_iload_n d110_31 rfl ?_
          refine x_if2 (pc2 := 38) d110_32 rfl (fun c => ?_) (fun c => ?_)
          · replace c : x2 < v1 := c
            rw [if_pos c] at k
            refine x_aload_n d110_38 rfl ?_
            refine x_getR (r := 59) d110_39 gY_110.2.2.2 gF_11_79 rfl (sh_1 hW) (rf_1_11 hW) (by decide) ?_
            refine x_aload_n d110_42 rfl ?_
            refine x_getR (r := 13) d110_43 gY_110.2.2.2 gF_11_29 rfl (sh_1 hW) (rf_1_2 hW) (by decide) ?_
            refine x_aload_n d110_46 rfl ?_
            refine x_getR (r := 18) d110_47 gY_110.2.2.2 gF_11_45 rfl (sh_1 hW) (rf_1_5 hW) (by decide) ?_
            refine x_getR (r := 19) d110_50 gY_110.2.2.2 gF_11_172 rfl (sh_18 hW) (rf_18_0 hW) (by decide) ?_
            refine x_iload_n d110_53 rfl ?_
            have e5 := k.1
            replace k := k.2
            refine x_iald d110_54 (sh_19 hW) e5.1 e5.2 ?_
            have e6 := k.1
            replace k := k.2
            refine x_iald d110_55 (sh_13 hW) e6.1 e6.2 ?_
            refine x_iload_n d110_56 rfl ?_
            refine y_invI (as := [.inl (I4 13 (I4 19 (x1).toNat).toNat), .inl x2]) (t := []) (o := 59) gY_38 d110_57 gY_110.2.2.2 gM_11_220 rfl (sh_59 hW) rfl k (fun v7 I8 k => ?_)
            exact x_iret d110_60 gR_110 ⟨_, _, rfl, rfl, k⟩
          · replace c : ¬ (x2 < v1) := c
            rw [if_neg c] at k
            refine x_bipush d110_35 rfl ?_
            exact x_iret d110_37 gR_110 ⟨_, _, rfl, rfl, k⟩
set_option maxHeartbeats 4000000 in
theorem b_N_planDone_0 {d n : Nat} {sh : ZS} {R : ZR} {I : ZI} {Q : Int → ZI → Prop} (hW : Wf sh R) 
    (k : XI (d + 5) 136 [.inr 1] n sh R I (fun v1 I2 => XIs (d + 6) 111 7 [some (.inr 1), some (.inl v1), some (.inl 0), none] [] n sh R I2 Q)) : XI (d + 6) 111 [.inr 1] n sh R I Q := by
  refine XI.of (ls := [some (.inr 1), none, none, none]) (zloc_eq gY_111.2.2.1) ?_
  unfold XIs
  refine x_aload_n d111_0 rfl ?_
  refine y_invI (as := []) (t := []) (o := 1) gY_136 d111_1 gY_111.2.2.2 gM_11_216 rfl (sh_1 hW) rfl k (fun v1 I2 k => ?_)
  refine x_istore_n (ls2 := [some (.inr 1), some (.inl v1), none, none]) d111_4 rfl rfl ?_
  refine x_iconst d111_5 rfl ?_
  refine x_istore_n (ls2 := [some (.inr 1), some (.inl v1), some (.inl 0), none]) d111_6 rfl rfl ?_
  exact k
set_option maxHeartbeats 4000000 in
theorem b_N_planDone_7 {d n : Nat} {sh : ZS} {R : ZR} {I : ZI} {Q : Int → ZI → Prop} (hW : Wf sh R) {x1 : Int} {x2 : Int} {u3 : Option AV}
    (k : (if x1 ≤ x2 then Q x1 I else XIs (d + 6) 111 14 [some (.inr 1), some (.inl x1), some (.inl x2), some (.inl 0)] [] n sh R I Q)) : XIs (d + 6) 111 7 [some (.inr 1), some (.inl x1), some (.inl x2), u3] [] n sh R I Q := by
  unfold XIs
  refine x_iload_n d111_7 rfl ?_
  refine x_iload_n d111_8 rfl ?_
  refine x_if2 (pc2 := 85) d111_9 rfl (fun c => ?_) (fun c => ?_)
  · replace c : x1 ≤ x2 := c
    rw [if_pos c] at k
    refine x_iload_n d111_85 rfl ?_
    exact x_iret d111_86 gR_111 ⟨_, _, rfl, rfl, k⟩
  · replace c : ¬ (x1 ≤ x2) := c
    rw [if_neg c] at k
    refine x_iconst d111_12 rfl ?_
    refine x_istore_n (ls2 := [some (.inr 1), some (.inl x1), some (.inl x2), some (.inl 0)]) d111_13 rfl rfl ?_
    exact k
set_option maxHeartbeats 4000000 in
theorem b_N_planDone_14 {d n : Nat} {sh : ZS} {R : ZR} {I : ZI} {Q : Int → ZI → Prop} (hW : Wf sh R) {x1 : Int} {x2 : Int} {x3 : Int}
    (k : (if I 18 6 ≤ x3 then XV (d + 5) 42 [.inr 15, .inr 18, .inr 44] n sh R I (fun I2 => (zr (x2 + 1)) ∧ XIs (d + 6) 111 7 [some (.inr 1), some (.inl x1), some (.inl (x2 + 1)), some (.inl x3)] [] n sh R I2 Q) else (0 ≤ x3 ∧ x3 < 32) ∧ (0 ≤ I 23 (x3).toNat ∧ I 23 (x3).toNat < 32) ∧ (0 ≤ I 19 (I 23 (x3).toNat).toNat ∧ I 19 (I 23 (x3).toNat).toNat < 20) ∧ XI (d + 5) 38 [.inr 59, .inl (I 13 (I 19 (I 23 (x3).toNat).toNat).toNat), .inl x2] n sh R I (fun v7 I8 => (zr (x3 + 1)) ∧ XIs (d + 6) 111 14 [some (.inr 1), some (.inl x1), some (.inl x2), some (.inl (x3 + 1))] [] n sh R (zup I8 44 (x3).toNat v7) Q))) : XIs (d + 6) 111 14 [some (.inr 1), some (.inl x1), some (.inl x2), some (.inl x3)] [] n sh R I Q := by
  unfold XIs
  refine x_iload_n d111_14 rfl ?_
  refine x_aload_n d111_15 rfl ?_
  refine x_getR (r := 18) d111_16 gY_111.2.2.2 gF_11_45 rfl (sh_1 hW) (rf_1_5 hW) (by decide) ?_
  refine x_getI d111_19 gY_111.2.2.2 gF_11_155 rfl (sh_18 hW) ?_
  refine x_if2 (pc2 := 61) d111_22 rfl (fun c => ?_) (fun c => ?_)
  · replace c : I 18 6 ≤ x3 := c
    rw [if_pos c] at k
    refine x_aload_n d111_61 rfl ?_
    refine x_getR (r := 15) d111_62 gY_111.2.2.2 gF_11_38 rfl (sh_1 hW) (rf_1_4 hW) (by decide) ?_
    refine x_aload_n d111_65 rfl ?_
    refine x_getR (r := 18) d111_66 gY_111.2.2.2 gF_11_45 rfl (sh_1 hW) (rf_1_5 hW) (by decide) ?_
    refine x_aload_n d111_69 rfl ?_
    refine x_getR (r := 42) d111_70 gY_111.2.2.2 gF_11_63 rfl (sh_1 hW) (rf_1_9 hW) (by decide) ?_
    refine x_getR (r := 44) d111_73 gY_111.2.2.2 gF_11_224 rfl (sh_42 hW) (rf_42_3 hW) (by decide) ?_
    refine y_invV (as := [.inr 18, .inr 44]) (t := []) (o := 15) gY_42 d111_76 gY_111.2.2.2 gM_11_230 rfl (sh_15 hW) rfl k (fun I2 k => ?_)
    have e3 := k.1
    replace k := k.2
    refine x_iinc (ls2 := [some (.inr 1), some (.inl x1), some (.inl (x2 + 1)), some (.inl x3)]) d111_79 rfl e3 rfl ?_
    refine x_goto (pc2 := 7) d111_82 rfl ?_
    exact k
  · replace c : ¬ (I 18 6 ≤ x3) := c
    rw [if_neg c] at k
    refine x_aload_n d111_25 rfl ?_
    refine x_getR (r := 42) d111_26 gY_111.2.2.2 gF_11_63 rfl (sh_1 hW) (rf_1_9 hW) (by decide) ?_
    refine x_getR (r := 44) d111_29 gY_111.2.2.2 gF_11_224 rfl (sh_42 hW) (rf_42_3 hW) (by decide) ?_
    refine x_iload_n d111_32 rfl ?_
    refine x_aload_n d111_33 rfl ?_
    refine x_getR (r := 59) d111_34 gY_111.2.2.2 gF_11_79 rfl (sh_1 hW) (rf_1_11 hW) (by decide) ?_
    refine x_aload_n d111_37 rfl ?_
    refine x_getR (r := 13) d111_38 gY_111.2.2.2 gF_11_29 rfl (sh_1 hW) (rf_1_2 hW) (by decide) ?_
    refine x_aload_n d111_41 rfl ?_
    refine x_getR (r := 18) d111_42 gY_111.2.2.2 gF_11_45 rfl (sh_1 hW) (rf_1_5 hW) (by decide) ?_
    refine x_iload_n d111_45 rfl ?_
    refine y_inv (as := [.inl x3]) (t := [.inr 13, .inr 59, .inl x3, .inr 44]) (o := 18) (ls2 := [some (.inr 18), some (.inl x3)]) gY_67 d111_46 gY_111.2.2.2 gM_11_227 rfl (sh_18 hW) rfl rfl ?_
    refine x_aload_n d67_0 rfl ?_
    refine x_getR (r := 19) d67_1 gY_67.2.2.2 gF_7_9 rfl (sh_18 hW) (rf_18_0 hW) (by decide) ?_
    refine x_aload_n d67_4 rfl ?_
    refine x_getR (r := 23) d67_5 gY_67.2.2.2 gF_7_24 rfl (sh_18 hW) (rf_18_4 hW) (by decide) ?_
    refine x_iload_n d67_8 rfl ?_
    have e4 := k.1
    replace k := k.2
    refine x_iald d67_9 (sh_23 hW) e4.1 e4.2 ?_
    have e5 := k.1
    replace k := k.2
    refine x_iald d67_10 (sh_19 hW) e5.1 e5.2 ?_
    refine x_iret d67_11 gR_67 ?_
    show Ex (d + 6) 111 49 [some (.inr 1), some (.inl x1), some (.inl x2), some (.inl x3)] [.inl (I 19 (I 23 (x3).toNat).toNat), .inr 13, .inr 59, .inl x3, .inr 44] (0, 0, n, sh, R, I) _
    have e6 := k.1
    replace k := k.2
    refine x_iald d111_49 (sh_13 hW) e6.1 e6.2 ?_
    refine x_iload_n d111_50 rfl ?_
    refine y_invI (as := [.inl (I 13 (I 19 (I 23 (x3).toNat).toNat).toNat), .inl x2]) (t := [.inl x3, .inr 44]) (o := 59) gY_38 d111_51 gY_111.2.2.2 gM_11_220 rfl (sh_59 hW) rfl k (fun v7 I8 k => ?_)
    refine x_iast d111_54 (sh_44 hW) e4.1 e4.2 ?_
    have e9 := k.1
    replace k := k.2
    refine x_iinc (ls2 := [some (.inr 1), some (.inl x1), some (.inl x2), some (.inl (x3 + 1))]) d111_55 rfl e9 rfl ?_
    refine x_goto (pc2 := 14) d111_58 rfl ?_
    exact k
set_option maxHeartbeats 4000000 in
theorem b_N_yardQueues_0 {d n : Nat} {sh : ZS} {R : ZR} {I : ZI} {Q : Int → ZI → Prop} (hW : Wf sh R) 
    (k : XV (d + 1) 134 [.inr 1] n sh R I (fun I2 => XI (d + 1) 89 [.inr 117, .inr 14, .inl (I2 18 6), .inl (-1)] n sh R I2 (fun v3 I4 => Q v3 I4))) : XI (d + 2) 114 [.inr 1] n sh R I Q := by
  refine XI.of (ls := [some (.inr 1)]) (zloc_eq gY_114.2.2.1) ?_
  unfold XIs
  refine x_aload_n d114_0 rfl ?_
  refine y_invV (as := []) (t := []) (o := 1) gY_134 d114_1 gY_114.2.2.2 gM_11_245 rfl (sh_1 hW) rfl k (fun I2 k => ?_)
  refine x_aload_n d114_4 rfl ?_
  refine x_getR (r := 117) d114_5 gY_114.2.2.2 gF_11_95 rfl (sh_1 hW) (rf_1_13 hW) (by decide) ?_
  refine x_aload_n d114_8 rfl ?_
  refine x_getR (r := 14) d114_9 gY_114.2.2.2 gF_11_32 rfl (sh_1 hW) (rf_1_3 hW) (by decide) ?_
  refine x_aload_n d114_12 rfl ?_
  refine x_getR (r := 18) d114_13 gY_114.2.2.2 gF_11_45 rfl (sh_1 hW) (rf_1_5 hW) (by decide) ?_
  refine x_getI d114_16 gY_114.2.2.2 gF_11_155 rfl (sh_18 hW) ?_
  refine x_iconst d114_19 rfl ?_
  refine y_invI (as := [.inr 14, .inl (I2 18 6), .inl (-1)]) (t := []) (o := 117) gY_89 d114_20 gY_114.2.2.2 gM_11_248 rfl (sh_117 hW) rfl k (fun v3 I4 k => ?_)
  exact x_iret d114_23 gR_114 ⟨_, _, rfl, rfl, k⟩
set_option maxHeartbeats 4000000 in
theorem b_N_yardPipes_0 {d n : Nat} {sh : ZS} {R : ZR} {I : ZI} {Q : Int → ZI → Prop} (hW : Wf sh R) 
    (k : XV (d + 1) 134 [.inr 1] n sh R I (fun I2 => XI (d + 1) 89 [.inr 117, .inr 14, .inl (I2 18 6), .inl 1] n sh R I2 (fun v3 I4 => Q v3 I4))) : XI (d + 2) 115 [.inr 1] n sh R I Q := by
  refine XI.of (ls := [some (.inr 1)]) (zloc_eq gY_115.2.2.1) ?_
  unfold XIs
  refine x_aload_n d115_0 rfl ?_
  refine y_invV (as := []) (t := []) (o := 1) gY_134 d115_1 gY_115.2.2.2 gM_11_245 rfl (sh_1 hW) rfl k (fun I2 k => ?_)
  refine x_aload_n d115_4 rfl ?_
  refine x_getR (r := 117) d115_5 gY_115.2.2.2 gF_11_95 rfl (sh_1 hW) (rf_1_13 hW) (by decide) ?_
  refine x_aload_n d115_8 rfl ?_
  refine x_getR (r := 14) d115_9 gY_115.2.2.2 gF_11_32 rfl (sh_1 hW) (rf_1_3 hW) (by decide) ?_
  refine x_aload_n d115_12 rfl ?_
  refine x_getR (r := 18) d115_13 gY_115.2.2.2 gF_11_45 rfl (sh_1 hW) (rf_1_5 hW) (by decide) ?_
  refine x_getI d115_16 gY_115.2.2.2 gF_11_155 rfl (sh_18 hW) ?_
  refine x_iconst d115_19 rfl ?_
  refine y_invI (as := [.inr 14, .inl (I2 18 6), .inl 1]) (t := []) (o := 117) gY_89 d115_20 gY_115.2.2.2 gM_11_248 rfl (sh_117 hW) rfl k (fun v3 I4 k => ?_)
  exact x_iret d115_23 gR_115 ⟨_, _, rfl, rfl, k⟩
set_option maxHeartbeats 4000000 in
theorem b_N_together_0 {d n : Nat} {sh : ZS} {R : ZR} {I : ZI} {Q : Int → ZI → Prop} (hW : Wf sh R) {x1 : Int}
    (k : XIs (d + 4) 117 2 [some (.inr 1), some (.inl x1), some (.inl 0)] [] n sh R I Q) : XI (d + 4) 117 [.inr 1, .inl x1] n sh R I Q := by
  refine XI.of (ls := [some (.inr 1), some (.inl x1), none]) (zloc_eq gY_117.2.2.1) ?_
  unfold XIs
  refine x_iconst d117_0 rfl ?_
  refine x_istore_n (ls2 := [some (.inr 1), some (.inl x1), some (.inl 0)]) d117_1 rfl rfl ?_
  exact k
set_option maxHeartbeats 4000000 in
theorem b_N_together_2 {d n : Nat} {sh : ZS} {R : ZR} {I : ZI} {Q : Int → ZI → Prop} (hW : Wf sh R) {x1 : Int} {x2 : Int}
    (k : (if I 18 6 ≤ x2 then XV (d + 3) 44 [.inr 53, .inr 14, .inl (I 18 6)] n sh R I (fun I2 => (if I2 53 2 < 1 then Q (-2) I2 else (if I2 53 2 ≤ 8 then (if x1 = (-1) then XI (d + 3) 47 [.inr 53] n sh R I2 (fun v3 I4 => (if ¬ x1 = (-1) then (0 ≤ x1 ∧ x1 < 8) ∧ (0 ≤ I4 55 (x1).toNat ∧ I4 55 (x1).toNat < 20) ∧ Q (I4 54 (I4 55 (x1).toNat).toNat) I4 else Q v3 I4)) else (if x1 < 0 then Q (-3) I2 else (if x1 < I2 53 2 then XI (d + 3) 47 [.inr 53] n sh R I2 (fun v7 I8 => (if ¬ x1 = (-1) then (0 ≤ x1 ∧ x1 < 8) ∧ (0 ≤ I8 55 (x1).toNat ∧ I8 55 (x1).toNat < 20) ∧ Q (I8 54 (I8 55 (x1).toNat).toNat) I8 else Q v7 I8)) else Q (-3) I2))) else Q (-2) I2))) else (0 ≤ x2 ∧ x2 < 32) ∧ (0 ≤ I 23 (x2).toNat ∧ I 23 (x2).toNat < 32) ∧ (zr (x2 + 1)) ∧ XIs (d + 4) 117 2 [some (.inr 1), some (.inl x1), some (.inl (x2 + 1))] [] n sh R (zup I 14 (x2).toNat (I 19 (I 23 (x2).toNat).toNat)) Q)) : XIs (d + 4) 117 2 [some (.inr 1), some (.inl x1), some (.inl x2)] [] n sh R I Q := by
  unfold XIs
  refine x_iload_n d117_2 rfl ?_
  refine x_aload_n d117_3 rfl ?_
  refine x_getR (r := 18) d117_4 gY_117.2.2.2 gF_11_45 rfl (sh_1 hW) (rf_1_5 hW) (by decide) ?_
  refine x_getI d117_7 gY_117.2.2.2 gF_11_155 rfl (sh_18 hW) ?_
  refine x_if2 (pc2 := 33) d117_10 rfl (fun c => ?_) (fun c => ?_)
  · replace c : I 18 6 ≤ x2 := c
    rw [if_pos c] at k
    refine x_aload_n d117_33 rfl ?_
    refine x_getR (r := 53) d117_34 gY_117.2.2.2 gF_11_70 rfl (sh_1 hW) (rf_1_10 hW) (by decide) ?_
    refine x_aload_n d117_37 rfl ?_
    refine x_getR (r := 14) d117_38 gY_117.2.2.2 gF_11_32 rfl (sh_1 hW) (rf_1_3 hW) (by decide) ?_
    refine x_aload_n d117_41 rfl ?_
    refine x_getR (r := 18) d117_42 gY_117.2.2.2 gF_11_45 rfl (sh_1 hW) (rf_1_5 hW) (by decide) ?_
    refine x_getI d117_45 gY_117.2.2.2 gF_11_155 rfl (sh_18 hW) ?_
    refine y_invV (as := [.inr 14, .inl (I 18 6)]) (t := []) (o := 53) gY_44 d117_48 gY_117.2.2.2 gM_11_259 rfl (sh_53 hW) rfl k (fun I2 k => ?_)
    refine x_aload_n d117_51 rfl ?_
    refine x_getR (r := 53) d117_52 gY_117.2.2.2 gF_11_70 rfl (sh_1 hW) (rf_1_10 hW) (by decide) ?_
    refine x_getI d117_55 gY_117.2.2.2 gF_11_262 rfl (sh_53 hW) ?_
    refine x_iconst d117_58 rfl ?_
    refine x_if2 (pc2 := 74) d117_59 rfl (fun c => ?_) (fun c => ?_)
    · replace c : I2 53 2 < 1 := c
      rw [if_pos c] at k
      refine x_bipush d117_74 rfl ?_
      exact x_iret d117_76 gR_117 ⟨_, _, rfl, rfl, k⟩
    · replace c : ¬ (I2 53 2 < 1) := c
      rw [if_neg c] at k
      refine x_aload_n d117_62 rfl ?_
      refine x_getR (r := 53) d117_63 gY_117.2.2.2 gF_11_70 rfl (sh_1 hW) (rf_1_10 hW) (by decide) ?_
      refine x_getI d117_66 gY_117.2.2.2 gF_11_262 rfl (sh_53 hW) ?_
      refine x_bipush d117_69 rfl ?_
      refine x_if2 (pc2 := 77) d117_71 rfl (fun c => ?_) (fun c => ?_)
      · replace c : I2 53 2 ≤ 8 := c
        rw [if_pos c] at k
        refine x_iload_n d117_77 rfl ?_
        refine x_iconst d117_78 rfl ?_
        refine x_if2 (pc2 := 100) d117_79 rfl (fun c => ?_) (fun c => ?_)
        · replace c : x1 = (-1) := c
          rw [if_pos c] at k
          refine x_aload_n d117_100 rfl ?_
          refine x_getR (r := 53) d117_101 gY_117.2.2.2 gF_11_70 rfl (sh_1 hW) (rf_1_10 hW) (by decide) ?_
          refine y_invI (as := []) (t := []) (o := 53) gY_47 d117_104 gY_117.2.2.2 gM_11_265 rfl (sh_53 hW) rfl k (fun v3 I4 k => ?_)
          refine x_istore_n (ls2 := [some (.inr 1), some (.inl x1), some (.inl v3)]) d117_107 rfl rfl ?_
          refine x_iload_n d117_108 rfl ?_
          refine x_iconst d117_109 rfl ?_
          refine x_if2 (pc2 := 117) d117_110 rfl (fun c => ?_) (fun c => ?_)
          · replace c : ¬ x1 = (-1) := c
            rw [if_pos c] at k
            refine x_aload_n d117_117 rfl ?_
            refine x_getR (r := 53) d117_118 gY_117.2.2.2 gF_11_70 rfl (sh_1 hW) (rf_1_10 hW) (by decide) ?_
            refine x_getR (r := 54) d117_121 gY_117.2.2.2 gF_11_268 rfl (sh_53 hW) (rf_53_0 hW) (by decide) ?_
            refine x_aload_n d117_124 rfl ?_
            refine x_getR (r := 53) d117_125 gY_117.2.2.2 gF_11_70 rfl (sh_1 hW) (rf_1_10 hW) (by decide) ?_
            refine x_getR (r := 55) d117_128 gY_117.2.2.2 gF_11_271 rfl (sh_53 hW) (rf_53_1 hW) (by decide) ?_
            refine x_iload_n d117_131 rfl ?_
            have e5 := k.1
            replace k := k.2
            refine x_iald d117_132 (sh_55 hW) e5.1 e5.2 ?_
            have e6 := k.1
            replace k := k.2
            refine x_iald d117_133 (sh_54 hW) e6.1 e6.2 ?_
            exact x_iret d117_134 gR_117 ⟨_, _, rfl, rfl, k⟩
          · replace c : ¬ (¬ x1 = (-1)) := c
            rw [if_neg c] at k
            refine x_iload_n d117_113 rfl ?_
            refine x_goto (pc2 := 134) d117_114 rfl ?_
            exact x_iret d117_134 gR_117 ⟨_, _, rfl, rfl, k⟩
        · replace c : ¬ (x1 = (-1)) := c
          rw [if_neg c] at k
          refine x_iload_n d117_82 rfl ?_
          refine x_if1 (pc2 := 97) d117_83 rfl (fun c => ?_) (fun c => ?_)
          · replace c : x1 < 0 := c
            rw [if_pos c] at k
            refine x_bipush d117_97 rfl ?_
            exact x_iret d117_99 gR_117 ⟨_, _, rfl, rfl, k⟩
          · replace c : ¬ (x1 < 0) := c
            rw [if_neg c] at k
            refine x_iload_n d117_86 rfl ?_
            refine x_aload_n d117_87 rfl ?_
            refine x_getR (r := 53) d117_88 gY_117.2.2.2 gF_11_70 rfl (sh_1 hW) (rf_1_10 hW) (by decide) ?_
            refine x_getI d117_91 gY_117.2.2.2 gF_11_262 rfl (sh_53 hW) ?_
            refine x_if2 (pc2 := 100) d117_94 rfl (fun c => ?_) (fun c => ?_)
            · replace c : x1 < I2 53 2 := c
              rw [if_pos c] at k
              refine x_aload_n d117_100 rfl ?_
              refine x_getR (r := 53) d117_101 gY_117.2.2.2 gF_11_70 rfl (sh_1 hW) (rf_1_10 hW) (by decide) ?_
              refine y_invI (as := []) (t := []) (o := 53) gY_47 d117_104 gY_117.2.2.2 gM_11_265 rfl (sh_53 hW) rfl k (fun v7 I8 k => ?_)
              refine x_istore_n (ls2 := [some (.inr 1), some (.inl x1), some (.inl v7)]) d117_107 rfl rfl ?_
              refine x_iload_n d117_108 rfl ?_
              refine x_iconst d117_109 rfl ?_
              refine x_if2 (pc2 := 117) d117_110 rfl (fun c => ?_) (fun c => ?_)
              · replace c : ¬ x1 = (-1) := c
                rw [if_pos c] at k
                refine x_aload_n d117_117 rfl ?_
                refine x_getR (r := 53) d117_118 gY_117.2.2.2 gF_11_70 rfl (sh_1 hW) (rf_1_10 hW) (by decide) ?_
                refine x_getR (r := 54) d117_121 gY_117.2.2.2 gF_11_268 rfl (sh_53 hW) (rf_53_0 hW) (by decide) ?_
                refine x_aload_n d117_124 rfl ?_
                refine x_getR (r := 53) d117_125 gY_117.2.2.2 gF_11_70 rfl (sh_1 hW) (rf_1_10 hW) (by decide) ?_
                refine x_getR (r := 55) d117_128 gY_117.2.2.2 gF_11_271 rfl (sh_53 hW) (rf_53_1 hW) (by decide) ?_
                refine x_iload_n d117_131 rfl ?_
                have e9 := k.1
                replace k := k.2
                refine x_iald d117_132 (sh_55 hW) e9.1 e9.2 ?_
                have e10 := k.1
                replace k := k.2
                refine x_iald d117_133 (sh_54 hW) e10.1 e10.2 ?_
                exact x_iret d117_134 gR_117 ⟨_, _, rfl, rfl, k⟩
              · replace c : ¬ (¬ x1 = (-1)) := c
                rw [if_neg c] at k
                refine x_iload_n d117_113 rfl ?_
                refine x_goto (pc2 := 134) d117_114 rfl ?_
                exact x_iret d117_134 gR_117 ⟨_, _, rfl, rfl, k⟩
            · replace c : ¬ (x1 < I2 53 2) := c
              rw [if_neg c] at k
              refine x_bipush d117_97 rfl ?_
              exact x_iret d117_99 gR_117 ⟨_, _, rfl, rfl, k⟩
      · replace c : ¬ (I2 53 2 ≤ 8) := c
        rw [if_neg c] at k
        refine x_bipush d117_74 rfl ?_
        exact x_iret d117_76 gR_117 ⟨_, _, rfl, rfl, k⟩
  · replace c : ¬ (I 18 6 ≤ x2) := c
    rw [if_neg c] at k
    refine x_aload_n d117_13 rfl ?_
    refine x_getR (r := 14) d117_14 gY_117.2.2.2 gF_11_32 rfl (sh_1 hW) (rf_1_3 hW) (by decide) ?_
    refine x_iload_n d117_17 rfl ?_
    refine x_aload_n d117_18 rfl ?_
    refine x_getR (r := 18) d117_19 gY_117.2.2.2 gF_11_45 rfl (sh_1 hW) (rf_1_5 hW) (by decide) ?_
    refine x_iload_n d117_22 rfl ?_
    refine y_inv (as := [.inl x2]) (t := [.inl x2, .inr 14]) (o := 18) (ls2 := [some (.inr 18), some (.inl x2)]) gY_67 d117_23 gY_117.2.2.2 gM_11_227 rfl (sh_18 hW) rfl rfl ?_
    refine x_aload_n d67_0 rfl ?_
    refine x_getR (r := 19) d67_1 gY_67.2.2.2 gF_7_9 rfl (sh_18 hW) (rf_18_0 hW) (by decide) ?_
    refine x_aload_n d67_4 rfl ?_
    refine x_getR (r := 23) d67_5 gY_67.2.2.2 gF_7_24 rfl (sh_18 hW) (rf_18_4 hW) (by decide) ?_
    refine x_iload_n d67_8 rfl ?_
    have e11 := k.1
    replace k := k.2
    refine x_iald d67_9 (sh_23 hW) e11.1 e11.2 ?_
    have e12 := k.1
    replace k := k.2
    refine x_iald d67_10 (sh_19 hW) e12.1 e12.2 ?_
    refine x_iret d67_11 gR_67 ?_
    show Ex (d + 4) 117 26 [some (.inr 1), some (.inl x1), some (.inl x2)] [.inl (I 19 (I 23 (x2).toNat).toNat), .inl x2, .inr 14] (0, 0, n, sh, R, I) _
    refine x_iast d117_26 (sh_14 hW) e11.1 e11.2 ?_
    have e13 := k.1
    replace k := k.2
    refine x_iinc (ls2 := [some (.inr 1), some (.inl x1), some (.inl (x2 + 1))]) d117_27 rfl e13 rfl ?_
    refine x_goto (pc2 := 2) d117_30 rfl ?_
    exact k
set_option maxHeartbeats 4000000 in
theorem b_N_blunder_0 {d n : Nat} {sh : ZS} {R : ZR} {I : ZI} {Q : Int → ZI → Prop} (hW : Wf sh R) {x1 : Int} {x2 : Int} {x3 : Int} {x4 : Int} {x5 : Int}
    (k : (if x3 < 0 then Q (-1) I else (if I 18 5 ≤ x3 then Q (-1) I else (if x4 < 0 then Q (-1) I else (if I 15 0 ≤ x4 then Q (-1) I else (if x5 < 0 then Q (-1) I else (if 2 < x5 then Q (-1) I else (if x1 < 1 then Q (-1) I else (if 12 < x1 then Q (-1) I else (zr (I 18 7 + x1)) ∧ (if 12 < (I 18 7 + x1) then Q (-1) I else (if x2 < 0 then Q (-1) I else (if x2 < x1 then XV (d + 5) 61 [.inr 30, .inr 18] n sh R I (fun I3 => XV (d + 5) 55 [.inr 42, .inr 30, .inl x2] n sh R I3 (fun I5 => XI (d + 5) 56 [.inr 42, .inr 30, .inl x3, .inl x4] n sh R I5 (fun v6 I7 => (if ¬ v6 = 0 then (zr (x1 - x2)) ∧ (zr ((x1 - x2) - 1)) ∧ XV (d + 5) 55 [.inr 42, .inr 30, .inl ((x1 - x2) - 1)] n sh R I7 (fun I11 => XV (d + 5) 61 [.inr 36, .inr 18] n sh R I11 (fun I13 => XV (d + 5) 55 [.inr 42, .inr 36, .inl x1] n sh R I13 (fun I15 => XI (d + 5) 66 [.inr 30, .inl x3] n sh R I15 (fun v16 I17 => (if x5 = 0 then Q v16 I17 else (if x5 = 1 then XI (d + 5) 66 [.inr 36, .inl x3] n sh R I17 (fun v18 I19 => (zr (v16 - v18)) ∧ (zr (0 - (v16 - v18))) ∧ Q (if 0 ≤ (v16 - v18) then (v16 - v18) else 0 - (v16 - v18)) I19) else XI (d + 5) 68 [.inr 30, .inr 36, .inl x3] n sh R I17 (fun v22 I23 => Q v22 I23))))))) else Q (-2) I7)))) else Q (-1) I)))))))))))) : XI (d + 6) 118 [.inr 1, .inl x1, .inl x2, .inl x3, .inl x4, .inl x5] n sh R I Q := by
  refine XI.of (ls := [some (.inr 1), some (.inl x1), some (.inl x2), some (.inl x3), some (.inl x4), some (.inl x5), none, none]) (zloc_eq gY_118.2.2.1) ?_
  unfold XIs
  refine x_aload_n d118_0 rfl ?_
  refine x_iload_n d118_1 rfl ?_
  refine y_inv (as := [.inl x3]) (t := []) (o := 1) (ls2 := [some (.inr 1), some (.inl x3)]) gY_130 d118_2 gY_118.2.2.2 gM_11_166 rfl (sh_1 hW) rfl rfl ?_
  refine x_iload_n d130_0 rfl ?_
  refine x_if1 (pc2 := 19) d130_1 rfl (fun c => ?_) (fun c => ?_)
  · replace c : x3 < 0 := c
    rw [if_pos c] at k
    refine x_iconst d130_19 rfl ?_
    refine x_zret d130_20 gR_130 (by decide) ?_
    show Ex (d + 6) 118 5 [some (.inr 1), some (.inl x1), some (.inl x2), some (.inl x3), some (.inl x4), some (.inl x5), none, none] [.inl 0] (0, 0, n, sh, R, I) _
    refine x_if1 (pc2 := 40) d118_5 rfl (fun _ => ?_) (fun c => absurd (show (0 : Int) = 0 by decide) c)
    refine x_iconst d118_40 rfl ?_
    refine x_istore (ls2 := [some (.inr 1), some (.inl x1), some (.inl x2), some (.inl x3), some (.inl x4), some (.inl x5), some (.inl 0), none]) d118_41 rfl rfl ?_
    refine x_iload d118_43 rfl ?_
    refine x_if1 (pc2 := 67) d118_45 rfl (fun _ => ?_) (fun c => absurd (show (0 : Int) = 0 by decide) c)
    refine x_iconst d118_67 rfl ?_
    exact x_iret d118_68 gR_118 ⟨_, _, rfl, rfl, k⟩
  · replace c : ¬ (x3 < 0) := c
    rw [if_neg c] at k
    refine x_iload_n d130_4 rfl ?_
    refine x_aload_n d130_5 rfl ?_
    refine x_getR (r := 18) d130_6 gY_130.2.2.2 gF_11_45 rfl (sh_1 hW) (rf_1_5 hW) (by decide) ?_
    refine x_getI d130_9 gY_130.2.2.2 gF_11_328 rfl (sh_18 hW) ?_
    refine x_if2 (pc2 := 19) d130_12 rfl (fun c => ?_) (fun c => ?_)
    · replace c : I 18 5 ≤ x3 := c
      rw [if_pos c] at k
      refine x_iconst d130_19 rfl ?_
      refine x_zret d130_20 gR_130 (by decide) ?_
      show Ex (d + 6) 118 5 [some (.inr 1), some (.inl x1), some (.inl x2), some (.inl x3), some (.inl x4), some (.inl x5), none, none] [.inl 0] (0, 0, n, sh, R, I) _
      refine x_if1 (pc2 := 40) d118_5 rfl (fun _ => ?_) (fun c => absurd (show (0 : Int) = 0 by decide) c)
      refine x_iconst d118_40 rfl ?_
      refine x_istore (ls2 := [some (.inr 1), some (.inl x1), some (.inl x2), some (.inl x3), some (.inl x4), some (.inl x5), some (.inl 0), none]) d118_41 rfl rfl ?_
      refine x_iload d118_43 rfl ?_
      refine x_if1 (pc2 := 67) d118_45 rfl (fun _ => ?_) (fun c => absurd (show (0 : Int) = 0 by decide) c)
      refine x_iconst d118_67 rfl ?_
      exact x_iret d118_68 gR_118 ⟨_, _, rfl, rfl, k⟩
    · replace c : ¬ (I 18 5 ≤ x3) := c
      rw [if_neg c] at k
      refine x_iconst d130_15 rfl ?_
      refine x_goto (pc2 := 20) d130_16 rfl ?_
      refine x_zret d130_20 gR_130 (by decide) ?_
      show Ex (d + 6) 118 5 [some (.inr 1), some (.inl x1), some (.inl x2), some (.inl x3), some (.inl x4), some (.inl x5), none, none] [.inl 1] (0, 0, n, sh, R, I) _
      refine x_if1 (pc2 := 40) d118_5 rfl (fun c => absurd (show (1 : Int) = 0 from c) (by decide)) (fun _ => ?_)
      refine x_iload d118_8 rfl ?_
      refine x_if1 (pc2 := 40) d118_10 rfl (fun c => ?_) (fun c => ?_)
      · replace c : x4 < 0 := c
        rw [if_pos c] at k
        refine x_iconst d118_40 rfl ?_
        refine x_istore (ls2 := [some (.inr 1), some (.inl x1), some (.inl x2), some (.inl x3), some (.inl x4), some (.inl x5), some (.inl 0), none]) d118_41 rfl rfl ?_
        refine x_iload d118_43 rfl ?_
        refine x_if1 (pc2 := 67) d118_45 rfl (fun _ => ?_) (fun c => absurd (show (0 : Int) = 0 by decide) c)
        refine x_iconst d118_67 rfl ?_
        exact x_iret d118_68 gR_118 ⟨_, _, rfl, rfl, k⟩
      · replace c : ¬ (x4 < 0) := c
        rw [if_neg c] at k
        refine x_iload d118_13 rfl ?_
        refine x_aload_n d118_15 rfl ?_
        refine x_getR (r := 15) d118_16 gY_118.2.2.2 gF_11_38 rfl (sh_1 hW) (rf_1_4 hW) (by decide) ?_
        refine x_getI d118_19 gY_118.2.2.2 gF_11_124 rfl (sh_15 hW) ?_
        refine x_if2 (pc2 := 40) d118_22 rfl (fun c => ?_) (fun c => ?_)
        · replace c : I 15 0 ≤ x4 := c
          rw [if_pos c] at k
          refine x_iconst d118_40 rfl ?_
          refine x_istore (ls2 := [some (.inr 1), some (.inl x1), some (.inl x2), some (.inl x3), some (.inl x4), some (.inl x5), some (.inl 0), none]) d118_41 rfl rfl ?_
          refine x_iload d118_43 rfl ?_
          refine x_if1 (pc2 := 67) d118_45 rfl (fun _ => ?_) (fun c => absurd (show (0 : Int) = 0 by decide) c)
          refine x_iconst d118_67 rfl ?_
          exact x_iret d118_68 gR_118 ⟨_, _, rfl, rfl, k⟩
        · replace c : ¬ (I 15 0 ≤ x4) := c
          rw [if_neg c] at k
          refine x_iload d118_25 rfl ?_
          refine x_if1 (pc2 := 40) d118_27 rfl (fun c => ?_) (fun c => ?_)
          · replace c : x5 < 0 := c
            rw [if_pos c] at k
            refine x_iconst d118_40 rfl ?_
            refine x_istore (ls2 := [some (.inr 1), some (.inl x1), some (.inl x2), some (.inl x3), some (.inl x4), some (.inl x5), some (.inl 0), none]) d118_41 rfl rfl ?_
            refine x_iload d118_43 rfl ?_
            refine x_if1 (pc2 := 67) d118_45 rfl (fun _ => ?_) (fun c => absurd (show (0 : Int) = 0 by decide) c)
            refine x_iconst d118_67 rfl ?_
            exact x_iret d118_68 gR_118 ⟨_, _, rfl, rfl, k⟩
          · replace c : ¬ (x5 < 0) := c
            rw [if_neg c] at k
            refine x_iload d118_30 rfl ?_
            refine x_iconst d118_32 rfl ?_
            refine x_if2 (pc2 := 40) d118_33 rfl (fun c => ?_) (fun c => ?_)
            · replace c : 2 < x5 := c
              rw [if_pos c] at k
              refine x_iconst d118_40 rfl ?_
              refine x_istore (ls2 := [some (.inr 1), some (.inl x1), some (.inl x2), some (.inl x3), some (.inl x4), some (.inl x5), some (.inl 0), none]) d118_41 rfl rfl ?_
              refine x_iload d118_43 rfl ?_
              refine x_if1 (pc2 := 67) d118_45 rfl (fun _ => ?_) (fun c => absurd (show (0 : Int) = 0 by decide) c)
              refine x_iconst d118_67 rfl ?_
              exact x_iret d118_68 gR_118 ⟨_, _, rfl, rfl, k⟩
            · replace c : ¬ (2 < x5) := c
              rw [if_neg c] at k
              refine x_iconst d118_36 rfl ?_
              refine x_goto (pc2 := 41) d118_37 rfl ?_
              refine x_istore (ls2 := [some (.inr 1), some (.inl x1), some (.inl x2), some (.inl x3), some (.inl x4), some (.inl x5), some (.inl 1), none]) d118_41 rfl rfl ?_
              refine x_iload d118_43 rfl ?_
              refine x_if1 (pc2 := 67) d118_45 rfl (fun c => absurd (show (1 : Int) = 0 from c) (by decide)) (fun _ => ?_)
              refine x_aload_n d118_48 rfl ?_
              refine x_iload_n d118_49 rfl ?_
              refine x_bipush d118_50 rfl ?_
              refine y_inv (as := [.inl x1, .inl 12]) (t := []) (o := 1) (ls2 := [some (.inr 1), some (.inl x1), some (.inl 12)]) gY_131 d118_52 gY_118.2.2.2 gM_11_184 rfl (sh_1 hW) rfl rfl ?_
              refine x_iload_n d131_0 rfl ?_
              refine x_iconst d131_1 rfl ?_
              refine x_if2 (pc2 := 28) d131_2 rfl (fun c => ?_) (fun c => ?_)
              · replace c : x1 < 1 := c
                rw [if_pos c] at k
                refine x_iconst d131_28 rfl ?_
                refine x_zret d131_29 gR_131 (by decide) ?_
                show Ex (d + 6) 118 55 [some (.inr 1), some (.inl x1), some (.inl x2), some (.inl x3), some (.inl x4), some (.inl x5), some (.inl 1), none] [.inl 0] (0, 0, n, sh, R, I) _
                refine x_if1 (pc2 := 67) d118_55 rfl (fun _ => ?_) (fun c => absurd (show (0 : Int) = 0 by decide) c)
                refine x_iconst d118_67 rfl ?_
                exact x_iret d118_68 gR_118 ⟨_, _, rfl, rfl, k⟩
              · replace c : ¬ (x1 < 1) := c
                rw [if_neg c] at k
                refine x_iload_n d131_5 rfl ?_
                refine x_iload_n d131_6 rfl ?_
                refine x_if2 (pc2 := 28) d131_7 rfl (fun c => ?_) (fun c => ?_)
                · replace c : 12 < x1 := c
                  rw [if_pos c] at k
                  refine x_iconst d131_28 rfl ?_
                  refine x_zret d131_29 gR_131 (by decide) ?_
                  show Ex (d + 6) 118 55 [some (.inr 1), some (.inl x1), some (.inl x2), some (.inl x3), some (.inl x4), some (.inl x5), some (.inl 1), none] [.inl 0] (0, 0, n, sh, R, I) _
                  refine x_if1 (pc2 := 67) d118_55 rfl (fun _ => ?_) (fun c => absurd (show (0 : Int) = 0 by decide) c)
                  refine x_iconst d118_67 rfl ?_
                  exact x_iret d118_68 gR_118 ⟨_, _, rfl, rfl, k⟩
                · replace c : ¬ (12 < x1) := c
                  rw [if_neg c] at k
                  refine x_aload_n d131_10 rfl ?_
                  refine x_getR (r := 18) d131_11 gY_131.2.2.2 gF_11_45 rfl (sh_1 hW) (rf_1_5 hW) (by decide) ?_
                  refine x_getI d131_14 gY_131.2.2.2 gF_11_116 rfl (sh_18 hW) ?_
                  refine x_iload_n d131_17 rfl ?_
                  have e1 := k.1
                  replace k := k.2
                  refine x_iadd d131_18 e1 ?_
                  refine x_bipush d131_19 rfl ?_
                  refine x_if2 (pc2 := 28) d131_21 rfl (fun c => ?_) (fun c => ?_)
                  · replace c : 12 < (I 18 7 + x1) := c
                    rw [if_pos c] at k
                    refine x_iconst d131_28 rfl ?_
                    refine x_zret d131_29 gR_131 (by decide) ?_
                    show Ex (d + 6) 118 55 [some (.inr 1), some (.inl x1), some (.inl x2), some (.inl x3), some (.inl x4), some (.inl x5), some (.inl 1), none] [.inl 0] (0, 0, n, sh, R, I) _
                    refine x_if1 (pc2 := 67) d118_55 rfl (fun _ => ?_) (fun c => absurd (show (0 : Int) = 0 by decide) c)
                    refine x_iconst d118_67 rfl ?_
                    exact x_iret d118_68 gR_118 ⟨_, _, rfl, rfl, k⟩
                  · replace c : ¬ (12 < (I 18 7 + x1)) := c
                    rw [if_neg c] at k
                    refine x_iconst d131_24 rfl ?_
                    refine x_goto (pc2 := 29) d131_25 rfl ?_
                    refine x_zret d131_29 gR_131 (by decide) ?_
                    show Ex (d + 6) 118 55 [some (.inr 1), some (.inl x1), some (.inl x2), some (.inl x3), some (.inl x4), some (.inl x5), some (.inl 1), none] [.inl 1] (0, 0, n, sh, R, I) _
                    refine x_if1 (pc2 := 67) d118_55 rfl (fun c => absurd (show (1 : Int) = 0 from c) (by decide)) (fun _ => ?_)
                    refine x_iload_n d118_58 rfl ?_
                    refine x_if1 (pc2 := 67) d118_59 rfl (fun c => ?_) (fun c => ?_)
                    · replace c : x2 < 0 := c
                      rw [if_pos c] at k
                      refine x_iconst d118_67 rfl ?_
                      exact x_iret d118_68 gR_118 ⟨_, _, rfl, rfl, k⟩
                    · replace c : ¬ (x2 < 0) := c
                      rw [if_neg c] at k
                      refine x_iload_n d118_62 rfl ?_
                      refine x_iload_n d118_63 rfl ?_
                      refine x_if2 (pc2 := 69) d118_64 rfl (fun c => ?_) (fun c => ?_)
                      · replace c : x2 < x1 := c
                        rw [if_pos c] at k
                        refine x_aload_n d118_69 rfl ?_
                        refine x_getR (r := 30) d118_70 gY_118.2.2.2 gF_11_52 rfl (sh_1 hW) (rf_1_7 hW) (by decide) ?_
                        refine x_aload_n d118_73 rfl ?_
                        refine x_getR (r := 18) d118_74 gY_118.2.2.2 gF_11_45 rfl (sh_1 hW) (rf_1_5 hW) (by decide) ?_
                        refine y_invV (as := [.inr 18]) (t := []) (o := 30) gY_61 d118_77 gY_118.2.2.2 gM_11_195 rfl (sh_30 hW) rfl k (fun I3 k => ?_)
                        refine x_aload_n d118_80 rfl ?_
                        refine x_getR (r := 42) d118_81 gY_118.2.2.2 gF_11_63 rfl (sh_1 hW) (rf_1_9 hW) (by decide) ?_
                        refine x_aload_n d118_84 rfl ?_
                        refine x_getR (r := 30) d118_85 gY_118.2.2.2 gF_11_52 rfl (sh_1 hW) (rf_1_7 hW) (by decide) ?_
                        refine x_iload_n d118_88 rfl ?_
                        refine y_invV (as := [.inr 30, .inl x2]) (t := []) (o := 42) gY_55 d118_89 gY_118.2.2.2 gM_11_188 rfl (sh_42 hW) rfl k (fun I5 k => ?_)
                        refine x_aload_n d118_92 rfl ?_
                        refine x_getR (r := 42) d118_93 gY_118.2.2.2 gF_11_63 rfl (sh_1 hW) (rf_1_9 hW) (by decide) ?_
                        refine x_aload_n d118_96 rfl ?_
                        refine x_getR (r := 30) d118_97 gY_118.2.2.2 gF_11_52 rfl (sh_1 hW) (rf_1_7 hW) (by decide) ?_
                        refine x_iload_n d118_100 rfl ?_
                        refine x_iload d118_101 rfl ?_
                        refine y_invI (as := [.inr 30, .inl x3, .inl x4]) (t := []) (o := 42) gY_56 d118_103 gY_118.2.2.2 gM_11_272 rfl (sh_42 hW) rfl k (fun v6 I7 k => ?_)
                        refine x_if1 (pc2 := 112) d118_106 rfl (fun c => ?_) (fun c => ?_)
                        · replace c : ¬ v6 = 0 := c
                          rw [if_pos c] at k
                          refine x_aload_n d118_112 rfl ?_
                          refine x_getR (r := 42) d118_113 gY_118.2.2.2 gF_11_63 rfl (sh_1 hW) (rf_1_9 hW) (by decide) ?_
                          refine x_aload_n d118_116 rfl ?_
                          refine x_getR (r := 30) d118_117 gY_118.2.2.2 gF_11_52 rfl (sh_1 hW) (rf_1_7 hW) (by decide) ?_
                          refine x_iload_n d118_120 rfl ?_
                          refine x_iload_n d118_121 rfl ?_
                          have e8 := k.1
                          replace k := k.2
                          refine x_isub d118_122 e8 ?_
                          refine x_iconst d118_123 rfl ?_
                          have e9 := k.1
                          replace k := k.2
                          refine x_isub d118_124 e9 ?_
                          refine y_invV (as := [.inr 30, .inl ((x1 - x2) - 1)]) (t := []) (o := 42) gY_55 d118_125 gY_118.2.2.2 gM_11_188 rfl (sh_42 hW) rfl k (fun I11 k => ?_)
                          refine x_aload_n d118_128 rfl ?_
                          refine x_getR (r := 36) d118_129 gY_118.2.2.2 gF_11_55 rfl (sh_1 hW) (rf_1_8 hW) (by decide) ?_
                          refine x_aload_n d118_132 rfl ?_
                          refine x_getR (r := 18) d118_133 gY_118.2.2.2 gF_11_45 rfl (sh_1 hW) (rf_1_5 hW) (by decide) ?_
                          refine y_invV (as := [.inr 18]) (t := []) (o := 36) gY_61 d118_136 gY_118.2.2.2 gM_11_195 rfl (sh_36 hW) rfl k (fun I13 k => ?_)
                          refine x_aload_n d118_139 rfl ?_
                          refine x_getR (r := 42) d118_140 gY_118.2.2.2 gF_11_63 rfl (sh_1 hW) (rf_1_9 hW) (by decide) ?_
                          refine x_aload_n d118_143 rfl ?_
                          refine x_getR (r := 36) d118_144 gY_118.2.2.2 gF_11_55 rfl (sh_1 hW) (rf_1_8 hW) (by decide) ?_
                          refine x_iload_n d118_147 rfl ?_
                          refine y_invV (as := [.inr 36, .inl x1]) (t := []) (o := 42) gY_55 d118_148 gY_118.2.2.2 gM_11_188 rfl (sh_42 hW) rfl k (fun I15 k => ?_)
                          refine x_aload_n d118_151 rfl ?_
                          refine x_getR (r := 30) d118_152 gY_118.2.2.2 gF_11_52 rfl (sh_1 hW) (rf_1_7 hW) (by decide) ?_
                          refine x_iload_n d118_155 rfl ?_
                          refine y_invI (as := [.inl x3]) (t := []) (o := 30) gY_66 d118_156 gY_118.2.2.2 gM_11_169 rfl (sh_30 hW) rfl k (fun v16 I17 k => ?_)
                          refine x_istore (ls2 := [some (.inr 1), some (.inl x1), some (.inl x2), some (.inl x3), some (.inl x4), some (.inl x5), some (.inl 1), some (.inl v16)]) d118_159 rfl rfl ?_
                          refine x_iload d118_161 rfl ?_
                          by_cases c : x5 = 0
                          · rw [if_pos c] at k
                            refine x_lsw (off := 25) (pc2 := 188) d118_163 (by decide) (by rw [c]; decide) rfl ?_
                            refine x_iload d118_188 rfl ?_
                            exact x_iret d118_190 gR_118 ⟨_, _, rfl, rfl, k⟩
                          rw [if_neg c] at k
                          have c0 := c
                          clear c
                          by_cases c : x5 = 1
                          · rw [if_pos c] at k
                            refine x_lsw (off := 28) (pc2 := 191) d118_163 (by decide) (by rw [c]; decide) rfl ?_
                            refine x_iload d118_191 rfl ?_
                            refine x_aload_n d118_193 rfl ?_
                            refine x_getR (r := 36) d118_194 gY_118.2.2.2 gF_11_55 rfl (sh_1 hW) (rf_1_8 hW) (by decide) ?_
                            refine x_iload_n d118_197 rfl ?_
                            refine y_invI (as := [.inl x3]) (t := [.inl v16]) (o := 36) gY_66 d118_198 gY_118.2.2.2 gM_11_169 rfl (sh_36 hW) rfl k (fun v18 I19 k => ?_)
                            have e20 := k.1
                            replace k := k.2
                            refine x_isub d118_201 e20 ?_
                            have e21 := k.1
                            replace k := k.2
                            refine x_abs d118_202 gY_118.2.2.2 gM_11_276 (of_decide_eq_true rfl) e21 ?_
                            exact x_iret d118_205 gR_118 ⟨_, _, rfl, rfl, k⟩
                          rw [if_neg c] at k
                          have c1 := c
                          clear c
                          refine x_lsw (off := 43) (pc2 := 206) d118_163 (by decide) (zls_dflt [0, 1] (by decide) (by intro v hv; simp at hv; omega)) rfl ?_
                          refine x_aload_n d118_206 rfl ?_
                          refine x_getR (r := 30) d118_207 gY_118.2.2.2 gF_11_52 rfl (sh_1 hW) (rf_1_7 hW) (by decide) ?_
                          refine x_aload_n d118_210 rfl ?_
                          refine x_getR (r := 36) d118_211 gY_118.2.2.2 gF_11_55 rfl (sh_1 hW) (rf_1_8 hW) (by decide) ?_
                          refine x_iload_n d118_214 rfl ?_
                          refine y_invI (as := [.inr 36, .inl x3]) (t := []) (o := 30) gY_68 d118_215 gY_118.2.2.2 gM_11_281 rfl (sh_30 hW) rfl k (fun v22 I23 k => ?_)
                          exact x_iret d118_218 gR_118 ⟨_, _, rfl, rfl, k⟩
                        · replace c : ¬ (¬ v6 = 0) := c
                          rw [if_neg c] at k
                          refine x_bipush d118_109 rfl ?_
                          exact x_iret d118_111 gR_118 ⟨_, _, rfl, rfl, k⟩
                      · replace c : ¬ (x2 < x1) := c
                        rw [if_neg c] at k
                        refine x_iconst d118_67 rfl ?_
                        exact x_iret d118_68 gR_118 ⟨_, _, rfl, rfl, k⟩
set_option maxHeartbeats 4000000 in
theorem b_N_badly_0 {d n : Nat} {sh : ZS} {R : ZR} {I : ZI} {Q : Int → ZI → Prop} (hW : Wf sh R) {x1 : Int} {x2 : Int}
    (k : (if x1 < 1 then Q (-1) I else (if 6 < x1 then Q (-1) I else (zr (I 18 7 + x1)) ∧ (if 12 < (I 18 7 + x1) then Q (-1) I else (if x2 < (-1) then Q (-1) I else (if x2 ≤ 2 then XV (d + 6) 61 [.inr 30, .inr 18] n sh R I (fun I3 => XV (d + 6) 55 [.inr 42, .inr 30, .inl x1] n sh R I3 (fun I5 => (if I5 30 6 ≤ I5 2 1 then XI (d + 6) 86 [.inr 2, .inr 30] n sh R I5 (fun v6 I7 => XI (d + 6) 87 [.inr 2, .inr 30] n sh R I7 (fun v8 I9 => (if v8 = 0 then (if v6 = 0 then XI (d + 6) 1 [.inr 121, .inl x2] n sh R (zup (zup I9 121 9 0) 2 1 0) (fun v10 I11 => Q v10 I11) else Q (-3) (zup (zup I9 121 9 0) 2 1 0)) else (if ¬ v6 = 0 then (if v6 = 0 then XI (d + 6) 1 [.inr 121, .inl x2] n sh R (zup (zup I9 121 9 0) 2 1 0) (fun v12 I13 => Q v12 I13) else Q (-3) (zup (zup I9 121 9 0) 2 1 0)) else XV (d + 6) 2 [.inr 121, .inr 18, .inl x1, .inr 2] n sh R (zup I9 121 9 0) (fun I15 => (if v6 = 0 then XI (d + 6) 1 [.inr 121, .inl x2] n sh R (zup I15 2 1 0) (fun v16 I17 => Q v16 I17) else Q (-3) (zup I15 2 1 0))))))) else Q (-1) I5))) else Q (-1) I)))))) : XI (d + 7) 119 [.inr 1, .inl x1, .inl x2] n sh R I Q := by
  refine XI.of (ls := [some (.inr 1), some (.inl x1), some (.inl x2), none, none]) (zloc_eq gY_119.2.2.1) ?_
  unfold XIs
  refine x_aload_n d119_0 rfl ?_
  refine x_iload_n d119_1 rfl ?_
  refine x_bipush d119_2 rfl ?_
  refine y_inv (as := [.inl x1, .inl 6]) (t := []) (o := 1) (ls2 := [some (.inr 1), some (.inl x1), some (.inl 6)]) gY_131 d119_4 gY_119.2.2.2 gM_11_184 rfl (sh_1 hW) rfl rfl ?_
  refine x_iload_n d131_0 rfl ?_
  refine x_iconst d131_1 rfl ?_
  refine x_if2 (pc2 := 28) d131_2 rfl (fun c => ?_) (fun c => ?_)
  · replace c : x1 < 1 := c
    rw [if_pos c] at k
    refine x_iconst d131_28 rfl ?_
    refine x_zret d131_29 gR_131 (by decide) ?_
    show Ex (d + 7) 119 7 [some (.inr 1), some (.inl x1), some (.inl x2), none, none] [.inl 0] (0, 0, n, sh, R, I) _
    refine x_if1 (pc2 := 20) d119_7 rfl (fun _ => ?_) (fun c => absurd (show (0 : Int) = 0 by decide) c)
    refine x_iconst d119_20 rfl ?_
    exact x_iret d119_21 gR_119 ⟨_, _, rfl, rfl, k⟩
  · replace c : ¬ (x1 < 1) := c
    rw [if_neg c] at k
    refine x_iload_n d131_5 rfl ?_
    refine x_iload_n d131_6 rfl ?_
    refine x_if2 (pc2 := 28) d131_7 rfl (fun c => ?_) (fun c => ?_)
    · replace c : 6 < x1 := c
      rw [if_pos c] at k
      refine x_iconst d131_28 rfl ?_
      refine x_zret d131_29 gR_131 (by decide) ?_
      show Ex (d + 7) 119 7 [some (.inr 1), some (.inl x1), some (.inl x2), none, none] [.inl 0] (0, 0, n, sh, R, I) _
      refine x_if1 (pc2 := 20) d119_7 rfl (fun _ => ?_) (fun c => absurd (show (0 : Int) = 0 by decide) c)
      refine x_iconst d119_20 rfl ?_
      exact x_iret d119_21 gR_119 ⟨_, _, rfl, rfl, k⟩
    · replace c : ¬ (6 < x1) := c
      rw [if_neg c] at k
      refine x_aload_n d131_10 rfl ?_
      refine x_getR (r := 18) d131_11 gY_131.2.2.2 gF_11_45 rfl (sh_1 hW) (rf_1_5 hW) (by decide) ?_
      refine x_getI d131_14 gY_131.2.2.2 gF_11_116 rfl (sh_18 hW) ?_
      refine x_iload_n d131_17 rfl ?_
      have e1 := k.1
      replace k := k.2
      refine x_iadd d131_18 e1 ?_
      refine x_bipush d131_19 rfl ?_
      refine x_if2 (pc2 := 28) d131_21 rfl (fun c => ?_) (fun c => ?_)
      · replace c : 12 < (I 18 7 + x1) := c
        rw [if_pos c] at k
        refine x_iconst d131_28 rfl ?_
        refine x_zret d131_29 gR_131 (by decide) ?_
        show Ex (d + 7) 119 7 [some (.inr 1), some (.inl x1), some (.inl x2), none, none] [.inl 0] (0, 0, n, sh, R, I) _
        refine x_if1 (pc2 := 20) d119_7 rfl (fun _ => ?_) (fun c => absurd (show (0 : Int) = 0 by decide) c)
        refine x_iconst d119_20 rfl ?_
        exact x_iret d119_21 gR_119 ⟨_, _, rfl, rfl, k⟩
      · replace c : ¬ (12 < (I 18 7 + x1)) := c
        rw [if_neg c] at k
        refine x_iconst d131_24 rfl ?_
        refine x_goto (pc2 := 29) d131_25 rfl ?_
        refine x_zret d131_29 gR_131 (by decide) ?_
        show Ex (d + 7) 119 7 [some (.inr 1), some (.inl x1), some (.inl x2), none, none] [.inl 1] (0, 0, n, sh, R, I) _
        refine x_if1 (pc2 := 20) d119_7 rfl (fun c => absurd (show (1 : Int) = 0 from c) (by decide)) (fun _ => ?_)
        refine x_iload_n d119_10 rfl ?_
        refine x_iconst d119_11 rfl ?_
        refine x_if2 (pc2 := 20) d119_12 rfl (fun c => ?_) (fun c => ?_)
        · replace c : x2 < (-1) := c
          rw [if_pos c] at k
          refine x_iconst d119_20 rfl ?_
          exact x_iret d119_21 gR_119 ⟨_, _, rfl, rfl, k⟩
        · replace c : ¬ (x2 < (-1)) := c
          rw [if_neg c] at k
          refine x_iload_n d119_15 rfl ?_
          refine x_iconst d119_16 rfl ?_
          refine x_if2 (pc2 := 22) d119_17 rfl (fun c => ?_) (fun c => ?_)
          · replace c : x2 ≤ 2 := c
            rw [if_pos c] at k
            refine x_aload_n d119_22 rfl ?_
            refine x_getR (r := 30) d119_23 gY_119.2.2.2 gF_11_52 rfl (sh_1 hW) (rf_1_7 hW) (by decide) ?_
            refine x_aload_n d119_26 rfl ?_
            refine x_getR (r := 18) d119_27 gY_119.2.2.2 gF_11_45 rfl (sh_1 hW) (rf_1_5 hW) (by decide) ?_
            refine y_invV (as := [.inr 18]) (t := []) (o := 30) gY_61 d119_30 gY_119.2.2.2 gM_11_195 rfl (sh_30 hW) rfl k (fun I3 k => ?_)
            refine x_aload_n d119_33 rfl ?_
            refine x_getR (r := 42) d119_34 gY_119.2.2.2 gF_11_63 rfl (sh_1 hW) (rf_1_9 hW) (by decide) ?_
            refine x_aload_n d119_37 rfl ?_
            refine x_getR (r := 30) d119_38 gY_119.2.2.2 gF_11_52 rfl (sh_1 hW) (rf_1_7 hW) (by decide) ?_
            refine x_iload_n d119_41 rfl ?_
            refine y_invV (as := [.inr 30, .inl x1]) (t := []) (o := 42) gY_55 d119_42 gY_119.2.2.2 gM_11_188 rfl (sh_42 hW) rfl k (fun I5 k => ?_)
            refine x_aload_n d119_45 rfl ?_
            refine x_getR (r := 30) d119_46 gY_119.2.2.2 gF_11_52 rfl (sh_1 hW) (rf_1_7 hW) (by decide) ?_
            refine x_getI d119_49 gY_119.2.2.2 gF_11_155 rfl (sh_30 hW) ?_
            refine x_aload_n d119_52 rfl ?_
            refine x_getR (r := 2) d119_53 gY_119.2.2.2 gF_11_10 rfl (sh_1 hW) (rf_1_0 hW) (by decide) ?_
            refine x_getI d119_56 gY_119.2.2.2 gF_11_138 rfl (sh_2 hW) ?_
            refine x_if2 (pc2 := 64) d119_59 rfl (fun c => ?_) (fun c => ?_)
            · replace c : I5 30 6 ≤ I5 2 1 := c
              rw [if_pos c] at k
              refine x_aload_n d119_64 rfl ?_
              refine x_getR (r := 2) d119_65 gY_119.2.2.2 gF_11_10 rfl (sh_1 hW) (rf_1_0 hW) (by decide) ?_
              refine x_aload_n d119_68 rfl ?_
              refine x_getR (r := 30) d119_69 gY_119.2.2.2 gF_11_52 rfl (sh_1 hW) (rf_1_7 hW) (by decide) ?_
              refine y_invI (as := [.inr 30]) (t := []) (o := 2) gY_86 d119_72 gY_119.2.2.2 gM_11_285 rfl (sh_2 hW) rfl k (fun v6 I7 k => ?_)
              refine x_istore_n (ls2 := [some (.inr 1), some (.inl x1), some (.inl x2), some (.inl v6), none]) d119_75 rfl rfl ?_
              refine x_aload_n d119_76 rfl ?_
              refine x_getR (r := 2) d119_77 gY_119.2.2.2 gF_11_10 rfl (sh_1 hW) (rf_1_0 hW) (by decide) ?_
              refine x_aload_n d119_80 rfl ?_
              refine x_getR (r := 30) d119_81 gY_119.2.2.2 gF_11_52 rfl (sh_1 hW) (rf_1_7 hW) (by decide) ?_
              refine y_invI (as := [.inr 30]) (t := []) (o := 2) gY_87 d119_84 gY_119.2.2.2 gM_11_156 rfl (sh_2 hW) rfl k (fun v8 I9 k => ?_)
              refine x_istore (ls2 := [some (.inr 1), some (.inl x1), some (.inl x2), some (.inl v6), some (.inl v8)]) d119_87 rfl rfl ?_
              refine x_aload_n d119_89 rfl ?_
              refine x_getR (r := 121) d119_90 gY_119.2.2.2 gF_11_104 rfl (sh_1 hW) (rf_1_14 hW) (by decide) ?_
              refine x_iconst d119_93 rfl ?_
              refine x_putI d119_94 gY_119.2.2.2 gF_11_288 rfl rfl (sh_121 hW) ?_
              refine x_iload d119_97 rfl ?_
              refine x_if1 (pc2 := 122) d119_99 rfl (fun c => ?_) (fun c => ?_)
              · replace c : v8 = 0 := c
                rw [if_pos c] at k
                refine x_aload_n d119_122 rfl ?_
                refine x_getR (r := 2) d119_123 gY_119.2.2.2 gF_11_10 rfl (sh_1 hW) (rf_1_0 hW) (by decide) ?_
                refine x_iconst d119_126 rfl ?_
                refine x_putI d119_127 gY_119.2.2.2 gF_11_138 rfl rfl (sh_2 hW) ?_
                refine x_iload_n d119_130 rfl ?_
                refine x_if1 (pc2 := 139) d119_131 rfl (fun c => ?_) (fun c => ?_)
                · replace c : v6 = 0 := c
                  rw [if_pos c] at k
                  refine x_aload_n d119_139 rfl ?_
                  refine x_getR (r := 121) d119_140 gY_119.2.2.2 gF_11_104 rfl (sh_1 hW) (rf_1_14 hW) (by decide) ?_
                  refine x_iload_n d119_143 rfl ?_
                  refine y_invI (as := [.inl x2]) (t := []) (o := 121) gY_1 d119_144 gY_119.2.2.2 gM_11_295 rfl (sh_121 hW) rfl k (fun v10 I11 k => ?_)
                  exact x_iret d119_147 gR_119 ⟨_, _, rfl, rfl, k⟩
                · replace c : ¬ (v6 = 0) := c
                  rw [if_neg c] at k
                  refine x_bipush d119_134 rfl ?_
                  refine x_goto (pc2 := 147) d119_136 rfl ?_
                  exact x_iret d119_147 gR_119 ⟨_, _, rfl, rfl, k⟩
              · replace c : ¬ (v8 = 0) := c
                rw [if_neg c] at k
                refine x_iload_n d119_102 rfl ?_
                refine x_if1 (pc2 := 122) d119_103 rfl (fun c => ?_) (fun c => ?_)
                · replace c : ¬ v6 = 0 := c
                  rw [if_pos c] at k
                  refine x_aload_n d119_122 rfl ?_
                  refine x_getR (r := 2) d119_123 gY_119.2.2.2 gF_11_10 rfl (sh_1 hW) (rf_1_0 hW) (by decide) ?_
                  refine x_iconst d119_126 rfl ?_
                  refine x_putI d119_127 gY_119.2.2.2 gF_11_138 rfl rfl (sh_2 hW) ?_
                  refine x_iload_n d119_130 rfl ?_
                  refine x_if1 (pc2 := 139) d119_131 rfl (fun c => ?_) (fun c => ?_)
                  · replace c : v6 = 0 := c
                    rw [if_pos c] at k
                    refine x_aload_n d119_139 rfl ?_
                    refine x_getR (r := 121) d119_140 gY_119.2.2.2 gF_11_104 rfl (sh_1 hW) (rf_1_14 hW) (by decide) ?_
                    refine x_iload_n d119_143 rfl ?_
                    refine y_invI (as := [.inl x2]) (t := []) (o := 121) gY_1 d119_144 gY_119.2.2.2 gM_11_295 rfl (sh_121 hW) rfl k (fun v12 I13 k => ?_)
                    exact x_iret d119_147 gR_119 ⟨_, _, rfl, rfl, k⟩
                  · replace c : ¬ (v6 = 0) := c
                    rw [if_neg c] at k
                    refine x_bipush d119_134 rfl ?_
                    refine x_goto (pc2 := 147) d119_136 rfl ?_
                    exact x_iret d119_147 gR_119 ⟨_, _, rfl, rfl, k⟩
                · replace c : ¬ (¬ v6 = 0) := c
                  rw [if_neg c] at k
                  refine x_aload_n d119_106 rfl ?_
                  refine x_getR (r := 121) d119_107 gY_119.2.2.2 gF_11_104 rfl (sh_1 hW) (rf_1_14 hW) (by decide) ?_
                  refine x_aload_n d119_110 rfl ?_
                  refine x_getR (r := 18) d119_111 gY_119.2.2.2 gF_11_45 rfl (sh_1 hW) (rf_1_5 hW) (by decide) ?_
                  refine x_iload_n d119_114 rfl ?_
                  refine x_aload_n d119_115 rfl ?_
                  refine x_getR (r := 2) d119_116 gY_119.2.2.2 gF_11_10 rfl (sh_1 hW) (rf_1_0 hW) (by decide) ?_
                  refine y_invV (as := [.inr 18, .inl x1, .inr 2]) (t := []) (o := 121) gY_2 d119_119 gY_119.2.2.2 gM_11_291 rfl (sh_121 hW) rfl k (fun I15 k => ?_)
                  refine x_aload_n d119_122 rfl ?_
                  refine x_getR (r := 2) d119_123 gY_119.2.2.2 gF_11_10 rfl (sh_1 hW) (rf_1_0 hW) (by decide) ?_
                  refine x_iconst d119_126 rfl ?_
                  refine x_putI d119_127 gY_119.2.2.2 gF_11_138 rfl rfl (sh_2 hW) ?_
                  refine x_iload_n d119_130 rfl ?_
                  refine x_if1 (pc2 := 139) d119_131 rfl (fun c => ?_) (fun c => ?_)
                  · replace c : v6 = 0 := c
                    rw [if_pos c] at k
                    refine x_aload_n d119_139 rfl ?_
                    refine x_getR (r := 121) d119_140 gY_119.2.2.2 gF_11_104 rfl (sh_1 hW) (rf_1_14 hW) (by decide) ?_
                    refine x_iload_n d119_143 rfl ?_
                    refine y_invI (as := [.inl x2]) (t := []) (o := 121) gY_1 d119_144 gY_119.2.2.2 gM_11_295 rfl (sh_121 hW) rfl k (fun v16 I17 k => ?_)
                    exact x_iret d119_147 gR_119 ⟨_, _, rfl, rfl, k⟩
                  · replace c : ¬ (v6 = 0) := c
                    rw [if_neg c] at k
                    refine x_bipush d119_134 rfl ?_
                    refine x_goto (pc2 := 147) d119_136 rfl ?_
                    exact x_iret d119_147 gR_119 ⟨_, _, rfl, rfl, k⟩
            · replace c : ¬ (I5 30 6 ≤ I5 2 1) := c
              rw [if_neg c] at k
              refine x_iconst d119_62 rfl ?_
              exact x_iret d119_63 gR_119 ⟨_, _, rfl, rfl, k⟩
          · replace c : ¬ (x2 ≤ 2) := c
            rw [if_neg c] at k
            refine x_iconst d119_20 rfl ?_
            exact x_iret d119_21 gR_119 ⟨_, _, rfl, rfl, k⟩
set_option maxHeartbeats 4000000 in
theorem b_N_clerks_0 {d n : Nat} {sh : ZS} {R : ZR} {I : ZI} {Q : Int → ZI → Prop} (hW : Wf sh R) {x1 : Int}
    (k : (zr (I 18 7 + 1)) ∧ (if 12 < (I 18 7 + 1) then Q (-1) I else XV (d + 4) 61 [.inr 30, .inr 18] n sh R I (fun I3 => XV (d + 4) 65 [.inr 30] n sh R I3 (fun I5 => (if x1 < (-1) then Q (-2) I5 else (if x1 ≤ I5 30 6 then XV (d + 4) 57 [.inr 42, .inr 30] n sh R I5 (fun I7 => XI (d + 4) 137 [.inr 1, .inl (I7 30 6)] n sh R I7 (fun v8 I9 => (if x1 = (-1) then XI (d + 4) 138 [.inr 1, .inl v8] n sh R I9 (fun v10 I11 => Q v10 I11) else XI (d + 4) 137 [.inr 1, .inl x1] n sh R I9 (fun v12 I13 => (zr (v8 - v12)) ∧ Q (if v12 < (v8 - v12) then (v8 - v12) else v12) I13)))) else Q (-2) I5)))))) : XI (d + 5) 120 [.inr 1, .inl x1] n sh R I Q := by
  refine XI.of (ls := [some (.inr 1), some (.inl x1), none, none]) (zloc_eq gY_120.2.2.1) ?_
  unfold XIs
  refine x_aload_n d120_0 rfl ?_
  refine x_iconst d120_1 rfl ?_
  refine x_bipush d120_2 rfl ?_
  refine y_inv (as := [.inl 1, .inl 12]) (t := []) (o := 1) (ls2 := [some (.inr 1), some (.inl 1), some (.inl 12)]) gY_131 d120_4 gY_120.2.2.2 gM_11_184 rfl (sh_1 hW) rfl rfl ?_
  refine x_iload_n d131_0 rfl ?_
  refine x_iconst d131_1 rfl ?_
  refine x_if2 (pc2 := 28) d131_2 rfl (fun c => absurd (show (1 : Int) < 1 from c) (by decide)) (fun _ => ?_)
  refine x_iload_n d131_5 rfl ?_
  refine x_iload_n d131_6 rfl ?_
  refine x_if2 (pc2 := 28) d131_7 rfl (fun c => absurd (show 12 < (1 : Int) from c) (by decide)) (fun _ => ?_)
  refine x_aload_n d131_10 rfl ?_
  refine x_getR (r := 18) d131_11 gY_131.2.2.2 gF_11_45 rfl (sh_1 hW) (rf_1_5 hW) (by decide) ?_
  refine x_getI d131_14 gY_131.2.2.2 gF_11_116 rfl (sh_18 hW) ?_
  refine x_iload_n d131_17 rfl ?_
  have e1 := k.1
  replace k := k.2
  refine x_iadd d131_18 e1 ?_
  refine x_bipush d131_19 rfl ?_
  refine x_if2 (pc2 := 28) d131_21 rfl (fun c => ?_) (fun c => ?_)
  · replace c : 12 < (I 18 7 + 1) := c
    rw [if_pos c] at k
    refine x_iconst d131_28 rfl ?_
    refine x_zret d131_29 gR_131 (by decide) ?_
    show Ex (d + 5) 120 7 [some (.inr 1), some (.inl x1), none, none] [.inl 0] (0, 0, n, sh, R, I) _
    refine x_if1 (pc2 := 12) d120_7 rfl (fun c => absurd (show ¬ (0 : Int) = 0 from c) (by decide)) (fun _ => ?_)
    refine x_iconst d120_10 rfl ?_
    exact x_iret d120_11 gR_120 ⟨_, _, rfl, rfl, k⟩
  · replace c : ¬ (12 < (I 18 7 + 1)) := c
    rw [if_neg c] at k
    refine x_iconst d131_24 rfl ?_
    refine x_goto (pc2 := 29) d131_25 rfl ?_
    refine x_zret d131_29 gR_131 (by decide) ?_
    show Ex (d + 5) 120 7 [some (.inr 1), some (.inl x1), none, none] [.inl 1] (0, 0, n, sh, R, I) _
    refine x_if1 (pc2 := 12) d120_7 rfl (fun _ => ?_) (fun c => absurd (show ¬ (1 : Int) = 0 by decide) c)
    refine x_aload_n d120_12 rfl ?_
    refine x_getR (r := 30) d120_13 gY_120.2.2.2 gF_11_52 rfl (sh_1 hW) (rf_1_7 hW) (by decide) ?_
    refine x_aload_n d120_16 rfl ?_
    refine x_getR (r := 18) d120_17 gY_120.2.2.2 gF_11_45 rfl (sh_1 hW) (rf_1_5 hW) (by decide) ?_
    refine y_invV (as := [.inr 18]) (t := []) (o := 30) gY_61 d120_20 gY_120.2.2.2 gM_11_195 rfl (sh_30 hW) rfl k (fun I3 k => ?_)
    refine x_aload_n d120_23 rfl ?_
    refine x_getR (r := 30) d120_24 gY_120.2.2.2 gF_11_52 rfl (sh_1 hW) (rf_1_7 hW) (by decide) ?_
    refine y_invV (as := []) (t := []) (o := 30) gY_65 d120_27 gY_120.2.2.2 gM_11_298 rfl (sh_30 hW) rfl k (fun I5 k => ?_)
    refine x_iload_n d120_30 rfl ?_
    refine x_iconst d120_31 rfl ?_
    refine x_if2 (pc2 := 46) d120_32 rfl (fun c => ?_) (fun c => ?_)
    · replace c : x1 < (-1) := c
      rw [if_pos c] at k
      refine x_bipush d120_46 rfl ?_
      exact x_iret d120_48 gR_120 ⟨_, _, rfl, rfl, k⟩
    · replace c : ¬ (x1 < (-1)) := c
      rw [if_neg c] at k
      refine x_iload_n d120_35 rfl ?_
      refine x_aload_n d120_36 rfl ?_
      refine x_getR (r := 30) d120_37 gY_120.2.2.2 gF_11_52 rfl (sh_1 hW) (rf_1_7 hW) (by decide) ?_
      refine x_getI d120_40 gY_120.2.2.2 gF_11_155 rfl (sh_30 hW) ?_
      refine x_if2 (pc2 := 49) d120_43 rfl (fun c => ?_) (fun c => ?_)
      · replace c : x1 ≤ I5 30 6 := c
        rw [if_pos c] at k
        refine x_aload_n d120_49 rfl ?_
        refine x_getR (r := 42) d120_50 gY_120.2.2.2 gF_11_63 rfl (sh_1 hW) (rf_1_9 hW) (by decide) ?_
        refine x_aload_n d120_53 rfl ?_
        refine x_getR (r := 30) d120_54 gY_120.2.2.2 gF_11_52 rfl (sh_1 hW) (rf_1_7 hW) (by decide) ?_
        refine y_invV (as := [.inr 30]) (t := []) (o := 42) gY_57 d120_57 gY_120.2.2.2 gM_11_301 rfl (sh_42 hW) rfl k (fun I7 k => ?_)
        refine x_aload_n d120_60 rfl ?_
        refine x_aload_n d120_61 rfl ?_
        refine x_getR (r := 30) d120_62 gY_120.2.2.2 gF_11_52 rfl (sh_1 hW) (rf_1_7 hW) (by decide) ?_
        refine x_getI d120_65 gY_120.2.2.2 gF_11_155 rfl (sh_30 hW) ?_
        refine y_invI (as := [.inl (I7 30 6)]) (t := []) (o := 1) gY_137 d120_68 gY_120.2.2.2 gM_11_304 rfl (sh_1 hW) rfl k (fun v8 I9 k => ?_)
        refine x_istore_n (ls2 := [some (.inr 1), some (.inl x1), some (.inl v8), none]) d120_71 rfl rfl ?_
        refine x_iload_n d120_72 rfl ?_
        refine x_iconst d120_73 rfl ?_
        refine x_if2 (pc2 := 91) d120_74 rfl (fun c => ?_) (fun c => ?_)
        · replace c : x1 = (-1) := c
          rw [if_pos c] at k
          refine x_aload_n d120_91 rfl ?_
          refine x_iload_n d120_92 rfl ?_
          refine y_invI (as := [.inl v8]) (t := []) (o := 1) gY_138 d120_93 gY_120.2.2.2 gM_11_310 rfl (sh_1 hW) rfl k (fun v10 I11 k => ?_)
          exact x_iret d120_96 gR_120 ⟨_, _, rfl, rfl, k⟩
        · replace c : ¬ (x1 = (-1)) := c
          rw [if_neg c] at k
          refine x_aload_n d120_77 rfl ?_
          refine x_iload_n d120_78 rfl ?_
          refine y_invI (as := [.inl x1]) (t := []) (o := 1) gY_137 d120_79 gY_120.2.2.2 gM_11_304 rfl (sh_1 hW) rfl k (fun v12 I13 k => ?_)
          refine x_istore_n (ls2 := [some (.inr 1), some (.inl x1), some (.inl v8), some (.inl v12)]) d120_82 rfl rfl ?_
          refine x_iload_n d120_83 rfl ?_
          refine x_iload_n d120_84 rfl ?_
          refine x_iload_n d120_85 rfl ?_
          have e14 := k.1
          replace k := k.2
          refine x_isub d120_86 e14 ?_
          refine x_max d120_87 gY_120.2.2.2 gM_11_307 (of_decide_eq_true rfl) ?_
          exact x_iret d120_90 gR_120 ⟨_, _, rfl, rfl, k⟩
      · replace c : ¬ (x1 ≤ I5 30 6) := c
        rw [if_neg c] at k
        refine x_bipush d120_46 rfl ?_
        exact x_iret d120_48 gR_120 ⟨_, _, rfl, rfl, k⟩
set_option maxHeartbeats 4000000 in
theorem b_N_wanted_0 {d n : Nat} {sh : ZS} {R : ZR} {I : ZI} {Q : Int → ZI → Prop} (hW : Wf sh R) {x1 : Int}
    (k : (if x1 < 1 then Q (-1) I else (if x1 < 1048576 then XIs (d + 4) 121 25 [some (.inr 1), some (.inl x1), some (.inl 0), some (.inl 0), some (.inl (-2)), some (.inl 0), none, none] [] n sh R I Q else Q (-1) I))) : XI (d + 4) 121 [.inr 1, .inl x1] n sh R I Q := by
  refine XI.of (ls := [some (.inr 1), some (.inl x1), none, none, none, none, none, none]) (zloc_eq gY_121.2.2.1) ?_
  unfold XIs
  refine x_iload_n d121_0 rfl ?_
  refine x_iconst d121_1 rfl ?_
  refine x_if2 (pc2 := 12) d121_2 rfl (fun c => ?_) (fun c => ?_)
  · replace c : x1 < 1 := c
    rw [if_pos c] at k
    refine x_iconst d121_12 rfl ?_
    exact x_iret d121_13 gR_121 ⟨_, _, rfl, rfl, k⟩
  · replace c : ¬ (x1 < 1) := c
    rw [if_neg c] at k
    refine x_iload_n d121_5 rfl ?_
    refine x_ldcw d121_6 gY_121.2.2.2 gK_11_313 rfl ?_
    refine x_if2 (pc2 := 14) d121_9 rfl (fun c => ?_) (fun c => ?_)
    · replace c : x1 < 1048576 := c
      rw [if_pos c] at k
      refine x_iconst d121_14 rfl ?_
      refine x_istore_n (ls2 := [some (.inr 1), some (.inl x1), some (.inl 0), none, none, none, none, none]) d121_15 rfl rfl ?_
      refine x_iconst d121_16 rfl ?_
      refine x_istore_n (ls2 := [some (.inr 1), some (.inl x1), some (.inl 0), some (.inl 0), none, none, none, none]) d121_17 rfl rfl ?_
      refine x_bipush d121_18 rfl ?_
      refine x_istore (ls2 := [some (.inr 1), some (.inl x1), some (.inl 0), some (.inl 0), some (.inl (-2)), none, none, none]) d121_20 rfl rfl ?_
      refine x_iconst d121_22 rfl ?_
      refine x_istore (ls2 := [some (.inr 1), some (.inl x1), some (.inl 0), some (.inl 0), some (.inl (-2)), some (.inl 0), none, none]) d121_23 rfl rfl ?_
      exact k
    · replace c : ¬ (x1 < 1048576) := c
      rw [if_neg c] at k
      refine x_iconst d121_12 rfl ?_
      exact x_iret d121_13 gR_121 ⟨_, _, rfl, rfl, k⟩
set_option maxHeartbeats 4000000 in
theorem b_N_wanted_25 {d n : Nat} {sh : ZS} {R : ZR} {I : ZI} {Q : Int → ZI → Prop} (hW : Wf sh R) {x1 : Int} {x2 : Int} {x3 : Int} {x4 : Int} {x5 : Int} {u6 : Option AV} {u7 : Option AV}
    (k : (if I 18 6 ≤ x5 then Q x4 I else XI (d + 3) 53 [.inr 42, .inr 18, .inl x5] n sh R I (fun v1 I2 => (0 ≤ x5 ∧ x5 < 32) ∧ (0 ≤ I2 23 (x5).toNat ∧ I2 23 (x5).toNat < 32) ∧ (if (zand (zshr x1 (I2 19 (I2 23 (x5).toNat).toNat)) 1) = 0 then (zr (x2 + v1)) ∧ (zr (x3 + 1)) ∧ (zr (x5 + 1)) ∧ XIs (d + 4) 121 25 [some (.inr 1), some (.inl x1), some (.inl (x2 + v1)), some (.inl (x3 + 1)), some (.inl x4), some (.inl (x5 + 1)), some (.inl v1), some (.inl 0)] [] n sh R I2 Q else (zr (x2 + v1)) ∧ (zr (x3 + v1)) ∧ (zr (x5 + 1)) ∧ XIs (d + 4) 121 25 [some (.inr 1), some (.inl x1), some (.inl (x2 + v1)), some (.inl (x3 + v1)), some (.inl (if (x3 + v1) < (x2 + v1) then (x3 + v1) else (x2 + v1))), some (.inl (x5 + 1)), some (.inl v1), some (.inl 1)] [] n sh R I2 Q)))) : XIs (d + 4) 121 25 [some (.inr 1), some (.inl x1), some (.inl x2), some (.inl x3), some (.inl x4), some (.inl x5), u6, u7] [] n sh R I Q := by
  unfold XIs
  refine x_iload d121_25 rfl ?_
  refine x_aload_n d121_27 rfl ?_
  refine x_getR (r := 18) d121_28 gY_121.2.2.2 gF_11_45 rfl (sh_1 hW) (rf_1_5 hW) (by decide) ?_
  refine x_getI d121_31 gY_121.2.2.2 gF_11_155 rfl (sh_18 hW) ?_
  refine x_if2 (pc2 := 112) d121_34 rfl (fun c => ?_) (fun c => ?_)
  · replace c : I 18 6 ≤ x5 := c
    rw [if_pos c] at k
    refine x_iload d121_112 rfl ?_
    exact x_iret d121_114 gR_121 ⟨_, _, rfl, rfl, k⟩
  · replace c : ¬ (I 18 6 ≤ x5) := c
    rw [if_neg c] at k
    refine x_aload_n d121_37 rfl ?_
    refine x_getR (r := 42) d121_38 gY_121.2.2.2 gF_11_63 rfl (sh_1 hW) (rf_1_9 hW) (by decide) ?_
    refine x_aload_n d121_41 rfl ?_
    refine x_getR (r := 18) d121_42 gY_121.2.2.2 gF_11_45 rfl (sh_1 hW) (rf_1_5 hW) (by decide) ?_
    refine x_iload d121_45 rfl ?_
    refine y_invI (as := [.inr 18, .inl x5]) (t := []) (o := 42) gY_53 d121_47 gY_121.2.2.2 gM_11_314 rfl (sh_42 hW) rfl k (fun v1 I2 k => ?_)
    refine x_istore (ls2 := [some (.inr 1), some (.inl x1), some (.inl x2), some (.inl x3), some (.inl x4), some (.inl x5), some (.inl v1), u7]) d121_50 rfl rfl ?_
    refine x_iload_n d121_52 rfl ?_
    refine x_aload_n d121_53 rfl ?_
    refine x_getR (r := 18) d121_54 gY_121.2.2.2 gF_11_45 rfl (sh_1 hW) (rf_1_5 hW) (by decide) ?_
    refine x_iload d121_57 rfl ?_
    refine y_inv (as := [.inl x5]) (t := [.inl x1]) (o := 18) (ls2 := [some (.inr 18), some (.inl x5)]) gY_67 d121_59 gY_121.2.2.2 gM_11_227 rfl (sh_18 hW) rfl rfl ?_
    refine x_aload_n d67_0 rfl ?_
    refine x_getR (r := 19) d67_1 gY_67.2.2.2 gF_7_9 rfl (sh_18 hW) (rf_18_0 hW) (by decide) ?_
    refine x_aload_n d67_4 rfl ?_
    refine x_getR (r := 23) d67_5 gY_67.2.2.2 gF_7_24 rfl (sh_18 hW) (rf_18_4 hW) (by decide) ?_
    refine x_iload_n d67_8 rfl ?_
    have e3 := k.1
    replace k := k.2
    refine x_iald d67_9 (sh_23 hW) e3.1 e3.2 ?_
    have e4 := k.1
    replace k := k.2
    refine x_iald d67_10 (sh_19 hW) e4.1 e4.2 ?_
    refine x_iret d67_11 gR_67 ?_
    show Ex (d + 4) 121 62 [some (.inr 1), some (.inl x1), some (.inl x2), some (.inl x3), some (.inl x4), some (.inl x5), some (.inl v1), u7] [.inl (I2 19 (I2 23 (x5).toNat).toNat), .inl x1] (0, 0, n, sh, R, I2) _
    refine x_ishr d121_62 ?_
    refine x_iconst d121_63 rfl ?_
    refine x_iand d121_64 ?_
    refine x_if1 (pc2 := 72) d121_65 rfl (fun c => ?_) (fun c => ?_)
    · replace c : (zand (zshr x1 (I2 19 (I2 23 (x5).toNat).toNat)) 1) = 0 := c
      rw [if_pos c] at k
      refine x_iconst d121_72 rfl ?_
      refine x_istore (ls2 := [some (.inr 1), some (.inl x1), some (.inl x2), some (.inl x3), some (.inl x4), some (.inl x5), some (.inl v1), some (.inl 0)]) d121_73 rfl rfl ?_
      refine x_iload_n d121_75 rfl ?_
      refine x_iload d121_76 rfl ?_
      have e5 := k.1
      replace k := k.2
      refine x_iadd d121_78 e5 ?_
      refine x_istore_n (ls2 := [some (.inr 1), some (.inl x1), some (.inl (x2 + v1)), some (.inl x3), some (.inl x4), some (.inl x5), some (.inl v1), some (.inl 0)]) d121_79 rfl rfl ?_
      refine x_iload_n d121_80 rfl ?_
      refine x_iload d121_81 rfl ?_
      refine x_if1 (pc2 := 91) d121_83 rfl (fun _ => ?_) (fun c => absurd (show (0 : Int) = 0 by decide) c)
      refine x_iconst d121_91 rfl ?_
      have e6 := k.1
      replace k := k.2
      refine x_iadd d121_92 e6 ?_
      refine x_istore_n (ls2 := [some (.inr 1), some (.inl x1), some (.inl (x2 + v1)), some (.inl (x3 + 1)), some (.inl x4), some (.inl x5), some (.inl v1), some (.inl 0)]) d121_93 rfl rfl ?_
      refine x_iload d121_94 rfl ?_
      refine x_if1 (pc2 := 106) d121_96 rfl (fun _ => ?_) (fun c => absurd (show (0 : Int) = 0 by decide) c)
      have e7 := k.1
      replace k := k.2
      refine x_iinc (ls2 := [some (.inr 1), some (.inl x1), some (.inl (x2 + v1)), some (.inl (x3 + 1)), some (.inl x4), some (.inl (x5 + 1)), some (.inl v1), some (.inl 0)]) d121_106 rfl e7 rfl ?_
      refine x_goto (pc2 := 25) d121_109 rfl ?_
      exact k
    · replace c : ¬ ((zand (zshr x1 (I2 19 (I2 23 (x5).toNat).toNat)) 1) = 0) := c
      rw [if_neg c] at k
      refine x_iconst d121_68 rfl ?_
      refine x_goto (pc2 := 73) d121_69 rfl ?_
      refine x_istore (ls2 := [some (.inr 1), some (.inl x1), some (.inl x2), some (.inl x3), some (.inl x4), some (.inl x5), some (.inl v1), some (.inl 1)]) d121_73 rfl rfl ?_
      refine x_iload_n d121_75 rfl ?_
      refine x_iload d121_76 rfl ?_
      have e8 := k.1
      replace k := k.2
      refine x_iadd d121_78 e8 ?_
      refine x_istore_n (ls2 := [some (.inr 1), some (.inl x1), some (.inl (x2 + v1)), some (.inl x3), some (.inl x4), some (.inl x5), some (.inl v1), some (.inl 1)]) d121_79 rfl rfl ?_
      refine x_iload_n d121_80 rfl ?_
      refine x_iload d121_81 rfl ?_
      refine x_if1 (pc2 := 91) d121_83 rfl (fun c => absurd (show (1 : Int) = 0 from c) (by decide)) (fun _ => ?_)
      refine x_iload d121_86 rfl ?_
      refine x_goto (pc2 := 92) d121_88 rfl ?_
      have e9 := k.1
      replace k := k.2
      refine x_iadd d121_92 e9 ?_
      refine x_istore_n (ls2 := [some (.inr 1), some (.inl x1), some (.inl (x2 + v1)), some (.inl (x3 + v1)), some (.inl x4), some (.inl x5), some (.inl v1), some (.inl 1)]) d121_93 rfl rfl ?_
      refine x_iload d121_94 rfl ?_
      refine x_if1 (pc2 := 106) d121_96 rfl (fun c => absurd (show (1 : Int) = 0 from c) (by decide)) (fun _ => ?_)
      refine x_iload_n d121_99 rfl ?_
      refine x_iload_n d121_100 rfl ?_
      refine x_min d121_101 gY_121.2.2.2 gM_11_317 (of_decide_eq_true rfl) ?_
      refine x_istore (ls2 := [some (.inr 1), some (.inl x1), some (.inl (x2 + v1)), some (.inl (x3 + v1)), some (.inl (if (x3 + v1) < (x2 + v1) then (x3 + v1) else (x2 + v1))), some (.inl x5), some (.inl v1), some (.inl 1)]) d121_104 rfl rfl ?_
      have e10 := k.1
      replace k := k.2
      refine x_iinc (ls2 := [some (.inr 1), some (.inl x1), some (.inl (x2 + v1)), some (.inl (x3 + v1)), some (.inl (if (x3 + v1) < (x2 + v1) then (x3 + v1) else (x2 + v1))), some (.inl (x5 + 1)), some (.inl v1), some (.inl 1)]) d121_106 rfl e10 rfl ?_
      refine x_goto (pc2 := 25) d121_109 rfl ?_
      exact k
set_option maxHeartbeats 4000000 in
theorem b_N_seed_0 {d n : Nat} {sh : ZS} {R : ZR} {I : ZI} {Q : Int → ZI → Prop} (hW : Wf sh R) {x1 : Int}
    (k : (if x1 < 0 then Q 0 I else (if x1 ≤ 65535 then Q 1 (zup I 18 8 x1) else Q 0 I))) : XI d 122 [.inr 1, .inl x1] n sh R I Q := by
  refine XI.of (ls := [some (.inr 1), some (.inl x1)]) (zloc_eq gY_122.2.2.1) ?_
  unfold XIs
  refine x_iload_n d122_0 rfl ?_
  refine x_if1 (pc2 := 11) d122_1 rfl (fun c => ?_) (fun c => ?_)
  · replace c : x1 < 0 := c
    rw [if_pos c] at k
    refine x_iconst d122_11 rfl ?_
    exact x_zret d122_12 gR_122 (by decide) ⟨_, _, rfl, rfl, k⟩
  · replace c : ¬ (x1 < 0) := c
    rw [if_neg c] at k
    refine x_iload_n d122_4 rfl ?_
    refine x_ldcw d122_5 gY_122.2.2.2 gK_11_320 rfl ?_
    refine x_if2 (pc2 := 13) d122_8 rfl (fun c => ?_) (fun c => ?_)
    · replace c : x1 ≤ 65535 := c
      rw [if_pos c] at k
      refine x_aload_n d122_13 rfl ?_
      refine x_getR (r := 18) d122_14 gY_122.2.2.2 gF_11_45 rfl (sh_1 hW) (rf_1_5 hW) (by decide) ?_
      refine x_iload_n d122_17 rfl ?_
      refine x_putI d122_18 gY_122.2.2.2 gF_11_321 rfl rfl (sh_18 hW) ?_
      refine x_iconst d122_21 rfl ?_
      exact x_zret d122_22 gR_122 (by decide) ⟨_, _, rfl, rfl, k⟩
    · replace c : ¬ (x1 ≤ 65535) := c
      rw [if_neg c] at k
      refine x_iconst d122_11 rfl ?_
      exact x_zret d122_12 gR_122 (by decide) ⟨_, _, rfl, rfl, k⟩
set_option maxHeartbeats 4000000 in
theorem b_N_shuffle_0 {d n : Nat} {sh : ZS} {R : ZR} {I : ZI} {Q : Int → ZI → Prop} (hW : Wf sh R) 
    (k : (zr (I 18 6 - 1)) ∧ XIs (d + 2) 123 10 [some (.inr 1), some (.inl (I 18 6 - 1)), none, none] [] n sh R I Q) : XI (d + 2) 123 [.inr 1] n sh R I Q := by
  refine XI.of (ls := [some (.inr 1), none, none, none]) (zloc_eq gY_123.2.2.1) ?_
  unfold XIs
  refine x_aload_n d123_0 rfl ?_
  refine x_getR (r := 18) d123_1 gY_123.2.2.2 gF_11_45 rfl (sh_1 hW) (rf_1_5 hW) (by decide) ?_
  refine x_getI d123_4 gY_123.2.2.2 gF_11_155 rfl (sh_18 hW) ?_
  refine x_iconst d123_7 rfl ?_
  have e1 := k.1
  replace k := k.2
  refine x_isub d123_8 e1 ?_
  refine x_istore_n (ls2 := [some (.inr 1), some (.inl (I 18 6 - 1)), none, none]) d123_9 rfl rfl ?_
  exact k
set_option maxHeartbeats 4000000 in
theorem b_N_shuffle_10 {d n : Nat} {sh : ZS} {R : ZR} {I : ZI} {Q : Int → ZI → Prop} (hW : Wf sh R) {x1 : Int} {u2 : Option AV} {u3 : Option AV}
    (k : (if x1 < 1 then XI (d + 1) 133 [.inr 1, .inr 18] n sh R I (fun v1 I2 => Q v1 I2) else (zr (25173 * I 18 8)) ∧ (zr ((25173 * I 18 8) + 13849)) ∧ (0 ≤ ((25173 * I 18 8) + 13849)) ∧ (zr (x1 + 1)) ∧ (0 ≤ (((25173 * I 18 8) + 13849) % 65536)) ∧ (0 < (x1 + 1)) ∧ (0 ≤ x1 ∧ x1 < 32) ∧ (0 ≤ ((((25173 * I 18 8) + 13849) % 65536) % (x1 + 1)) ∧ ((((25173 * I 18 8) + 13849) % 65536) % (x1 + 1)) < 32) ∧ (zr (x1 + (-1))) ∧ XIs (d + 2) 123 10 [some (.inr 1), some (.inl (x1 + (-1))), some (.inl ((((25173 * I 18 8) + 13849) % 65536) % (x1 + 1))), some (.inl (I 23 (x1).toNat))] [] n sh R (zup (zup (zup I 18 8 (((25173 * I 18 8) + 13849) % 65536)) 23 (x1).toNat (I 23 ((((25173 * I 18 8) + 13849) % 65536) % (x1 + 1)).toNat)) 23 ((((25173 * I 18 8) + 13849) % 65536) % (x1 + 1)).toNat (I 23 (x1).toNat)) Q)) : XIs (d + 2) 123 10 [some (.inr 1), some (.inl x1), u2, u3] [] n sh R I Q := by
  unfold XIs
  refine x_iload_n d123_10 rfl ?_
  refine x_iconst d123_11 rfl ?_
  refine x_if2 (pc2 := 97) d123_12 rfl (fun c => ?_) (fun c => ?_)
  · replace c : x1 < 1 := c
    rw [if_pos c] at k
    refine x_aload_n d123_97 rfl ?_
    refine x_aload_n d123_98 rfl ?_
    refine x_getR (r := 18) d123_99 gY_123.2.2.2 gF_11_45 rfl (sh_1 hW) (rf_1_5 hW) (by decide) ?_
    refine y_invI (as := [.inr 18]) (t := []) (o := 1) gY_133 d123_102 gY_123.2.2.2 gM_11_205 rfl (sh_1 hW) rfl k (fun v1 I2 k => ?_)
    exact x_iret d123_105 gR_123 ⟨_, _, rfl, rfl, k⟩
  · replace c : ¬ (x1 < 1) := c
    rw [if_neg c] at k
    refine x_aload_n d123_15 rfl ?_
    refine x_getR (r := 18) d123_16 gY_123.2.2.2 gF_11_45 rfl (sh_1 hW) (rf_1_5 hW) (by decide) ?_
    refine x_sipush d123_19 rfl ?_
    refine x_aload_n d123_22 rfl ?_
    refine x_getR (r := 18) d123_23 gY_123.2.2.2 gF_11_45 rfl (sh_1 hW) (rf_1_5 hW) (by decide) ?_
    refine x_getI d123_26 gY_123.2.2.2 gF_11_321 rfl (sh_18 hW) ?_
    have e3 := k.1
    replace k := k.2
    refine x_imul d123_29 e3 ?_
    refine x_sipush d123_30 rfl ?_
    have e4 := k.1
    replace k := k.2
    refine x_iadd d123_33 e4 ?_
    refine x_ldcw d123_34 gY_123.2.2.2 gK_11_324 rfl ?_
    have e5 := k.1
    replace k := k.2
    refine x_irem d123_37 e5 (by decide) ?_
    refine x_putI d123_38 gY_123.2.2.2 gF_11_321 rfl rfl (sh_18 hW) ?_
    refine x_aload_n d123_41 rfl ?_
    refine x_getR (r := 18) d123_42 gY_123.2.2.2 gF_11_45 rfl (sh_1 hW) (rf_1_5 hW) (by decide) ?_
    refine x_getI d123_45 gY_123.2.2.2 gF_11_321 rfl (sh_18 hW) ?_
    refine x_iload_n d123_48 rfl ?_
    refine x_iconst d123_49 rfl ?_
    have e6 := k.1
    replace k := k.2
    refine x_iadd d123_50 e6 ?_
    have e7 := k.1
    replace k := k.2
    have e8 := k.1
    replace k := k.2
    refine x_irem d123_51 e7 e8 ?_
    refine x_istore_n (ls2 := [some (.inr 1), some (.inl x1), some (.inl ((((25173 * I 18 8) + 13849) % 65536) % (x1 + 1))), u3]) d123_52 rfl rfl ?_
    refine x_aload_n d123_53 rfl ?_
    refine x_getR (r := 18) d123_54 gY_123.2.2.2 gF_11_45 rfl (sh_1 hW) (rf_1_5 hW) (by decide) ?_
    refine x_getR (r := 23) d123_57 gY_123.2.2.2 gF_11_160 rfl (sh_18 hW) (rf_18_4 hW) (by decide) ?_
    refine x_iload_n d123_60 rfl ?_
    have e9 := k.1
    replace k := k.2
    refine x_iald d123_61 (sh_23 hW) e9.1 e9.2 ?_
    refine x_istore_n (ls2 := [some (.inr 1), some (.inl x1), some (.inl ((((25173 * I 18 8) + 13849) % 65536) % (x1 + 1))), some (.inl (I 23 (x1).toNat))]) d123_62 rfl rfl ?_
    refine x_aload_n d123_63 rfl ?_
    refine x_getR (r := 18) d123_64 gY_123.2.2.2 gF_11_45 rfl (sh_1 hW) (rf_1_5 hW) (by decide) ?_
    refine x_getR (r := 23) d123_67 gY_123.2.2.2 gF_11_160 rfl (sh_18 hW) (rf_18_4 hW) (by decide) ?_
    refine x_iload_n d123_70 rfl ?_
    refine x_aload_n d123_71 rfl ?_
    refine x_getR (r := 18) d123_72 gY_123.2.2.2 gF_11_45 rfl (sh_1 hW) (rf_1_5 hW) (by decide) ?_
    refine x_getR (r := 23) d123_75 gY_123.2.2.2 gF_11_160 rfl (sh_18 hW) (rf_18_4 hW) (by decide) ?_
    refine x_iload_n d123_78 rfl ?_
    have e10 := k.1
    replace k := k.2
    refine x_iald d123_79 (sh_23 hW) e10.1 e10.2 ?_
    refine x_iast d123_80 (sh_23 hW) e9.1 e9.2 ?_
    refine x_aload_n d123_81 rfl ?_
    refine x_getR (r := 18) d123_82 gY_123.2.2.2 gF_11_45 rfl (sh_1 hW) (rf_1_5 hW) (by decide) ?_
    refine x_getR (r := 23) d123_85 gY_123.2.2.2 gF_11_160 rfl (sh_18 hW) (rf_18_4 hW) (by decide) ?_
    refine x_iload_n d123_88 rfl ?_
    refine x_iload_n d123_89 rfl ?_
    refine x_iast d123_90 (sh_23 hW) e10.1 e10.2 ?_
    have e11 := k.1
    replace k := k.2
    refine x_iinc (ls2 := [some (.inr 1), some (.inl (x1 + (-1))), some (.inl ((((25173 * I 18 8) + 13849) % 65536) % (x1 + 1))), some (.inl (I 23 (x1).toNat))]) d123_91 rfl e11 rfl ?_
    refine x_goto (pc2 := 10) d123_94 rfl ?_
    exact k
set_option maxHeartbeats 4000000 in
theorem b_N_keep_0 {d n : Nat} {sh : ZS} {R : ZR} {I : ZI} {Q : Int → ZI → Prop} (hW : Wf sh R) 
    (k : XV (d + 1) 61 [.inr 24, .inr 18] n sh R I (fun I2 => Q (I2 18 6) (zup I2 1 15 1))) : XI (d + 2) 124 [.inr 1] n sh R I Q := by
  refine XI.of (ls := [some (.inr 1)]) (zloc_eq gY_124.2.2.1) ?_
  unfold XIs
  refine x_aload_n d124_0 rfl ?_
  refine x_getR (r := 24) d124_1 gY_124.2.2.2 gF_11_49 rfl (sh_1 hW) (rf_1_6 hW) (by decide) ?_
  refine x_aload_n d124_4 rfl ?_
  refine x_getR (r := 18) d124_5 gY_124.2.2.2 gF_11_45 rfl (sh_1 hW) (rf_1_5 hW) (by decide) ?_
  refine y_invV (as := [.inr 18]) (t := []) (o := 24) gY_61 d124_8 gY_124.2.2.2 gM_11_195 rfl (sh_24 hW) rfl k (fun I2 k => ?_)
  refine x_aload_n d124_11 rfl ?_
  refine x_iconst d124_12 rfl ?_
  refine x_putZ d124_13 gY_124.2.2.2 gF_11_108 rfl rfl (sh_1 hW) (by decide) ?_
  refine x_aload_n d124_16 rfl ?_
  refine x_getR (r := 18) d124_17 gY_124.2.2.2 gF_11_45 rfl (sh_1 hW) (rf_1_5 hW) (by decide) ?_
  refine x_getI d124_20 gY_124.2.2.2 gF_11_155 rfl (sh_18 hW) ?_
  exact x_iret d124_23 gR_124 ⟨_, _, rfl, rfl, k⟩
set_option maxHeartbeats 4000000 in
theorem b_N_undo_0 {d n : Nat} {sh : ZS} {R : ZR} {I : ZI} {Q : Int → ZI → Prop} (hW : Wf sh R) 
    (k : (if I 1 15 = 0 then (I 1 15 = 0 ∨ I 1 15 = 1) ∧ Q (I 1 15) I else XV (d + 1) 61 [.inr 18, .inr 24] n sh R I (fun I3 => (I3 1 15 = 0 ∨ I3 1 15 = 1) ∧ Q (I3 1 15) I3))) : XI (d + 2) 125 [.inr 1] n sh R I Q := by
  refine XI.of (ls := [some (.inr 1)]) (zloc_eq gY_125.2.2.1) ?_
  unfold XIs
  refine x_aload_n d125_0 rfl ?_
  refine x_getI d125_1 gY_125.2.2.2 gF_11_108 rfl (sh_1 hW) ?_
  refine x_if1 (pc2 := 18) d125_4 rfl (fun c => ?_) (fun c => ?_)
  · replace c : I 1 15 = 0 := c
    rw [if_pos c] at k
    refine x_aload_n d125_18 rfl ?_
    refine x_getI d125_19 gY_125.2.2.2 gF_11_108 rfl (sh_1 hW) ?_
    have e1 := k.1
    replace k := k.2
    exact x_zret d125_22 gR_125 e1 ⟨_, _, rfl, rfl, k⟩
  · replace c : ¬ (I 1 15 = 0) := c
    rw [if_neg c] at k
    refine x_aload_n d125_7 rfl ?_
    refine x_getR (r := 18) d125_8 gY_125.2.2.2 gF_11_45 rfl (sh_1 hW) (rf_1_5 hW) (by decide) ?_
    refine x_aload_n d125_11 rfl ?_
    refine x_getR (r := 24) d125_12 gY_125.2.2.2 gF_11_49 rfl (sh_1 hW) (rf_1_6 hW) (by decide) ?_
    refine y_invV (as := [.inr 24]) (t := []) (o := 18) gY_61 d125_15 gY_125.2.2.2 gM_11_195 rfl (sh_18 hW) rfl k (fun I3 k => ?_)
    refine x_aload_n d125_18 rfl ?_
    refine x_getI d125_19 gY_125.2.2.2 gF_11_108 rfl (sh_1 hW) ?_
    have e4 := k.1
    replace k := k.2
    exact x_zret d125_22 gR_125 e4 ⟨_, _, rfl, rfl, k⟩
set_option maxHeartbeats 4000000 in
theorem b_N_check_0 {d n : Nat} {sh : ZS} {R : ZR} {I : ZI} {Q : Int → ZI → Prop} (hW : Wf sh R) {x1 : Int}
    (k : (if x1 < 0 then Q (-2) I else (if 32 < x1 then Q (-2) I else (zr (4 * x1)) ∧ (if (4 * x1) ≤ I 2 1 then (zr (x1 - 1)) ∧ XIs (d + 2) 126 32 [some (.inr 1), some (.inl x1), some (.inl (-1)), some (.inl (x1 - 1))] [] n sh R I Q else Q (-2) I)))) : XI (d + 2) 126 [.inr 1, .inl x1] n sh R I Q := by
  refine XI.of (ls := [some (.inr 1), some (.inl x1), none, none]) (zloc_eq gY_126.2.2.1) ?_
  unfold XIs
  refine x_iload_n d126_0 rfl ?_
  refine x_if1 (pc2 := 23) d126_1 rfl (fun c => ?_) (fun c => ?_)
  · replace c : x1 < 0 := c
    rw [if_pos c] at k
    refine x_bipush d126_23 rfl ?_
    exact x_iret d126_25 gR_126 ⟨_, _, rfl, rfl, k⟩
  · replace c : ¬ (x1 < 0) := c
    rw [if_neg c] at k
    refine x_iload_n d126_4 rfl ?_
    refine x_bipush d126_5 rfl ?_
    refine x_if2 (pc2 := 23) d126_7 rfl (fun c => ?_) (fun c => ?_)
    · replace c : 32 < x1 := c
      rw [if_pos c] at k
      refine x_bipush d126_23 rfl ?_
      exact x_iret d126_25 gR_126 ⟨_, _, rfl, rfl, k⟩
    · replace c : ¬ (32 < x1) := c
      rw [if_neg c] at k
      refine x_iconst d126_10 rfl ?_
      refine x_iload_n d126_11 rfl ?_
      have e1 := k.1
      replace k := k.2
      refine x_imul d126_12 e1 ?_
      refine x_aload_n d126_13 rfl ?_
      refine x_getR (r := 2) d126_14 gY_126.2.2.2 gF_11_10 rfl (sh_1 hW) (rf_1_0 hW) (by decide) ?_
      refine x_getI d126_17 gY_126.2.2.2 gF_11_138 rfl (sh_2 hW) ?_
      refine x_if2 (pc2 := 26) d126_20 rfl (fun c => ?_) (fun c => ?_)
      · replace c : (4 * x1) ≤ I 2 1 := c
        rw [if_pos c] at k
        refine x_iconst d126_26 rfl ?_
        refine x_istore_n (ls2 := [some (.inr 1), some (.inl x1), some (.inl (-1)), none]) d126_27 rfl rfl ?_
        refine x_iload_n d126_28 rfl ?_
        refine x_iconst d126_29 rfl ?_
        have e2 := k.1
        replace k := k.2
        refine x_isub d126_30 e2 ?_
        refine x_istore_n (ls2 := [some (.inr 1), some (.inl x1), some (.inl (-1)), some (.inl (x1 - 1))]) d126_31 rfl rfl ?_
        exact k
      · replace c : ¬ ((4 * x1) ≤ I 2 1) := c
        rw [if_neg c] at k
        refine x_bipush d126_23 rfl ?_
        exact x_iret d126_25 gR_126 ⟨_, _, rfl, rfl, k⟩
set_option maxHeartbeats 4000000 in
theorem b_N_check_32 {d n : Nat} {sh : ZS} {R : ZR} {I : ZI} {Q : Int → ZI → Prop} (hW : Wf sh R) {u1 : Option AV} {x2 : Int} {x3 : Int}
    (k : (if x3 < 0 then Q x2 (zup I 2 1 0) else (if I 18 6 ≤ x3 then (zr (x3 + (-1))) ∧ XIs (d + 2) 126 32 [some (.inr 1), u1, some (.inl x3), some (.inl (x3 + (-1)))] [] n sh R I Q else XI (d + 1) 85 [.inr 2, .inl x3] n sh R I (fun v2 I3 => (0 ≤ x3 ∧ x3 < 32) ∧ (if v2 = I3 23 (x3).toNat then (zr (x3 + (-1))) ∧ XIs (d + 2) 126 32 [some (.inr 1), u1, some (.inl x2), some (.inl (x3 + (-1)))] [] n sh R I3 Q else (zr (x3 + (-1))) ∧ XIs (d + 2) 126 32 [some (.inr 1), u1, some (.inl x3), some (.inl (x3 + (-1)))] [] n sh R I3 Q))))) : XIs (d + 2) 126 32 [some (.inr 1), u1, some (.inl x2), some (.inl x3)] [] n sh R I Q := by
  unfold XIs
  refine x_iload_n d126_32 rfl ?_
  refine x_if1 (pc2 := 75) d126_33 rfl (fun c => ?_) (fun c => ?_)
  · replace c : x3 < 0 := c
    rw [if_pos c] at k
    refine x_aload_n d126_75 rfl ?_
    refine x_getR (r := 2) d126_76 gY_126.2.2.2 gF_11_10 rfl (sh_1 hW) (rf_1_0 hW) (by decide) ?_
    refine x_iconst d126_79 rfl ?_
    refine x_putI d126_80 gY_126.2.2.2 gF_11_138 rfl rfl (sh_2 hW) ?_
    refine x_iload_n d126_83 rfl ?_
    exact x_iret d126_84 gR_126 ⟨_, _, rfl, rfl, k⟩
  · replace c : ¬ (x3 < 0) := c
    rw [if_neg c] at k
    refine x_iload_n d126_36 rfl ?_
    refine x_aload_n d126_37 rfl ?_
    refine x_getR (r := 18) d126_38 gY_126.2.2.2 gF_11_45 rfl (sh_1 hW) (rf_1_5 hW) (by decide) ?_
    refine x_getI d126_41 gY_126.2.2.2 gF_11_155 rfl (sh_18 hW) ?_
    refine x_if2 (pc2 := 67) d126_44 rfl (fun c => ?_) (fun c => ?_)
    · replace c : I 18 6 ≤ x3 := c
      rw [if_pos c] at k
      refine x_iload_n d126_67 rfl ?_
      refine x_istore_n (ls2 := [some (.inr 1), u1, some (.inl x3), some (.inl x3)]) d126_68 rfl rfl ?_
      have e1 := k.1
      replace k := k.2
      refine x_iinc (ls2 := [some (.inr 1), u1, some (.inl x3), some (.inl (x3 + (-1)))]) d126_69 rfl e1 rfl ?_
      refine x_goto (pc2 := 32) d126_72 rfl ?_
      exact k
    · replace c : ¬ (I 18 6 ≤ x3) := c
      rw [if_neg c] at k
      refine x_aload_n d126_47 rfl ?_
      refine x_getR (r := 2) d126_48 gY_126.2.2.2 gF_11_10 rfl (sh_1 hW) (rf_1_0 hW) (by decide) ?_
      refine x_iload_n d126_51 rfl ?_
      refine y_invI (as := [.inl x3]) (t := []) (o := 2) gY_85 d126_52 gY_126.2.2.2 gM_11_325 rfl (sh_2 hW) rfl k (fun v2 I3 k => ?_)
      refine x_aload_n d126_55 rfl ?_
      refine x_getR (r := 18) d126_56 gY_126.2.2.2 gF_11_45 rfl (sh_1 hW) (rf_1_5 hW) (by decide) ?_
      refine x_getR (r := 23) d126_59 gY_126.2.2.2 gF_11_160 rfl (sh_18 hW) (rf_18_4 hW) (by decide) ?_
      refine x_iload_n d126_62 rfl ?_
      have e4 := k.1
      replace k := k.2
      refine x_iald d126_63 (sh_23 hW) e4.1 e4.2 ?_
      refine x_if2 (pc2 := 69) d126_64 rfl (fun c => ?_) (fun c => ?_)
      · replace c : v2 = I3 23 (x3).toNat := c
        rw [if_pos c] at k
        have e5 := k.1
        replace k := k.2
        refine x_iinc (ls2 := [some (.inr 1), u1, some (.inl x2), some (.inl (x3 + (-1)))]) d126_69 rfl e5 rfl ?_
        refine x_goto (pc2 := 32) d126_72 rfl ?_
        exact k
      · replace c : ¬ (v2 = I3 23 (x3).toNat) := c
        rw [if_neg c] at k
        refine x_iload_n d126_67 rfl ?_
        refine x_istore_n (ls2 := [some (.inr 1), u1, some (.inl x3), some (.inl x3)]) d126_68 rfl rfl ?_
        have e6 := k.1
        replace k := k.2
        refine x_iinc (ls2 := [some (.inr 1), u1, some (.inl x3), some (.inl (x3 + (-1)))]) d126_69 rfl e6 rfl ?_
        refine x_goto (pc2 := 32) d126_72 rfl ?_
        exact k
set_option maxHeartbeats 4000000 in
theorem b_N_count_0 {d n : Nat} {sh : ZS} {R : ZR} {I : ZI} {Q : Int → ZI → Prop} (hW : Wf sh R) (hL : Lw sh R (R 42 4)) {x1 : Int}
    (k : (if x1 < 20 then (if x1 = 0 then Q (I 18 5) I else (if x1 = 1 then Q (I 18 6) I else (if x1 = 2 then Q (I 18 7) I else (if x1 = 3 then Q (I (R 42 4) 7) I else (if x1 = 4 then Q (I 2 1) I else (if x1 = 5 then Q (I 18 8) I else (if x1 = 6 then Q (I 15 0) I else (if x1 = 7 then Q (I 15 1) I else (if x1 = 8 then XI (d + 1) 69 [.inr 18] n sh R I (fun v1 I2 => Q v1 I2) else (if x1 = 9 then XI (d + 1) 70 [.inr 18] n sh R I (fun v3 I4 => Q v3 I4) else Q (-1) I)))))))))) else (if 40 ≤ x1 then (if x1 = 0 then Q (I 18 5) I else (if x1 = 1 then Q (I 18 6) I else (if x1 = 2 then Q (I 18 7) I else (if x1 = 3 then Q (I (R 42 4) 7) I else (if x1 = 4 then Q (I 2 1) I else (if x1 = 5 then Q (I 18 8) I else (if x1 = 6 then Q (I 15 0) I else (if x1 = 7 then Q (I 15 1) I else (if x1 = 8 then XI (d + 1) 69 [.inr 18] n sh R I (fun v5 I6 => Q v5 I6) else (if x1 = 9 then XI (d + 1) 70 [.inr 18] n sh R I (fun v7 I8 => Q v7 I8) else Q (-1) I)))))))))) else (zr (x1 - 20)) ∧ (0 ≤ (x1 - 20) ∧ (x1 - 20) < 20) ∧ Q (I 13 (x1 - 20).toNat) I))) : XI (d + 2) 127 [.inr 1, .inl x1] n sh R I Q := by
  refine XI.of (ls := [some (.inr 1), some (.inl x1)]) (zloc_eq gY_127.2.2.1) ?_
  unfold XIs
  refine x_iload_n d127_0 rfl ?_
  refine x_bipush d127_1 rfl ?_
  refine x_if2 (pc2 := 22) d127_3 rfl (fun c => ?_) (fun c => ?_)
  · replace c : x1 < 20 := c
    rw [if_pos c] at k
    refine x_iload_n d127_22 rfl ?_
    by_cases c : x1 = 0
    · rw [if_pos c] at k
      refine x_tsw (off := 53) (pc2 := 76) d127_23 (by rw [c]; decide) rfl ?_
      refine x_aload_n d127_76 rfl ?_
      refine x_getR (r := 18) d127_77 gY_127.2.2.2 gF_11_45 rfl (sh_1 hW) (rf_1_5 hW) (by decide) ?_
      refine x_getI d127_80 gY_127.2.2.2 gF_11_328 rfl (sh_18 hW) ?_
      exact x_iret d127_83 gR_127 ⟨_, _, rfl, rfl, k⟩
    rw [if_neg c] at k
    have c0 := c
    clear c
    by_cases c : x1 = 1
    · rw [if_pos c] at k
      refine x_tsw (off := 61) (pc2 := 84) d127_23 (by rw [c]; decide) rfl ?_
      refine x_aload_n d127_84 rfl ?_
      refine x_getR (r := 18) d127_85 gY_127.2.2.2 gF_11_45 rfl (sh_1 hW) (rf_1_5 hW) (by decide) ?_
      refine x_getI d127_88 gY_127.2.2.2 gF_11_155 rfl (sh_18 hW) ?_
      exact x_iret d127_91 gR_127 ⟨_, _, rfl, rfl, k⟩
    rw [if_neg c] at k
    have c1 := c
    clear c
    by_cases c : x1 = 2
    · rw [if_pos c] at k
      refine x_tsw (off := 69) (pc2 := 92) d127_23 (by rw [c]; decide) rfl ?_
      refine x_aload_n d127_92 rfl ?_
      refine x_getR (r := 18) d127_93 gY_127.2.2.2 gF_11_45 rfl (sh_1 hW) (rf_1_5 hW) (by decide) ?_
      refine x_getI d127_96 gY_127.2.2.2 gF_11_116 rfl (sh_18 hW) ?_
      exact x_iret d127_99 gR_127 ⟨_, _, rfl, rfl, k⟩
    rw [if_neg c] at k
    have c2 := c
    clear c
    by_cases c : x1 = 3
    · rw [if_pos c] at k
      refine x_tsw (off := 77) (pc2 := 100) d127_23 (by rw [c]; decide) rfl ?_
      refine x_aload_n d127_100 rfl ?_
      refine x_getR (r := 42) d127_101 gY_127.2.2.2 gF_11_63 rfl (sh_1 hW) (rf_1_9 hW) (by decide) ?_
      refine x_getR (r := (R 42 4)) d127_104 gY_127.2.2.2 gF_11_147 rfl (sh_42 hW) rfl hL.1 ?_
      refine x_getI d127_107 gY_127.2.2.2 gF_11_331 rfl hL.2.1 ?_
      exact x_iret d127_110 gR_127 ⟨_, _, rfl, rfl, k⟩
    rw [if_neg c] at k
    have c3 := c
    clear c
    by_cases c : x1 = 4
    · rw [if_pos c] at k
      refine x_tsw (off := 88) (pc2 := 111) d127_23 (by rw [c]; decide) rfl ?_
      refine x_aload_n d127_111 rfl ?_
      refine x_getR (r := 2) d127_112 gY_127.2.2.2 gF_11_10 rfl (sh_1 hW) (rf_1_0 hW) (by decide) ?_
      refine x_getI d127_115 gY_127.2.2.2 gF_11_138 rfl (sh_2 hW) ?_
      exact x_iret d127_118 gR_127 ⟨_, _, rfl, rfl, k⟩
    rw [if_neg c] at k
    have c4 := c
    clear c
    by_cases c : x1 = 5
    · rw [if_pos c] at k
      refine x_tsw (off := 96) (pc2 := 119) d127_23 (by rw [c]; decide) rfl ?_
      refine x_aload_n d127_119 rfl ?_
      refine x_getR (r := 18) d127_120 gY_127.2.2.2 gF_11_45 rfl (sh_1 hW) (rf_1_5 hW) (by decide) ?_
      refine x_getI d127_123 gY_127.2.2.2 gF_11_321 rfl (sh_18 hW) ?_
      exact x_iret d127_126 gR_127 ⟨_, _, rfl, rfl, k⟩
    rw [if_neg c] at k
    have c5 := c
    clear c
    by_cases c : x1 = 6
    · rw [if_pos c] at k
      refine x_tsw (off := 104) (pc2 := 127) d127_23 (by rw [c]; decide) rfl ?_
      refine x_aload_n d127_127 rfl ?_
      refine x_getR (r := 15) d127_128 gY_127.2.2.2 gF_11_38 rfl (sh_1 hW) (rf_1_4 hW) (by decide) ?_
      refine x_getI d127_131 gY_127.2.2.2 gF_11_124 rfl (sh_15 hW) ?_
      exact x_iret d127_134 gR_127 ⟨_, _, rfl, rfl, k⟩
    rw [if_neg c] at k
    have c6 := c
    clear c
    by_cases c : x1 = 7
    · rw [if_pos c] at k
      refine x_tsw (off := 112) (pc2 := 135) d127_23 (by rw [c]; decide) rfl ?_
      refine x_aload_n d127_135 rfl ?_
      refine x_getR (r := 15) d127_136 gY_127.2.2.2 gF_11_38 rfl (sh_1 hW) (rf_1_4 hW) (by decide) ?_
      refine x_getI d127_139 gY_127.2.2.2 gF_11_127 rfl (sh_15 hW) ?_
      exact x_iret d127_142 gR_127 ⟨_, _, rfl, rfl, k⟩
    rw [if_neg c] at k
    have c7 := c
    clear c
    by_cases c : x1 = 8
    · rw [if_pos c] at k
      refine x_tsw (off := 120) (pc2 := 143) d127_23 (by rw [c]; decide) rfl ?_
      refine x_aload_n d127_143 rfl ?_
      refine x_getR (r := 18) d127_144 gY_127.2.2.2 gF_11_45 rfl (sh_1 hW) (rf_1_5 hW) (by decide) ?_
      refine y_invI (as := []) (t := []) (o := 18) gY_69 d127_147 gY_127.2.2.2 gM_11_334 rfl (sh_18 hW) rfl k (fun v1 I2 k => ?_)
      exact x_iret d127_150 gR_127 ⟨_, _, rfl, rfl, k⟩
    rw [if_neg c] at k
    have c8 := c
    clear c
    by_cases c : x1 = 9
    · rw [if_pos c] at k
      refine x_tsw (off := 128) (pc2 := 151) d127_23 (by rw [c]; decide) rfl ?_
      refine x_aload_n d127_151 rfl ?_
      refine x_getR (r := 18) d127_152 gY_127.2.2.2 gF_11_45 rfl (sh_1 hW) (rf_1_5 hW) (by decide) ?_
      refine y_invI (as := []) (t := []) (o := 18) gY_70 d127_155 gY_127.2.2.2 gM_11_337 rfl (sh_18 hW) rfl k (fun v3 I4 k => ?_)
      exact x_iret d127_158 gR_127 ⟨_, _, rfl, rfl, k⟩
    rw [if_neg c] at k
    have c9 := c
    clear c
    refine x_tsw (off := 136) (pc2 := 159) d127_23 (zts_dflt [0, 1, 2, 3, 4, 5, 6, 7, 8, 9] (by decide) (by intro v hv; simp at hv; omega)) rfl ?_
    refine x_iconst d127_159 rfl ?_
    exact x_iret d127_160 gR_127 ⟨_, _, rfl, rfl, k⟩
  · replace c : ¬ (x1 < 20) := c
    rw [if_neg c] at k
    refine x_iload_n d127_6 rfl ?_
    refine x_bipush d127_7 rfl ?_
    refine x_if2 (pc2 := 22) d127_9 rfl (fun c => ?_) (fun c => ?_)
    · replace c : 40 ≤ x1 := c
      rw [if_pos c] at k
      refine x_iload_n d127_22 rfl ?_
      by_cases c : x1 = 0
      · rw [if_pos c] at k
        refine x_tsw (off := 53) (pc2 := 76) d127_23 (by rw [c]; decide) rfl ?_
        refine x_aload_n d127_76 rfl ?_
        refine x_getR (r := 18) d127_77 gY_127.2.2.2 gF_11_45 rfl (sh_1 hW) (rf_1_5 hW) (by decide) ?_
        refine x_getI d127_80 gY_127.2.2.2 gF_11_328 rfl (sh_18 hW) ?_
        exact x_iret d127_83 gR_127 ⟨_, _, rfl, rfl, k⟩
      rw [if_neg c] at k
      have c0 := c
      clear c
      by_cases c : x1 = 1
      · rw [if_pos c] at k
        refine x_tsw (off := 61) (pc2 := 84) d127_23 (by rw [c]; decide) rfl ?_
        refine x_aload_n d127_84 rfl ?_
        refine x_getR (r := 18) d127_85 gY_127.2.2.2 gF_11_45 rfl (sh_1 hW) (rf_1_5 hW) (by decide) ?_
        refine x_getI d127_88 gY_127.2.2.2 gF_11_155 rfl (sh_18 hW) ?_
        exact x_iret d127_91 gR_127 ⟨_, _, rfl, rfl, k⟩
      rw [if_neg c] at k
      have c1 := c
      clear c
      by_cases c : x1 = 2
      · rw [if_pos c] at k
        refine x_tsw (off := 69) (pc2 := 92) d127_23 (by rw [c]; decide) rfl ?_
        refine x_aload_n d127_92 rfl ?_
        refine x_getR (r := 18) d127_93 gY_127.2.2.2 gF_11_45 rfl (sh_1 hW) (rf_1_5 hW) (by decide) ?_
        refine x_getI d127_96 gY_127.2.2.2 gF_11_116 rfl (sh_18 hW) ?_
        exact x_iret d127_99 gR_127 ⟨_, _, rfl, rfl, k⟩
      rw [if_neg c] at k
      have c2 := c
      clear c
      by_cases c : x1 = 3
      · rw [if_pos c] at k
        refine x_tsw (off := 77) (pc2 := 100) d127_23 (by rw [c]; decide) rfl ?_
        refine x_aload_n d127_100 rfl ?_
        refine x_getR (r := 42) d127_101 gY_127.2.2.2 gF_11_63 rfl (sh_1 hW) (rf_1_9 hW) (by decide) ?_
        refine x_getR (r := (R 42 4)) d127_104 gY_127.2.2.2 gF_11_147 rfl (sh_42 hW) rfl hL.1 ?_
        refine x_getI d127_107 gY_127.2.2.2 gF_11_331 rfl hL.2.1 ?_
        exact x_iret d127_110 gR_127 ⟨_, _, rfl, rfl, k⟩
      rw [if_neg c] at k
      have c3 := c
      clear c
      by_cases c : x1 = 4
      · rw [if_pos c] at k
        refine x_tsw (off := 88) (pc2 := 111) d127_23 (by rw [c]; decide) rfl ?_
        refine x_aload_n d127_111 rfl ?_
        refine x_getR (r := 2) d127_112 gY_127.2.2.2 gF_11_10 rfl (sh_1 hW) (rf_1_0 hW) (by decide) ?_
        refine x_getI d127_115 gY_127.2.2.2 gF_11_138 rfl (sh_2 hW) ?_
        exact x_iret d127_118 gR_127 ⟨_, _, rfl, rfl, k⟩
      rw [if_neg c] at k
      have c4 := c
      clear c
      by_cases c : x1 = 5
      · rw [if_pos c] at k
        refine x_tsw (off := 96) (pc2 := 119) d127_23 (by rw [c]; decide) rfl ?_
        refine x_aload_n d127_119 rfl ?_
        refine x_getR (r := 18) d127_120 gY_127.2.2.2 gF_11_45 rfl (sh_1 hW) (rf_1_5 hW) (by decide) ?_
        refine x_getI d127_123 gY_127.2.2.2 gF_11_321 rfl (sh_18 hW) ?_
        exact x_iret d127_126 gR_127 ⟨_, _, rfl, rfl, k⟩
      rw [if_neg c] at k
      have c5 := c
      clear c
      by_cases c : x1 = 6
      · rw [if_pos c] at k
        refine x_tsw (off := 104) (pc2 := 127) d127_23 (by rw [c]; decide) rfl ?_
        refine x_aload_n d127_127 rfl ?_
        refine x_getR (r := 15) d127_128 gY_127.2.2.2 gF_11_38 rfl (sh_1 hW) (rf_1_4 hW) (by decide) ?_
        refine x_getI d127_131 gY_127.2.2.2 gF_11_124 rfl (sh_15 hW) ?_
        exact x_iret d127_134 gR_127 ⟨_, _, rfl, rfl, k⟩
      rw [if_neg c] at k
      have c6 := c
      clear c
      by_cases c : x1 = 7
      · rw [if_pos c] at k
        refine x_tsw (off := 112) (pc2 := 135) d127_23 (by rw [c]; decide) rfl ?_
        refine x_aload_n d127_135 rfl ?_
        refine x_getR (r := 15) d127_136 gY_127.2.2.2 gF_11_38 rfl (sh_1 hW) (rf_1_4 hW) (by decide) ?_
        refine x_getI d127_139 gY_127.2.2.2 gF_11_127 rfl (sh_15 hW) ?_
        exact x_iret d127_142 gR_127 ⟨_, _, rfl, rfl, k⟩
      rw [if_neg c] at k
      have c7 := c
      clear c
      by_cases c : x1 = 8
      · rw [if_pos c] at k
        refine x_tsw (off := 120) (pc2 := 143) d127_23 (by rw [c]; decide) rfl ?_
        refine x_aload_n d127_143 rfl ?_
        refine x_getR (r := 18) d127_144 gY_127.2.2.2 gF_11_45 rfl (sh_1 hW) (rf_1_5 hW) (by decide) ?_
        refine y_invI (as := []) (t := []) (o := 18) gY_69 d127_147 gY_127.2.2.2 gM_11_334 rfl (sh_18 hW) rfl k (fun v5 I6 k => ?_)
        exact x_iret d127_150 gR_127 ⟨_, _, rfl, rfl, k⟩
      rw [if_neg c] at k
      have c8 := c
      clear c
      by_cases c : x1 = 9
      · rw [if_pos c] at k
        refine x_tsw (off := 128) (pc2 := 151) d127_23 (by rw [c]; decide) rfl ?_
        refine x_aload_n d127_151 rfl ?_
        refine x_getR (r := 18) d127_152 gY_127.2.2.2 gF_11_45 rfl (sh_1 hW) (rf_1_5 hW) (by decide) ?_
        refine y_invI (as := []) (t := []) (o := 18) gY_70 d127_155 gY_127.2.2.2 gM_11_337 rfl (sh_18 hW) rfl k (fun v7 I8 k => ?_)
        exact x_iret d127_158 gR_127 ⟨_, _, rfl, rfl, k⟩
      rw [if_neg c] at k
      have c9 := c
      clear c
      refine x_tsw (off := 136) (pc2 := 159) d127_23 (zts_dflt [0, 1, 2, 3, 4, 5, 6, 7, 8, 9] (by decide) (by intro v hv; simp at hv; omega)) rfl ?_
      refine x_iconst d127_159 rfl ?_
      exact x_iret d127_160 gR_127 ⟨_, _, rfl, rfl, k⟩
    · replace c : ¬ (40 ≤ x1) := c
      rw [if_neg c] at k
      refine x_aload_n d127_12 rfl ?_
      refine x_getR (r := 13) d127_13 gY_127.2.2.2 gF_11_29 rfl (sh_1 hW) (rf_1_2 hW) (by decide) ?_
      refine x_iload_n d127_16 rfl ?_
      refine x_bipush d127_17 rfl ?_
      have e9 := k.1
      replace k := k.2
      refine x_isub d127_19 e9 ?_
      have e10 := k.1
      replace k := k.2
      refine x_iald d127_20 (sh_13 hW) e10.1 e10.2 ?_
      exact x_iret d127_21 gR_127 ⟨_, _, rfl, rfl, k⟩
set_option maxHeartbeats 4000000 in
theorem b_N_holeNow_0 {d n : Nat} {sh : ZS} {R : ZR} {I : ZI} {Q : Int → ZI → Prop} (hW : Wf sh R) {x1 : Int}
    (k : XI (d + 3) 52 [.inr 42, .inr 18, .inl x1] n sh R I (fun v1 I2 => (if ¬ v1 = (-1) then Q v1 I2 else Q (-2) I2))) : XI (d + 4) 132 [.inr 1, .inl x1] n sh R I Q := by
  refine XI.of (ls := [some (.inr 1), some (.inl x1), none]) (zloc_eq gY_132.2.2.1) ?_
  unfold XIs
  refine x_aload_n d132_0 rfl ?_
  refine x_getR (r := 42) d132_1 gY_132.2.2.2 gF_11_63 rfl (sh_1 hW) (rf_1_9 hW) (by decide) ?_
  refine x_aload_n d132_4 rfl ?_
  refine x_getR (r := 18) d132_5 gY_132.2.2.2 gF_11_45 rfl (sh_1 hW) (rf_1_5 hW) (by decide) ?_
  refine x_iload_n d132_8 rfl ?_
  refine y_invI (as := [.inr 18, .inl x1]) (t := []) (o := 42) gY_52 d132_9 gY_132.2.2.2 gM_11_340 rfl (sh_42 hW) rfl k (fun v1 I2 k => ?_)
  refine x_istore_n (ls2 := [some (.inr 1), some (.inl x1), some (.inl v1)]) d132_12 rfl rfl ?_
  refine x_iload_n d132_13 rfl ?_
  refine x_iconst d132_14 rfl ?_
  refine x_if2 (pc2 := 23) d132_15 rfl (fun c => ?_) (fun c => ?_)
  · replace c : ¬ v1 = (-1) := c
    rw [if_pos c] at k
    refine x_iload_n d132_23 rfl ?_
    exact x_iret d132_24 gR_132 ⟨_, _, rfl, rfl, k⟩
  · replace c : ¬ (¬ v1 = (-1)) := c
    rw [if_neg c] at k
    refine x_bipush d132_18 rfl ?_
    refine x_goto (pc2 := 24) d132_20 rfl ?_
    exact x_iret d132_24 gR_132 ⟨_, _, rfl, rfl, k⟩
set_option maxHeartbeats 4000000 in
theorem b_N_firstOut_0 {d n : Nat} {sh : ZS} {R : ZR} {I : ZI} {Q : Int → ZI → Prop} (hW : Wf sh R) {s1 : Nat} (hS1 : St sh R s1)
    (k : XIs (d + 1) 133 2 [some (.inr 1), some (.inr s1), some (.inl 1)] [] n sh R I Q) : XI (d + 1) 133 [.inr 1, .inr s1] n sh R I Q := by
  refine XI.of (ls := [some (.inr 1), some (.inr s1), none]) (zloc_eq gY_133.2.2.1) ?_
  unfold XIs
  refine x_iconst d133_0 rfl ?_
  refine x_istore_n (ls2 := [some (.inr 1), some (.inr s1), some (.inl 1)]) d133_1 rfl rfl ?_
  exact k
set_option maxHeartbeats 4000000 in
theorem b_N_firstOut_2 {d n : Nat} {sh : ZS} {R : ZR} {I : ZI} {Q : Int → ZI → Prop} (hW : Wf sh R) {s1 : Nat} (hS1 : St sh R s1) {x2 : Int}
    (k : (if I s1 6 ≤ x2 then Q (-1) I else (0 ≤ x2 ∧ x2 < 32) ∧ (0 ≤ I (s1 + 5) (x2).toNat ∧ I (s1 + 5) (x2).toNat < 32) ∧ (0 ≤ I (s1 + 1) (I (s1 + 5) (x2).toNat).toNat ∧ I (s1 + 1) (I (s1 + 5) (x2).toNat).toNat < 20) ∧ (zr (x2 - 1)) ∧ (0 ≤ (x2 - 1) ∧ (x2 - 1) < 32) ∧ (0 ≤ I (s1 + 5) (x2 - 1).toNat ∧ I (s1 + 5) (x2 - 1).toNat < 32) ∧ (0 ≤ I (s1 + 1) (I (s1 + 5) (x2 - 1).toNat).toNat ∧ I (s1 + 1) (I (s1 + 5) (x2 - 1).toNat).toNat < 20) ∧ (if I 13 (I (s1 + 1) (I (s1 + 5) (x2 - 1).toNat).toNat).toNat ≤ I 13 (I (s1 + 1) (I (s1 + 5) (x2).toNat).toNat).toNat then (zr (x2 + 1)) ∧ XIs (d + 1) 133 2 [some (.inr 1), some (.inr s1), some (.inl (x2 + 1))] [] n sh R I Q else Q x2 I))) : XIs (d + 1) 133 2 [some (.inr 1), some (.inr s1), some (.inl x2)] [] n sh R I Q := by
  unfold XIs
  refine x_iload_n d133_2 rfl ?_
  refine x_aload_n d133_3 rfl ?_
  refine x_getI d133_4 gY_133.2.2.2 gF_11_155 rfl hS1.1 ?_
  refine x_if2 (pc2 := 43) d133_7 rfl (fun c => ?_) (fun c => ?_)
  · replace c : I s1 6 ≤ x2 := c
    rw [if_pos c] at k
    refine x_iconst d133_43 rfl ?_
    exact x_iret d133_44 gR_133 ⟨_, _, rfl, rfl, k⟩
  · replace c : ¬ (I s1 6 ≤ x2) := c
    rw [if_neg c] at k
    refine x_aload_n d133_10 rfl ?_
    refine x_getR (r := 13) d133_11 gY_133.2.2.2 gF_11_29 rfl (sh_1 hW) (rf_1_2 hW) (by decide) ?_
    refine x_aload_n d133_14 rfl ?_
    refine x_iload_n d133_15 rfl ?_
    refine y_inv (as := [.inl x2]) (t := [.inr 13]) (o := s1) (ls2 := [some (.inr s1), some (.inl x2)]) gY_67 d133_16 gY_133.2.2.2 gM_11_227 rfl hS1.1 rfl rfl ?_
    refine x_aload_n d67_0 rfl ?_
    refine x_getR (r := (s1 + 1)) d67_1 gY_67.2.2.2 gF_7_9 rfl hS1.1 hS1.2.2.2.2.2.2.1 (Nat.succ_ne_zero _) ?_
    refine x_aload_n d67_4 rfl ?_
    refine x_getR (r := (s1 + 5)) d67_5 gY_67.2.2.2 gF_7_24 rfl hS1.1 hS1.2.2.2.2.2.2.2.2.2.2 (Nat.succ_ne_zero _) ?_
    refine x_iload_n d67_8 rfl ?_
    have e1 := k.1
    replace k := k.2
    refine x_iald d67_9 hS1.2.2.2.2.2.1 e1.1 e1.2 ?_
    have e2 := k.1
    replace k := k.2
    refine x_iald d67_10 hS1.2.1 e2.1 e2.2 ?_
    refine x_iret d67_11 gR_67 ?_
    show Ex (d + 1) 133 19 [some (.inr 1), some (.inr s1), some (.inl x2)] [.inl (I (s1 + 1) (I (s1 + 5) (x2).toNat).toNat), .inr 13] (0, 0, n, sh, R, I) _
    have e3 := k.1
    replace k := k.2
    refine x_iald d133_19 (sh_13 hW) e3.1 e3.2 ?_
    refine x_aload_n d133_20 rfl ?_
    refine x_getR (r := 13) d133_21 gY_133.2.2.2 gF_11_29 rfl (sh_1 hW) (rf_1_2 hW) (by decide) ?_
    refine x_aload_n d133_24 rfl ?_
    refine x_iload_n d133_25 rfl ?_
    refine x_iconst d133_26 rfl ?_
    have e4 := k.1
    replace k := k.2
    refine x_isub d133_27 e4 ?_
    refine y_inv (as := [.inl (x2 - 1)]) (t := [.inr 13, .inl (I 13 (I (s1 + 1) (I (s1 + 5) (x2).toNat).toNat).toNat)]) (o := s1) (ls2 := [some (.inr s1), some (.inl (x2 - 1))]) gY_67 d133_28 gY_133.2.2.2 gM_11_227 rfl hS1.1 rfl rfl ?_
    refine x_aload_n d67_0 rfl ?_
    refine x_getR (r := (s1 + 1)) d67_1 gY_67.2.2.2 gF_7_9 rfl hS1.1 hS1.2.2.2.2.2.2.1 (Nat.succ_ne_zero _) ?_
    refine x_aload_n d67_4 rfl ?_
    refine x_getR (r := (s1 + 5)) d67_5 gY_67.2.2.2 gF_7_24 rfl hS1.1 hS1.2.2.2.2.2.2.2.2.2.2 (Nat.succ_ne_zero _) ?_
    refine x_iload_n d67_8 rfl ?_
    have e5 := k.1
    replace k := k.2
    refine x_iald d67_9 hS1.2.2.2.2.2.1 e5.1 e5.2 ?_
    have e6 := k.1
    replace k := k.2
    refine x_iald d67_10 hS1.2.1 e6.1 e6.2 ?_
    refine x_iret d67_11 gR_67 ?_
    show Ex (d + 1) 133 31 [some (.inr 1), some (.inr s1), some (.inl x2)] [.inl (I (s1 + 1) (I (s1 + 5) (x2 - 1).toNat).toNat), .inr 13, .inl (I 13 (I (s1 + 1) (I (s1 + 5) (x2).toNat).toNat).toNat)] (0, 0, n, sh, R, I) _
    have e7 := k.1
    replace k := k.2
    refine x_iald d133_31 (sh_13 hW) e7.1 e7.2 ?_
    refine x_if2 (pc2 := 37) d133_32 rfl (fun c => ?_) (fun c => ?_)
    · replace c : I 13 (I (s1 + 1) (I (s1 + 5) (x2 - 1).toNat).toNat).toNat ≤ I 13 (I (s1 + 1) (I (s1 + 5) (x2).toNat).toNat).toNat := c
      rw [if_pos c] at k
      have e8 := k.1
      replace k := k.2
      refine x_iinc (ls2 := [some (.inr 1), some (.inr s1), some (.inl (x2 + 1))]) d133_37 rfl e8 rfl ?_
      refine x_goto (pc2 := 2) d133_40 rfl ?_
      exact k
    · replace c : ¬ (I 13 (I (s1 + 1) (I (s1 + 5) (x2 - 1).toNat).toNat).toNat ≤ I 13 (I (s1 + 1) (I (s1 + 5) (x2).toNat).toNat).toNat) := c
      rw [if_neg c] at k
      refine x_iload_n d133_35 rfl ?_
      exact x_iret d133_36 gR_133 ⟨_, _, rfl, rfl, k⟩
set_option maxHeartbeats 4000000 in
theorem b_N_putRanks_0 {d n : Nat} {sh : ZS} {R : ZR} {I : ZI} {Q : ZI → Prop} (hW : Wf sh R) 
    (k : XVs (d + 1) 134 2 [some (.inr 1), some (.inl 0)] [] n sh R I Q) : XV (d + 1) 134 [.inr 1] n sh R I Q := by
  refine XV.of (ls := [some (.inr 1), none]) (zloc_eq gY_134.2.2.1) ?_
  unfold XVs
  refine x_iconst d134_0 rfl ?_
  refine x_istore_n (ls2 := [some (.inr 1), some (.inl 0)]) d134_1 rfl rfl ?_
  exact k
set_option maxHeartbeats 4000000 in
theorem b_N_putRanks_2 {d n : Nat} {sh : ZS} {R : ZR} {I : ZI} {Q : ZI → Prop} (hW : Wf sh R) {x1 : Int}
    (k : (if I 18 6 ≤ x1 then Q I else (0 ≤ x1 ∧ x1 < 32) ∧ (0 ≤ I 23 (x1).toNat ∧ I 23 (x1).toNat < 32) ∧ (0 ≤ I 19 (I 23 (x1).toNat).toNat ∧ I 19 (I 23 (x1).toNat).toNat < 20) ∧ (zr (x1 + 1)) ∧ XVs (d + 1) 134 2 [some (.inr 1), some (.inl (x1 + 1))] [] n sh R (zup I 14 (x1).toNat (I 13 (I 19 (I 23 (x1).toNat).toNat).toNat)) Q)) : XVs (d + 1) 134 2 [some (.inr 1), some (.inl x1)] [] n sh R I Q := by
  unfold XVs
  refine x_iload_n d134_2 rfl ?_
  refine x_aload_n d134_3 rfl ?_
  refine x_getR (r := 18) d134_4 gY_134.2.2.2 gF_11_45 rfl (sh_1 hW) (rf_1_5 hW) (by decide) ?_
  refine x_getI d134_7 gY_134.2.2.2 gF_11_155 rfl (sh_18 hW) ?_
  refine x_if2 (pc2 := 38) d134_10 rfl (fun c => ?_) (fun c => ?_)
  · replace c : I 18 6 ≤ x1 := c
    rw [if_pos c] at k
    exact x_vret d134_38 gR_134 ⟨_, rfl, rfl, k⟩
  · replace c : ¬ (I 18 6 ≤ x1) := c
    rw [if_neg c] at k
    refine x_aload_n d134_13 rfl ?_
    refine x_getR (r := 14) d134_14 gY_134.2.2.2 gF_11_32 rfl (sh_1 hW) (rf_1_3 hW) (by decide) ?_
    refine x_iload_n d134_17 rfl ?_
    refine x_aload_n d134_18 rfl ?_
    refine x_getR (r := 13) d134_19 gY_134.2.2.2 gF_11_29 rfl (sh_1 hW) (rf_1_2 hW) (by decide) ?_
    refine x_aload_n d134_22 rfl ?_
    refine x_getR (r := 18) d134_23 gY_134.2.2.2 gF_11_45 rfl (sh_1 hW) (rf_1_5 hW) (by decide) ?_
    refine x_iload_n d134_26 rfl ?_
    refine y_inv (as := [.inl x1]) (t := [.inr 13, .inl x1, .inr 14]) (o := 18) (ls2 := [some (.inr 18), some (.inl x1)]) gY_67 d134_27 gY_134.2.2.2 gM_11_227 rfl (sh_18 hW) rfl rfl ?_
    refine x_aload_n d67_0 rfl ?_
    refine x_getR (r := 19) d67_1 gY_67.2.2.2 gF_7_9 rfl (sh_18 hW) (rf_18_0 hW) (by decide) ?_
    refine x_aload_n d67_4 rfl ?_
    refine x_getR (r := 23) d67_5 gY_67.2.2.2 gF_7_24 rfl (sh_18 hW) (rf_18_4 hW) (by decide) ?_
    refine x_iload_n d67_8 rfl ?_
    have e1 := k.1
    replace k := k.2
    refine x_iald d67_9 (sh_23 hW) e1.1 e1.2 ?_
    have e2 := k.1
    replace k := k.2
    refine x_iald d67_10 (sh_19 hW) e2.1 e2.2 ?_
    refine x_iret d67_11 gR_67 ?_
    show Ex (d + 1) 134 30 [some (.inr 1), some (.inl x1)] [.inl (I 19 (I 23 (x1).toNat).toNat), .inr 13, .inl x1, .inr 14] (0, 0, n, sh, R, I) _
    have e3 := k.1
    replace k := k.2
    refine x_iald d134_30 (sh_13 hW) e3.1 e3.2 ?_
    refine x_iast d134_31 (sh_14 hW) e1.1 e1.2 ?_
    have e4 := k.1
    replace k := k.2
    refine x_iinc (ls2 := [some (.inr 1), some (.inl (x1 + 1))]) d134_32 rfl e4 rfl ?_
    refine x_goto (pc2 := 2) d134_35 rfl ?_
    exact k
set_option maxHeartbeats 4000000 in
theorem b_N_readRanks_0 {d n : Nat} {sh : ZS} {R : ZR} {I : ZI} {Q : ZI → Prop} (hW : Wf sh R) 
    (k : XV (d + 1) 134 [.inr 1] n sh R I (fun I2 => XV (d + 1) 44 [.inr 53, .inr 14, .inl (I2 18 6)] n sh R I2 (fun I4 => Q I4))) : XV (d + 2) 135 [.inr 1] n sh R I Q := by
  refine XV.of (ls := [some (.inr 1)]) (zloc_eq gY_135.2.2.1) ?_
  unfold XVs
  refine x_aload_n d135_0 rfl ?_
  refine y_invV (as := []) (t := []) (o := 1) gY_134 d135_1 gY_135.2.2.2 gM_11_245 rfl (sh_1 hW) rfl k (fun I2 k => ?_)
  refine x_aload_n d135_4 rfl ?_
  refine x_getR (r := 53) d135_5 gY_135.2.2.2 gF_11_70 rfl (sh_1 hW) (rf_1_10 hW) (by decide) ?_
  refine x_aload_n d135_8 rfl ?_
  refine x_getR (r := 14) d135_9 gY_135.2.2.2 gF_11_32 rfl (sh_1 hW) (rf_1_3 hW) (by decide) ?_
  refine x_aload_n d135_12 rfl ?_
  refine x_getR (r := 18) d135_13 gY_135.2.2.2 gF_11_45 rfl (sh_1 hW) (rf_1_5 hW) (by decide) ?_
  refine x_getI d135_16 gY_135.2.2.2 gF_11_155 rfl (sh_18 hW) ?_
  refine y_invV (as := [.inr 14, .inl (I2 18 6)]) (t := []) (o := 53) gY_44 d135_19 gY_135.2.2.2 gM_11_259 rfl (sh_53 hW) rfl k (fun I4 k => ?_)
  exact x_vret d135_22 gR_135 ⟨_, rfl, rfl, k⟩
set_option maxHeartbeats 4000000 in
theorem b_N_findPlan_0 {d n : Nat} {sh : ZS} {R : ZR} {I : ZI} {Q : Int → ZI → Prop} (hW : Wf sh R) 
    (k : XV (d + 4) 135 [.inr 1] n sh R I (fun I2 => XI (d + 4) 35 [.inr 59] n sh R I2 (fun v3 I4 => Q v3 I4))) : XI (d + 5) 136 [.inr 1] n sh R I Q := by
  refine XI.of (ls := [some (.inr 1)]) (zloc_eq gY_136.2.2.1) ?_
  unfold XIs
  refine x_aload_n d136_0 rfl ?_
  refine y_invV (as := []) (t := []) (o := 1) gY_135 d136_1 gY_136.2.2.2 gM_11_209 rfl (sh_1 hW) rfl k (fun I2 k => ?_)
  refine x_aload_n d136_4 rfl ?_
  refine x_getR (r := 59) d136_5 gY_136.2.2.2 gF_11_79 rfl (sh_1 hW) (rf_1_11 hW) (by decide) ?_
  refine y_invI (as := []) (t := []) (o := 59) gY_35 d136_8 gY_136.2.2.2 gM_11_342 rfl (sh_59 hW) rfl k (fun v3 I4 k => ?_)
  exact x_iret d136_11 gR_136 ⟨_, _, rfl, rfl, k⟩
set_option maxHeartbeats 4000000 in
theorem b_N_secondsOfFirst_0 {d n : Nat} {sh : ZS} {R : ZR} {I : ZI} {Q : Int → ZI → Prop} (hW : Wf sh R) {x1 : Int}
    (k : XIs (d + 4) 137 4 [some (.inr 1), some (.inl x1), some (.inl 0), some (.inl 0)] [] n sh R I Q) : XI (d + 4) 137 [.inr 1, .inl x1] n sh R I Q := by
  refine XI.of (ls := [some (.inr 1), some (.inl x1), none, none]) (zloc_eq gY_137.2.2.1) ?_
  unfold XIs
  refine x_iconst d137_0 rfl ?_
  refine x_istore_n (ls2 := [some (.inr 1), some (.inl x1), some (.inl 0), none]) d137_1 rfl rfl ?_
  refine x_iconst d137_2 rfl ?_
  refine x_istore_n (ls2 := [some (.inr 1), some (.inl x1), some (.inl 0), some (.inl 0)]) d137_3 rfl rfl ?_
  exact k
set_option maxHeartbeats 4000000 in
theorem b_N_secondsOfFirst_4 {d n : Nat} {sh : ZS} {R : ZR} {I : ZI} {Q : Int → ZI → Prop} (hW : Wf sh R) {x1 : Int} {x2 : Int} {x3 : Int}
    (k : (if x1 ≤ x3 then Q x2 I else (0 ≤ x3 ∧ x3 < 32) ∧ (if I 44 (x3).toNat = (-1) then (zr (x3 + 1)) ∧ XIs (d + 4) 137 4 [some (.inr 1), some (.inl x1), some (.inl x2), some (.inl (x3 + 1))] [] n sh R I Q else XI (d + 3) 53 [.inr 42, .inr 30, .inl x3] n sh R I (fun v3 I4 => (zr (x2 + v3)) ∧ (zr (x3 + 1)) ∧ XIs (d + 4) 137 4 [some (.inr 1), some (.inl x1), some (.inl (x2 + v3)), some (.inl (x3 + 1))] [] n sh R I4 Q)))) : XIs (d + 4) 137 4 [some (.inr 1), some (.inl x1), some (.inl x2), some (.inl x3)] [] n sh R I Q := by
  unfold XIs
  refine x_iload_n d137_4 rfl ?_
  refine x_iload_n d137_5 rfl ?_
  refine x_if2 (pc2 := 43) d137_6 rfl (fun c => ?_) (fun c => ?_)
  · replace c : x1 ≤ x3 := c
    rw [if_pos c] at k
    refine x_iload_n d137_43 rfl ?_
    exact x_iret d137_44 gR_137 ⟨_, _, rfl, rfl, k⟩
  · replace c : ¬ (x1 ≤ x3) := c
    rw [if_neg c] at k
    refine x_aload_n d137_9 rfl ?_
    refine x_getR (r := 42) d137_10 gY_137.2.2.2 gF_11_63 rfl (sh_1 hW) (rf_1_9 hW) (by decide) ?_
    refine x_getR (r := 44) d137_13 gY_137.2.2.2 gF_11_224 rfl (sh_42 hW) (rf_42_3 hW) (by decide) ?_
    refine x_iload_n d137_16 rfl ?_
    have e1 := k.1
    replace k := k.2
    refine x_iald d137_17 (sh_44 hW) e1.1 e1.2 ?_
    refine x_iconst d137_18 rfl ?_
    refine x_if2 (pc2 := 37) d137_19 rfl (fun c => ?_) (fun c => ?_)
    · replace c : I 44 (x3).toNat = (-1) := c
      rw [if_pos c] at k
      have e2 := k.1
      replace k := k.2
      refine x_iinc (ls2 := [some (.inr 1), some (.inl x1), some (.inl x2), some (.inl (x3 + 1))]) d137_37 rfl e2 rfl ?_
      refine x_goto (pc2 := 4) d137_40 rfl ?_
      exact k
    · replace c : ¬ (I 44 (x3).toNat = (-1)) := c
      rw [if_neg c] at k
      refine x_iload_n d137_22 rfl ?_
      refine x_aload_n d137_23 rfl ?_
      refine x_getR (r := 42) d137_24 gY_137.2.2.2 gF_11_63 rfl (sh_1 hW) (rf_1_9 hW) (by decide) ?_
      refine x_aload_n d137_27 rfl ?_
      refine x_getR (r := 30) d137_28 gY_137.2.2.2 gF_11_52 rfl (sh_1 hW) (rf_1_7 hW) (by decide) ?_
      refine x_iload_n d137_31 rfl ?_
      refine y_invI (as := [.inr 30, .inl x3]) (t := [.inl x2]) (o := 42) gY_53 d137_32 gY_137.2.2.2 gM_11_314 rfl (sh_42 hW) rfl k (fun v3 I4 k => ?_)
      have e5 := k.1
      replace k := k.2
      refine x_iadd d137_35 e5 ?_
      refine x_istore_n (ls2 := [some (.inr 1), some (.inl x1), some (.inl (x2 + v3)), some (.inl x3)]) d137_36 rfl rfl ?_
      have e6 := k.1
      replace k := k.2
      refine x_iinc (ls2 := [some (.inr 1), some (.inl x1), some (.inl (x2 + v3)), some (.inl (x3 + 1))]) d137_37 rfl e6 rfl ?_
      refine x_goto (pc2 := 4) d137_40 rfl ?_
      exact k
set_option maxHeartbeats 4000000 in
theorem b_N_bestShare_0 {d n : Nat} {sh : ZS} {R : ZR} {I : ZI} {Q : Int → ZI → Prop} (hW : Wf sh R) {x1 : Int}
    (k : XIs (d + 4) 138 10 [some (.inr 1), some (.inl x1), some (.inl 0), some (.inl x1), some (.inl 0), some (.inl 0), none] [] n sh R I Q) : XI (d + 4) 138 [.inr 1, .inl x1] n sh R I Q := by
  refine XI.of (ls := [some (.inr 1), some (.inl x1), none, none, none, none, none]) (zloc_eq gY_138.2.2.1) ?_
  unfold XIs
  refine x_iconst d138_0 rfl ?_
  refine x_istore_n (ls2 := [some (.inr 1), some (.inl x1), some (.inl 0), none, none, none, none]) d138_1 rfl rfl ?_
  refine x_iload_n d138_2 rfl ?_
  refine x_istore_n (ls2 := [some (.inr 1), some (.inl x1), some (.inl 0), some (.inl x1), none, none, none]) d138_3 rfl rfl ?_
  refine x_iconst d138_4 rfl ?_
  refine x_istore (ls2 := [some (.inr 1), some (.inl x1), some (.inl 0), some (.inl x1), some (.inl 0), none, none]) d138_5 rfl rfl ?_
  refine x_iconst d138_7 rfl ?_
  refine x_istore (ls2 := [some (.inr 1), some (.inl x1), some (.inl 0), some (.inl x1), some (.inl 0), some (.inl 0), none]) d138_8 rfl rfl ?_
  exact k
set_option maxHeartbeats 4000000 in
theorem b_N_bestShare_10 {d n : Nat} {sh : ZS} {R : ZR} {I : ZI} {Q : Int → ZI → Prop} (hW : Wf sh R) {x1 : Int} {x2 : Int} {x3 : Int} {x4 : Int} {x5 : Int} {u6 : Option AV}
    (k : (if I 30 6 ≤ x5 then Q x2 I else (0 ≤ x5 ∧ x5 < 32) ∧ (if I 44 (x5).toNat = (-1) then (zr (x1 - x4)) ∧ (if x3 ≤ (if x4 < (x1 - x4) then (x1 - x4) else x4) then (zr (x5 + 1)) ∧ XIs (d + 4) 138 10 [some (.inr 1), some (.inl x1), some (.inl x2), some (.inl x3), some (.inl x4), some (.inl (x5 + 1)), some (.inl (if x4 < (x1 - x4) then (x1 - x4) else x4))] [] n sh R I Q else (zr (x5 + 1)) ∧ XIs (d + 4) 138 10 [some (.inr 1), some (.inl x1), some (.inl (x5 + 1)), some (.inl (if x4 < (x1 - x4) then (x1 - x4) else x4)), some (.inl x4), some (.inl (x5 + 1)), some (.inl (if x4 < (x1 - x4) then (x1 - x4) else x4))] [] n sh R I Q) else XI (d + 3) 53 [.inr 42, .inr 30, .inl x5] n sh R I (fun v5 I6 => (zr (x4 + v5)) ∧ (zr (x1 - (x4 + v5))) ∧ (if x3 ≤ (if (x4 + v5) < (x1 - (x4 + v5)) then (x1 - (x4 + v5)) else (x4 + v5)) then (zr (x5 + 1)) ∧ XIs (d + 4) 138 10 [some (.inr 1), some (.inl x1), some (.inl x2), some (.inl x3), some (.inl (x4 + v5)), some (.inl (x5 + 1)), some (.inl (if (x4 + v5) < (x1 - (x4 + v5)) then (x1 - (x4 + v5)) else (x4 + v5)))] [] n sh R I6 Q else (zr (x5 + 1)) ∧ XIs (d + 4) 138 10 [some (.inr 1), some (.inl x1), some (.inl (x5 + 1)), some (.inl (if (x4 + v5) < (x1 - (x4 + v5)) then (x1 - (x4 + v5)) else (x4 + v5))), some (.inl (x4 + v5)), some (.inl (x5 + 1)), some (.inl (if (x4 + v5) < (x1 - (x4 + v5)) then (x1 - (x4 + v5)) else (x4 + v5)))] [] n sh R I6 Q))))) : XIs (d + 4) 138 10 [some (.inr 1), some (.inl x1), some (.inl x2), some (.inl x3), some (.inl x4), some (.inl x5), u6] [] n sh R I Q := by
  unfold XIs
  refine x_iload d138_10 rfl ?_
  refine x_aload_n d138_12 rfl ?_
  refine x_getR (r := 30) d138_13 gY_138.2.2.2 gF_11_52 rfl (sh_1 hW) (rf_1_7 hW) (by decide) ?_
  refine x_getI d138_16 gY_138.2.2.2 gF_11_155 rfl (sh_30 hW) ?_
  refine x_if2 (pc2 := 85) d138_19 rfl (fun c => ?_) (fun c => ?_)
  · replace c : I 30 6 ≤ x5 := c
    rw [if_pos c] at k
    refine x_iload_n d138_85 rfl ?_
    exact x_iret d138_86 gR_138 ⟨_, _, rfl, rfl, k⟩
  · replace c : ¬ (I 30 6 ≤ x5) := c
    rw [if_neg c] at k
    refine x_aload_n d138_22 rfl ?_
    refine x_getR (r := 42) d138_23 gY_138.2.2.2 gF_11_63 rfl (sh_1 hW) (rf_1_9 hW) (by decide) ?_
    refine x_getR (r := 44) d138_26 gY_138.2.2.2 gF_11_224 rfl (sh_42 hW) (rf_42_3 hW) (by decide) ?_
    refine x_iload d138_29 rfl ?_
    have e1 := k.1
    replace k := k.2
    refine x_iald d138_31 (sh_44 hW) e1.1 e1.2 ?_
    refine x_iconst d138_32 rfl ?_
    refine x_if2 (pc2 := 54) d138_33 rfl (fun c => ?_) (fun c => ?_)
    · replace c : I 44 (x5).toNat = (-1) := c
      rw [if_pos c] at k
      refine x_iload d138_54 rfl ?_
      refine x_iload_n d138_56 rfl ?_
      refine x_iload d138_57 rfl ?_
      have e2 := k.1
      replace k := k.2
      refine x_isub d138_59 e2 ?_
      refine x_max d138_60 gY_138.2.2.2 gM_11_307 (of_decide_eq_true rfl) ?_
      refine x_istore (ls2 := [some (.inr 1), some (.inl x1), some (.inl x2), some (.inl x3), some (.inl x4), some (.inl x5), some (.inl (if x4 < (x1 - x4) then (x1 - x4) else x4))]) d138_63 rfl rfl ?_
      refine x_iload d138_65 rfl ?_
      refine x_iload_n d138_67 rfl ?_
      refine x_if2 (pc2 := 79) d138_68 rfl (fun c => ?_) (fun c => ?_)
      · replace c : x3 ≤ (if x4 < (x1 - x4) then (x1 - x4) else x4) := c
        rw [if_pos c] at k
        have e3 := k.1
        replace k := k.2
        refine x_iinc (ls2 := [some (.inr 1), some (.inl x1), some (.inl x2), some (.inl x3), some (.inl x4), some (.inl (x5 + 1)), some (.inl (if x4 < (x1 - x4) then (x1 - x4) else x4))]) d138_79 rfl e3 rfl ?_
        refine x_goto (pc2 := 10) d138_82 rfl ?_
        exact k
      · replace c : ¬ (x3 ≤ (if x4 < (x1 - x4) then (x1 - x4) else x4)) := c
        rw [if_neg c] at k
        refine x_iload d138_71 rfl ?_
        refine x_istore_n (ls2 := [some (.inr 1), some (.inl x1), some (.inl x2), some (.inl (if x4 < (x1 - x4) then (x1 - x4) else x4)), some (.inl x4), some (.inl x5), some (.inl (if x4 < (x1 - x4) then (x1 - x4) else x4))]) d138_73 rfl rfl ?_
        refine x_iload d138_74 rfl ?_
        refine x_iconst d138_76 rfl ?_
        have e4 := k.1
        replace k := k.2
        refine x_iadd d138_77 e4 ?_
        refine x_istore_n (ls2 := [some (.inr 1), some (.inl x1), some (.inl (x5 + 1)), some (.inl (if x4 < (x1 - x4) then (x1 - x4) else x4)), some (.inl x4), some (.inl x5), some (.inl (if x4 < (x1 - x4) then (x1 - x4) else x4))]) d138_78 rfl rfl ?_
        refine x_iinc (ls2 := [some (.inr 1), some (.inl x1), some (.inl (x5 + 1)), some (.inl (if x4 < (x1 - x4) then (x1 - x4) else x4)), some (.inl x4), some (.inl (x5 + 1)), some (.inl (if x4 < (x1 - x4) then (x1 - x4) else x4))]) d138_79 rfl e4 rfl ?_
        refine x_goto (pc2 := 10) d138_82 rfl ?_
        exact k
    · replace c : ¬ (I 44 (x5).toNat = (-1)) := c
      rw [if_neg c] at k
      refine x_iload d138_36 rfl ?_
      refine x_aload_n d138_38 rfl ?_
      refine x_getR (r := 42) d138_39 gY_138.2.2.2 gF_11_63 rfl (sh_1 hW) (rf_1_9 hW) (by decide) ?_
      refine x_aload_n d138_42 rfl ?_
      refine x_getR (r := 30) d138_43 gY_138.2.2.2 gF_11_52 rfl (sh_1 hW) (rf_1_7 hW) (by decide) ?_
      refine x_iload d138_46 rfl ?_
      refine y_invI (as := [.inr 30, .inl x5]) (t := [.inl x4]) (o := 42) gY_53 d138_48 gY_138.2.2.2 gM_11_314 rfl (sh_42 hW) rfl k (fun v5 I6 k => ?_)
      have e7 := k.1
      replace k := k.2
      refine x_iadd d138_51 e7 ?_
      refine x_istore (ls2 := [some (.inr 1), some (.inl x1), some (.inl x2), some (.inl x3), some (.inl (x4 + v5)), some (.inl x5), u6]) d138_52 rfl rfl ?_
      refine x_iload d138_54 rfl ?_
      refine x_iload_n d138_56 rfl ?_
      refine x_iload d138_57 rfl ?_
      have e8 := k.1
      replace k := k.2
      refine x_isub d138_59 e8 ?_
      refine x_max d138_60 gY_138.2.2.2 gM_11_307 (of_decide_eq_true rfl) ?_
      refine x_istore (ls2 := [some (.inr 1), some (.inl x1), some (.inl x2), some (.inl x3), some (.inl (x4 + v5)), some (.inl x5), some (.inl (if (x4 + v5) < (x1 - (x4 + v5)) then (x1 - (x4 + v5)) else (x4 + v5)))]) d138_63 rfl rfl ?_
      refine x_iload d138_65 rfl ?_
      refine x_iload_n d138_67 rfl ?_
      refine x_if2 (pc2 := 79) d138_68 rfl (fun c => ?_) (fun c => ?_)
      · replace c : x3 ≤ (if (x4 + v5) < (x1 - (x4 + v5)) then (x1 - (x4 + v5)) else (x4 + v5)) := c
        rw [if_pos c] at k
        have e9 := k.1
        replace k := k.2
        refine x_iinc (ls2 := [some (.inr 1), some (.inl x1), some (.inl x2), some (.inl x3), some (.inl (x4 + v5)), some (.inl (x5 + 1)), some (.inl (if (x4 + v5) < (x1 - (x4 + v5)) then (x1 - (x4 + v5)) else (x4 + v5)))]) d138_79 rfl e9 rfl ?_
        refine x_goto (pc2 := 10) d138_82 rfl ?_
        exact k
      · replace c : ¬ (x3 ≤ (if (x4 + v5) < (x1 - (x4 + v5)) then (x1 - (x4 + v5)) else (x4 + v5))) := c
        rw [if_neg c] at k
        refine x_iload d138_71 rfl ?_
        refine x_istore_n (ls2 := [some (.inr 1), some (.inl x1), some (.inl x2), some (.inl (if (x4 + v5) < (x1 - (x4 + v5)) then (x1 - (x4 + v5)) else (x4 + v5))), some (.inl (x4 + v5)), some (.inl x5), some (.inl (if (x4 + v5) < (x1 - (x4 + v5)) then (x1 - (x4 + v5)) else (x4 + v5)))]) d138_73 rfl rfl ?_
        refine x_iload d138_74 rfl ?_
        refine x_iconst d138_76 rfl ?_
        have e10 := k.1
        replace k := k.2
        refine x_iadd d138_77 e10 ?_
        refine x_istore_n (ls2 := [some (.inr 1), some (.inl x1), some (.inl (x5 + 1)), some (.inl (if (x4 + v5) < (x1 - (x4 + v5)) then (x1 - (x4 + v5)) else (x4 + v5))), some (.inl (x4 + v5)), some (.inl x5), some (.inl (if (x4 + v5) < (x1 - (x4 + v5)) then (x1 - (x4 + v5)) else (x4 + v5)))]) d138_78 rfl rfl ?_
        refine x_iinc (ls2 := [some (.inr 1), some (.inl x1), some (.inl (x5 + 1)), some (.inl (if (x4 + v5) < (x1 - (x4 + v5)) then (x1 - (x4 + v5)) else (x4 + v5))), some (.inl (x4 + v5)), some (.inl (x5 + 1)), some (.inl (if (x4 + v5) < (x1 - (x4 + v5)) then (x1 - (x4 + v5)) else (x4 + v5)))]) d138_79 rfl e10 rfl ?_
        refine x_goto (pc2 := 10) d138_82 rfl ?_
        exact k
