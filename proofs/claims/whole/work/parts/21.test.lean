set_option maxHeartbeats 4000000 in
theorem b_M_letter_0 {d n : Nat} {sh : ZS} {R : ZR} {I : ZI} {Q : Int → ZI → Prop} (hW : Wf sh R) {x1 : Int} {x2 : Int} {x3 : Int}
    (k : (if x1 < 0 then Q (-1) I else (if 20 ≤ x1 then Q (-1) I else (if x2 < 0 then Q (-1) I else (if 99 < x2 then Q (-1) I else (if x3 < 0 then Q (-1) I else (if 12 < x3 then Q (-1) I else (if x3 ≤ 0 then (if ¬ I 137 0 = 32 then (0 ≤ I 137 0 ∧ I 137 0 < 32) ∧ (if ¬ x3 = 0 then (zr (I 137 0 + 1)) ∧ (zr ((I 137 0 + 1) - 1)) ∧ Q ((I 137 0 + 1) - 1) (zup (zup (zup (zup (zup I 138 (I 137 0).toNat x1) 139 (I 137 0).toNat x2) 140 (I 137 0).toNat x3) 141 (I 137 0).toNat 9) 137 0 (I 137 0 + 1)) else (0 ≤ I 137 1 ∧ I 137 1 < 32) ∧ (zr (I 137 1 + 1)) ∧ (zr (I 137 0 + 1)) ∧ (zr ((I 137 0 + 1) - 1)) ∧ Q ((I 137 0 + 1) - 1) (zup (zup (zup (zup (zup (zup (zup I 138 (I 137 0).toNat x1) 139 (I 137 0).toNat x2) 140 (I 137 0).toNat x3) 141 (I 137 0).toNat 9) 142 (I 137 1).toNat (I 137 0)) 137 1 (I 137 1 + 1)) 137 0 (I 137 0 + 1))) else Q (-1) I) else (if x3 ≤ I 137 2 then Q (-1) I else (if ¬ I 137 0 = 32 then (0 ≤ I 137 0 ∧ I 137 0 < 32) ∧ (if ¬ x3 = 0 then (zr (I 137 0 + 1)) ∧ (zr ((I 137 0 + 1) - 1)) ∧ Q ((I 137 0 + 1) - 1) (zup (zup (zup (zup (zup I 138 (I 137 0).toNat x1) 139 (I 137 0).toNat x2) 140 (I 137 0).toNat x3) 141 (I 137 0).toNat 9) 137 0 (I 137 0 + 1)) else (0 ≤ I 137 1 ∧ I 137 1 < 32) ∧ (zr (I 137 1 + 1)) ∧ (zr (I 137 0 + 1)) ∧ (zr ((I 137 0 + 1) - 1)) ∧ Q ((I 137 0 + 1) - 1) (zup (zup (zup (zup (zup (zup (zup I 138 (I 137 0).toNat x1) 139 (I 137 0).toNat x2) 140 (I 137 0).toNat x3) 141 (I 137 0).toNat 9) 142 (I 137 1).toNat (I 137 0)) 137 1 (I 137 1 + 1)) 137 0 (I 137 0 + 1))) else Q (-1) I)))))))))) : XI (d + 1) 148 [.inr 137, .inl x1, .inl x2, .inl x3] n sh R I Q := by
  refine XI.of (ls := [some (.inr 137), some (.inl x1), some (.inl x2), some (.inl x3)]) (zloc_eq gY_148.2.2.1) ?_
  unfold XIs
  refine x_iload_n d148_0 rfl ?_
  refine y_ins (as := [.inl x1]) (t := []) (ls2 := [some (.inl x1)]) gY_145 d148_1 gY_148.2.2.2 gM_12_165 rfl rfl rfl ?_
  refine x_iload_n d145_0 rfl ?_
  refine x_if1 (pc2 := 14) d145_1 rfl (fun c => ?_) (fun c => ?_)
  · replace c : x1 < 0 := c
    rw [if_pos c] at k
    refine x_iconst d145_14 rfl ?_
    refine x_zret d145_15 gR_145 (by decide) ?_
    show Ex (d + 1) 148 4 [some (.inr 137), some (.inl x1), some (.inl x2), some (.inl x3)] [.inl 0] (0, 0, n, sh, R, I) _
    refine x_if1 (pc2 := 48) d148_4 rfl (fun _ => ?_) (fun c => absurd (show (0 : Int) = 0 by decide) c)
    refine x_iconst d148_48 rfl ?_
    exact x_iret d148_49 gR_148 ⟨_, _, rfl, rfl, k⟩
  · replace c : ¬ (x1 < 0) := c
    rw [if_neg c] at k
    refine x_iload_n d145_4 rfl ?_
    refine x_bipush d145_5 rfl ?_
    refine x_if2 (pc2 := 14) d145_7 rfl (fun c => ?_) (fun c => ?_)
    · replace c : 20 ≤ x1 := c
      rw [if_pos c] at k
      refine x_iconst d145_14 rfl ?_
      refine x_zret d145_15 gR_145 (by decide) ?_
      show Ex (d + 1) 148 4 [some (.inr 137), some (.inl x1), some (.inl x2), some (.inl x3)] [.inl 0] (0, 0, n, sh, R, I) _
      refine x_if1 (pc2 := 48) d148_4 rfl (fun _ => ?_) (fun c => absurd (show (0 : Int) = 0 by decide) c)
      refine x_iconst d148_48 rfl ?_
      exact x_iret d148_49 gR_148 ⟨_, _, rfl, rfl, k⟩
    · replace c : ¬ (20 ≤ x1) := c
      rw [if_neg c] at k
      refine x_iconst d145_10 rfl ?_
      refine x_goto (pc2 := 15) d145_11 rfl ?_
      refine x_zret d145_15 gR_145 (by decide) ?_
      show Ex (d + 1) 148 4 [some (.inr 137), some (.inl x1), some (.inl x2), some (.inl x3)] [.inl 1] (0, 0, n, sh, R, I) _
      refine x_if1 (pc2 := 48) d148_4 rfl (fun c => absurd (show (1 : Int) = 0 from c) (by decide)) (fun _ => ?_)
      refine x_iload_n d148_7 rfl ?_
      refine x_iconst d148_8 rfl ?_
      refine x_bipush d148_9 rfl ?_
      refine y_ins (as := [.inl x2, .inl 0, .inl 99]) (t := []) (ls2 := [some (.inl x2), some (.inl 0), some (.inl 99)]) gY_140 d148_11 gY_148.2.2.2 gM_12_169 rfl rfl rfl ?_
      refine x_iload_n d140_0 rfl ?_
      refine x_iload_n d140_1 rfl ?_
      refine x_if2 (pc2 := 14) d140_2 rfl (fun c => ?_) (fun c => ?_)
      · replace c : x2 < 0 := c
        rw [if_pos c] at k
        refine x_iconst d140_14 rfl ?_
        refine x_zret d140_15 gR_140 (by decide) ?_
        show Ex (d + 1) 148 14 [some (.inr 137), some (.inl x1), some (.inl x2), some (.inl x3)] [.inl 0] (0, 0, n, sh, R, I) _
        refine x_if1 (pc2 := 48) d148_14 rfl (fun _ => ?_) (fun c => absurd (show (0 : Int) = 0 by decide) c)
        refine x_iconst d148_48 rfl ?_
        exact x_iret d148_49 gR_148 ⟨_, _, rfl, rfl, k⟩
      · replace c : ¬ (x2 < 0) := c
        rw [if_neg c] at k
        refine x_iload_n d140_5 rfl ?_
        refine x_iload_n d140_6 rfl ?_
        refine x_if2 (pc2 := 14) d140_7 rfl (fun c => ?_) (fun c => ?_)
        · replace c : 99 < x2 := c
          rw [if_pos c] at k
          refine x_iconst d140_14 rfl ?_
          refine x_zret d140_15 gR_140 (by decide) ?_
          show Ex (d + 1) 148 14 [some (.inr 137), some (.inl x1), some (.inl x2), some (.inl x3)] [.inl 0] (0, 0, n, sh, R, I) _
          refine x_if1 (pc2 := 48) d148_14 rfl (fun _ => ?_) (fun c => absurd (show (0 : Int) = 0 by decide) c)
          refine x_iconst d148_48 rfl ?_
          exact x_iret d148_49 gR_148 ⟨_, _, rfl, rfl, k⟩
        · replace c : ¬ (99 < x2) := c
          rw [if_neg c] at k
          refine x_iconst d140_10 rfl ?_
          refine x_goto (pc2 := 15) d140_11 rfl ?_
          refine x_zret d140_15 gR_140 (by decide) ?_
          show Ex (d + 1) 148 14 [some (.inr 137), some (.inl x1), some (.inl x2), some (.inl x3)] [.inl 1] (0, 0, n, sh, R, I) _
          refine x_if1 (pc2 := 48) d148_14 rfl (fun c => absurd (show (1 : Int) = 0 from c) (by decide)) (fun _ => ?_)
          refine x_iload_n d148_17 rfl ?_
          refine x_iconst d148_18 rfl ?_
          refine x_bipush d148_19 rfl ?_
          refine y_ins (as := [.inl x3, .inl 0, .inl 12]) (t := []) (ls2 := [some (.inl x3), some (.inl 0), some (.inl 12)]) gY_140 d148_21 gY_148.2.2.2 gM_12_169 rfl rfl rfl ?_
          refine x_iload_n d140_0 rfl ?_
          refine x_iload_n d140_1 rfl ?_
          refine x_if2 (pc2 := 14) d140_2 rfl (fun c => ?_) (fun c => ?_)
          · replace c : x3 < 0 := c
            rw [if_pos c] at k
            refine x_iconst d140_14 rfl ?_
            refine x_zret d140_15 gR_140 (by decide) ?_
            show Ex (d + 1) 148 24 [some (.inr 137), some (.inl x1), some (.inl x2), some (.inl x3)] [.inl 0] (0, 0, n, sh, R, I) _
            refine x_if1 (pc2 := 48) d148_24 rfl (fun _ => ?_) (fun c => absurd (show (0 : Int) = 0 by decide) c)
            refine x_iconst d148_48 rfl ?_
            exact x_iret d148_49 gR_148 ⟨_, _, rfl, rfl, k⟩
          · replace c : ¬ (x3 < 0) := c
            rw [if_neg c] at k
            refine x_iload_n d140_5 rfl ?_
            refine x_iload_n d140_6 rfl ?_
            refine x_if2 (pc2 := 14) d140_7 rfl (fun c => ?_) (fun c => ?_)
            · replace c : 12 < x3 := c
              rw [if_pos c] at k
              refine x_iconst d140_14 rfl ?_
              refine x_zret d140_15 gR_140 (by decide) ?_
              show Ex (d + 1) 148 24 [some (.inr 137), some (.inl x1), some (.inl x2), some (.inl x3)] [.inl 0] (0, 0, n, sh, R, I) _
              refine x_if1 (pc2 := 48) d148_24 rfl (fun _ => ?_) (fun c => absurd (show (0 : Int) = 0 by decide) c)
              refine x_iconst d148_48 rfl ?_
              exact x_iret d148_49 gR_148 ⟨_, _, rfl, rfl, k⟩
            · replace c : ¬ (12 < x3) := c
              rw [if_neg c] at k
              refine x_iconst d140_10 rfl ?_
              refine x_goto (pc2 := 15) d140_11 rfl ?_
              refine x_zret d140_15 gR_140 (by decide) ?_
              show Ex (d + 1) 148 24 [some (.inr 137), some (.inl x1), some (.inl x2), some (.inl x3)] [.inl 1] (0, 0, n, sh, R, I) _
              refine x_if1 (pc2 := 48) d148_24 rfl (fun c => absurd (show (1 : Int) = 0 from c) (by decide)) (fun _ => ?_)
              refine x_iload_n d148_27 rfl ?_
              refine x_if1 (pc2 := 39) d148_28 rfl (fun c => ?_) (fun c => ?_)
              · replace c : x3 ≤ 0 := c
                rw [if_pos c] at k
                refine x_aload_n d148_39 rfl ?_
                refine x_getI d148_40 gY_148.2.2.2 gF_12_159 rfl (sh_137 hW) ?_
                refine x_bipush d148_43 rfl ?_
                refine x_if2 (pc2 := 50) d148_45 rfl (fun c => ?_) (fun c => ?_)
                · replace c : ¬ I 137 0 = 32 := c
                  rw [if_pos c] at k
                  refine x_aload_n d148_50 rfl ?_
                  refine x_getR (r := 138) d148_51 gY_148.2.2.2 gF_12_7 rfl (sh_137 hW) (rf_137_6 hW) (by decide) ?_
                  refine x_aload_n d148_54 rfl ?_
                  refine x_getI d148_55 gY_148.2.2.2 gF_12_159 rfl (sh_137 hW) ?_
                  refine x_iload_n d148_58 rfl ?_
                  have e1 := k.1
                  replace k := k.2
                  refine x_iast d148_59 (sh_138 hW) e1.1 e1.2 ?_
                  refine x_aload_n d148_60 rfl ?_
                  refine x_getR (r := 139) d148_61 gY_148.2.2.2 gF_12_13 rfl (sh_137 hW) (rf_137_7 hW) (by decide) ?_
                  refine x_aload_n d148_64 rfl ?_
                  refine x_getI d148_65 gY_148.2.2.2 gF_12_159 rfl (sh_137 hW) ?_
                  refine x_iload_n d148_68 rfl ?_
                  refine x_iast d148_69 (sh_139 hW) e1.1 e1.2 ?_
                  refine x_aload_n d148_70 rfl ?_
                  refine x_getR (r := 140) d148_71 gY_148.2.2.2 gF_12_16 rfl (sh_137 hW) (rf_137_8 hW) (by decide) ?_
                  refine x_aload_n d148_74 rfl ?_
                  refine x_getI d148_75 gY_148.2.2.2 gF_12_159 rfl (sh_137 hW) ?_
                  refine x_iload_n d148_78 rfl ?_
                  refine x_iast d148_79 (sh_140 hW) e1.1 e1.2 ?_
                  refine x_aload_n d148_80 rfl ?_
                  refine x_getR (r := 141) d148_81 gY_148.2.2.2 gF_12_19 rfl (sh_137 hW) (rf_137_9 hW) (by decide) ?_
                  refine x_aload_n d148_84 rfl ?_
                  refine x_getI d148_85 gY_148.2.2.2 gF_12_159 rfl (sh_137 hW) ?_
                  refine x_bipush d148_88 rfl ?_
                  refine x_iast d148_90 (sh_141 hW) e1.1 e1.2 ?_
                  refine x_iload_n d148_91 rfl ?_
                  refine x_if1 (pc2 := 103) d148_92 rfl (fun c => ?_) (fun c => ?_)
                  · replace c : ¬ x3 = 0 := c
                    rw [if_pos c] at k
                    refine x_aload_n d148_103 rfl ?_
                    refine x_aload_n d148_104 rfl ?_
                    refine x_getI d148_105 gY_148.2.2.2 gF_12_159 rfl (sh_137 hW) ?_
                    refine x_iconst d148_108 rfl ?_
                    have e2 := k.1
                    replace k := k.2
                    refine x_iadd d148_109 e2 ?_
                    refine x_putI d148_110 gY_148.2.2.2 gF_12_159 rfl rfl (sh_137 hW) ?_
                    refine x_aload_n d148_113 rfl ?_
                    refine x_getI d148_114 gY_148.2.2.2 gF_12_159 rfl (sh_137 hW) ?_
                    refine x_iconst d148_117 rfl ?_
                    have e3 := k.1
                    replace k := k.2
                    refine x_isub d148_118 e3 ?_
                    exact x_iret d148_119 gR_148 ⟨_, _, rfl, rfl, k⟩
                  · replace c : ¬ (¬ x3 = 0) := c
                    rw [if_neg c] at k
                    refine x_aload_n d148_95 rfl ?_
                    refine x_aload_n d148_96 rfl ?_
                    refine x_getI d148_97 gY_148.2.2.2 gF_12_159 rfl (sh_137 hW) ?_
                    refine y_inv (as := [.inl (I 137 0)]) (t := []) (o := 137) (ls2 := [some (.inr 137), some (.inl (I 137 0))]) gY_147 d148_100 gY_148.2.2.2 gM_12_176 rfl (sh_137 hW) rfl rfl ?_
                    refine x_aload_n d147_0 rfl ?_
                    refine x_getR (r := 142) d147_1 gY_147.2.2.2 gF_12_22 rfl (sh_137 hW) (rf_137_10 hW) (by decide) ?_
                    refine x_aload_n d147_4 rfl ?_
                    refine x_getI d147_5 gY_147.2.2.2 gF_12_162 rfl (sh_137 hW) ?_
                    refine x_iload_n d147_8 rfl ?_
                    have e4 := k.1
                    replace k := k.2
                    refine x_iast d147_9 (sh_142 hW) e4.1 e4.2 ?_
                    refine x_aload_n d147_10 rfl ?_
                    refine x_aload_n d147_11 rfl ?_
                    refine x_getI d147_12 gY_147.2.2.2 gF_12_162 rfl (sh_137 hW) ?_
                    refine x_iconst d147_15 rfl ?_
                    have e5 := k.1
                    replace k := k.2
                    refine x_iadd d147_16 e5 ?_
                    refine x_putI d147_17 gY_147.2.2.2 gF_12_162 rfl rfl (sh_137 hW) ?_
                    refine x_vret d147_20 gR_147 ?_
                    show Ex (d + 1) 148 103 [some (.inr 137), some (.inl x1), some (.inl x2), some (.inl x3)] [] (0, 0, n, sh, R, (zup (zup (zup (zup (zup (zup I 138 (I 137 0).toNat x1) 139 (I 137 0).toNat x2) 140 (I 137 0).toNat x3) 141 (I 137 0).toNat 9) 142 (I 137 1).toNat (I 137 0)) 137 1 (I 137 1 + 1))) _
                    refine x_aload_n d148_103 rfl ?_
                    refine x_aload_n d148_104 rfl ?_
                    refine x_getI d148_105 gY_148.2.2.2 gF_12_159 rfl (sh_137 hW) ?_
                    refine x_iconst d148_108 rfl ?_
                    have e6 := k.1
                    replace k := k.2
                    refine x_iadd d148_109 e6 ?_
                    refine x_putI d148_110 gY_148.2.2.2 gF_12_159 rfl rfl (sh_137 hW) ?_
                    refine x_aload_n d148_113 rfl ?_
                    refine x_getI d148_114 gY_148.2.2.2 gF_12_159 rfl (sh_137 hW) ?_
                    refine x_iconst d148_117 rfl ?_
                    have e7 := k.1
                    replace k := k.2
                    refine x_isub d148_118 e7 ?_
                    exact x_iret d148_119 gR_148 ⟨_, _, rfl, rfl, k⟩
                · replace c : ¬ (¬ I 137 0 = 32) := c
                  rw [if_neg c] at k
                  refine x_iconst d148_48 rfl ?_
                  exact x_iret d148_49 gR_148 ⟨_, _, rfl, rfl, k⟩
              · replace c : ¬ (x3 ≤ 0) := c
                rw [if_neg c] at k
                refine x_iload_n d148_31 rfl ?_
                refine x_aload_n d148_32 rfl ?_
                refine x_getI d148_33 gY_148.2.2.2 gF_12_173 rfl (sh_137 hW) ?_
                refine x_if2 (pc2 := 48) d148_36 rfl (fun c => ?_) (fun c => ?_)
                · replace c : x3 ≤ I 137 2 := c
                  rw [if_pos c] at k
                  refine x_iconst d148_48 rfl ?_
                  exact x_iret d148_49 gR_148 ⟨_, _, rfl, rfl, k⟩
                · replace c : ¬ (x3 ≤ I 137 2) := c
                  rw [if_neg c] at k
                  refine x_aload_n d148_39 rfl ?_
                  refine x_getI d148_40 gY_148.2.2.2 gF_12_159 rfl (sh_137 hW) ?_
                  refine x_bipush d148_43 rfl ?_
                  refine x_if2 (pc2 := 50) d148_45 rfl (fun c => ?_) (fun c => ?_)
                  · replace c : ¬ I 137 0 = 32 := c
                    rw [if_pos c] at k
                    refine x_aload_n d148_50 rfl ?_
                    refine x_getR (r := 138) d148_51 gY_148.2.2.2 gF_12_7 rfl (sh_137 hW) (rf_137_6 hW) (by decide) ?_
                    refine x_aload_n d148_54 rfl ?_
                    refine x_getI d148_55 gY_148.2.2.2 gF_12_159 rfl (sh_137 hW) ?_
                    refine x_iload_n d148_58 rfl ?_
                    have e8 := k.1
                    replace k := k.2
                    refine x_iast d148_59 (sh_138 hW) e8.1 e8.2 ?_
                    refine x_aload_n d148_60 rfl ?_
                    refine x_getR (r := 139) d148_61 gY_148.2.2.2 gF_12_13 rfl (sh_137 hW) (rf_137_7 hW) (by decide) ?_
                    refine x_aload_n d148_64 rfl ?_
                    refine x_getI d148_65 gY_148.2.2.2 gF_12_159 rfl (sh_137 hW) ?_
                    refine x_iload_n d148_68 rfl ?_
                    refine x_iast d148_69 (sh_139 hW) e8.1 e8.2 ?_
                    refine x_aload_n d148_70 rfl ?_
                    refine x_getR (r := 140) d148_71 gY_148.2.2.2 gF_12_16 rfl (sh_137 hW) (rf_137_8 hW) (by decide) ?_
                    refine x_aload_n d148_74 rfl ?_
                    refine x_getI d148_75 gY_148.2.2.2 gF_12_159 rfl (sh_137 hW) ?_
                    refine x_iload_n d148_78 rfl ?_
                    refine x_iast d148_79 (sh_140 hW) e8.1 e8.2 ?_
                    refine x_aload_n d148_80 rfl ?_
                    refine x_getR (r := 141) d148_81 gY_148.2.2.2 gF_12_19 rfl (sh_137 hW) (rf_137_9 hW) (by decide) ?_
                    refine x_aload_n d148_84 rfl ?_
                    refine x_getI d148_85 gY_148.2.2.2 gF_12_159 rfl (sh_137 hW) ?_
                    refine x_bipush d148_88 rfl ?_
                    refine x_iast d148_90 (sh_141 hW) e8.1 e8.2 ?_
                    refine x_iload_n d148_91 rfl ?_
                    refine x_if1 (pc2 := 103) d148_92 rfl (fun c => ?_) (fun c => ?_)
                    · replace c : ¬ x3 = 0 := c
                      rw [if_pos c] at k
                      refine x_aload_n d148_103 rfl ?_
                      refine x_aload_n d148_104 rfl ?_
                      refine x_getI d148_105 gY_148.2.2.2 gF_12_159 rfl (sh_137 hW) ?_
                      refine x_iconst d148_108 rfl ?_
                      have e9 := k.1
                      replace k := k.2
                      refine x_iadd d148_109 e9 ?_
                      refine x_putI d148_110 gY_148.2.2.2 gF_12_159 rfl rfl (sh_137 hW) ?_
                      refine x_aload_n d148_113 rfl ?_
                      refine x_getI d148_114 gY_148.2.2.2 gF_12_159 rfl (sh_137 hW) ?_
                      refine x_iconst d148_117 rfl ?_
                      have e10 := k.1
                      replace k := k.2
                      refine x_isub d148_118 e10 ?_
                      exact x_iret d148_119 gR_148 ⟨_, _, rfl, rfl, k⟩
                    · replace c : ¬ (¬ x3 = 0) := c
                      rw [if_neg c] at k
                      refine x_aload_n d148_95 rfl ?_
                      refine x_aload_n d148_96 rfl ?_
                      refine x_getI d148_97 gY_148.2.2.2 gF_12_159 rfl (sh_137 hW) ?_
                      refine y_inv (as := [.inl (I 137 0)]) (t := []) (o := 137) (ls2 := [some (.inr 137), some (.inl (I 137 0))]) gY_147 d148_100 gY_148.2.2.2 gM_12_176 rfl (sh_137 hW) rfl rfl ?_
                      refine x_aload_n d147_0 rfl ?_
                      refine x_getR (r := 142) d147_1 gY_147.2.2.2 gF_12_22 rfl (sh_137 hW) (rf_137_10 hW) (by decide) ?_
                      refine x_aload_n d147_4 rfl ?_
                      refine x_getI d147_5 gY_147.2.2.2 gF_12_162 rfl (sh_137 hW) ?_
                      refine x_iload_n d147_8 rfl ?_
                      have e11 := k.1
                      replace k := k.2
                      refine x_iast d147_9 (sh_142 hW) e11.1 e11.2 ?_
                      refine x_aload_n d147_10 rfl ?_
                      refine x_aload_n d147_11 rfl ?_
                      refine x_getI d147_12 gY_147.2.2.2 gF_12_162 rfl (sh_137 hW) ?_
                      refine x_iconst d147_15 rfl ?_
                      have e12 := k.1
                      replace k := k.2
                      refine x_iadd d147_16 e12 ?_
                      refine x_putI d147_17 gY_147.2.2.2 gF_12_162 rfl rfl (sh_137 hW) ?_
                      refine x_vret d147_20 gR_147 ?_
                      show Ex (d + 1) 148 103 [some (.inr 137), some (.inl x1), some (.inl x2), some (.inl x3)] [] (0, 0, n, sh, R, (zup (zup (zup (zup (zup (zup I 138 (I 137 0).toNat x1) 139 (I 137 0).toNat x2) 140 (I 137 0).toNat x3) 141 (I 137 0).toNat 9) 142 (I 137 1).toNat (I 137 0)) 137 1 (I 137 1 + 1))) _
                      refine x_aload_n d148_103 rfl ?_
                      refine x_aload_n d148_104 rfl ?_
                      refine x_getI d148_105 gY_148.2.2.2 gF_12_159 rfl (sh_137 hW) ?_
                      refine x_iconst d148_108 rfl ?_
                      have e13 := k.1
                      replace k := k.2
                      refine x_iadd d148_109 e13 ?_
                      refine x_putI d148_110 gY_148.2.2.2 gF_12_159 rfl rfl (sh_137 hW) ?_
                      refine x_aload_n d148_113 rfl ?_
                      refine x_getI d148_114 gY_148.2.2.2 gF_12_159 rfl (sh_137 hW) ?_
                      refine x_iconst d148_117 rfl ?_
                      have e14 := k.1
                      replace k := k.2
                      refine x_isub d148_118 e14 ?_
                      exact x_iret d148_119 gR_148 ⟨_, _, rfl, rfl, k⟩
                  · replace c : ¬ (¬ I 137 0 = 32) := c
                    rw [if_neg c] at k
                    refine x_iconst d148_48 rfl ?_
                    exact x_iret d148_49 gR_148 ⟨_, _, rfl, rfl, k⟩
set_option maxHeartbeats 4000000 in
theorem b_M_placeOf_0 {d n : Nat} {sh : ZS} {R : ZR} {I : ZI} {Q : Int → ZI → Prop} (hW : Wf sh R) {x1 : Int}
    (k : XIs d 151 2 [some (.inr 137), some (.inl x1), some (.inl 0)] [] n sh R I Q) : XI d 151 [.inr 137, .inl x1] n sh R I Q := by
  refine XI.of (ls := [some (.inr 137), some (.inl x1), none]) (zloc_eq gY_151.2.2.1) ?_
  unfold XIs
  refine x_iconst d151_0 rfl ?_
  refine x_istore_n (ls2 := [some (.inr 137), some (.inl x1), some (.inl 0)]) d151_1 rfl rfl ?_
  exact k
set_option maxHeartbeats 4000000 in
theorem b_M_placeOf_2 {d n : Nat} {sh : ZS} {R : ZR} {I : ZI} {Q : Int → ZI → Prop} (hW : Wf sh R) {x1 : Int} {x2 : Int}
    (k : (if I 137 1 ≤ x2 then Q (-1) I else (0 ≤ x2 ∧ x2 < 32) ∧ (if ¬ I 142 (x2).toNat = x1 then (zr (x2 + 1)) ∧ XIs d 151 2 [some (.inr 137), some (.inl x1), some (.inl (x2 + 1))] [] n sh R I Q else Q x2 I))) : XIs d 151 2 [some (.inr 137), some (.inl x1), some (.inl x2)] [] n sh R I Q := by
  unfold XIs
  refine x_iload_n d151_2 rfl ?_
  refine x_aload_n d151_3 rfl ?_
  refine x_getI d151_4 gY_151.2.2.2 gF_12_162 rfl (sh_137 hW) ?_
  refine x_if2 (pc2 := 28) d151_7 rfl (fun c => ?_) (fun c => ?_)
  · replace c : I 137 1 ≤ x2 := c
    rw [if_pos c] at k
    refine x_iconst d151_28 rfl ?_
    exact x_iret d151_29 gR_151 ⟨_, _, rfl, rfl, k⟩
  · replace c : ¬ (I 137 1 ≤ x2) := c
    rw [if_neg c] at k
    refine x_aload_n d151_10 rfl ?_
    refine x_getR (r := 142) d151_11 gY_151.2.2.2 gF_12_22 rfl (sh_137 hW) (rf_137_10 hW) (by decide) ?_
    refine x_iload_n d151_14 rfl ?_
    have e1 := k.1
    replace k := k.2
    refine x_iald d151_15 (sh_142 hW) e1.1 e1.2 ?_
    refine x_iload_n d151_16 rfl ?_
    refine x_if2 (pc2 := 22) d151_17 rfl (fun c => ?_) (fun c => ?_)
    · replace c : ¬ I 142 (x2).toNat = x1 := c
      rw [if_pos c] at k
      have e2 := k.1
      replace k := k.2
      refine x_iinc (ls2 := [some (.inr 137), some (.inl x1), some (.inl (x2 + 1))]) d151_22 rfl e2 rfl ?_
      refine x_goto (pc2 := 2) d151_25 rfl ?_
      exact k
    · replace c : ¬ (¬ I 142 (x2).toNat = x1) := c
      rw [if_neg c] at k
      refine x_iload_n d151_20 rfl ?_
      exact x_iret d151_21 gR_151 ⟨_, _, rfl, rfl, k⟩
set_option maxHeartbeats 4000000 in
theorem b_M_outOf_0 {d n : Nat} {sh : ZS} {R : ZR} {I : ZI} {Q : Int → ZI → Prop} (hW : Wf sh R) 
    (k : XIs (d + 1) 196 2 [some (.inr 137), some (.inl 1)] [] n sh R I Q) : XI (d + 1) 196 [.inr 137] n sh R I Q := by
  refine XI.of (ls := [some (.inr 137), none]) (zloc_eq gY_196.2.2.1) ?_
  unfold XIs
  refine x_iconst d196_0 rfl ?_
  refine x_istore_n (ls2 := [some (.inr 137), some (.inl 1)]) d196_1 rfl rfl ?_
  exact k
set_option maxHeartbeats 4000000 in
theorem b_M_outOf_2 {d n : Nat} {sh : ZS} {R : ZR} {I : ZI} {Q : Int → ZI → Prop} (hW : Wf sh R) {x1 : Int}
    (k : (if I 137 1 ≤ x1 then Q (-1) I else (0 ≤ x1 ∧ x1 < 32) ∧ (0 ≤ I 142 (x1).toNat ∧ I 142 (x1).toNat < 32) ∧ (0 ≤ I 138 (I 142 (x1).toNat).toNat ∧ I 138 (I 142 (x1).toNat).toNat < 20) ∧ (zr (x1 - 1)) ∧ (0 ≤ (x1 - 1) ∧ (x1 - 1) < 32) ∧ (0 ≤ I 142 (x1 - 1).toNat ∧ I 142 (x1 - 1).toNat < 32) ∧ (0 ≤ I 138 (I 142 (x1 - 1).toNat).toNat ∧ I 138 (I 142 (x1 - 1).toNat).toNat < 20) ∧ (if I 143 (I 138 (I 142 (x1 - 1).toNat).toNat).toNat ≤ I 143 (I 138 (I 142 (x1).toNat).toNat).toNat then (zr (x1 + 1)) ∧ XIs (d + 1) 196 2 [some (.inr 137), some (.inl (x1 + 1))] [] n sh R I Q else Q x1 I))) : XIs (d + 1) 196 2 [some (.inr 137), some (.inl x1)] [] n sh R I Q := by
  unfold XIs
  refine x_iload_n d196_2 rfl ?_
  refine x_aload_n d196_3 rfl ?_
  refine x_getI d196_4 gY_196.2.2.2 gF_12_162 rfl (sh_137 hW) ?_
  refine x_if2 (pc2 := 43) d196_7 rfl (fun c => ?_) (fun c => ?_)
  · replace c : I 137 1 ≤ x1 := c
    rw [if_pos c] at k
    refine x_iconst d196_43 rfl ?_
    exact x_iret d196_44 gR_196 ⟨_, _, rfl, rfl, k⟩
  · replace c : ¬ (I 137 1 ≤ x1) := c
    rw [if_neg c] at k
    refine x_aload_n d196_10 rfl ?_
    refine x_aload_n d196_11 rfl ?_
    refine x_getR (r := 142) d196_12 gY_196.2.2.2 gF_12_22 rfl (sh_137 hW) (rf_137_10 hW) (by decide) ?_
    refine x_iload_n d196_15 rfl ?_
    have e1 := k.1
    replace k := k.2
    refine x_iald d196_16 (sh_142 hW) e1.1 e1.2 ?_
    refine y_inv (as := [.inl (I 142 (x1).toNat)]) (t := []) (o := 137) (ls2 := [some (.inr 137), some (.inl (I 142 (x1).toNat))]) gY_146 d196_17 gY_196.2.2.2 gM_12_291 rfl (sh_137 hW) rfl rfl ?_
    refine x_aload_n d146_0 rfl ?_
    refine x_getR (r := 143) d146_1 gY_146.2.2.2 gF_12_25 rfl (sh_137 hW) (rf_137_11 hW) (by decide) ?_
    refine x_aload_n d146_4 rfl ?_
    refine x_getR (r := 138) d146_5 gY_146.2.2.2 gF_12_7 rfl (sh_137 hW) (rf_137_6 hW) (by decide) ?_
    refine x_iload_n d146_8 rfl ?_
    have e2 := k.1
    replace k := k.2
    refine x_iald d146_9 (sh_138 hW) e2.1 e2.2 ?_
    have e3 := k.1
    replace k := k.2
    refine x_iald d146_10 (sh_143 hW) e3.1 e3.2 ?_
    refine x_iret d146_11 gR_146 ?_
    show Ex (d + 1) 196 20 [some (.inr 137), some (.inl x1)] [.inl (I 143 (I 138 (I 142 (x1).toNat).toNat).toNat)] (0, 0, n, sh, R, I) _
    refine x_aload_n d196_20 rfl ?_
    refine x_aload_n d196_21 rfl ?_
    refine x_getR (r := 142) d196_22 gY_196.2.2.2 gF_12_22 rfl (sh_137 hW) (rf_137_10 hW) (by decide) ?_
    refine x_iload_n d196_25 rfl ?_
    refine x_iconst d196_26 rfl ?_
    have e4 := k.1
    replace k := k.2
    refine x_isub d196_27 e4 ?_
    have e5 := k.1
    replace k := k.2
    refine x_iald d196_28 (sh_142 hW) e5.1 e5.2 ?_
    refine y_inv (as := [.inl (I 142 (x1 - 1).toNat)]) (t := [.inl (I 143 (I 138 (I 142 (x1).toNat).toNat).toNat)]) (o := 137) (ls2 := [some (.inr 137), some (.inl (I 142 (x1 - 1).toNat))]) gY_146 d196_29 gY_196.2.2.2 gM_12_291 rfl (sh_137 hW) rfl rfl ?_
    refine x_aload_n d146_0 rfl ?_
    refine x_getR (r := 143) d146_1 gY_146.2.2.2 gF_12_25 rfl (sh_137 hW) (rf_137_11 hW) (by decide) ?_
    refine x_aload_n d146_4 rfl ?_
    refine x_getR (r := 138) d146_5 gY_146.2.2.2 gF_12_7 rfl (sh_137 hW) (rf_137_6 hW) (by decide) ?_
    refine x_iload_n d146_8 rfl ?_
    have e6 := k.1
    replace k := k.2
    refine x_iald d146_9 (sh_138 hW) e6.1 e6.2 ?_
    have e7 := k.1
    replace k := k.2
    refine x_iald d146_10 (sh_143 hW) e7.1 e7.2 ?_
    refine x_iret d146_11 gR_146 ?_
    show Ex (d + 1) 196 32 [some (.inr 137), some (.inl x1)] [.inl (I 143 (I 138 (I 142 (x1 - 1).toNat).toNat).toNat), .inl (I 143 (I 138 (I 142 (x1).toNat).toNat).toNat)] (0, 0, n, sh, R, I) _
    refine x_if2 (pc2 := 37) d196_32 rfl (fun c => ?_) (fun c => ?_)
    · replace c : I 143 (I 138 (I 142 (x1 - 1).toNat).toNat).toNat ≤ I 143 (I 138 (I 142 (x1).toNat).toNat).toNat := c
      rw [if_pos c] at k
      have e8 := k.1
      replace k := k.2
      refine x_iinc (ls2 := [some (.inr 137), some (.inl (x1 + 1))]) d196_37 rfl e8 rfl ?_
      refine x_goto (pc2 := 2) d196_40 rfl ?_
      exact k
    · replace c : ¬ (I 143 (I 138 (I 142 (x1 - 1).toNat).toNat).toNat ≤ I 143 (I 138 (I 142 (x1).toNat).toNat).toNat) := c
      rw [if_neg c] at k
      refine x_iload_n d196_35 rfl ?_
      exact x_iret d196_36 gR_196 ⟨_, _, rfl, rfl, k⟩
set_option maxHeartbeats 4000000 in
theorem b_M_comesTo_0 {d n : Nat} {sh : ZS} {R : ZR} {I : ZI} {Q : Int → ZI → Prop} (hW : Wf sh R) {x1 : Int} {x2 : Int}
    (k : (0 ≤ x1 ∧ x1 < 2147483648) ∧ (zr (220 * (x1 / 220))) ∧ XIs (d + 1) 176 16 [some (.inr 137), some (.inl x1), some (.inl x2), some (.inl 0), some (.inl (220 * (x1 / 220))), some (.inl x1), none, none] [] n sh R I Q) : XI (d + 1) 176 [.inr 137, .inl x1, .inl x2] n sh R I Q := by
  refine XI.of (ls := [some (.inr 137), some (.inl x1), some (.inl x2), none, none, none, none, none]) (zloc_eq gY_176.2.2.1) ?_
  unfold XIs
  refine x_iconst d176_0 rfl ?_
  refine x_istore_n (ls2 := [some (.inr 137), some (.inl x1), some (.inl x2), some (.inl 0), none, none, none, none]) d176_1 rfl rfl ?_
  refine x_sipush d176_2 rfl ?_
  refine x_iload_n d176_5 rfl ?_
  refine x_sipush d176_6 rfl ?_
  have e1 := k.1
  replace k := k.2
  refine x_idiv d176_9 e1 (by decide) ?_
  have e2 := k.1
  replace k := k.2
  refine x_imul d176_10 e2 ?_
  refine x_istore (ls2 := [some (.inr 137), some (.inl x1), some (.inl x2), some (.inl 0), some (.inl (220 * (x1 / 220))), none, none, none]) d176_11 rfl rfl ?_
  refine x_iload_n d176_13 rfl ?_
  refine x_istore (ls2 := [some (.inr 137), some (.inl x1), some (.inl x2), some (.inl 0), some (.inl (220 * (x1 / 220))), some (.inl x1), none, none]) d176_14 rfl rfl ?_
  exact k
set_option maxHeartbeats 4000000 in
theorem b_M_comesTo_16 {d n : Nat} {sh : ZS} {R : ZR} {I : ZI} {Q : Int → ZI → Prop} (hW : Wf sh R) {u1 : Option AV} {x2 : Int} {x3 : Int} {x4 : Int} {x5 : Int} {u6 : Option AV} {u7 : Option AV}
    (k : (if x2 ≤ x5 then Q (I 156 0) I else (0 ≤ x5 ∧ x5 < 220) ∧ (0 ≤ I 151 (x5).toNat ∧ I 151 (x5).toNat < 2147483648) ∧ (0 ≤ I 151 (x5).toNat) ∧ (zr (x5 + 1)) ∧ (if (I 151 (x5).toNat / 1048576) = 0 then (if ¬ (I 151 (x5).toNat / 1048576) = 0 then (0 ≤ (I 151 (x5).toNat % 1048576) ∧ (I 151 (x5).toNat % 1048576) < 8) ∧ (0 ≤ x3 ∧ x3 < 220) ∧ (zr (x3 + 1)) ∧ XIs (d + 1) 176 16 [some (.inr 137), u1, some (.inl x2), some (.inl (x3 + 1)), some (.inl x4), some (.inl (x5 + 1)), some (.inl (I 151 (x5).toNat / 1048576)), some (.inl (I 151 (x5).toNat % 1048576))] [] n sh R (zup I 156 (x3).toNat (I 157 (I 151 (x5).toNat % 1048576).toNat)) Q else (0 ≤ x3 ∧ x3 < 220) ∧ (zr (x3 + 1)) ∧ XIs (d + 1) 176 16 [some (.inr 137), u1, some (.inl x2), some (.inl (x3 + 1)), some (.inl x4), some (.inl (x5 + 1)), some (.inl (I 151 (x5).toNat / 1048576)), some (.inl (I 151 (x5).toNat % 1048576))] [] n sh R (zup I 156 (x3).toNat (I 151 (x5).toNat % 1048576)) Q) else (if ¬ (I 151 (x5).toNat / 1048576) = 1 then (if ¬ (I 151 (x5).toNat / 1048576) = 10 then (if (I 151 (x5).toNat / 1048576) = 11 then (zr (x3 - 1)) ∧ (0 ≤ (x3 - 1) ∧ (x3 - 1) < 220) ∧ (if ¬ (I 151 (x5).toNat / 1048576) = 12 then (if ¬ I 156 (x3 - 1).toNat = 0 then XIs (d + 1) 176 16 [some (.inr 137), u1, some (.inl x2), some (.inl (x3 - 1)), some (.inl x4), some (.inl (x5 + 1)), some (.inl (I 151 (x5).toNat / 1048576)), some (.inl (I 151 (x5).toNat % 1048576))] [] n sh R I Q else (zr (x4 + (I 151 (x5).toNat % 1048576))) ∧ XIs (d + 1) 176 16 [some (.inr 137), u1, some (.inl x2), some (.inl x3), some (.inl x4), some (.inl (x4 + (I 151 (x5).toNat % 1048576))), some (.inl (I 151 (x5).toNat / 1048576)), some (.inl (I 151 (x5).toNat % 1048576))] [] n sh R I Q) else (if ¬ I 156 (x3 - 1).toNat = 1 then XIs (d + 1) 176 16 [some (.inr 137), u1, some (.inl x2), some (.inl (x3 - 1)), some (.inl x4), some (.inl (x5 + 1)), some (.inl (I 151 (x5).toNat / 1048576)), some (.inl (I 151 (x5).toNat % 1048576))] [] n sh R I Q else (zr (x4 + (I 151 (x5).toNat % 1048576))) ∧ XIs (d + 1) 176 16 [some (.inr 137), u1, some (.inl x2), some (.inl x3), some (.inl x4), some (.inl (x4 + (I 151 (x5).toNat % 1048576))), some (.inl (I 151 (x5).toNat / 1048576)), some (.inl (I 151 (x5).toNat % 1048576))] [] n sh R I Q)) else (if ¬ (I 151 (x5).toNat / 1048576) = 12 then (zr (x3 - 1)) ∧ (if (I 151 (x5).toNat / 1048576) = 5 then (0 ≤ (x3 - 1) ∧ (x3 - 1) < 220) ∧ (if ¬ I 156 (x3 - 1).toNat = 0 then (zr ((x3 - 1) - 1)) ∧ (0 ≤ ((x3 - 1) - 1) ∧ ((x3 - 1) - 1) < 220) ∧ XI d 175 [.inl (I 151 (x5).toNat / 1048576), .inl (I 156 ((x3 - 1) - 1).toNat), .inl (I 156 (x3 - 1).toNat)] n sh R I (fun v18 I19 => XIs (d + 1) 176 16 [some (.inr 137), u1, some (.inl x2), some (.inl (x3 - 1)), some (.inl x4), some (.inl (x5 + 1)), some (.inl (I 151 (x5).toNat / 1048576)), some (.inl (I 151 (x5).toNat % 1048576))] [] n sh R (zup I19 156 ((x3 - 1) - 1).toNat v18) Q) else Q 0 I) else (if ¬ (I 151 (x5).toNat / 1048576) = 6 then (zr ((x3 - 1) - 1)) ∧ (0 ≤ ((x3 - 1) - 1) ∧ ((x3 - 1) - 1) < 220) ∧ (0 ≤ (x3 - 1) ∧ (x3 - 1) < 220) ∧ XI d 175 [.inl (I 151 (x5).toNat / 1048576), .inl (I 156 ((x3 - 1) - 1).toNat), .inl (I 156 (x3 - 1).toNat)] n sh R I (fun v23 I24 => XIs (d + 1) 176 16 [some (.inr 137), u1, some (.inl x2), some (.inl (x3 - 1)), some (.inl x4), some (.inl (x5 + 1)), some (.inl (I 151 (x5).toNat / 1048576)), some (.inl (I 151 (x5).toNat % 1048576))] [] n sh R (zup I24 156 ((x3 - 1) - 1).toNat v23) Q) else (0 ≤ (x3 - 1) ∧ (x3 - 1) < 220) ∧ (if ¬ I 156 (x3 - 1).toNat = 0 then (zr ((x3 - 1) - 1)) ∧ (0 ≤ ((x3 - 1) - 1) ∧ ((x3 - 1) - 1) < 220) ∧ XI d 175 [.inl (I 151 (x5).toNat / 1048576), .inl (I 156 ((x3 - 1) - 1).toNat), .inl (I 156 (x3 - 1).toNat)] n sh R I (fun v28 I29 => XIs (d + 1) 176 16 [some (.inr 137), u1, some (.inl x2), some (.inl (x3 - 1)), some (.inl x4), some (.inl (x5 + 1)), some (.inl (I 151 (x5).toNat / 1048576)), some (.inl (I 151 (x5).toNat % 1048576))] [] n sh R (zup I29 156 ((x3 - 1) - 1).toNat v28) Q) else Q 0 I))) else (zr (x3 - 1)) ∧ (0 ≤ (x3 - 1) ∧ (x3 - 1) < 220) ∧ (if ¬ (I 151 (x5).toNat / 1048576) = 12 then (if ¬ I 156 (x3 - 1).toNat = 0 then XIs (d + 1) 176 16 [some (.inr 137), u1, some (.inl x2), some (.inl (x3 - 1)), some (.inl x4), some (.inl (x5 + 1)), some (.inl (I 151 (x5).toNat / 1048576)), some (.inl (I 151 (x5).toNat % 1048576))] [] n sh R I Q else (zr (x4 + (I 151 (x5).toNat % 1048576))) ∧ XIs (d + 1) 176 16 [some (.inr 137), u1, some (.inl x2), some (.inl x3), some (.inl x4), some (.inl (x4 + (I 151 (x5).toNat % 1048576))), some (.inl (I 151 (x5).toNat / 1048576)), some (.inl (I 151 (x5).toNat % 1048576))] [] n sh R I Q) else (if ¬ I 156 (x3 - 1).toNat = 1 then XIs (d + 1) 176 16 [some (.inr 137), u1, some (.inl x2), some (.inl (x3 - 1)), some (.inl x4), some (.inl (x5 + 1)), some (.inl (I 151 (x5).toNat / 1048576)), some (.inl (I 151 (x5).toNat % 1048576))] [] n sh R I Q else (zr (x4 + (I 151 (x5).toNat % 1048576))) ∧ XIs (d + 1) 176 16 [some (.inr 137), u1, some (.inl x2), some (.inl x3), some (.inl x4), some (.inl (x4 + (I 151 (x5).toNat % 1048576))), some (.inl (I 151 (x5).toNat / 1048576)), some (.inl (I 151 (x5).toNat % 1048576))] [] n sh R I Q)))) else (zr (x3 - 1)) ∧ (0 ≤ (x3 - 1) ∧ (x3 - 1) < 220) ∧ (zr (1 - I 156 (x3 - 1).toNat)) ∧ XIs (d + 1) 176 16 [some (.inr 137), u1, some (.inl x2), some (.inl x3), some (.inl x4), some (.inl (x5 + 1)), some (.inl (I 151 (x5).toNat / 1048576)), some (.inl (I 151 (x5).toNat % 1048576))] [] n sh R (zup I 156 (x3 - 1).toNat (1 - I 156 (x3 - 1).toNat)) Q) else (if ¬ (I 151 (x5).toNat / 1048576) = 0 then (0 ≤ (I 151 (x5).toNat % 1048576) ∧ (I 151 (x5).toNat % 1048576) < 8) ∧ (0 ≤ x3 ∧ x3 < 220) ∧ (zr (x3 + 1)) ∧ XIs (d + 1) 176 16 [some (.inr 137), u1, some (.inl x2), some (.inl (x3 + 1)), some (.inl x4), some (.inl (x5 + 1)), some (.inl (I 151 (x5).toNat / 1048576)), some (.inl (I 151 (x5).toNat % 1048576))] [] n sh R (zup I 156 (x3).toNat (I 157 (I 151 (x5).toNat % 1048576).toNat)) Q else (0 ≤ x3 ∧ x3 < 220) ∧ (zr (x3 + 1)) ∧ XIs (d + 1) 176 16 [some (.inr 137), u1, some (.inl x2), some (.inl (x3 + 1)), some (.inl x4), some (.inl (x5 + 1)), some (.inl (I 151 (x5).toNat / 1048576)), some (.inl (I 151 (x5).toNat % 1048576))] [] n sh R (zup I 156 (x3).toNat (I 151 (x5).toNat % 1048576)) Q))))) : XIs (d + 1) 176 16 [some (.inr 137), u1, some (.inl x2), some (.inl x3), some (.inl x4), some (.inl x5), u6, u7] [] n sh R I Q := by
  unfold XIs
  refine x_iload d176_16 rfl ?_
  refine x_iload_n d176_18 rfl ?_
  refine x_if2 (pc2 := 233) d176_19 rfl (fun c => ?_) (fun c => ?_)
  · replace c : x2 ≤ x5 := c
    rw [if_pos c] at k
    refine x_aload_n d176_233 rfl ?_
    refine x_getR (r := 156) d176_234 gY_176.2.2.2 gF_12_65 rfl (sh_137 hW) (rf_137_34 hW) (by decide) ?_
    refine x_iconst d176_237 rfl ?_
    refine x_iald d176_238 (sh_156 hW) (by decide) (by decide) ?_
    exact x_iret d176_239 gR_176 ⟨_, _, rfl, rfl, k⟩
  · replace c : ¬ (x2 ≤ x5) := c
    rw [if_neg c] at k
    refine x_aload_n d176_22 rfl ?_
    refine x_getR (r := 151) d176_23 gY_176.2.2.2 gF_12_50 rfl (sh_137 hW) (rf_137_29 hW) (by decide) ?_
    refine x_iload d176_26 rfl ?_
    have e1 := k.1
    replace k := k.2
    refine x_iald d176_28 (sh_151 hW) e1.1 e1.2 ?_
    refine x_ldc d176_29 gY_176.2.2.2 gK_12_216 rfl ?_
    have e2 := k.1
    replace k := k.2
    refine x_idiv d176_31 e2 (by decide) ?_
    refine x_istore (ls2 := [some (.inr 137), u1, some (.inl x2), some (.inl x3), some (.inl x4), some (.inl x5), some (.inl (I 151 (x5).toNat / 1048576)), u7]) d176_32 rfl rfl ?_
    refine x_aload_n d176_34 rfl ?_
    refine x_getR (r := 151) d176_35 gY_176.2.2.2 gF_12_50 rfl (sh_137 hW) (rf_137_29 hW) (by decide) ?_
    refine x_iload d176_38 rfl ?_
    refine x_iald d176_40 (sh_151 hW) e1.1 e1.2 ?_
    refine x_ldc d176_41 gY_176.2.2.2 gK_12_216 rfl ?_
    have e3 := k.1
    replace k := k.2
    refine x_irem d176_43 e3 (by decide) ?_
    refine x_istore (ls2 := [some (.inr 137), u1, some (.inl x2), some (.inl x3), some (.inl x4), some (.inl x5), some (.inl (I 151 (x5).toNat / 1048576)), some (.inl (I 151 (x5).toNat % 1048576))]) d176_44 rfl rfl ?_
    refine x_iload d176_46 rfl ?_
    refine x_iconst d176_48 rfl ?_
    have e4 := k.1
    replace k := k.2
    refine x_iadd d176_49 e4 ?_
    refine x_istore (ls2 := [some (.inr 137), u1, some (.inl x2), some (.inl x3), some (.inl x4), some (.inl (x5 + 1)), some (.inl (I 151 (x5).toNat / 1048576)), some (.inl (I 151 (x5).toNat % 1048576))]) d176_50 rfl rfl ?_
    refine x_iload d176_52 rfl ?_
    refine x_if1 (pc2 := 63) d176_54 rfl (fun c => ?_) (fun c => ?_)
    · replace c : (I 151 (x5).toNat / 1048576) = 0 := c
      rw [if_pos c] at k
      refine x_aload_n d176_63 rfl ?_
      refine x_getR (r := 156) d176_64 gY_176.2.2.2 gF_12_65 rfl (sh_137 hW) (rf_137_34 hW) (by decide) ?_
      refine x_iload_n d176_67 rfl ?_
      refine x_iload d176_68 rfl ?_
      refine x_if1 (pc2 := 78) d176_70 rfl (fun c => ?_) (fun c => ?_)
      · replace c : ¬ (I 151 (x5).toNat / 1048576) = 0 := c
        rw [if_pos c] at k
        refine x_aload_n d176_78 rfl ?_
        refine x_getR (r := 157) d176_79 gY_176.2.2.2 gF_12_68 rfl (sh_137 hW) (rf_137_35 hW) (by decide) ?_
        refine x_iload d176_82 rfl ?_
        have e5 := k.1
        replace k := k.2
        refine x_iald d176_84 (sh_157 hW) e5.1 e5.2 ?_
        have e6 := k.1
        replace k := k.2
        refine x_iast d176_85 (sh_156 hW) e6.1 e6.2 ?_
        refine x_iload_n d176_86 rfl ?_
        refine x_iconst d176_87 rfl ?_
        have e7 := k.1
        replace k := k.2
        refine x_iadd d176_88 e7 ?_
        refine x_istore_n (ls2 := [some (.inr 137), u1, some (.inl x2), some (.inl (x3 + 1)), some (.inl x4), some (.inl (x5 + 1)), some (.inl (I 151 (x5).toNat / 1048576)), some (.inl (I 151 (x5).toNat % 1048576))]) d176_89 rfl rfl ?_
        refine x_goto (pc2 := 230) d176_90 rfl ?_
        refine x_goto (pc2 := 16) d176_230 rfl ?_
        exact k
      · replace c : ¬ (¬ (I 151 (x5).toNat / 1048576) = 0) := c
        rw [if_neg c] at k
        refine x_iload d176_73 rfl ?_
        refine x_goto (pc2 := 85) d176_75 rfl ?_
        have e8 := k.1
        replace k := k.2
        refine x_iast d176_85 (sh_156 hW) e8.1 e8.2 ?_
        refine x_iload_n d176_86 rfl ?_
        refine x_iconst d176_87 rfl ?_
        have e9 := k.1
        replace k := k.2
        refine x_iadd d176_88 e9 ?_
        refine x_istore_n (ls2 := [some (.inr 137), u1, some (.inl x2), some (.inl (x3 + 1)), some (.inl x4), some (.inl (x5 + 1)), some (.inl (I 151 (x5).toNat / 1048576)), some (.inl (I 151 (x5).toNat % 1048576))]) d176_89 rfl rfl ?_
        refine x_goto (pc2 := 230) d176_90 rfl ?_
        refine x_goto (pc2 := 16) d176_230 rfl ?_
        exact k
    · replace c : ¬ ((I 151 (x5).toNat / 1048576) = 0) := c
      rw [if_neg c] at k
      refine x_iload d176_57 rfl ?_
      refine x_iconst d176_59 rfl ?_
      refine x_if2 (pc2 := 93) d176_60 rfl (fun c => ?_) (fun c => ?_)
      · replace c : ¬ (I 151 (x5).toNat / 1048576) = 1 := c
        rw [if_pos c] at k
        refine x_iload d176_93 rfl ?_
        refine x_bipush d176_95 rfl ?_
        refine x_if2 (pc2 := 121) d176_97 rfl (fun c => ?_) (fun c => ?_)
        · replace c : ¬ (I 151 (x5).toNat / 1048576) = 10 := c
          rw [if_pos c] at k
          refine x_iload d176_121 rfl ?_
          refine x_bipush d176_123 rfl ?_
          refine x_if2 (pc2 := 135) d176_125 rfl (fun c => ?_) (fun c => ?_)
          · replace c : (I 151 (x5).toNat / 1048576) = 11 := c
            rw [if_pos c] at k
            refine x_aload_n d176_135 rfl ?_
            refine x_getR (r := 156) d176_136 gY_176.2.2.2 gF_12_65 rfl (sh_137 hW) (rf_137_34 hW) (by decide) ?_
            refine x_iload_n d176_139 rfl ?_
            refine x_iconst d176_140 rfl ?_
            have e10 := k.1
            replace k := k.2
            refine x_isub d176_141 e10 ?_
            have e11 := k.1
            replace k := k.2
            refine x_iald d176_142 (sh_156 hW) e11.1 e11.2 ?_
            refine x_iload d176_143 rfl ?_
            refine x_bipush d176_145 rfl ?_
            refine x_if2 (pc2 := 154) d176_147 rfl (fun c => ?_) (fun c => ?_)
            · replace c : ¬ (I 151 (x5).toNat / 1048576) = 12 := c
              rw [if_pos c] at k
              refine x_iconst d176_154 rfl ?_
              refine x_if2 (pc2 := 168) d176_155 rfl (fun c => ?_) (fun c => ?_)
              · replace c : ¬ I 156 (x3 - 1).toNat = 0 := c
                rw [if_pos c] at k
                refine x_iload_n d176_168 rfl ?_
                refine x_iconst d176_169 rfl ?_
                refine x_isub d176_170 e10 ?_
                refine x_istore_n (ls2 := [some (.inr 137), u1, some (.inl x2), some (.inl (x3 - 1)), some (.inl x4), some (.inl (x5 + 1)), some (.inl (I 151 (x5).toNat / 1048576)), some (.inl (I 151 (x5).toNat % 1048576))]) d176_171 rfl rfl ?_
                refine x_goto (pc2 := 230) d176_172 rfl ?_
                refine x_goto (pc2 := 16) d176_230 rfl ?_
                exact k
              · replace c : ¬ (¬ I 156 (x3 - 1).toNat = 0) := c
                rw [if_neg c] at k
                refine x_iload d176_158 rfl ?_
                refine x_iload d176_160 rfl ?_
                have e12 := k.1
                replace k := k.2
                refine x_iadd d176_162 e12 ?_
                refine x_istore (ls2 := [some (.inr 137), u1, some (.inl x2), some (.inl x3), some (.inl x4), some (.inl (x4 + (I 151 (x5).toNat % 1048576))), some (.inl (I 151 (x5).toNat / 1048576)), some (.inl (I 151 (x5).toNat % 1048576))]) d176_163 rfl rfl ?_
                refine x_goto (pc2 := 230) d176_165 rfl ?_
                refine x_goto (pc2 := 16) d176_230 rfl ?_
                exact k
            · replace c : ¬ (¬ (I 151 (x5).toNat / 1048576) = 12) := c
              rw [if_neg c] at k
              refine x_iconst d176_150 rfl ?_
              refine x_goto (pc2 := 155) d176_151 rfl ?_
              refine x_if2 (pc2 := 168) d176_155 rfl (fun c => ?_) (fun c => ?_)
              · replace c : ¬ I 156 (x3 - 1).toNat = 1 := c
                rw [if_pos c] at k
                refine x_iload_n d176_168 rfl ?_
                refine x_iconst d176_169 rfl ?_
                refine x_isub d176_170 e10 ?_
                refine x_istore_n (ls2 := [some (.inr 137), u1, some (.inl x2), some (.inl (x3 - 1)), some (.inl x4), some (.inl (x5 + 1)), some (.inl (I 151 (x5).toNat / 1048576)), some (.inl (I 151 (x5).toNat % 1048576))]) d176_171 rfl rfl ?_
                refine x_goto (pc2 := 230) d176_172 rfl ?_
                refine x_goto (pc2 := 16) d176_230 rfl ?_
                exact k
              · replace c : ¬ (¬ I 156 (x3 - 1).toNat = 1) := c
                rw [if_neg c] at k
                refine x_iload d176_158 rfl ?_
                refine x_iload d176_160 rfl ?_
                have e13 := k.1
                replace k := k.2
                refine x_iadd d176_162 e13 ?_
                refine x_istore (ls2 := [some (.inr 137), u1, some (.inl x2), some (.inl x3), some (.inl x4), some (.inl (x4 + (I 151 (x5).toNat % 1048576))), some (.inl (I 151 (x5).toNat / 1048576)), some (.inl (I 151 (x5).toNat % 1048576))]) d176_163 rfl rfl ?_
                refine x_goto (pc2 := 230) d176_165 rfl ?_
                refine x_goto (pc2 := 16) d176_230 rfl ?_
                exact k
          · replace c : ¬ ((I 151 (x5).toNat / 1048576) = 11) := c
            rw [if_neg c] at k
            refine x_iload d176_128 rfl ?_
            refine x_bipush d176_130 rfl ?_
            refine x_if2 (pc2 := 175) d176_132 rfl (fun c => ?_) (fun c => ?_)
            · replace c : ¬ (I 151 (x5).toNat / 1048576) = 12 := c
              rw [if_pos c] at k
              refine x_iload_n d176_175 rfl ?_
              refine x_iconst d176_176 rfl ?_
              have e14 := k.1
              replace k := k.2
              refine x_isub d176_177 e14 ?_
              refine x_istore_n (ls2 := [some (.inr 137), u1, some (.inl x2), some (.inl (x3 - 1)), some (.inl x4), some (.inl (x5 + 1)), some (.inl (I 151 (x5).toNat / 1048576)), some (.inl (I 151 (x5).toNat % 1048576))]) d176_178 rfl rfl ?_
              refine x_iload d176_179 rfl ?_
              refine x_iconst d176_181 rfl ?_
              refine x_if2 (pc2 := 192) d176_182 rfl (fun c => ?_) (fun c => ?_)
              · replace c : (I 151 (x5).toNat / 1048576) = 5 := c
                rw [if_pos c] at k
                refine x_aload_n d176_192 rfl ?_
                refine x_getR (r := 156) d176_193 gY_176.2.2.2 gF_12_65 rfl (sh_137 hW) (rf_137_34 hW) (by decide) ?_
                refine x_iload_n d176_196 rfl ?_
                have e15 := k.1
                replace k := k.2
                refine x_iald d176_197 (sh_156 hW) e15.1 e15.2 ?_
                refine x_if1 (pc2 := 203) d176_198 rfl (fun c => ?_) (fun c => ?_)
                · replace c : ¬ I 156 (x3 - 1).toNat = 0 := c
                  rw [if_pos c] at k
                  refine x_aload_n d176_203 rfl ?_
                  refine x_getR (r := 156) d176_204 gY_176.2.2.2 gF_12_65 rfl (sh_137 hW) (rf_137_34 hW) (by decide) ?_
                  refine x_iload_n d176_207 rfl ?_
                  refine x_iconst d176_208 rfl ?_
                  have e16 := k.1
                  replace k := k.2
                  refine x_isub d176_209 e16 ?_
                  refine x_iload d176_210 rfl ?_
                  refine x_aload_n d176_212 rfl ?_
                  refine x_getR (r := 156) d176_213 gY_176.2.2.2 gF_12_65 rfl (sh_137 hW) (rf_137_34 hW) (by decide) ?_
                  refine x_iload_n d176_216 rfl ?_
                  refine x_iconst d176_217 rfl ?_
                  refine x_isub d176_218 e16 ?_
                  have e17 := k.1
                  replace k := k.2
                  refine x_iald d176_219 (sh_156 hW) e17.1 e17.2 ?_
                  refine x_aload_n d176_220 rfl ?_
                  refine x_getR (r := 156) d176_221 gY_176.2.2.2 gF_12_65 rfl (sh_137 hW) (rf_137_34 hW) (by decide) ?_
                  refine x_iload_n d176_224 rfl ?_
                  refine x_iald d176_225 (sh_156 hW) e15.1 e15.2 ?_
                  refine y_insI (as := [.inl (I 151 (x5).toNat / 1048576), .inl (I 156 ((x3 - 1) - 1).toNat), .inl (I 156 (x3 - 1).toNat)]) (t := [.inl ((x3 - 1) - 1), .inr 156]) gY_175 d176_226 gY_176.2.2.2 gM_12_283 rfl rfl k (fun v18 I19 k => ?_)
                  refine x_iast d176_229 (sh_156 hW) e17.1 e17.2 ?_
                  refine x_goto (pc2 := 16) d176_230 rfl ?_
                  exact k
                · replace c : ¬ (¬ I 156 (x3 - 1).toNat = 0) := c
                  rw [if_neg c] at k
                  refine x_iconst d176_201 rfl ?_
                  exact x_iret d176_202 gR_176 ⟨_, _, rfl, rfl, k⟩
              · replace c : ¬ ((I 151 (x5).toNat / 1048576) = 5) := c
                rw [if_neg c] at k
                refine x_iload d176_185 rfl ?_
                refine x_bipush d176_187 rfl ?_
                refine x_if2 (pc2 := 203) d176_189 rfl (fun c => ?_) (fun c => ?_)
                · replace c : ¬ (I 151 (x5).toNat / 1048576) = 6 := c
                  rw [if_pos c] at k
                  refine x_aload_n d176_203 rfl ?_
                  refine x_getR (r := 156) d176_204 gY_176.2.2.2 gF_12_65 rfl (sh_137 hW) (rf_137_34 hW) (by decide) ?_
                  refine x_iload_n d176_207 rfl ?_
                  refine x_iconst d176_208 rfl ?_
                  have e20 := k.1
                  replace k := k.2
                  refine x_isub d176_209 e20 ?_
                  refine x_iload d176_210 rfl ?_
                  refine x_aload_n d176_212 rfl ?_
                  refine x_getR (r := 156) d176_213 gY_176.2.2.2 gF_12_65 rfl (sh_137 hW) (rf_137_34 hW) (by decide) ?_
                  refine x_iload_n d176_216 rfl ?_
                  refine x_iconst d176_217 rfl ?_
                  refine x_isub d176_218 e20 ?_
                  have e21 := k.1
                  replace k := k.2
                  refine x_iald d176_219 (sh_156 hW) e21.1 e21.2 ?_
                  refine x_aload_n d176_220 rfl ?_
                  refine x_getR (r := 156) d176_221 gY_176.2.2.2 gF_12_65 rfl (sh_137 hW) (rf_137_34 hW) (by decide) ?_
                  refine x_iload_n d176_224 rfl ?_
                  have e22 := k.1
                  replace k := k.2
                  refine x_iald d176_225 (sh_156 hW) e22.1 e22.2 ?_
                  refine y_insI (as := [.inl (I 151 (x5).toNat / 1048576), .inl (I 156 ((x3 - 1) - 1).toNat), .inl (I 156 (x3 - 1).toNat)]) (t := [.inl ((x3 - 1) - 1), .inr 156]) gY_175 d176_226 gY_176.2.2.2 gM_12_283 rfl rfl k (fun v23 I24 k => ?_)
                  refine x_iast d176_229 (sh_156 hW) e21.1 e21.2 ?_
                  refine x_goto (pc2 := 16) d176_230 rfl ?_
                  exact k
                · replace c : ¬ (¬ (I 151 (x5).toNat / 1048576) = 6) := c
                  rw [if_neg c] at k
                  refine x_aload_n d176_192 rfl ?_
                  refine x_getR (r := 156) d176_193 gY_176.2.2.2 gF_12_65 rfl (sh_137 hW) (rf_137_34 hW) (by decide) ?_
                  refine x_iload_n d176_196 rfl ?_
                  have e25 := k.1
                  replace k := k.2
                  refine x_iald d176_197 (sh_156 hW) e25.1 e25.2 ?_
                  refine x_if1 (pc2 := 203) d176_198 rfl (fun c => ?_) (fun c => ?_)
                  · replace c : ¬ I 156 (x3 - 1).toNat = 0 := c
                    rw [if_pos c] at k
                    refine x_aload_n d176_203 rfl ?_
                    refine x_getR (r := 156) d176_204 gY_176.2.2.2 gF_12_65 rfl (sh_137 hW) (rf_137_34 hW) (by decide) ?_
                    refine x_iload_n d176_207 rfl ?_
                    refine x_iconst d176_208 rfl ?_
                    have e26 := k.1
                    replace k := k.2
                    refine x_isub d176_209 e26 ?_
                    refine x_iload d176_210 rfl ?_
                    refine x_aload_n d176_212 rfl ?_
                    refine x_getR (r := 156) d176_213 gY_176.2.2.2 gF_12_65 rfl (sh_137 hW) (rf_137_34 hW) (by decide) ?_
                    refine x_iload_n d176_216 rfl ?_
                    refine x_iconst d176_217 rfl ?_
                    refine x_isub d176_218 e26 ?_
                    have e27 := k.1
                    replace k := k.2
                    refine x_iald d176_219 (sh_156 hW) e27.1 e27.2 ?_
                    refine x_aload_n d176_220 rfl ?_
                    refine x_getR (r := 156) d176_221 gY_176.2.2.2 gF_12_65 rfl (sh_137 hW) (rf_137_34 hW) (by decide) ?_
                    refine x_iload_n d176_224 rfl ?_
                    refine x_iald d176_225 (sh_156 hW) e25.1 e25.2 ?_
                    refine y_insI (as := [.inl (I 151 (x5).toNat / 1048576), .inl (I 156 ((x3 - 1) - 1).toNat), .inl (I 156 (x3 - 1).toNat)]) (t := [.inl ((x3 - 1) - 1), .inr 156]) gY_175 d176_226 gY_176.2.2.2 gM_12_283 rfl rfl k (fun v28 I29 k => ?_)
                    refine x_iast d176_229 (sh_156 hW) e27.1 e27.2 ?_
                    refine x_goto (pc2 := 16) d176_230 rfl ?_
                    exact k
                  · replace c : ¬ (¬ I 156 (x3 - 1).toNat = 0) := c
                    rw [if_neg c] at k
                    refine x_iconst d176_201 rfl ?_
                    exact x_iret d176_202 gR_176 ⟨_, _, rfl, rfl, k⟩
            · replace c : ¬ (¬ (I 151 (x5).toNat / 1048576) = 12) := c
              rw [if_neg c] at k
              refine x_aload_n d176_135 rfl ?_
              refine x_getR (r := 156) d176_136 gY_176.2.2.2 gF_12_65 rfl (sh_137 hW) (rf_137_34 hW) (by decide) ?_
              refine x_iload_n d176_139 rfl ?_
              refine x_iconst d176_140 rfl ?_
              have e30 := k.1
              replace k := k.2
              refine x_isub d176_141 e30 ?_
              have e31 := k.1
              replace k := k.2
              refine x_iald d176_142 (sh_156 hW) e31.1 e31.2 ?_
              refine x_iload d176_143 rfl ?_
              refine x_bipush d176_145 rfl ?_
              refine x_if2 (pc2 := 154) d176_147 rfl (fun c => ?_) (fun c => ?_)
              · replace c : ¬ (I 151 (x5).toNat / 1048576) = 12 := c
                rw [if_pos c] at k
                refine x_iconst d176_154 rfl ?_
                refine x_if2 (pc2 := 168) d176_155 rfl (fun c => ?_) (fun c => ?_)
                · replace c : ¬ I 156 (x3 - 1).toNat = 0 := c
                  rw [if_pos c] at k
                  refine x_iload_n d176_168 rfl ?_
                  refine x_iconst d176_169 rfl ?_
                  refine x_isub d176_170 e30 ?_
                  refine x_istore_n (ls2 := [some (.inr 137), u1, some (.inl x2), some (.inl (x3 - 1)), some (.inl x4), some (.inl (x5 + 1)), some (.inl (I 151 (x5).toNat / 1048576)), some (.inl (I 151 (x5).toNat % 1048576))]) d176_171 rfl rfl ?_
                  refine x_goto (pc2 := 230) d176_172 rfl ?_
                  refine x_goto (pc2 := 16) d176_230 rfl ?_
                  exact k
                · replace c : ¬ (¬ I 156 (x3 - 1).toNat = 0) := c
                  rw [if_neg c] at k
                  refine x_iload d176_158 rfl ?_
                  refine x_iload d176_160 rfl ?_
                  have e32 := k.1
                  replace k := k.2
                  refine x_iadd d176_162 e32 ?_
                  refine x_istore (ls2 := [some (.inr 137), u1, some (.inl x2), some (.inl x3), some (.inl x4), some (.inl (x4 + (I 151 (x5).toNat % 1048576))), some (.inl (I 151 (x5).toNat / 1048576)), some (.inl (I 151 (x5).toNat % 1048576))]) d176_163 rfl rfl ?_
                  refine x_goto (pc2 := 230) d176_165 rfl ?_
                  refine x_goto (pc2 := 16) d176_230 rfl ?_
                  exact k
              · replace c : ¬ (¬ (I 151 (x5).toNat / 1048576) = 12) := c
                rw [if_neg c] at k
                refine x_iconst d176_150 rfl ?_
                refine x_goto (pc2 := 155) d176_151 rfl ?_
                refine x_if2 (pc2 := 168) d176_155 rfl (fun c => ?_) (fun c => ?_)
                · replace c : ¬ I 156 (x3 - 1).toNat = 1 := c
                  rw [if_pos c] at k
                  refine x_iload_n d176_168 rfl ?_
                  refine x_iconst d176_169 rfl ?_
                  refine x_isub d176_170 e30 ?_
                  refine x_istore_n (ls2 := [some (.inr 137), u1, some (.inl x2), some (.inl (x3 - 1)), some (.inl x4), some (.inl (x5 + 1)), some (.inl (I 151 (x5).toNat / 1048576)), some (.inl (I 151 (x5).toNat % 1048576))]) d176_171 rfl rfl ?_
                  refine x_goto (pc2 := 230) d176_172 rfl ?_
                  refine x_goto (pc2 := 16) d176_230 rfl ?_
                  exact k
                · replace c : ¬ (¬ I 156 (x3 - 1).toNat = 1) := c
                  rw [if_neg c] at k
                  refine x_iload d176_158 rfl ?_
                  refine x_iload d176_160 rfl ?_
                  have e33 := k.1
                  replace k := k.2
                  refine x_iadd d176_162 e33 ?_
                  refine x_istore (ls2 := [some (.inr 137), u1, some (.inl x2), some (.inl x3), some (.inl x4), some (.inl (x4 + (I 151 (x5).toNat % 1048576))), some (.inl (I 151 (x5).toNat / 1048576)), some (.inl (I 151 (x5).toNat % 1048576))]) d176_163 rfl rfl ?_
                  refine x_goto (pc2 := 230) d176_165 rfl ?_
                  refine x_goto (pc2 := 16) d176_230 rfl ?_
                  exact k
        · replace c : ¬ (¬ (I 151 (x5).toNat / 1048576) = 10) := c
          rw [if_neg c] at k
          refine x_aload_n d176_100 rfl ?_
          refine x_getR (r := 156) d176_101 gY_176.2.2.2 gF_12_65 rfl (sh_137 hW) (rf_137_34 hW) (by decide) ?_
          refine x_iload_n d176_104 rfl ?_
          refine x_iconst d176_105 rfl ?_
          have e34 := k.1
          replace k := k.2
          refine x_isub d176_106 e34 ?_
          refine x_iconst d176_107 rfl ?_
          refine x_aload_n d176_108 rfl ?_
          refine x_getR (r := 156) d176_109 gY_176.2.2.2 gF_12_65 rfl (sh_137 hW) (rf_137_34 hW) (by decide) ?_
          refine x_iload_n d176_112 rfl ?_
          refine x_iconst d176_113 rfl ?_
          refine x_isub d176_114 e34 ?_
          have e35 := k.1
          replace k := k.2
          refine x_iald d176_115 (sh_156 hW) e35.1 e35.2 ?_
          have e36 := k.1
          replace k := k.2
          refine x_isub d176_116 e36 ?_
          refine x_iast d176_117 (sh_156 hW) e35.1 e35.2 ?_
          refine x_goto (pc2 := 230) d176_118 rfl ?_
          refine x_goto (pc2 := 16) d176_230 rfl ?_
          exact k
      · replace c : ¬ (¬ (I 151 (x5).toNat / 1048576) = 1) := c
        rw [if_neg c] at k
        refine x_aload_n d176_63 rfl ?_
        refine x_getR (r := 156) d176_64 gY_176.2.2.2 gF_12_65 rfl (sh_137 hW) (rf_137_34 hW) (by decide) ?_
        refine x_iload_n d176_67 rfl ?_
        refine x_iload d176_68 rfl ?_
        refine x_if1 (pc2 := 78) d176_70 rfl (fun c => ?_) (fun c => ?_)
        · replace c : ¬ (I 151 (x5).toNat / 1048576) = 0 := c
          rw [if_pos c] at k
          refine x_aload_n d176_78 rfl ?_
          refine x_getR (r := 157) d176_79 gY_176.2.2.2 gF_12_68 rfl (sh_137 hW) (rf_137_35 hW) (by decide) ?_
          refine x_iload d176_82 rfl ?_
          have e37 := k.1
          replace k := k.2
          refine x_iald d176_84 (sh_157 hW) e37.1 e37.2 ?_
          have e38 := k.1
          replace k := k.2
          refine x_iast d176_85 (sh_156 hW) e38.1 e38.2 ?_
          refine x_iload_n d176_86 rfl ?_
          refine x_iconst d176_87 rfl ?_
          have e39 := k.1
          replace k := k.2
          refine x_iadd d176_88 e39 ?_
          refine x_istore_n (ls2 := [some (.inr 137), u1, some (.inl x2), some (.inl (x3 + 1)), some (.inl x4), some (.inl (x5 + 1)), some (.inl (I 151 (x5).toNat / 1048576)), some (.inl (I 151 (x5).toNat % 1048576))]) d176_89 rfl rfl ?_
          refine x_goto (pc2 := 230) d176_90 rfl ?_
          refine x_goto (pc2 := 16) d176_230 rfl ?_
          exact k
        · replace c : ¬ (¬ (I 151 (x5).toNat / 1048576) = 0) := c
          rw [if_neg c] at k
          refine x_iload d176_73 rfl ?_
          refine x_goto (pc2 := 85) d176_75 rfl ?_
          have e40 := k.1
          replace k := k.2
          refine x_iast d176_85 (sh_156 hW) e40.1 e40.2 ?_
          refine x_iload_n d176_86 rfl ?_
          refine x_iconst d176_87 rfl ?_
          have e41 := k.1
          replace k := k.2
          refine x_iadd d176_88 e41 ?_
          refine x_istore_n (ls2 := [some (.inr 137), u1, some (.inl x2), some (.inl (x3 + 1)), some (.inl x4), some (.inl (x5 + 1)), some (.inl (I 151 (x5).toNat / 1048576)), some (.inl (I 151 (x5).toNat % 1048576))]) d176_89 rfl rfl ?_
          refine x_goto (pc2 := 230) d176_90 rfl ?_
          refine x_goto (pc2 := 16) d176_230 rfl ?_
          exact k
set_option maxHeartbeats 4000000 in
theorem b_S_placeOf_0 {d n : Nat} {sh : ZS} {R : ZR} {I : ZI} {Q : Int → ZI → Prop} (hW : Wf sh R) {o : Nat} (hO : St sh R o) {x1 : Int}
    (k : XIs d 66 2 [some (.inr o), some (.inl x1), some (.inl 0)] [] n sh R I Q) : XI d 66 [.inr o, .inl x1] n sh R I Q := by
  refine XI.of (ls := [some (.inr o), some (.inl x1), none]) (zloc_eq gY_66.2.2.1) ?_
  unfold XIs
  refine x_iconst d66_0 rfl ?_
  refine x_istore_n (ls2 := [some (.inr o), some (.inl x1), some (.inl 0)]) d66_1 rfl rfl ?_
  exact k
set_option maxHeartbeats 4000000 in
theorem b_S_placeOf_2 {d n : Nat} {sh : ZS} {R : ZR} {I : ZI} {Q : Int → ZI → Prop} (hW : Wf sh R) {o : Nat} (hO : St sh R o) {x1 : Int} {x2 : Int}
    (k : (if I o 6 ≤ x2 then Q (-1) I else (0 ≤ x2 ∧ x2 < 32) ∧ (if ¬ I (o + 5) (x2).toNat = x1 then (zr (x2 + 1)) ∧ XIs d 66 2 [some (.inr o), some (.inl x1), some (.inl (x2 + 1))] [] n sh R I Q else Q x2 I))) : XIs d 66 2 [some (.inr o), some (.inl x1), some (.inl x2)] [] n sh R I Q := by
  unfold XIs
  refine x_iload_n d66_2 rfl ?_
  refine x_aload_n d66_3 rfl ?_
  refine x_getI d66_4 gY_66.2.2.2 gF_7_31 rfl hO.1 ?_
  refine x_if2 (pc2 := 28) d66_7 rfl (fun c => ?_) (fun c => ?_)
  · replace c : I o 6 ≤ x2 := c
    rw [if_pos c] at k
    refine x_iconst d66_28 rfl ?_
    exact x_iret d66_29 gR_66 ⟨_, _, rfl, rfl, k⟩
  · replace c : ¬ (I o 6 ≤ x2) := c
    rw [if_neg c] at k
    refine x_aload_n d66_10 rfl ?_
    refine x_getR (r := (o + 5)) d66_11 gY_66.2.2.2 gF_7_24 rfl hO.1 hO.2.2.2.2.2.2.2.2.2.2 (Nat.succ_ne_zero _) ?_
    refine x_iload_n d66_14 rfl ?_
    have e1 := k.1
    replace k := k.2
    refine x_iald d66_15 hO.2.2.2.2.2.1 e1.1 e1.2 ?_
    refine x_iload_n d66_16 rfl ?_
    refine x_if2 (pc2 := 22) d66_17 rfl (fun c => ?_) (fun c => ?_)
    · replace c : ¬ I (o + 5) (x2).toNat = x1 := c
      rw [if_pos c] at k
      have e2 := k.1
      replace k := k.2
      refine x_iinc (ls2 := [some (.inr o), some (.inl x1), some (.inl (x2 + 1))]) d66_22 rfl e2 rfl ?_
      refine x_goto (pc2 := 2) d66_25 rfl ?_
      exact k
    · replace c : ¬ (¬ I (o + 5) (x2).toNat = x1) := c
      rw [if_neg c] at k
      refine x_iload_n d66_20 rfl ?_
      exact x_iret d66_21 gR_66 ⟨_, _, rfl, rfl, k⟩
set_option maxHeartbeats 4000000 in
theorem b_N_letterIs_0 {d n : Nat} {sh : ZS} {R : ZR} {I : ZI} {Q : Int → ZI → Prop} (hW : Wf sh R) {x1 : Int} {x2 : Int}
    (k : (if x1 < 0 then Q (-1) I else (if I 18 5 ≤ x1 then Q (-1) I else XI (d + 4) 66 [.inr 18, .inl x1] n sh R I (fun v1 I2 => (if x2 = 0 then (0 ≤ x1 ∧ x1 < 32) ∧ Q (I2 19 (x1).toNat) I2 else (if x2 = 1 then (0 ≤ x1 ∧ x1 < 32) ∧ Q (I2 20 (x1).toNat) I2 else (if x2 = 2 then (if 0 ≤ v1 then Q v1 I2 else Q (-2) I2) else (if x2 = 3 then (0 ≤ x1 ∧ x1 < 32) ∧ Q (I2 22 (x1).toNat) I2 else (if x2 = 4 then (if 0 ≤ v1 then XI (d + 4) 132 [.inr 1, .inl v1] n sh R I2 (fun v6 I7 => Q v6 I7) else Q (-2) I2) else Q (-1) I2))))))))) : XI (d + 5) 102 [.inr 1, .inl x1, .inl x2] n sh R I Q := by
  refine XI.of (ls := [some (.inr 1), some (.inl x1), some (.inl x2), none]) (zloc_eq gY_102.2.2.1) ?_
  unfold XIs
  refine x_aload_n d102_0 rfl ?_
  refine x_iload_n d102_1 rfl ?_
  refine y_inv (as := [.inl x1]) (t := []) (o := 1) (ls2 := [some (.inr 1), some (.inl x1)]) gY_130 d102_2 gY_102.2.2.2 gM_11_166 rfl (sh_1 hW) rfl rfl ?_
  refine x_iload_n d130_0 rfl ?_
  refine x_if1 (pc2 := 19) d130_1 rfl (fun c => ?_) (fun c => ?_)
  · replace c : x1 < 0 := c
    rw [if_pos c] at k
    refine x_iconst d130_19 rfl ?_
    refine x_zret d130_20 gR_130 (by decide) ?_
    show Ex (d + 5) 102 5 [some (.inr 1), some (.inl x1), some (.inl x2), none] [.inl 0] (0, 0, n, sh, R, I) _
    refine x_if1 (pc2 := 10) d102_5 rfl (fun c => absurd (show ¬ (0 : Int) = 0 from c) (by decide)) (fun _ => ?_)
    refine x_iconst d102_8 rfl ?_
    exact x_iret d102_9 gR_102 ⟨_, _, rfl, rfl, k⟩
  · replace c : ¬ (x1 < 0) := c
    rw [if_neg c] at k
    refine x_iload_n d130_4 rfl ?_
    refine x_aload_n d130_5 rfl ?_
    refine x_getR (r := 18) d130_6 gY_130.2.2.2 gF_11_45 rfl (sh_1 hW) (rf_1_5 hW) (by decide) ?_
    refine x_getI d130_9 gY_130.2.2.2 gF_11_328 rfl (sh_18 hW) ?_
    refine x_if2 (pc2 := 19) d130_12 rfl (fun c => ?_) (fun c => ?_)
    · replace c : I 18 5 ≤ x1 := c
      rw [if_pos c] at k
      refine x_iconst d130_19 rfl ?_
      refine x_zret d130_20 gR_130 (by decide) ?_
      show Ex (d + 5) 102 5 [some (.inr 1), some (.inl x1), some (.inl x2), none] [.inl 0] (0, 0, n, sh, R, I) _
      refine x_if1 (pc2 := 10) d102_5 rfl (fun c => absurd (show ¬ (0 : Int) = 0 from c) (by decide)) (fun _ => ?_)
      refine x_iconst d102_8 rfl ?_
      exact x_iret d102_9 gR_102 ⟨_, _, rfl, rfl, k⟩
    · replace c : ¬ (I 18 5 ≤ x1) := c
      rw [if_neg c] at k
      refine x_iconst d130_15 rfl ?_
      refine x_goto (pc2 := 20) d130_16 rfl ?_
      refine x_zret d130_20 gR_130 (by decide) ?_
      show Ex (d + 5) 102 5 [some (.inr 1), some (.inl x1), some (.inl x2), none] [.inl 1] (0, 0, n, sh, R, I) _
      refine x_if1 (pc2 := 10) d102_5 rfl (fun _ => ?_) (fun c => absurd (show ¬ (1 : Int) = 0 by decide) c)
      refine x_aload_n d102_10 rfl ?_
      refine x_getR (r := 18) d102_11 gY_102.2.2.2 gF_11_45 rfl (sh_1 hW) (rf_1_5 hW) (by decide) ?_
      refine x_iload_n d102_14 rfl ?_
      refine y_invI (as := [.inl x1]) (t := []) (o := 18) gY_66 d102_15 gY_102.2.2.2 gM_11_169 rfl (sh_18 hW) rfl k (fun v1 I2 k => ?_)
      refine x_istore_n (ls2 := [some (.inr 1), some (.inl x1), some (.inl x2), some (.inl v1)]) d102_18 rfl rfl ?_
      refine x_iload_n d102_19 rfl ?_
      by_cases c : x2 = 0
      · rw [if_pos c] at k
        refine x_tsw (off := 36) (pc2 := 56) d102_20 (by rw [c]; decide) rfl ?_
        refine x_aload_n d102_56 rfl ?_
        refine x_getR (r := 18) d102_57 gY_102.2.2.2 gF_11_45 rfl (sh_1 hW) (rf_1_5 hW) (by decide) ?_
        refine x_getR (r := 19) d102_60 gY_102.2.2.2 gF_11_172 rfl (sh_18 hW) (rf_18_0 hW) (by decide) ?_
        refine x_iload_n d102_63 rfl ?_
        have e3 := k.1
        replace k := k.2
        refine x_iald d102_64 (sh_19 hW) e3.1 e3.2 ?_
        exact x_iret d102_65 gR_102 ⟨_, _, rfl, rfl, k⟩
      rw [if_neg c] at k
      have c0 := c
      clear c
      by_cases c : x2 = 1
      · rw [if_pos c] at k
        refine x_tsw (off := 46) (pc2 := 66) d102_20 (by rw [c]; decide) rfl ?_
        refine x_aload_n d102_66 rfl ?_
        refine x_getR (r := 18) d102_67 gY_102.2.2.2 gF_11_45 rfl (sh_1 hW) (rf_1_5 hW) (by decide) ?_
        refine x_getR (r := 20) d102_70 gY_102.2.2.2 gF_11_175 rfl (sh_18 hW) (rf_18_1 hW) (by decide) ?_
        refine x_iload_n d102_73 rfl ?_
        have e4 := k.1
        replace k := k.2
        refine x_iald d102_74 (sh_20 hW) e4.1 e4.2 ?_
        exact x_iret d102_75 gR_102 ⟨_, _, rfl, rfl, k⟩
      rw [if_neg c] at k
      have c1 := c
      clear c
      by_cases c : x2 = 2
      · rw [if_pos c] at k
        refine x_tsw (off := 56) (pc2 := 76) d102_20 (by rw [c]; decide) rfl ?_
        refine x_iload_n d102_76 rfl ?_
        refine x_if1 (pc2 := 85) d102_77 rfl (fun c => ?_) (fun c => ?_)
        · replace c : 0 ≤ v1 := c
          rw [if_pos c] at k
          refine x_iload_n d102_85 rfl ?_
          exact x_iret d102_86 gR_102 ⟨_, _, rfl, rfl, k⟩
        · replace c : ¬ (0 ≤ v1) := c
          rw [if_neg c] at k
          refine x_bipush d102_80 rfl ?_
          refine x_goto (pc2 := 86) d102_82 rfl ?_
          exact x_iret d102_86 gR_102 ⟨_, _, rfl, rfl, k⟩
      rw [if_neg c] at k
      have c2 := c
      clear c
      by_cases c : x2 = 3
      · rw [if_pos c] at k
        refine x_tsw (off := 67) (pc2 := 87) d102_20 (by rw [c]; decide) rfl ?_
        refine x_aload_n d102_87 rfl ?_
        refine x_getR (r := 18) d102_88 gY_102.2.2.2 gF_11_45 rfl (sh_1 hW) (rf_1_5 hW) (by decide) ?_
        refine x_getR (r := 22) d102_91 gY_102.2.2.2 gF_11_178 rfl (sh_18 hW) (rf_18_3 hW) (by decide) ?_
        refine x_iload_n d102_94 rfl ?_
        have e5 := k.1
        replace k := k.2
        refine x_iald d102_95 (sh_22 hW) e5.1 e5.2 ?_
        exact x_iret d102_96 gR_102 ⟨_, _, rfl, rfl, k⟩
      rw [if_neg c] at k
      have c3 := c
      clear c
      by_cases c : x2 = 4
      · rw [if_pos c] at k
        refine x_tsw (off := 77) (pc2 := 97) d102_20 (by rw [c]; decide) rfl ?_
        refine x_iload_n d102_97 rfl ?_
        refine x_if1 (pc2 := 106) d102_98 rfl (fun c => ?_) (fun c => ?_)
        · replace c : 0 ≤ v1 := c
          rw [if_pos c] at k
          refine x_aload_n d102_106 rfl ?_
          refine x_iload_n d102_107 rfl ?_
          refine y_invI (as := [.inl v1]) (t := []) (o := 1) gY_132 d102_108 gY_102.2.2.2 gM_11_181 rfl (sh_1 hW) rfl k (fun v6 I7 k => ?_)
          exact x_iret d102_111 gR_102 ⟨_, _, rfl, rfl, k⟩
        · replace c : ¬ (0 ≤ v1) := c
          rw [if_neg c] at k
          refine x_bipush d102_101 rfl ?_
          refine x_goto (pc2 := 111) d102_103 rfl ?_
          exact x_iret d102_111 gR_102 ⟨_, _, rfl, rfl, k⟩
      rw [if_neg c] at k
      have c4 := c
      clear c
      refine x_tsw (off := 92) (pc2 := 112) d102_20 (zts_dflt (by decide) (by omega)) rfl ?_
      refine x_iconst d102_112 rfl ?_
      exact x_iret d102_113 gR_102 ⟨_, _, rfl, rfl, k⟩
set_option maxHeartbeats 4000000 in
theorem b_M_factOf_0 {d n : Nat} {sh : ZS} {R : ZR} {I : ZI} {Q : Int → ZI → Prop} (hW : Wf sh R) {x0 : Int}
    (k : (if x0 = 103 then Q 5 I else (if x0 = 105 then Q 3 I else (if x0 = 110 then Q 7 I else (if x0 = 111 then Q 6 I else (if x0 = 112 then Q 4 I else (if x0 = 114 then Q 1 I else (if x0 = 115 then Q 0 I else (if x0 = 119 then Q 2 I else Q (-1) I))))))))) : XI d 162 [.inl x0] n sh R I Q := by
  refine XI.of (ls := [some (.inl x0)]) (zloc_eq gY_162.2.2.1) ?_
  unfold XIs
  refine x_iload_n d162_0 rfl ?_
  by_cases c : x0 = 103
  · rw [if_pos c] at k
    refine x_tsw (off := 93) (pc2 := 94) d162_1 (by rw [c]; decide) rfl ?_
    refine x_iconst d162_94 rfl ?_
    exact x_iret d162_95 gR_162 ⟨_, _, rfl, rfl, k⟩
  rw [if_neg c] at k
  have c103 := c
  clear c
  by_cases c : x0 = 105
  · rw [if_pos c] at k
    refine x_tsw (off := 89) (pc2 := 90) d162_1 (by rw [c]; decide) rfl ?_
    refine x_iconst d162_90 rfl ?_
    exact x_iret d162_91 gR_162 ⟨_, _, rfl, rfl, k⟩
  rw [if_neg c] at k
  have c105 := c
  clear c
  by_cases c : x0 = 110
  · rw [if_pos c] at k
    refine x_tsw (off := 98) (pc2 := 99) d162_1 (by rw [c]; decide) rfl ?_
    refine x_bipush d162_99 rfl ?_
    exact x_iret d162_101 gR_162 ⟨_, _, rfl, rfl, k⟩
  rw [if_neg c] at k
  have c110 := c
  clear c
  by_cases c : x0 = 111
  · rw [if_pos c] at k
    refine x_tsw (off := 95) (pc2 := 96) d162_1 (by rw [c]; decide) rfl ?_
    refine x_bipush d162_96 rfl ?_
    exact x_iret d162_98 gR_162 ⟨_, _, rfl, rfl, k⟩
  rw [if_neg c] at k
  have c111 := c
  clear c
  by_cases c : x0 = 112
  · rw [if_pos c] at k
    refine x_tsw (off := 91) (pc2 := 92) d162_1 (by rw [c]; decide) rfl ?_
    refine x_iconst d162_92 rfl ?_
    exact x_iret d162_93 gR_162 ⟨_, _, rfl, rfl, k⟩
  rw [if_neg c] at k
  have c112 := c
  clear c
  by_cases c : x0 = 114
  · rw [if_pos c] at k
    refine x_tsw (off := 85) (pc2 := 86) d162_1 (by rw [c]; decide) rfl ?_
    refine x_iconst d162_86 rfl ?_
    exact x_iret d162_87 gR_162 ⟨_, _, rfl, rfl, k⟩
  rw [if_neg c] at k
  have c114 := c
  clear c
  by_cases c : x0 = 115
  · rw [if_pos c] at k
    refine x_tsw (off := 83) (pc2 := 84) d162_1 (by rw [c]; decide) rfl ?_
    refine x_iconst d162_84 rfl ?_
    exact x_iret d162_85 gR_162 ⟨_, _, rfl, rfl, k⟩
  rw [if_neg c] at k
  have c115 := c
  clear c
  by_cases c : x0 = 119
  · rw [if_pos c] at k
    refine x_tsw (off := 87) (pc2 := 88) d162_1 (by rw [c]; decide) rfl ?_
    refine x_iconst d162_88 rfl ?_
    exact x_iret d162_89 gR_162 ⟨_, _, rfl, rfl, k⟩
  rw [if_neg c] at k
  have c119 := c
  clear c
  refine x_tsw (off := 101) (pc2 := 102) d162_1 (zts_dflt (by decide) (by omega)) rfl ?_
  refine x_iconst d162_102 rfl ?_
  exact x_iret d162_103 gR_162 ⟨_, _, rfl, rfl, k⟩
set_option maxHeartbeats 4000000 in
theorem b_W_emit_0 {d n : Nat} {sh : ZS} {R : ZR} {I : ZI} {Q : Int → ZI → Prop} (hW : Wf sh R) {lw : Nat} (hw : Lw sh R lw) {x1 : Int} {x2 : Int}
    (k : (if 200 ≤ I lw 8 then (if ¬ x1 = 120 then Q (I lw 8) I else Q (I lw 8) (zup I lw 9 (zor (I lw 9) (zshl 1 x2)))) else (0 ≤ I lw 8 ∧ I lw 8 < 200) ∧ (zr ((zup (zup I (lw + 5) (I lw 8).toNat x1) (lw + 6) (I lw 8).toNat x2) lw 8 + 1)) ∧ (if ¬ x1 = 120 then Q (I lw 8) (zup (zup (zup I (lw + 5) (I lw 8).toNat x1) (lw + 6) (I lw 8).toNat x2) lw 8 ((zup (zup I (lw + 5) (I lw 8).toNat x1) (lw + 6) (I lw 8).toNat x2) lw 8 + 1)) else Q (I lw 8) (zup (zup (zup (zup I (lw + 5) (I lw 8).toNat x1) (lw + 6) (I lw 8).toNat x2) lw 8 ((zup (zup I (lw + 5) (I lw 8).toNat x1) (lw + 6) (I lw 8).toNat x2) lw 8 + 1)) lw 9 (zor ((zup (zup (zup I (lw + 5) (I lw 8).toNat x1) (lw + 6) (I lw 8).toNat x2) lw 8 ((zup (zup I (lw + 5) (I lw 8).toNat x1) (lw + 6) (I lw 8).toNat x2) lw 8 + 1)) lw 9) (zshl 1 x2)))))) : XI d 8 [.inr lw, .inl x1, .inl x2] n sh R I Q := by
  refine XI.of (ls := [some (.inr lw), some (.inl x1), some (.inl x2), none]) (zloc_eq gY_8.2.2.1) ?_
  unfold XIs
  refine x_aload_n d8_0 rfl ?_
  refine x_getI d8_1 gY_8.2.2.2 gF_1_35 rfl hw.2.1 ?_
  refine x_istore_n (ls2 := [some (.inr lw), some (.inl x1), some (.inl x2), some (.inl (I lw 8))]) d8_4 rfl rfl ?_
  refine x_iload_n d8_5 rfl ?_
  refine x_sipush d8_6 rfl ?_
  refine x_if2 (pc2 := 36) d8_9 rfl (fun c => ?_) (fun c => ?_)
  · replace c : 200 ≤ I lw 8 := c
    rw [if_pos c] at k
    refine x_iload_n d8_36 rfl ?_
    refine x_bipush d8_37 rfl ?_
    refine x_if2 (pc2 := 54) d8_39 rfl (fun c => ?_) (fun c => ?_)
    · replace c : ¬ x1 = 120 := c
      rw [if_pos c] at k
      refine x_iload_n d8_54 rfl ?_
      exact x_iret d8_55 gR_8 ⟨_, _, rfl, rfl, k⟩
    · replace c : ¬ (¬ x1 = 120) := c
      rw [if_neg c] at k
      refine x_aload_n d8_42 rfl ?_
      refine x_dup d8_43 ?_
      refine x_getI d8_44 gY_8.2.2.2 gF_1_38 rfl hw.2.1 ?_
      refine x_iconst d8_47 rfl ?_
      refine x_iload_n d8_48 rfl ?_
      refine x_ishl d8_49 ?_
      refine x_ior d8_50 ?_
      refine x_putI d8_51 gY_8.2.2.2 gF_1_38 rfl rfl hw.2.1 ?_
      refine x_iload_n d8_54 rfl ?_
      exact x_iret d8_55 gR_8 ⟨_, _, rfl, rfl, k⟩
  · replace c : ¬ (200 ≤ I lw 8) := c
    rw [if_neg c] at k
    refine x_aload_n d8_12 rfl ?_
    refine x_getR (r := (lw + 5)) d8_13 gY_8.2.2.2 gF_1_22 rfl hw.2.1 hw.2.2.2.2.2.2.2.1 (Nat.succ_ne_zero _) ?_
    refine x_iload_n d8_16 rfl ?_
    refine x_iload_n d8_17 rfl ?_
    have e1 := k.1
    replace k := k.2
    refine x_iast d8_18 hw.2.2.1.2.2.2.2.1 e1.1 e1.2 ?_
    refine x_aload_n d8_19 rfl ?_
    refine x_getR (r := (lw + 6)) d8_20 gY_8.2.2.2 gF_1_25 rfl hw.2.1 hw.2.2.2.2.2.2.2.2.1 (Nat.succ_ne_zero _) ?_
    refine x_iload_n d8_23 rfl ?_
    refine x_iload_n d8_24 rfl ?_
    refine x_iast d8_25 hw.2.2.1.2.2.2.2.2.1 e1.1 e1.2 ?_
    refine x_aload_n d8_26 rfl ?_
    refine x_dup d8_27 ?_
    refine x_getI d8_28 gY_8.2.2.2 gF_1_35 rfl hw.2.1 ?_
    refine x_iconst d8_31 rfl ?_
    have e2 := k.1
    replace k := k.2
    refine x_iadd d8_32 e2 ?_
    refine x_putI d8_33 gY_8.2.2.2 gF_1_35 rfl rfl hw.2.1 ?_
    refine x_iload_n d8_36 rfl ?_
    refine x_bipush d8_37 rfl ?_
    refine x_if2 (pc2 := 54) d8_39 rfl (fun c => ?_) (fun c => ?_)
    · replace c : ¬ x1 = 120 := c
      rw [if_pos c] at k
      refine x_iload_n d8_54 rfl ?_
      exact x_iret d8_55 gR_8 ⟨_, _, rfl, rfl, k⟩
    · replace c : ¬ (¬ x1 = 120) := c
      rw [if_neg c] at k
      refine x_aload_n d8_42 rfl ?_
      refine x_dup d8_43 ?_
      refine x_getI d8_44 gY_8.2.2.2 gF_1_38 rfl hw.2.1 ?_
      refine x_iconst d8_47 rfl ?_
      refine x_iload_n d8_48 rfl ?_
      refine x_ishl d8_49 ?_
      refine x_ior d8_50 ?_
      refine x_putI d8_51 gY_8.2.2.2 gF_1_38 rfl rfl hw.2.1 ?_
      refine x_iload_n d8_54 rfl ?_
      exact x_iret d8_55 gR_8 ⟨_, _, rfl, rfl, k⟩
set_option maxHeartbeats 4000000 in
theorem b_G_putSigns_0 {d n : Nat} {sh : ZS} {R : ZR} {I : ZI} {Q : ZI → Prop} (hW : Wf sh R) {s1 : Nat} (hS1 : St sh R s1) {x2 : Int}
    (k : (0 ≤ x2 ∧ x2 < 32) ∧ (0 ≤ I (s1 + 5) (x2).toNat ∧ I (s1 + 5) (x2).toNat < 32) ∧ (0 ≤ (zup I 43 0 (I (s1 + 1) (I (s1 + 5) (x2).toNat).toNat)) (s1 + 1) (I (s1 + 5) (x2).toNat).toNat ∧ (zup I 43 0 (I (s1 + 1) (I (s1 + 5) (x2).toNat).toNat)) (s1 + 1) (I (s1 + 5) (x2).toNat).toNat < 20) ∧ Q (zup (zup (zup (zup (zup (zup (zup (zup I 43 0 (I (s1 + 1) (I (s1 + 5) (x2).toNat).toNat)) 43 1 (I 13 ((zup I 43 0 (I (s1 + 1) (I (s1 + 5) (x2).toNat).toNat)) (s1 + 1) (I (s1 + 5) (x2).toNat).toNat).toNat)) 43 2 ((zup (zup I 43 0 (I (s1 + 1) (I (s1 + 5) (x2).toNat).toNat)) 43 1 (I 13 ((zup I 43 0 (I (s1 + 1) (I (s1 + 5) (x2).toNat).toNat)) (s1 + 1) (I (s1 + 5) (x2).toNat).toNat).toNat)) (s1 + 2) (I (s1 + 5) (x2).toNat).toNat)) 43 3 (I (s1 + 5) (x2).toNat)) 43 4 x2) 43 5 ((zup (zup (zup (zup (zup I 43 0 (I (s1 + 1) (I (s1 + 5) (x2).toNat).toNat)) 43 1 (I 13 ((zup I 43 0 (I (s1 + 1) (I (s1 + 5) (x2).toNat).toNat)) (s1 + 1) (I (s1 + 5) (x2).toNat).toNat).toNat)) 43 2 ((zup (zup I 43 0 (I (s1 + 1) (I (s1 + 5) (x2).toNat).toNat)) 43 1 (I 13 ((zup I 43 0 (I (s1 + 1) (I (s1 + 5) (x2).toNat).toNat)) (s1 + 1) (I (s1 + 5) (x2).toNat).toNat).toNat)) (s1 + 2) (I (s1 + 5) (x2).toNat).toNat)) 43 3 (I (s1 + 5) (x2).toNat)) 43 4 x2) s1 7)) 43 6 ((zup (zup (zup (zup (zup (zup I 43 0 (I (s1 + 1) (I (s1 + 5) (x2).toNat).toNat)) 43 1 (I 13 ((zup I 43 0 (I (s1 + 1) (I (s1 + 5) (x2).toNat).toNat)) (s1 + 1) (I (s1 + 5) (x2).toNat).toNat).toNat)) 43 2 ((zup (zup I 43 0 (I (s1 + 1) (I (s1 + 5) (x2).toNat).toNat)) 43 1 (I 13 ((zup I 43 0 (I (s1 + 1) (I (s1 + 5) (x2).toNat).toNat)) (s1 + 1) (I (s1 + 5) (x2).toNat).toNat).toNat)) (s1 + 2) (I (s1 + 5) (x2).toNat).toNat)) 43 3 (I (s1 + 5) (x2).toNat)) 43 4 x2) 43 5 ((zup (zup (zup (zup (zup I 43 0 (I (s1 + 1) (I (s1 + 5) (x2).toNat).toNat)) 43 1 (I 13 ((zup I 43 0 (I (s1 + 1) (I (s1 + 5) (x2).toNat).toNat)) (s1 + 1) (I (s1 + 5) (x2).toNat).toNat).toNat)) 43 2 ((zup (zup I 43 0 (I (s1 + 1) (I (s1 + 5) (x2).toNat).toNat)) 43 1 (I 13 ((zup I 43 0 (I (s1 + 1) (I (s1 + 5) (x2).toNat).toNat)) (s1 + 1) (I (s1 + 5) (x2).toNat).toNat).toNat)) (s1 + 2) (I (s1 + 5) (x2).toNat).toNat)) 43 3 (I (s1 + 5) (x2).toNat)) 43 4 x2) s1 7)) (s1 + 4) (I (s1 + 5) (x2).toNat).toNat)) 43 7 (I 15 0))) : XV d 54 [.inr 42, .inr s1, .inl x2] n sh R I Q := by
  refine XV.of (ls := [some (.inr 42), some (.inr s1), some (.inl x2), none]) (zloc_eq gY_54.2.2.1) ?_
  unfold XVs
  refine x_aload_n d54_0 rfl ?_
  refine x_getR (r := (s1 + 5)) d54_1 gY_54.2.2.2 gF_6_67 rfl hS1.1 hS1.2.2.2.2.2.2.2.2.2.2 (Nat.succ_ne_zero _) ?_
  refine x_iload_n d54_4 rfl ?_
  have e1 := k.1
  replace k := k.2
  refine x_iald d54_5 hS1.2.2.2.2.2.1 e1.1 e1.2 ?_
  refine x_istore_n (ls2 := [some (.inr 42), some (.inr s1), some (.inl x2), some (.inl (I (s1 + 5) (x2).toNat))]) d54_6 rfl rfl ?_
  refine x_aload_n d54_7 rfl ?_
  refine x_getR (r := 43) d54_8 gY_54.2.2.2 gF_6_19 rfl (sh_42 hW) (rf_42_2 hW) (by decide) ?_
  refine x_iconst d54_11 rfl ?_
  refine x_aload_n d54_12 rfl ?_
  refine x_getR (r := (s1 + 1)) d54_13 gY_54.2.2.2 gF_6_72 rfl hS1.1 hS1.2.2.2.2.2.2.1 (Nat.succ_ne_zero _) ?_
  refine x_iload_n d54_16 rfl ?_
  have e2 := k.1
  replace k := k.2
  refine x_iald d54_17 hS1.2.1 e2.1 e2.2 ?_
  refine x_iast d54_18 (sh_43 hW) (by decide) (by decide) ?_
  refine x_aload_n d54_19 rfl ?_
  refine x_getR (r := 43) d54_20 gY_54.2.2.2 gF_6_19 rfl (sh_42 hW) (rf_42_2 hW) (by decide) ?_
  refine x_iconst d54_23 rfl ?_
  refine x_aload_n d54_24 rfl ?_
  refine x_getR (r := 13) d54_25 gY_54.2.2.2 gF_6_43 rfl (sh_42 hW) (rf_42_0 hW) (by decide) ?_
  refine x_aload_n d54_28 rfl ?_
  refine x_getR (r := (s1 + 1)) d54_29 gY_54.2.2.2 gF_6_72 rfl hS1.1 hS1.2.2.2.2.2.2.1 (Nat.succ_ne_zero _) ?_
  refine x_iload_n d54_32 rfl ?_
  refine x_iald d54_33 hS1.2.1 e2.1 e2.2 ?_
  have e3 := k.1
  replace k := k.2
  refine x_iald d54_34 (sh_13 hW) e3.1 e3.2 ?_
  refine x_iast d54_35 (sh_43 hW) (by decide) (by decide) ?_
  refine x_aload_n d54_36 rfl ?_
  refine x_getR (r := 43) d54_37 gY_54.2.2.2 gF_6_19 rfl (sh_42 hW) (rf_42_2 hW) (by decide) ?_
  refine x_iconst d54_40 rfl ?_
  refine x_aload_n d54_41 rfl ?_
  refine x_getR (r := (s1 + 2)) d54_42 gY_54.2.2.2 gF_6_75 rfl hS1.1 hS1.2.2.2.2.2.2.2.1 (Nat.succ_ne_zero _) ?_
  refine x_iload_n d54_45 rfl ?_
  refine x_iald d54_46 hS1.2.2.1 e2.1 e2.2 ?_
  refine x_iast d54_47 (sh_43 hW) (by decide) (by decide) ?_
  refine x_aload_n d54_48 rfl ?_
  refine x_getR (r := 43) d54_49 gY_54.2.2.2 gF_6_19 rfl (sh_42 hW) (rf_42_2 hW) (by decide) ?_
  refine x_iconst d54_52 rfl ?_
  refine x_iload_n d54_53 rfl ?_
  refine x_iast d54_54 (sh_43 hW) (by decide) (by decide) ?_
  refine x_aload_n d54_55 rfl ?_
  refine x_getR (r := 43) d54_56 gY_54.2.2.2 gF_6_19 rfl (sh_42 hW) (rf_42_2 hW) (by decide) ?_
  refine x_iconst d54_59 rfl ?_
  refine x_iload_n d54_60 rfl ?_
  refine x_iast d54_61 (sh_43 hW) (by decide) (by decide) ?_
  refine x_aload_n d54_62 rfl ?_
  refine x_getR (r := 43) d54_63 gY_54.2.2.2 gF_6_19 rfl (sh_42 hW) (rf_42_2 hW) (by decide) ?_
  refine x_iconst d54_66 rfl ?_
  refine x_aload_n d54_67 rfl ?_
  refine x_getI d54_68 gY_54.2.2.2 gF_6_78 rfl hS1.1 ?_
  refine x_iast d54_71 (sh_43 hW) (by decide) (by decide) ?_
  refine x_aload_n d54_72 rfl ?_
  refine x_getR (r := 43) d54_73 gY_54.2.2.2 gF_6_19 rfl (sh_42 hW) (rf_42_2 hW) (by decide) ?_
  refine x_bipush d54_76 rfl ?_
  refine x_aload_n d54_78 rfl ?_
  refine x_getR (r := (s1 + 4)) d54_79 gY_54.2.2.2 gF_6_81 rfl hS1.1 hS1.2.2.2.2.2.2.2.2.2.1 (Nat.succ_ne_zero _) ?_
  refine x_iload_n d54_82 rfl ?_
  refine x_iald d54_83 hS1.2.2.2.2.1 e2.1 e2.2 ?_
  refine x_iast d54_84 (sh_43 hW) (by decide) (by decide) ?_
  refine x_aload_n d54_85 rfl ?_
  refine x_getR (r := 43) d54_86 gY_54.2.2.2 gF_6_19 rfl (sh_42 hW) (rf_42_2 hW) (by decide) ?_
  refine x_bipush d54_89 rfl ?_
  refine x_aload_n d54_91 rfl ?_
  refine x_getR (r := 15) d54_92 gY_54.2.2.2 gF_6_46 rfl (sh_42 hW) (rf_42_1 hW) (by decide) ?_
  refine x_getI d54_95 gY_54.2.2.2 gF_6_58 rfl (sh_15 hW) ?_
  refine x_iast d54_98 (sh_43 hW) (by decide) (by decide) ?_
  exact x_vret d54_99 gR_54 ⟨_, rfl, rfl, k⟩
set_option maxHeartbeats 4000000 in
theorem b_A_splitUpTo_0 {d n : Nat} {sh : ZS} {R : ZR} {I : ZI} {Q : ZI → Prop} (hW : Wf sh R) {x1 : Int} {x2 : Int}
    (k : XVs d 77 2 [some (.inr 61), some (.inl x1), some (.inl x2), some (.inl x1), none, none, none] [] n sh R I Q) : XV d 77 [.inr 61, .inl x1, .inl x2] n sh R I Q := by
  refine XV.of (ls := [some (.inr 61), some (.inl x1), some (.inl x2), none, none, none, none]) (zloc_eq gY_77.2.2.1) ?_
  unfold XVs
  refine x_iload_n d77_0 rfl ?_
  refine x_istore_n (ls2 := [some (.inr 61), some (.inl x1), some (.inl x2), some (.inl x1), none, none, none]) d77_1 rfl rfl ?_
  exact k
set_option maxHeartbeats 4000000 in
theorem b_A_splitUpTo_2 {d n : Nat} {sh : ZS} {R : ZR} {I : ZI} {Q : ZI → Prop} (hW : Wf sh R) (hKn : Kn sh R (R 61 4) 20 20) {x1 : Int} {x2 : Int} {x3 : Int} {u4 : Option AV} {u5 : Option AV} {u6 : Option AV}
    (k : (if x2 < x3 then XVs d 77 31 [some (.inr 61), some (.inl x1), some (.inl x2), some (.inl 2), u4, u5, u6] [] n sh R I Q else (0 ≤ x3 ∧ x3 < 20) ∧ (0 ≤ x2 ∧ x2 < 20) ∧ (0 ≤ x3 ∧ x3 < 21) ∧ (zr (x3 + 1)) ∧ XVs d 77 2 [some (.inr 61), some (.inl x1), some (.inl x2), some (.inl (x3 + 1)), u4, u5, u6] [] n sh R (zup I (64 + 1 + 1) (x3).toNat (I ((R 61 4) + 1 + (x3).toNat) (x2).toNat)) Q)) : XVs d 77 2 [some (.inr 61), some (.inl x1), some (.inl x2), some (.inl x3), u4, u5, u6] [] n sh R I Q := by
  unfold XVs
  refine x_iload_n d77_2 rfl ?_
  refine x_iload_n d77_3 rfl ?_
  refine x_if2 (pc2 := 29) d77_4 rfl (fun c => ?_) (fun c => ?_)
  · replace c : x2 < x3 := c
    rw [if_pos c] at k
    refine x_iconst d77_29 rfl ?_
    refine x_istore_n (ls2 := [some (.inr 61), some (.inl x1), some (.inl x2), some (.inl 2), u4, u5, u6]) d77_30 rfl rfl ?_
    exact k
  · replace c : ¬ (x2 < x3) := c
    rw [if_neg c] at k
    refine x_aload_n d77_7 rfl ?_
    refine x_getR (r := 64) d77_8 gY_77.2.2.2 gF_8_20 rfl (sh_61 hW) (rf_61_3 hW) (by decide) ?_
    refine x_iconst d77_11 rfl ?_
    refine x_aald (q := (64 + 1 + 1)) d77_12 (Kn_64 hW).1 (by decide) (by decide) ((Kn_64 hW).2.1 1 (by decide)).1 (by omega) ?_
    refine x_iload_n d77_13 rfl ?_
    refine x_aload_n d77_14 rfl ?_
    refine x_getR (r := (R 61 4)) d77_15 gY_77.2.2.2 gF_8_23 rfl (sh_61 hW) rfl hKn.2.2 ?_
    refine x_iload_n d77_18 rfl ?_
    have e2 := k.1
    replace k := k.2
    have hj1 := hKn.2.1 (x3).toNat (by omega)
    refine x_aald (q := ((R 61 4) + 1 + (x3).toNat)) d77_19 hKn.1 e2.1 e2.2 hj1.1 (by omega) ?_
    refine x_iload_n d77_20 rfl ?_
    have e3 := k.1
    replace k := k.2
    refine x_iald d77_21 hj1.2 e3.1 e3.2 ?_
    have e4 := k.1
    replace k := k.2
    refine x_iast d77_22 ((Kn_64 hW).2.1 1 (by decide)).2 e4.1 e4.2 ?_
    have e5 := k.1
    replace k := k.2
    refine x_iinc (ls2 := [some (.inr 61), some (.inl x1), some (.inl x2), some (.inl (x3 + 1)), u4, u5, u6]) d77_23 rfl e5 rfl ?_
    refine x_goto (pc2 := 2) d77_26 rfl ?_
    exact k
set_option maxHeartbeats 4000000 in
theorem b_A_splitUpTo_31 {d n : Nat} {sh : ZS} {R : ZR} {I : ZI} {Q : ZI → Prop} (hW : Wf sh R) {x1 : Int} {x2 : Int} {x3 : Int} {u4 : Option AV} {u5 : Option AV} {u6 : Option AV}
    (k : (if I 15 0 < x3 then Q I else XVs d 77 45 [some (.inr 61), some (.inl x1), some (.inl x2), some (.inl x3), some (.inl x1), u5, u6] [] n sh R I Q)) : XVs d 77 31 [some (.inr 61), some (.inl x1), some (.inl x2), some (.inl x3), u4, u5, u6] [] n sh R I Q := by
  unfold XVs
  refine x_iload_n d77_31 rfl ?_
  refine x_aload_n d77_32 rfl ?_
  refine x_getR (r := 15) d77_33 gY_77.2.2.2 gF_8_29 rfl (sh_61 hW) (rf_61_0 hW) (by decide) ?_
  refine x_getI d77_36 gY_77.2.2.2 gF_8_74 rfl (sh_15 hW) ?_
  refine x_if2 (pc2 := 140) d77_39 rfl (fun c => ?_) (fun c => ?_)
  · replace c : I 15 0 < x3 := c
    rw [if_pos c] at k
    exact x_vret d77_140 gR_77 ⟨_, rfl, rfl, k⟩
  · replace c : ¬ (I 15 0 < x3) := c
    rw [if_neg c] at k
    refine x_iload_n d77_42 rfl ?_
    refine x_istore (ls2 := [some (.inr 61), some (.inl x1), some (.inl x2), some (.inl x3), some (.inl x1), u5, u6]) d77_43 rfl rfl ?_
    exact k
set_option maxHeartbeats 4000000 in
theorem b_A_splitUpTo_45 {d n : Nat} {sh : ZS} {R : ZR} {I : ZI} {Q : ZI → Prop} (hW : Wf sh R) {x1 : Int} {x2 : Int} {x3 : Int} {x4 : Int} {u5 : Option AV} {u6 : Option AV}
    (k : (if x2 < x4 then (zr (x3 + 1)) ∧ XVs d 77 31 [some (.inr 61), some (.inl x1), some (.inl x2), some (.inl (x3 + 1)), some (.inl x4), u5, u6] [] n sh R I Q else XVs d 77 59 [some (.inr 61), some (.inl x1), some (.inl x2), some (.inl x3), some (.inl x4), some (.inl 1000000), some (.inl x4)] [] n sh R I Q)) : XVs d 77 45 [some (.inr 61), some (.inl x1), some (.inl x2), some (.inl x3), some (.inl x4), u5, u6] [] n sh R I Q := by
  unfold XVs
  refine x_iload d77_45 rfl ?_
  refine x_iload_n d77_47 rfl ?_
  refine x_if2 (pc2 := 134) d77_48 rfl (fun c => ?_) (fun c => ?_)
  · replace c : x2 < x4 := c
    rw [if_pos c] at k
    have e1 := k.1
    replace k := k.2
    refine x_iinc (ls2 := [some (.inr 61), some (.inl x1), some (.inl x2), some (.inl (x3 + 1)), some (.inl x4), u5, u6]) d77_134 rfl e1 rfl ?_
    refine x_goto (pc2 := 31) d77_137 rfl ?_
    exact k
  · replace c : ¬ (x2 < x4) := c
    rw [if_neg c] at k
    refine x_ldc d77_51 gY_77.2.2.2 gK_8_41 rfl ?_
    refine x_istore (ls2 := [some (.inr 61), some (.inl x1), some (.inl x2), some (.inl x3), some (.inl x4), some (.inl 1000000), u6]) d77_53 rfl rfl ?_
    refine x_iload d77_55 rfl ?_
    refine x_istore (ls2 := [some (.inr 61), some (.inl x1), some (.inl x2), some (.inl x3), some (.inl x4), some (.inl 1000000), some (.inl x4)]) d77_57 rfl rfl ?_
    exact k
set_option maxHeartbeats 4000000 in
theorem b_A_splitUpTo_59 {d n : Nat} {sh : ZS} {R : ZR} {I : ZI} {Q : ZI → Prop} (hW : Wf sh R) (hKn : Kn sh R (R 61 4) 20 20) {x1 : Int} {x2 : Int} {x3 : Int} {x4 : Int} {x5 : Int} {x6 : Int}
    (k : (if x2 ≤ x6 then (0 ≤ x3 ∧ x3 < 10) ∧ (0 ≤ x4 ∧ x4 < 21) ∧ (zr (x4 + 1)) ∧ XVs d 77 45 [some (.inr 61), some (.inl x1), some (.inl x2), some (.inl x3), some (.inl (x4 + 1)), some (.inl x5), some (.inl x6)] [] n sh R (zup I (64 + 1 + (x3).toNat) (x4).toNat x5) Q else (0 ≤ x4 ∧ x4 < 20) ∧ (0 ≤ x6 ∧ x6 < 20) ∧ (if 1000000 ≤ I ((R 61 4) + 1 + (x4).toNat) (x6).toNat then (0 ≤ x3 ∧ x3 < 10) ∧ (0 ≤ x4 ∧ x4 < 21) ∧ (zr (x4 + 1)) ∧ XVs d 77 45 [some (.inr 61), some (.inl x1), some (.inl x2), some (.inl x3), some (.inl (x4 + 1)), some (.inl x5), some (.inl x6)] [] n sh R (zup I (64 + 1 + (x3).toNat) (x4).toNat x5) Q else (zr (x3 - 1)) ∧ (0 ≤ (x3 - 1) ∧ (x3 - 1) < 10) ∧ (zr (x6 + 1)) ∧ (0 ≤ (x6 + 1) ∧ (x6 + 1) < 21) ∧ (zr (I ((R 61 4) + 1 + (x4).toNat) (x6).toNat + I (64 + 1 + (x3 - 1).toNat) (x6 + 1).toNat)) ∧ XVs d 77 59 [some (.inr 61), some (.inl x1), some (.inl x2), some (.inl x3), some (.inl x4), some (.inl (if (I ((R 61 4) + 1 + (x4).toNat) (x6).toNat + I (64 + 1 + (x3 - 1).toNat) (x6 + 1).toNat) < x5 then (I ((R 61 4) + 1 + (x4).toNat) (x6).toNat + I (64 + 1 + (x3 - 1).toNat) (x6 + 1).toNat) else x5)), some (.inl (x6 + 1))] [] n sh R I Q))) : XVs d 77 59 [some (.inr 61), some (.inl x1), some (.inl x2), some (.inl x3), some (.inl x4), some (.inl x5), some (.inl x6)] [] n sh R I Q := by
  unfold XVs
  refine x_iload d77_59 rfl ?_
  refine x_iload_n d77_61 rfl ?_
  refine x_if2 (pc2 := 117) d77_62 rfl (fun c => ?_) (fun c => ?_)
  · replace c : x2 ≤ x6 := c
    rw [if_pos c] at k
    refine x_aload_n d77_117 rfl ?_
    refine x_getR (r := 64) d77_118 gY_77.2.2.2 gF_8_20 rfl (sh_61 hW) (rf_61_3 hW) (by decide) ?_
    refine x_iload_n d77_121 rfl ?_
    have e2 := k.1
    replace k := k.2
    have hj1 := (Kn_64 hW).2.1 (x3).toNat (by omega)
    refine x_aald (q := (64 + 1 + (x3).toNat)) d77_122 (Kn_64 hW).1 e2.1 e2.2 hj1.1 (by omega) ?_
    refine x_iload d77_123 rfl ?_
    refine x_iload d77_125 rfl ?_
    have e3 := k.1
    replace k := k.2
    refine x_iast d77_127 hj1.2 e3.1 e3.2 ?_
    have e4 := k.1
    replace k := k.2
    refine x_iinc (ls2 := [some (.inr 61), some (.inl x1), some (.inl x2), some (.inl x3), some (.inl (x4 + 1)), some (.inl x5), some (.inl x6)]) d77_128 rfl e4 rfl ?_
    refine x_goto (pc2 := 45) d77_131 rfl ?_
    exact k
  · replace c : ¬ (x2 ≤ x6) := c
    rw [if_neg c] at k
    refine x_aload_n d77_65 rfl ?_
    refine x_getR (r := (R 61 4)) d77_66 gY_77.2.2.2 gF_8_23 rfl (sh_61 hW) rfl hKn.2.2 ?_
    refine x_iload d77_69 rfl ?_
    have e6 := k.1
    replace k := k.2
    have hj5 := hKn.2.1 (x4).toNat (by omega)
    refine x_aald (q := ((R 61 4) + 1 + (x4).toNat)) d77_71 hKn.1 e6.1 e6.2 hj5.1 (by omega) ?_
    refine x_iload d77_72 rfl ?_
    have e7 := k.1
    replace k := k.2
    refine x_iald d77_74 hj5.2 e7.1 e7.2 ?_
    refine x_ldc d77_75 gY_77.2.2.2 gK_8_41 rfl ?_
    refine x_if2 (pc2 := 117) d77_77 rfl (fun c => ?_) (fun c => ?_)
    · replace c : 1000000 ≤ I ((R 61 4) + 1 + (x4).toNat) (x6).toNat := c
      rw [if_pos c] at k
      refine x_aload_n d77_117 rfl ?_
      refine x_getR (r := 64) d77_118 gY_77.2.2.2 gF_8_20 rfl (sh_61 hW) (rf_61_3 hW) (by decide) ?_
      refine x_iload_n d77_121 rfl ?_
      have e9 := k.1
      replace k := k.2
      have hj8 := (Kn_64 hW).2.1 (x3).toNat (by omega)
      refine x_aald (q := (64 + 1 + (x3).toNat)) d77_122 (Kn_64 hW).1 e9.1 e9.2 hj8.1 (by omega) ?_
      refine x_iload d77_123 rfl ?_
      refine x_iload d77_125 rfl ?_
      have e10 := k.1
      replace k := k.2
      refine x_iast d77_127 hj8.2 e10.1 e10.2 ?_
      have e11 := k.1
      replace k := k.2
      refine x_iinc (ls2 := [some (.inr 61), some (.inl x1), some (.inl x2), some (.inl x3), some (.inl (x4 + 1)), some (.inl x5), some (.inl x6)]) d77_128 rfl e11 rfl ?_
      refine x_goto (pc2 := 45) d77_131 rfl ?_
      exact k
    · replace c : ¬ (1000000 ≤ I ((R 61 4) + 1 + (x4).toNat) (x6).toNat) := c
      rw [if_neg c] at k
      refine x_iload d77_80 rfl ?_
      refine x_aload_n d77_82 rfl ?_
      refine x_getR (r := (R 61 4)) d77_83 gY_77.2.2.2 gF_8_23 rfl (sh_61 hW) rfl hKn.2.2 ?_
      refine x_iload d77_86 rfl ?_
      have hj12 := hKn.2.1 (x4).toNat (by omega)
      refine x_aald (q := ((R 61 4) + 1 + (x4).toNat)) d77_88 hKn.1 e6.1 e6.2 hj12.1 (by omega) ?_
      refine x_iload d77_89 rfl ?_
      refine x_iald d77_91 hj12.2 e7.1 e7.2 ?_
      refine x_aload_n d77_92 rfl ?_
      refine x_getR (r := 64) d77_93 gY_77.2.2.2 gF_8_20 rfl (sh_61 hW) (rf_61_3 hW) (by decide) ?_
      refine x_iload_n d77_96 rfl ?_
      refine x_iconst d77_97 rfl ?_
      have e13 := k.1
      replace k := k.2
      refine x_isub d77_98 e13 ?_
      have e15 := k.1
      replace k := k.2
      have hj14 := (Kn_64 hW).2.1 (x3 - 1).toNat (by omega)
      refine x_aald (q := (64 + 1 + (x3 - 1).toNat)) d77_99 (Kn_64 hW).1 e15.1 e15.2 hj14.1 (by omega) ?_
      refine x_iload d77_100 rfl ?_
      refine x_iconst d77_102 rfl ?_
      have e16 := k.1
      replace k := k.2
      refine x_iadd d77_103 e16 ?_
      have e17 := k.1
      replace k := k.2
      refine x_iald d77_104 hj14.2 e17.1 e17.2 ?_
      have e18 := k.1
      replace k := k.2
      refine x_iadd d77_105 e18 ?_
      refine x_min d77_106 gY_77.2.2.2 gM_8_69 (by decide) ?_
      refine x_istore (ls2 := [some (.inr 61), some (.inl x1), some (.inl x2), some (.inl x3), some (.inl x4), some (.inl (if (I ((R 61 4) + 1 + (x4).toNat) (x6).toNat + I (64 + 1 + (x3 - 1).toNat) (x6 + 1).toNat) < x5 then (I ((R 61 4) + 1 + (x4).toNat) (x6).toNat + I (64 + 1 + (x3 - 1).toNat) (x6 + 1).toNat) else x5)), some (.inl x6)]) d77_109 rfl rfl ?_
      refine x_iinc (ls2 := [some (.inr 61), some (.inl x1), some (.inl x2), some (.inl x3), some (.inl x4), some (.inl (if (I ((R 61 4) + 1 + (x4).toNat) (x6).toNat + I (64 + 1 + (x3 - 1).toNat) (x6 + 1).toNat) < x5 then (I ((R 61 4) + 1 + (x4).toNat) (x6).toNat + I (64 + 1 + (x3 - 1).toNat) (x6 + 1).toNat) else x5)), some (.inl (x6 + 1))]) d77_111 rfl e16 rfl ?_
      refine x_goto (pc2 := 59) d77_114 rfl ?_
      exact k
