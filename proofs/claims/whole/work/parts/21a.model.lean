set_option maxHeartbeats 4000000 in
theorem b_M_letter_0 {d n : Nat} {sh : ZS} {R : ZR} {I : ZI} {Q : Int → ZI → Prop} (hW : Wf sh R) {x1 : Int} {x2 : Int} {x3 : Int}
    (k : (if x1 < 0 then Q (-1) I else (if 20 ≤ x1 then Q (-1) I else (if x2 < 0 then Q (-1) I else (if 99 < x2 then Q (-1) I else (if x3 < 0 then Q (-1) I else (if 12 < x3 then Q (-1) I else (if x3 ≤ 0 then (if ¬ I 137 0 = 32 then (0 ≤ I 137 0 ∧ I 137 0 < 32) ∧ (if ¬ x3 = 0 then (zr (I 137 0 + 1)) ∧ (zr ((I 137 0 + 1) - 1)) ∧ Q ((I 137 0 + 1) - 1) (zup (zup (zup (zup (zup I 138 (I 137 0).toNat x1) 139 (I 137 0).toNat x2) 140 (I 137 0).toNat x3) 141 (I 137 0).toNat 9) 137 0 (I 137 0 + 1)) else (0 ≤ I 137 1 ∧ I 137 1 < 32) ∧ (zr (I 137 1 + 1)) ∧ (zr (I 137 0 + 1)) ∧ (zr ((I 137 0 + 1) - 1)) ∧ Q ((I 137 0 + 1) - 1) (zup (zup (zup (zup (zup (zup (zup I 138 (I 137 0).toNat x1) 139 (I 137 0).toNat x2) 140 (I 137 0).toNat x3) 141 (I 137 0).toNat 9) 142 (I 137 1).toNat (I 137 0)) 137 1 (I 137 1 + 1)) 137 0 (I 137 0 + 1))) else Q (-1) I) else (if x3 ≤ I 137 2 then Q (-1) I else (if ¬ I 137 0 = 32 then (0 ≤ I 137 0 ∧ I 137 0 < 32) ∧ (if ¬ x3 = 0 then (zr (I 137 0 + 1)) ∧ (zr ((I 137 0 + 1) - 1)) ∧ Q ((I 137 0 + 1) - 1) (zup (zup (zup (zup (zup I 138 (I 137 0).toNat x1) 139 (I 137 0).toNat x2) 140 (I 137 0).toNat x3) 141 (I 137 0).toNat 9) 137 0 (I 137 0 + 1)) else (0 ≤ I 137 1 ∧ I 137 1 < 32) ∧ (zr (I 137 1 + 1)) ∧ (zr (I 137 0 + 1)) ∧ (zr ((I 137 0 + 1) - 1)) ∧ Q ((I 137 0 + 1) - 1) (zup (zup (zup (zup (zup (zup (zup I 138 (I 137 0).toNat x1) 139 (I 137 0).toNat x2) 140 (I 137 0).toNat x3) 141 (I 137 0).toNat 9) 142 (I 137 1).toNat (I 137 0)) 137 1 (I 137 1 + 1)) 137 0 (I 137 0 + 1))) else Q (-1) I)))))))))) : XI (d + 1) 148 [.inr 137, .inl x1, .inl x2, .inl x3] n sh R I Q := by
  refine XI.of (ls := [some (.inr 137), some (.inl x1), some (.inl x2), some (.inl x3)]) (zloc_eq gY_148.2.2.1) ?_
  unfold XIs
  refine x_iload_n d148_0 rfl ?_
  refine y_ins (as := [.inl x1]) (t := []) (ls2 := [some (.inl x1)]) gY_145 d148_1 gY_148.2.2.2 gM_12_165 rfl rfl rfl ?_
  refine x_iload_n d145_0 rfl ?_
  refine x_if1 (pc2 := 14) d145_1 rfl (fun c => ?_) (fun c => ?_)
  · replace c : x1 < 0 := c
    rw [if_pos c] at k
    refine x_iconst d145_14 rfl ?_
    refine x_zret d145_15 gR_145 (by decide) ?_
    show Ex (d + 1) 148 4 [some (.inr 137), some (.inl x1), some (.inl x2), some (.inl x3)] [.inl 0] (0, 0, n, sh, R, I) _
    refine x_if1 (pc2 := 48) d148_4 rfl (fun _ => ?_) (fun c => absurd (show (0 : Int) = 0 by decide) c)
    refine x_iconst d148_48 rfl ?_
    exact x_iret d148_49 gR_148 ⟨_, _, rfl, rfl, k⟩
  · replace c : ¬ (x1 < 0) := c
    rw [if_neg c] at k
    refine x_iload_n d145_4 rfl ?_
    refine x_bipush d145_5 rfl ?_
    refine x_if2 (pc2 := 14) d145_7 rfl (fun c => ?_) (fun c => ?_)
    · replace c : 20 ≤ x1 := c
      rw [if_pos c] at k
      refine x_iconst d145_14 rfl ?_
      refine x_zret d145_15 gR_145 (by decide) ?_
      show Ex (d + 1) 148 4 [some (.inr 137), some (.inl x1), some (.inl x2), some (.inl x3)] [.inl 0] (0, 0, n, sh, R, I) _
      refine x_if1 (pc2 := 48) d148_4 rfl (fun _ => ?_) (fun c => absurd (show (0 : Int) = 0 by decide) c)
      refine x_iconst d148_48 rfl ?_
      exact x_iret d148_49 gR_148 ⟨_, _, rfl, rfl, k⟩
    · replace c : ¬ (20 ≤ x1) := c
      rw [if_neg c] at k
      refine x_iconst d145_10 rfl ?_
      refine x_goto (pc2 := 15) d145_11 rfl ?_
      refine x_zret d145_15 gR_145 (by decide) ?_
      show Ex (d + 1) 148 4 [some (.inr 137), some (.inl x1), some (.inl x2), some (.inl x3)] [.inl 1] (0, 0, n, sh, R, I) _
      refine x_if1 (pc2 := 48) d148_4 rfl (fun c => absurd (show (1 : Int) = 0 from c) (by decide)) (fun _ => ?_)
      refine x_iload_n d148_7 rfl ?_
      refine x_iconst d148_8 rfl ?_
      refine x_bipush d148_9 rfl ?_
      refine y_ins (as := [.inl x2, .inl 0, .inl 99]) (t := []) (ls2 := [some (.inl x2), some (.inl 0), some (.inl 99)]) gY_140 d148_11 gY_148.2.2.2 gM_12_169 rfl rfl rfl ?_
      refine x_iload_n d140_0 rfl ?_
      refine x_iload_n d140_1 rfl ?_
      refine x_if2 (pc2 := 14) d140_2 rfl (fun c => ?_) (fun c => ?_)
      · replace c : x2 < 0 := c
        rw [if_pos c] at k
        refine x_iconst d140_14 rfl ?_
        refine x_zret d140_15 gR_140 (by decide) ?_
        show Ex (d + 1) 148 14 [some (.inr 137), some (.inl x1), some (.inl x2), some (.inl x3)] [.inl 0] (0, 0, n, sh, R, I) _
        refine x_if1 (pc2 := 48) d148_14 rfl (fun _ => ?_) (fun c => absurd (show (0 : Int) = 0 by decide) c)
        refine x_iconst d148_48 rfl ?_
        exact x_iret d148_49 gR_148 ⟨_, _, rfl, rfl, k⟩
      · replace c : ¬ (x2 < 0) := c
        rw [if_neg c] at k
        refine x_iload_n d140_5 rfl ?_
        refine x_iload_n d140_6 rfl ?_
        refine x_if2 (pc2 := 14) d140_7 rfl (fun c => ?_) (fun c => ?_)
        · replace c : 99 < x2 := c
          rw [if_pos c] at k
          refine x_iconst d140_14 rfl ?_
          refine x_zret d140_15 gR_140 (by decide) ?_
          show Ex (d + 1) 148 14 [some (.inr 137), some (.inl x1), some (.inl x2), some (.inl x3)] [.inl 0] (0, 0, n, sh, R, I) _
          refine x_if1 (pc2 := 48) d148_14 rfl (fun _ => ?_) (fun c => absurd (show (0 : Int) = 0 by decide) c)
          refine x_iconst d148_48 rfl ?_
          exact x_iret d148_49 gR_148 ⟨_, _, rfl, rfl, k⟩
        · replace c : ¬ (99 < x2) := c
          rw [if_neg c] at k
          refine x_iconst d140_10 rfl ?_
          refine x_goto (pc2 := 15) d140_11 rfl ?_
          refine x_zret d140_15 gR_140 (by decide) ?_
          show Ex (d + 1) 148 14 [some (.inr 137), some (.inl x1), some (.inl x2), some (.inl x3)] [.inl 1] (0, 0, n, sh, R, I) _
          refine x_if1 (pc2 := 48) d148_14 rfl (fun c => absurd (show (1 : Int) = 0 from c) (by decide)) (fun _ => ?_)
          refine x_iload_n d148_17 rfl ?_
          refine x_iconst d148_18 rfl ?_
          refine x_bipush d148_19 rfl ?_
          refine y_ins (as := [.inl x3, .inl 0, .inl 12]) (t := []) (ls2 := [some (.inl x3), some (.inl 0), some (.inl 12)]) gY_140 d148_21 gY_148.2.2.2 gM_12_169 rfl rfl rfl ?_
          refine x_iload_n d140_0 rfl ?_
          refine x_iload_n d140_1 rfl ?_
          refine x_if2 (pc2 := 14) d140_2 rfl (fun c => ?_) (fun c => ?_)
          · replace c : x3 < 0 := c
            rw [if_pos c] at k
            refine x_iconst d140_14 rfl ?_
            refine x_zret d140_15 gR_140 (by decide) ?_
            show Ex (d + 1) 148 24 [some (.inr 137), some (.inl x1), some (.inl x2), some (.inl x3)] [.inl 0] (0, 0, n, sh, R, I) _
            refine x_if1 (pc2 := 48) d148_24 rfl (fun _ => ?_) (fun c => absurd (show (0 : Int) = 0 by decide) c)
            refine x_iconst d148_48 rfl ?_
            exact x_iret d148_49 gR_148 ⟨_, _, rfl, rfl, k⟩
          · replace c : ¬ (x3 < 0) := c
            rw [if_neg c] at k
            refine x_iload_n d140_5 rfl ?_
            refine x_iload_n d140_6 rfl ?_
            refine x_if2 (pc2 := 14) d140_7 rfl (fun c => ?_) (fun c => ?_)
            · replace c : 12 < x3 := c
              rw [if_pos c] at k
              refine x_iconst d140_14 rfl ?_
              refine x_zret d140_15 gR_140 (by decide) ?_
              show Ex (d + 1) 148 24 [some (.inr 137), some (.inl x1), some (.inl x2), some (.inl x3)] [.inl 0] (0, 0, n, sh, R, I) _
              refine x_if1 (pc2 := 48) d148_24 rfl (fun _ => ?_) (fun c => absurd (show (0 : Int) = 0 by decide) c)
              refine x_iconst d148_48 rfl ?_
              exact x_iret d148_49 gR_148 ⟨_, _, rfl, rfl, k⟩
            · replace c : ¬ (12 < x3) := c
              rw [if_neg c] at k
              refine x_iconst d140_10 rfl ?_
              refine x_goto (pc2 := 15) d140_11 rfl ?_
              refine x_zret d140_15 gR_140 (by decide) ?_
              show Ex (d + 1) 148 24 [some (.inr 137), some (.inl x1), some (.inl x2), some (.inl x3)] [.inl 1] (0, 0, n, sh, R, I) _
              refine x_if1 (pc2 := 48) d148_24 rfl (fun c => absurd (show (1 : Int) = 0 from c) (by decide)) (fun _ => ?_)
              refine x_iload_n d148_27 rfl ?_
              refine x_if1 (pc2 := 39) d148_28 rfl (fun c => ?_) (fun c => ?_)
              · replace c : x3 ≤ 0 := c
                rw [if_pos c] at k
                refine x_aload_n d148_39 rfl ?_
                refine x_getI d148_40 gY_148.2.2.2 gF_12_159 rfl (sh_137 hW) ?_
                refine x_bipush d148_43 rfl ?_
                refine x_if2 (pc2 := 50) d148_45 rfl (fun c => ?_) (fun c => ?_)
                · replace c : ¬ I 137 0 = 32 := c
                  rw [if_pos c] at k
                  refine x_aload_n d148_50 rfl ?_
                  refine x_getR (r := 138) d148_51 gY_148.2.2.2 gF_12_7 rfl (sh_137 hW) (rf_137_6 hW) (by decide) ?_
                  refine x_aload_n d148_54 rfl ?_
                  refine x_getI d148_55 gY_148.2.2.2 gF_12_159 rfl (sh_137 hW) ?_
                  refine x_iload_n d148_58 rfl ?_
                  have e1 := k.1
                  replace k := k.2
                  refine x_iast d148_59 (sh_138 hW) e1.1 e1.2 ?_
                  refine x_aload_n d148_60 rfl ?_
                  refine x_getR (r := 139) d148_61 gY_148.2.2.2 gF_12_13 rfl (sh_137 hW) (rf_137_7 hW) (by decide) ?_
                  refine x_aload_n d148_64 rfl ?_
                  refine x_getI d148_65 gY_148.2.2.2 gF_12_159 rfl (sh_137 hW) ?_
                  refine x_iload_n d148_68 rfl ?_
                  refine x_iast d148_69 (sh_139 hW) e1.1 e1.2 ?_
                  refine x_aload_n d148_70 rfl ?_
                  refine x_getR (r := 140) d148_71 gY_148.2.2.2 gF_12_16 rfl (sh_137 hW) (rf_137_8 hW) (by decide) ?_
                  refine x_aload_n d148_74 rfl ?_
                  refine x_getI d148_75 gY_148.2.2.2 gF_12_159 rfl (sh_137 hW) ?_
                  refine x_iload_n d148_78 rfl ?_
                  refine x_iast d148_79 (sh_140 hW) e1.1 e1.2 ?_
                  refine x_aload_n d148_80 rfl ?_
                  refine x_getR (r := 141) d148_81 gY_148.2.2.2 gF_12_19 rfl (sh_137 hW) (rf_137_9 hW) (by decide) ?_
                  refine x_aload_n d148_84 rfl ?_
                  refine x_getI d148_85 gY_148.2.2.2 gF_12_159 rfl (sh_137 hW) ?_
                  refine x_bipush d148_88 rfl ?_
                  refine x_iast d148_90 (sh_141 hW) e1.1 e1.2 ?_
                  refine x_iload_n d148_91 rfl ?_
                  refine x_if1 (pc2 := 103) d148_92 rfl (fun c => ?_) (fun c => ?_)
                  · replace c : ¬ x3 = 0 := c
                    rw [if_pos c] at k
                    refine x_aload_n d148_103 rfl ?_
                    refine x_aload_n d148_104 rfl ?_
                    refine x_getI d148_105 gY_148.2.2.2 gF_12_159 rfl (sh_137 hW) ?_
                    refine x_iconst d148_108 rfl ?_
                    have e2 := k.1
                    replace k := k.2
                    refine x_iadd d148_109 e2 ?_
                    refine x_putI d148_110 gY_148.2.2.2 gF_12_159 rfl rfl (sh_137 hW) ?_
                    refine x_aload_n d148_113 rfl ?_
                    refine x_getI d148_114 gY_148.2.2.2 gF_12_159 rfl (sh_137 hW) ?_
                    refine x_iconst d148_117 rfl ?_
                    have e3 := k.1
                    replace k := k.2
                    refine x_isub d148_118 e3 ?_
                    exact x_iret d148_119 gR_148 ⟨_, _, rfl, rfl, k⟩
                  · replace c : ¬ (¬ x3 = 0) := c
                    rw [if_neg c] at k
                    refine x_aload_n d148_95 rfl ?_
                    refine x_aload_n d148_96 rfl ?_
                    refine x_getI d148_97 gY_148.2.2.2 gF_12_159 rfl (sh_137 hW) ?_
                    refine y_inv (as := [.inl (I 137 0)]) (t := []) (o := 137) (ls2 := [some (.inr 137), some (.inl (I 137 0))]) gY_147 d148_100 gY_148.2.2.2 gM_12_176 rfl (sh_137 hW) rfl rfl ?_
                    refine x_aload_n d147_0 rfl ?_
                    refine x_getR (r := 142) d147_1 gY_147.2.2.2 gF_12_22 rfl (sh_137 hW) (rf_137_10 hW) (by decide) ?_
                    refine x_aload_n d147_4 rfl ?_
                    refine x_getI d147_5 gY_147.2.2.2 gF_12_162 rfl (sh_137 hW) ?_
                    refine x_iload_n d147_8 rfl ?_
                    have e4 := k.1
                    replace k := k.2
                    refine x_iast d147_9 (sh_142 hW) e4.1 e4.2 ?_
                    refine x_aload_n d147_10 rfl ?_
                    refine x_aload_n d147_11 rfl ?_
                    refine x_getI d147_12 gY_147.2.2.2 gF_12_162 rfl (sh_137 hW) ?_
                    refine x_iconst d147_15 rfl ?_
                    have e5 := k.1
                    replace k := k.2
                    refine x_iadd d147_16 e5 ?_
                    refine x_putI d147_17 gY_147.2.2.2 gF_12_162 rfl rfl (sh_137 hW) ?_
                    refine x_vret d147_20 gR_147 ?_
                    show Ex (d + 1) 148 103 [some (.inr 137), some (.inl x1), some (.inl x2), some (.inl x3)] [] (0, 0, n, sh, R, (zup (zup (zup (zup (zup (zup I 138 (I 137 0).toNat x1) 139 (I 137 0).toNat x2) 140 (I 137 0).toNat x3) 141 (I 137 0).toNat 9) 142 (I 137 1).toNat (I 137 0)) 137 1 (I 137 1 + 1))) _
                    refine x_aload_n d148_103 rfl ?_
                    refine x_aload_n d148_104 rfl ?_
                    refine x_getI d148_105 gY_148.2.2.2 gF_12_159 rfl (sh_137 hW) ?_
                    refine x_iconst d148_108 rfl ?_
                    have e6 := k.1
                    replace k := k.2
                    refine x_iadd d148_109 e6 ?_
                    refine x_putI d148_110 gY_148.2.2.2 gF_12_159 rfl rfl (sh_137 hW) ?_
                    refine x_aload_n d148_113 rfl ?_
                    refine x_getI d148_114 gY_148.2.2.2 gF_12_159 rfl (sh_137 hW) ?_
                    refine x_iconst d148_117 rfl ?_
                    have e7 := k.1
                    replace k := k.2
                    refine x_isub d148_118 e7 ?_
                    exact x_iret d148_119 gR_148 ⟨_, _, rfl, rfl, k⟩
                · replace c : ¬ (¬ I 137 0 = 32) := c
                  rw [if_neg c] at k
                  refine x_iconst d148_48 rfl ?_
                  exact x_iret d148_49 gR_148 ⟨_, _, rfl, rfl, k⟩
              · replace c : ¬ (x3 ≤ 0) := c
                rw [if_neg c] at k
                refine x_iload_n d148_31 rfl ?_
                refine x_aload_n d148_32 rfl ?_
                refine x_getI d148_33 gY_148.2.2.2 gF_12_173 rfl (sh_137 hW) ?_
                refine x_if2 (pc2 := 48) d148_36 rfl (fun c => ?_) (fun c => ?_)
                · replace c : x3 ≤ I 137 2 := c
                  rw [if_pos c] at k
                  refine x_iconst d148_48 rfl ?_
                  exact x_iret d148_49 gR_148 ⟨_, _, rfl, rfl, k⟩
                · replace c : ¬ (x3 ≤ I 137 2) := c
                  rw [if_neg c] at k
                  refine x_aload_n d148_39 rfl ?_
                  refine x_getI d148_40 gY_148.2.2.2 gF_12_159 rfl (sh_137 hW) ?_
                  refine x_bipush d148_43 rfl ?_
                  refine x_if2 (pc2 := 50) d148_45 rfl (fun c => ?_) (fun c => ?_)
                  · replace c : ¬ I 137 0 = 32 := c
                    rw [if_pos c] at k
                    refine x_aload_n d148_50 rfl ?_
                    refine x_getR (r := 138) d148_51 gY_148.2.2.2 gF_12_7 rfl (sh_137 hW) (rf_137_6 hW) (by decide) ?_
                    refine x_aload_n d148_54 rfl ?_
                    refine x_getI d148_55 gY_148.2.2.2 gF_12_159 rfl (sh_137 hW) ?_
                    refine x_iload_n d148_58 rfl ?_
                    have e8 := k.1
                    replace k := k.2
                    refine x_iast d148_59 (sh_138 hW) e8.1 e8.2 ?_
                    refine x_aload_n d148_60 rfl ?_
                    refine x_getR (r := 139) d148_61 gY_148.2.2.2 gF_12_13 rfl (sh_137 hW) (rf_137_7 hW) (by decide) ?_
                    refine x_aload_n d148_64 rfl ?_
                    refine x_getI d148_65 gY_148.2.2.2 gF_12_159 rfl (sh_137 hW) ?_
                    refine x_iload_n d148_68 rfl ?_
                    refine x_iast d148_69 (sh_139 hW) e8.1 e8.2 ?_
                    refine x_aload_n d148_70 rfl ?_
                    refine x_getR (r := 140) d148_71 gY_148.2.2.2 gF_12_16 rfl (sh_137 hW) (rf_137_8 hW) (by decide) ?_
                    refine x_aload_n d148_74 rfl ?_
                    refine x_getI d148_75 gY_148.2.2.2 gF_12_159 rfl (sh_137 hW) ?_
                    refine x_iload_n d148_78 rfl ?_
                    refine x_iast d148_79 (sh_140 hW) e8.1 e8.2 ?_
                    refine x_aload_n d148_80 rfl ?_
                    refine x_getR (r := 141) d148_81 gY_148.2.2.2 gF_12_19 rfl (sh_137 hW) (rf_137_9 hW) (by decide) ?_
                    refine x_aload_n d148_84 rfl ?_
                    refine x_getI d148_85 gY_148.2.2.2 gF_12_159 rfl (sh_137 hW) ?_
                    refine x_bipush d148_88 rfl ?_
                    refine x_iast d148_90 (sh_141 hW) e8.1 e8.2 ?_
                    refine x_iload_n d148_91 rfl ?_
                    refine x_if1 (pc2 := 103) d148_92 rfl (fun c => ?_) (fun c => ?_)
                    · replace c : ¬ x3 = 0 := c
                      rw [if_pos c] at k
                      refine x_aload_n d148_103 rfl ?_
                      refine x_aload_n d148_104 rfl ?_
                      refine x_getI d148_105 gY_148.2.2.2 gF_12_159 rfl (sh_137 hW) ?_
                      refine x_iconst d148_108 rfl ?_
                      have e9 := k.1
                      replace k := k.2
                      refine x_iadd d148_109 e9 ?_
                      refine x_putI d148_110 gY_148.2.2.2 gF_12_159 rfl rfl (sh_137 hW) ?_
                      refine x_aload_n d148_113 rfl ?_
                      refine x_getI d148_114 gY_148.2.2.2 gF_12_159 rfl (sh_137 hW) ?_
                      refine x_iconst d148_117 rfl ?_
                      have e10 := k.1
                      replace k := k.2
                      refine x_isub d148_118 e10 ?_
                      exact x_iret d148_119 gR_148 ⟨_, _, rfl, rfl, k⟩
                    · replace c : ¬ (¬ x3 = 0) := c
                      rw [if_neg c] at k
                      refine x_aload_n d148_95 rfl ?_
                      refine x_aload_n d148_96 rfl ?_
                      refine x_getI d148_97 gY_148.2.2.2 gF_12_159 rfl (sh_137 hW) ?_
                      refine y_inv (as := [.inl (I 137 0)]) (t := []) (o := 137) (ls2 := [some (.inr 137), some (.inl (I 137 0))]) gY_147 d148_100 gY_148.2.2.2 gM_12_176 rfl (sh_137 hW) rfl rfl ?_
                      refine x_aload_n d147_0 rfl ?_
                      refine x_getR (r := 142) d147_1 gY_147.2.2.2 gF_12_22 rfl (sh_137 hW) (rf_137_10 hW) (by decide) ?_
                      refine x_aload_n d147_4 rfl ?_
                      refine x_getI d147_5 gY_147.2.2.2 gF_12_162 rfl (sh_137 hW) ?_
                      refine x_iload_n d147_8 rfl ?_
                      have e11 := k.1
                      replace k := k.2
                      refine x_iast d147_9 (sh_142 hW) e11.1 e11.2 ?_
                      refine x_aload_n d147_10 rfl ?_
                      refine x_aload_n d147_11 rfl ?_
                      refine x_getI d147_12 gY_147.2.2.2 gF_12_162 rfl (sh_137 hW) ?_
                      refine x_iconst d147_15 rfl ?_
                      have e12 := k.1
                      replace k := k.2
                      refine x_iadd d147_16 e12 ?_
                      refine x_putI d147_17 gY_147.2.2.2 gF_12_162 rfl rfl (sh_137 hW) ?_
                      refine x_vret d147_20 gR_147 ?_
                      show Ex (d + 1) 148 103 [some (.inr 137), some (.inl x1), some (.inl x2), some (.inl x3)] [] (0, 0, n, sh, R, (zup (zup (zup (zup (zup (zup I 138 (I 137 0).toNat x1) 139 (I 137 0).toNat x2) 140 (I 137 0).toNat x3) 141 (I 137 0).toNat 9) 142 (I 137 1).toNat (I 137 0)) 137 1 (I 137 1 + 1))) _
                      refine x_aload_n d148_103 rfl ?_
                      refine x_aload_n d148_104 rfl ?_
                      refine x_getI d148_105 gY_148.2.2.2 gF_12_159 rfl (sh_137 hW) ?_
                      refine x_iconst d148_108 rfl ?_
                      have e13 := k.1
                      replace k := k.2
                      refine x_iadd d148_109 e13 ?_
                      refine x_putI d148_110 gY_148.2.2.2 gF_12_159 rfl rfl (sh_137 hW) ?_
                      refine x_aload_n d148_113 rfl ?_
                      refine x_getI d148_114 gY_148.2.2.2 gF_12_159 rfl (sh_137 hW) ?_
                      refine x_iconst d148_117 rfl ?_
                      have e14 := k.1
                      replace k := k.2
                      refine x_isub d148_118 e14 ?_
                      exact x_iret d148_119 gR_148 ⟨_, _, rfl, rfl, k⟩
                  · replace c : ¬ (¬ I 137 0 = 32) := c
                    rw [if_neg c] at k
                    refine x_iconst d148_48 rfl ?_
                    exact x_iret d148_49 gR_148 ⟨_, _, rfl, rfl, k⟩
set_option maxHeartbeats 4000000 in
theorem b_M_rank_0 {d n : Nat} {sh : ZS} {R : ZR} {I : ZI} {Q : Int → ZI → Prop} (hW : Wf sh R) {x1 : Int} {x2 : Int}
    (k : (if x1 < 0 then Q 0 I else (if 20 ≤ x1 then Q 0 I else (if x2 < 0 then Q 0 I else (if 20 ≤ x2 then Q 0 I else (0 ≤ x1 ∧ x1 < 20) ∧ Q 1 (zup I 143 (x1).toNat x2)))))) : XI (d + 1) 149 [.inr 137, .inl x1, .inl x2] n sh R I Q := by
  refine XI.of (ls := [some (.inr 137), some (.inl x1), some (.inl x2)]) (zloc_eq gY_149.2.2.1) ?_
  unfold XIs
  refine x_iload_n d149_0 rfl ?_
  refine y_ins (as := [.inl x1]) (t := []) (ls2 := [some (.inl x1)]) gY_145 d149_1 gY_149.2.2.2 gM_12_165 rfl rfl rfl ?_
  refine x_iload_n d145_0 rfl ?_
  refine x_if1 (pc2 := 14) d145_1 rfl (fun c => ?_) (fun c => ?_)
  · replace c : x1 < 0 := c
    rw [if_pos c] at k
    refine x_iconst d145_14 rfl ?_
    refine x_zret d145_15 gR_145 (by decide) ?_
    show Ex (d + 1) 149 4 [some (.inr 137), some (.inl x1), some (.inl x2)] [.inl 0] (0, 0, n, sh, R, I) _
    refine x_if1 (pc2 := 14) d149_4 rfl (fun _ => ?_) (fun c => absurd (show (0 : Int) = 0 by decide) c)
    refine x_iconst d149_14 rfl ?_
    exact x_zret d149_15 gR_149 (by decide) ⟨_, _, rfl, rfl, k⟩
  · replace c : ¬ (x1 < 0) := c
    rw [if_neg c] at k
    refine x_iload_n d145_4 rfl ?_
    refine x_bipush d145_5 rfl ?_
    refine x_if2 (pc2 := 14) d145_7 rfl (fun c => ?_) (fun c => ?_)
    · replace c : 20 ≤ x1 := c
      rw [if_pos c] at k
      refine x_iconst d145_14 rfl ?_
      refine x_zret d145_15 gR_145 (by decide) ?_
      show Ex (d + 1) 149 4 [some (.inr 137), some (.inl x1), some (.inl x2)] [.inl 0] (0, 0, n, sh, R, I) _
      refine x_if1 (pc2 := 14) d149_4 rfl (fun _ => ?_) (fun c => absurd (show (0 : Int) = 0 by decide) c)
      refine x_iconst d149_14 rfl ?_
      exact x_zret d149_15 gR_149 (by decide) ⟨_, _, rfl, rfl, k⟩
    · replace c : ¬ (20 ≤ x1) := c
      rw [if_neg c] at k
      refine x_iconst d145_10 rfl ?_
      refine x_goto (pc2 := 15) d145_11 rfl ?_
      refine x_zret d145_15 gR_145 (by decide) ?_
      show Ex (d + 1) 149 4 [some (.inr 137), some (.inl x1), some (.inl x2)] [.inl 1] (0, 0, n, sh, R, I) _
      refine x_if1 (pc2 := 14) d149_4 rfl (fun c => absurd (show (1 : Int) = 0 from c) (by decide)) (fun _ => ?_)
      refine x_iload_n d149_7 rfl ?_
      refine y_ins (as := [.inl x2]) (t := []) (ls2 := [some (.inl x2)]) gY_145 d149_8 gY_149.2.2.2 gM_12_165 rfl rfl rfl ?_
      refine x_iload_n d145_0 rfl ?_
      refine x_if1 (pc2 := 14) d145_1 rfl (fun c => ?_) (fun c => ?_)
      · replace c : x2 < 0 := c
        rw [if_pos c] at k
        refine x_iconst d145_14 rfl ?_
        refine x_zret d145_15 gR_145 (by decide) ?_
        show Ex (d + 1) 149 11 [some (.inr 137), some (.inl x1), some (.inl x2)] [.inl 0] (0, 0, n, sh, R, I) _
        refine x_if1 (pc2 := 16) d149_11 rfl (fun c => absurd (show ¬ (0 : Int) = 0 from c) (by decide)) (fun _ => ?_)
        refine x_iconst d149_14 rfl ?_
        exact x_zret d149_15 gR_149 (by decide) ⟨_, _, rfl, rfl, k⟩
      · replace c : ¬ (x2 < 0) := c
        rw [if_neg c] at k
        refine x_iload_n d145_4 rfl ?_
        refine x_bipush d145_5 rfl ?_
        refine x_if2 (pc2 := 14) d145_7 rfl (fun c => ?_) (fun c => ?_)
        · replace c : 20 ≤ x2 := c
          rw [if_pos c] at k
          refine x_iconst d145_14 rfl ?_
          refine x_zret d145_15 gR_145 (by decide) ?_
          show Ex (d + 1) 149 11 [some (.inr 137), some (.inl x1), some (.inl x2)] [.inl 0] (0, 0, n, sh, R, I) _
          refine x_if1 (pc2 := 16) d149_11 rfl (fun c => absurd (show ¬ (0 : Int) = 0 from c) (by decide)) (fun _ => ?_)
          refine x_iconst d149_14 rfl ?_
          exact x_zret d149_15 gR_149 (by decide) ⟨_, _, rfl, rfl, k⟩
        · replace c : ¬ (20 ≤ x2) := c
          rw [if_neg c] at k
          refine x_iconst d145_10 rfl ?_
          refine x_goto (pc2 := 15) d145_11 rfl ?_
          refine x_zret d145_15 gR_145 (by decide) ?_
          show Ex (d + 1) 149 11 [some (.inr 137), some (.inl x1), some (.inl x2)] [.inl 1] (0, 0, n, sh, R, I) _
          refine x_if1 (pc2 := 16) d149_11 rfl (fun _ => ?_) (fun c => absurd (show ¬ (1 : Int) = 0 by decide) c)
          refine x_aload_n d149_16 rfl ?_
          refine x_getR (r := 143) d149_17 gY_149.2.2.2 gF_12_25 rfl (sh_137 hW) (rf_137_11 hW) (by decide) ?_
          refine x_iload_n d149_20 rfl ?_
          refine x_iload_n d149_21 rfl ?_
          have e1 := k.1
          replace k := k.2
          refine x_iast d149_22 (sh_143 hW) e1.1 e1.2 ?_
          refine x_iconst d149_23 rfl ?_
          exact x_zret d149_24 gR_149 (by decide) ⟨_, _, rfl, rfl, k⟩
set_option maxHeartbeats 4000000 in
theorem b_M_rack_0 {d n : Nat} {sh : ZS} {R : ZR} {I : ZI} {Q : Int → ZI → Prop} (hW : Wf sh R) {x1 : Int} {x2 : Int}
    (k : (if x1 < 1 then Q 0 I else (if 9 < x1 then Q 0 I else (if x2 < 0 then Q 0 I else (if x2 < (zshl 1 x1) then Q 1 (zup (zup I 137 3 x1) 137 4 x2) else Q 0 I))))) : XI (d + 1) 150 [.inr 137, .inl x1, .inl x2] n sh R I Q := by
  refine XI.of (ls := [some (.inr 137), some (.inl x1), some (.inl x2)]) (zloc_eq gY_150.2.2.1) ?_
  unfold XIs
  refine x_iload_n d150_0 rfl ?_
  refine x_iconst d150_1 rfl ?_
  refine x_bipush d150_2 rfl ?_
  refine y_ins (as := [.inl x1, .inl 1, .inl 9]) (t := []) (ls2 := [some (.inl x1), some (.inl 1), some (.inl 9)]) gY_140 d150_4 gY_150.2.2.2 gM_12_169 rfl rfl rfl ?_
  refine x_iload_n d140_0 rfl ?_
  refine x_iload_n d140_1 rfl ?_
  refine x_if2 (pc2 := 14) d140_2 rfl (fun c => ?_) (fun c => ?_)
  · replace c : x1 < 1 := c
    rw [if_pos c] at k
    refine x_iconst d140_14 rfl ?_
    refine x_zret d140_15 gR_140 (by decide) ?_
    show Ex (d + 1) 150 7 [some (.inr 137), some (.inl x1), some (.inl x2)] [.inl 0] (0, 0, n, sh, R, I) _
    refine x_if1 (pc2 := 21) d150_7 rfl (fun _ => ?_) (fun c => absurd (show (0 : Int) = 0 by decide) c)
    refine x_iconst d150_21 rfl ?_
    exact x_zret d150_22 gR_150 (by decide) ⟨_, _, rfl, rfl, k⟩
  · replace c : ¬ (x1 < 1) := c
    rw [if_neg c] at k
    refine x_iload_n d140_5 rfl ?_
    refine x_iload_n d140_6 rfl ?_
    refine x_if2 (pc2 := 14) d140_7 rfl (fun c => ?_) (fun c => ?_)
    · replace c : 9 < x1 := c
      rw [if_pos c] at k
      refine x_iconst d140_14 rfl ?_
      refine x_zret d140_15 gR_140 (by decide) ?_
      show Ex (d + 1) 150 7 [some (.inr 137), some (.inl x1), some (.inl x2)] [.inl 0] (0, 0, n, sh, R, I) _
      refine x_if1 (pc2 := 21) d150_7 rfl (fun _ => ?_) (fun c => absurd (show (0 : Int) = 0 by decide) c)
      refine x_iconst d150_21 rfl ?_
      exact x_zret d150_22 gR_150 (by decide) ⟨_, _, rfl, rfl, k⟩
    · replace c : ¬ (9 < x1) := c
      rw [if_neg c] at k
      refine x_iconst d140_10 rfl ?_
      refine x_goto (pc2 := 15) d140_11 rfl ?_
      refine x_zret d140_15 gR_140 (by decide) ?_
      show Ex (d + 1) 150 7 [some (.inr 137), some (.inl x1), some (.inl x2)] [.inl 1] (0, 0, n, sh, R, I) _
      refine x_if1 (pc2 := 21) d150_7 rfl (fun c => absurd (show (1 : Int) = 0 from c) (by decide)) (fun _ => ?_)
      refine x_iload_n d150_10 rfl ?_
      refine x_if1 (pc2 := 21) d150_11 rfl (fun c => ?_) (fun c => ?_)
      · replace c : x2 < 0 := c
        rw [if_pos c] at k
        refine x_iconst d150_21 rfl ?_
        exact x_zret d150_22 gR_150 (by decide) ⟨_, _, rfl, rfl, k⟩
      · replace c : ¬ (x2 < 0) := c
        rw [if_neg c] at k
        refine x_iload_n d150_14 rfl ?_
        refine x_iconst d150_15 rfl ?_
        refine x_iload_n d150_16 rfl ?_
        refine x_ishl d150_17 ?_
        refine x_if2 (pc2 := 23) d150_18 rfl (fun c => ?_) (fun c => ?_)
        · replace c : x2 < (zshl 1 x1) := c
          rw [if_pos c] at k
          refine x_aload_n d150_23 rfl ?_
          refine x_iload_n d150_24 rfl ?_
          refine x_putI d150_25 gY_150.2.2.2 gF_12_156 rfl rfl (sh_137 hW) ?_
          refine x_aload_n d150_28 rfl ?_
          refine x_iload_n d150_29 rfl ?_
          refine x_putI d150_30 gY_150.2.2.2 gF_12_180 rfl rfl (sh_137 hW) ?_
          refine x_iconst d150_33 rfl ?_
          exact x_zret d150_34 gR_150 (by decide) ⟨_, _, rfl, rfl, k⟩
        · replace c : ¬ (x2 < (zshl 1 x1)) := c
          rw [if_neg c] at k
          refine x_iconst d150_21 rfl ?_
          exact x_zret d150_22 gR_150 (by decide) ⟨_, _, rfl, rfl, k⟩
set_option maxHeartbeats 4000000 in
theorem b_M_placeOf_0 {d n : Nat} {sh : ZS} {R : ZR} {I : ZI} {Q : Int → ZI → Prop} (hW : Wf sh R) {x1 : Int}
    (k : XIs d 151 2 [some (.inr 137), some (.inl x1), some (.inl 0)] [] n sh R I Q) : XI d 151 [.inr 137, .inl x1] n sh R I Q := by
  refine XI.of (ls := [some (.inr 137), some (.inl x1), none]) (zloc_eq gY_151.2.2.1) ?_
  unfold XIs
  refine x_iconst d151_0 rfl ?_
  refine x_istore_n (ls2 := [some (.inr 137), some (.inl x1), some (.inl 0)]) d151_1 rfl rfl ?_
  exact k
set_option maxHeartbeats 4000000 in
theorem b_M_placeOf_2 {d n : Nat} {sh : ZS} {R : ZR} {I : ZI} {Q : Int → ZI → Prop} (hW : Wf sh R) {x1 : Int} {x2 : Int}
    (k : (if I 137 1 ≤ x2 then Q (-1) I else (0 ≤ x2 ∧ x2 < 32) ∧ (if ¬ I 142 (x2).toNat = x1 then (zr (x2 + 1)) ∧ XIs d 151 2 [some (.inr 137), some (.inl x1), some (.inl (x2 + 1))] [] n sh R I Q else Q x2 I))) : XIs d 151 2 [some (.inr 137), some (.inl x1), some (.inl x2)] [] n sh R I Q := by
  unfold XIs
  refine x_iload_n d151_2 rfl ?_
  refine x_aload_n d151_3 rfl ?_
  refine x_getI d151_4 gY_151.2.2.2 gF_12_162 rfl (sh_137 hW) ?_
  refine x_if2 (pc2 := 28) d151_7 rfl (fun c => ?_) (fun c => ?_)
  · replace c : I 137 1 ≤ x2 := c
    rw [if_pos c] at k
    refine x_iconst d151_28 rfl ?_
    exact x_iret d151_29 gR_151 ⟨_, _, rfl, rfl, k⟩
  · replace c : ¬ (I 137 1 ≤ x2) := c
    rw [if_neg c] at k
    refine x_aload_n d151_10 rfl ?_
    refine x_getR (r := 142) d151_11 gY_151.2.2.2 gF_12_22 rfl (sh_137 hW) (rf_137_10 hW) (by decide) ?_
    refine x_iload_n d151_14 rfl ?_
    have e1 := k.1
    replace k := k.2
    refine x_iald d151_15 (sh_142 hW) e1.1 e1.2 ?_
    refine x_iload_n d151_16 rfl ?_
    refine x_if2 (pc2 := 22) d151_17 rfl (fun c => ?_) (fun c => ?_)
    · replace c : ¬ I 142 (x2).toNat = x1 := c
      rw [if_pos c] at k
      have e2 := k.1
      replace k := k.2
      refine x_iinc (ls2 := [some (.inr 137), some (.inl x1), some (.inl (x2 + 1))]) d151_22 rfl e2 rfl ?_
      refine x_goto (pc2 := 2) d151_25 rfl ?_
      exact k
    · replace c : ¬ (¬ I 142 (x2).toNat = x1) := c
      rw [if_neg c] at k
      refine x_iload_n d151_20 rfl ?_
      exact x_iret d151_21 gR_151 ⟨_, _, rfl, rfl, k⟩
set_option maxHeartbeats 4000000 in
theorem b_M_types_0 {d n : Nat} {sh : ZS} {R : ZR} {I : ZI} {Q : ZI → Prop} (hW : Wf sh R) {x1 : Int}
    (k : XVs d 152 2 [some (.inr 137), some (.inl x1), some (.inl 3)] [] n sh R I Q) : XV d 152 [.inr 137, .inl x1] n sh R I Q := by
  refine XV.of (ls := [some (.inr 137), some (.inl x1), none]) (zloc_eq gY_152.2.2.1) ?_
  unfold XVs
  refine x_iconst d152_0 rfl ?_
  refine x_istore_n (ls2 := [some (.inr 137), some (.inl x1), some (.inl 3)]) d152_1 rfl rfl ?_
  exact k
set_option maxHeartbeats 4000000 in
theorem b_M_types_2 {d n : Nat} {sh : ZS} {R : ZR} {I : ZI} {Q : ZI → Prop} (hW : Wf sh R) {x1 : Int} {x2 : Int}
    (k : (if x2 < 0 then Q I else (zr (8 * x2)) ∧ (0 ≤ I 137 13 ∧ I 137 13 < 220) ∧ (zr (I 137 13 + 1)) ∧ (zr (x2 + (-1))) ∧ XVs d 152 2 [some (.inr 137), some (.inl x1), some (.inl (x2 + (-1)))] [] n sh R (zup (zup I 144 (I 137 13).toNat (zi2b (zi2b (zshr x1 (8 * x2))))) 137 13 (I 137 13 + 1)) Q)) : XVs d 152 2 [some (.inr 137), some (.inl x1), some (.inl x2)] [] n sh R I Q := by
  unfold XVs
  refine x_iload_n d152_2 rfl ?_
  refine x_if1 (pc2 := 38) d152_3 rfl (fun c => ?_) (fun c => ?_)
  · replace c : x2 < 0 := c
    rw [if_pos c] at k
    exact x_vret d152_38 gR_152 ⟨_, rfl, rfl, k⟩
  · replace c : ¬ (x2 < 0) := c
    rw [if_neg c] at k
    refine x_aload_n d152_6 rfl ?_
    refine x_getR (r := 144) d152_7 gY_152.2.2.2 gF_12_28 rfl (sh_137 hW) (rf_137_12 hW) (by decide) ?_
    refine x_aload_n d152_10 rfl ?_
    refine x_getI d152_11 gY_152.2.2.2 gF_12_183 rfl (sh_137 hW) ?_
    refine x_iload_n d152_14 rfl ?_
    refine x_bipush d152_15 rfl ?_
    refine x_iload_n d152_17 rfl ?_
    have e1 := k.1
    replace k := k.2
    refine x_imul d152_18 e1 ?_
    refine x_ishr d152_19 ?_
    refine x_i2b d152_20 ?_
    have e2 := k.1
    replace k := k.2
    refine x_bast d152_21 (sh_144 hW) e2.1 e2.2 ?_
    refine x_aload_n d152_22 rfl ?_
    refine x_aload_n d152_23 rfl ?_
    refine x_getI d152_24 gY_152.2.2.2 gF_12_183 rfl (sh_137 hW) ?_
    refine x_iconst d152_27 rfl ?_
    have e3 := k.1
    replace k := k.2
    refine x_iadd d152_28 e3 ?_
    refine x_putI d152_29 gY_152.2.2.2 gF_12_183 rfl rfl (sh_137 hW) ?_
    have e4 := k.1
    replace k := k.2
    refine x_iinc (ls2 := [some (.inr 137), some (.inl x1), some (.inl (x2 + (-1)))]) d152_32 rfl e4 rfl ?_
    refine x_goto (pc2 := 2) d152_35 rfl ?_
    exact k
set_option maxHeartbeats 4000000 in
theorem b_M_feed_0 {d n : Nat} {sh : ZS} {R : ZR} {I : ZI} {Q : Int → ZI → Prop} (hW : Wf sh R) {x1 : Int} {x2 : Int} {x3 : Int} {x4 : Int} {x5 : Int}
    (k : (zr (I 137 13 + 20)) ∧ (if (I 137 13 + 20) ≤ 220 then XV d 152 [.inr 137, .inl x1] n sh R I (fun I3 => XV d 152 [.inr 137, .inl x2] n sh R I3 (fun I5 => XV d 152 [.inr 137, .inl x3] n sh R I5 (fun I7 => XV d 152 [.inr 137, .inl x4] n sh R I7 (fun I9 => XV d 152 [.inr 137, .inl x5] n sh R I9 (fun I11 => Q (I11 137 13) I11))))) else Q (-1) I)) : XI (d + 1) 153 [.inr 137, .inl x1, .inl x2, .inl x3, .inl x4, .inl x5] n sh R I Q := by
  refine XI.of (ls := [some (.inr 137), some (.inl x1), some (.inl x2), some (.inl x3), some (.inl x4), some (.inl x5)]) (zloc_eq gY_153.2.2.1) ?_
  unfold XIs
  refine x_aload_n d153_0 rfl ?_
  refine x_getI d153_1 gY_153.2.2.2 gF_12_183 rfl (sh_137 hW) ?_
  refine x_bipush d153_4 rfl ?_
  have e1 := k.1
  replace k := k.2
  refine x_iadd d153_6 e1 ?_
  refine x_sipush d153_7 rfl ?_
  refine x_if2 (pc2 := 15) d153_10 rfl (fun c => ?_) (fun c => ?_)
  · replace c : (I 137 13 + 20) ≤ 220 := c
    rw [if_pos c] at k
    refine x_aload_n d153_15 rfl ?_
    refine x_iload_n d153_16 rfl ?_
    refine y_invV (as := [.inl x1]) (t := []) (o := 137) gY_152 d153_17 gY_153.2.2.2 gM_12_186 rfl (sh_137 hW) rfl k (fun I3 k => ?_)
    refine x_aload_n d153_20 rfl ?_
    refine x_iload_n d153_21 rfl ?_
    refine y_invV (as := [.inl x2]) (t := []) (o := 137) gY_152 d153_22 gY_153.2.2.2 gM_12_186 rfl (sh_137 hW) rfl k (fun I5 k => ?_)
    refine x_aload_n d153_25 rfl ?_
    refine x_iload_n d153_26 rfl ?_
    refine y_invV (as := [.inl x3]) (t := []) (o := 137) gY_152 d153_27 gY_153.2.2.2 gM_12_186 rfl (sh_137 hW) rfl k (fun I7 k => ?_)
    refine x_aload_n d153_30 rfl ?_
    refine x_iload d153_31 rfl ?_
    refine y_invV (as := [.inl x4]) (t := []) (o := 137) gY_152 d153_33 gY_153.2.2.2 gM_12_186 rfl (sh_137 hW) rfl k (fun I9 k => ?_)
    refine x_aload_n d153_36 rfl ?_
    refine x_iload d153_37 rfl ?_
    refine y_invV (as := [.inl x5]) (t := []) (o := 137) gY_152 d153_39 gY_153.2.2.2 gM_12_186 rfl (sh_137 hW) rfl k (fun I11 k => ?_)
    refine x_aload_n d153_42 rfl ?_
    refine x_getI d153_43 gY_153.2.2.2 gF_12_183 rfl (sh_137 hW) ?_
    exact x_iret d153_46 gR_153 ⟨_, _, rfl, rfl, k⟩
  · replace c : ¬ ((I 137 13 + 20) ≤ 220) := c
    rw [if_neg c] at k
    refine x_iconst d153_13 rfl ?_
    exact x_iret d153_14 gR_153 ⟨_, _, rfl, rfl, k⟩
set_option maxHeartbeats 4000000 in
theorem b_M_here_0 {d n : Nat} {sh : ZS} {R : ZR} {I : ZI} {Q : Int → ZI → Prop} (hW : Wf sh R) 
    (k : (if I 137 15 ≤ I 137 14 then Q (-1) I else (0 ≤ I 137 14 ∧ I 137 14 < 220) ∧ Q (zand (I 144 (I 137 14).toNat) 255) I)) : XI d 154 [.inr 137] n sh R I Q := by
  refine XI.of (ls := [some (.inr 137)]) (zloc_eq gY_154.2.2.1) ?_
  unfold XIs
  refine x_aload_n d154_0 rfl ?_
  refine x_getI d154_1 gY_154.2.2.2 gF_12_189 rfl (sh_137 hW) ?_
  refine x_aload_n d154_4 rfl ?_
  refine x_getI d154_5 gY_154.2.2.2 gF_12_192 rfl (sh_137 hW) ?_
  refine x_if2 (pc2 := 27) d154_8 rfl (fun c => ?_) (fun c => ?_)
  · replace c : I 137 15 ≤ I 137 14 := c
    rw [if_pos c] at k
    refine x_iconst d154_27 rfl ?_
    exact x_iret d154_28 gR_154 ⟨_, _, rfl, rfl, k⟩
  · replace c : ¬ (I 137 15 ≤ I 137 14) := c
    rw [if_neg c] at k
    refine x_aload_n d154_11 rfl ?_
    refine x_getR (r := 144) d154_12 gY_154.2.2.2 gF_12_28 rfl (sh_137 hW) (rf_137_12 hW) (by decide) ?_
    refine x_aload_n d154_15 rfl ?_
    refine x_getI d154_16 gY_154.2.2.2 gF_12_189 rfl (sh_137 hW) ?_
    have e1 := k.1
    replace k := k.2
    refine x_bald d154_19 (sh_144 hW) e1.1 e1.2 ?_
    refine x_sipush d154_20 rfl ?_
    refine x_iand d154_23 ?_
    refine x_goto (pc2 := 28) d154_24 rfl ?_
    exact x_iret d154_28 gR_154 ⟨_, _, rfl, rfl, k⟩
set_option maxHeartbeats 4000000 in
theorem b_M_isDigit_0 {d n : Nat} {sh : ZS} {R : ZR} {I : ZI} {Q : Int → ZI → Prop} (hW : Wf sh R) 
    (k : XI d 154 [.inr 137] n sh R I (fun v1 I2 => (if v1 < 48 then Q 0 I2 else XI d 154 [.inr 137] n sh R I2 (fun v3 I4 => (if 57 < v3 then Q 0 I4 else Q 1 I4))))) : XI (d + 1) 155 [.inr 137] n sh R I Q := by
  refine XI.of (ls := [some (.inr 137)]) (zloc_eq gY_155.2.2.1) ?_
  unfold XIs
  refine x_aload_n d155_0 rfl ?_
  refine y_invI (as := []) (t := []) (o := 137) gY_154 d155_1 gY_155.2.2.2 gM_12_195 rfl (sh_137 hW) rfl k (fun v1 I2 k => ?_)
  refine x_bipush d155_4 rfl ?_
  refine x_if2 (pc2 := 22) d155_6 rfl (fun c => ?_) (fun c => ?_)
  · replace c : v1 < 48 := c
    rw [if_pos c] at k
    refine x_iconst d155_22 rfl ?_
    exact x_zret d155_23 gR_155 (by decide) ⟨_, _, rfl, rfl, k⟩
  · replace c : ¬ (v1 < 48) := c
    rw [if_neg c] at k
    refine x_aload_n d155_9 rfl ?_
    refine y_invI (as := []) (t := []) (o := 137) gY_154 d155_10 gY_155.2.2.2 gM_12_195 rfl (sh_137 hW) rfl k (fun v3 I4 k => ?_)
    refine x_bipush d155_13 rfl ?_
    refine x_if2 (pc2 := 22) d155_15 rfl (fun c => ?_) (fun c => ?_)
    · replace c : 57 < v3 := c
      rw [if_pos c] at k
      refine x_iconst d155_22 rfl ?_
      exact x_zret d155_23 gR_155 (by decide) ⟨_, _, rfl, rfl, k⟩
    · replace c : ¬ (57 < v3) := c
      rw [if_neg c] at k
      refine x_iconst d155_18 rfl ?_
      refine x_goto (pc2 := 23) d155_19 rfl ?_
      exact x_zret d155_23 gR_155 (by decide) ⟨_, _, rfl, rfl, k⟩
set_option maxHeartbeats 4000000 in
theorem b_M_takes_0 {d n : Nat} {sh : ZS} {R : ZR} {I : ZI} {Q : Int → ZI → Prop} (hW : Wf sh R) {x1 : Int}
    (k : XI d 154 [.inr 137] n sh R I (fun v1 I2 => (if v1 = x1 then (zr (I2 137 14 + 1)) ∧ Q 1 (zup I2 137 14 (I2 137 14 + 1)) else (zr ((-1000) * 1)) ∧ (zr (((-1000) * 1) - I2 137 14)) ∧ Q 0 (zup I2 137 16 (((-1000) * 1) - I2 137 14))))) : XI (d + 1) 157 [.inr 137, .inl x1] n sh R I Q := by
  refine XI.of (ls := [some (.inr 137), some (.inl x1)]) (zloc_eq gY_157.2.2.1) ?_
  unfold XIs
  refine x_aload_n d157_0 rfl ?_
  refine y_invI (as := []) (t := []) (o := 137) gY_154 d157_1 gY_157.2.2.2 gM_12_195 rfl (sh_137 hW) rfl k (fun v1 I2 k => ?_)
  refine x_iload_n d157_4 rfl ?_
  refine x_if2 (pc2 := 18) d157_5 rfl (fun c => ?_) (fun c => ?_)
  · replace c : v1 = x1 := c
    rw [if_pos c] at k
    refine x_aload_n d157_18 rfl ?_
    refine x_aload_n d157_19 rfl ?_
    refine x_getI d157_20 gY_157.2.2.2 gF_12_189 rfl (sh_137 hW) ?_
    refine x_iconst d157_23 rfl ?_
    have e3 := k.1
    replace k := k.2
    refine x_iadd d157_24 e3 ?_
    refine x_putI d157_25 gY_157.2.2.2 gF_12_189 rfl rfl (sh_137 hW) ?_
    refine x_iconst d157_28 rfl ?_
    exact x_zret d157_29 gR_157 (by decide) ⟨_, _, rfl, rfl, k⟩
  · replace c : ¬ (v1 = x1) := c
    rw [if_neg c] at k
    refine x_aload_n d157_8 rfl ?_
    refine x_iconst d157_9 rfl ?_
    refine x_aload_n d157_10 rfl ?_
    refine x_getI d157_11 gY_157.2.2.2 gF_12_189 rfl (sh_137 hW) ?_
    refine y_inv (as := [.inl 1, .inl (I2 137 14)]) (t := []) (o := 137) (ls2 := [some (.inr 137), some (.inl 1), some (.inl (I2 137 14))]) gY_156 d157_14 gY_157.2.2.2 gM_12_202 rfl (sh_137 hW) rfl rfl ?_
    refine x_aload_n d156_0 rfl ?_
    refine x_sipush d156_1 rfl ?_
    refine x_iload_n d156_4 rfl ?_
    have e4 := k.1
    replace k := k.2
    refine x_imul d156_5 e4 ?_
    refine x_iload_n d156_6 rfl ?_
    have e5 := k.1
    replace k := k.2
    refine x_isub d156_7 e5 ?_
    refine x_putI d156_8 gY_156.2.2.2 gF_12_199 rfl rfl (sh_137 hW) ?_
    refine x_iconst d156_11 rfl ?_
    refine x_zret d156_12 gR_156 (by decide) ?_
    show Ex (d + 1) 157 17 [some (.inr 137), some (.inl x1)] [.inl 0] (0, 0, n, sh, R, (zup I2 137 16 (((-1000) * 1) - I2 137 14))) _
    exact x_zret d157_17 gR_157 (by decide) ⟨_, _, rfl, rfl, k⟩
set_option maxHeartbeats 4000000 in
theorem b_M_readsNumber_0 {d n : Nat} {sh : ZS} {R : ZR} {I : ZI} {Q : Int → ZI → Prop} (hW : Wf sh R) 
    (k : XIs (d + 2) 158 10 [some (.inr 137), some (.inl (I 137 14))] [] n sh R (zup I 137 21 0) Q) : XI (d + 2) 158 [.inr 137] n sh R I Q := by
  refine XI.of (ls := [some (.inr 137), none]) (zloc_eq gY_158.2.2.1) ?_
  unfold XIs
  refine x_aload_n d158_0 rfl ?_
  refine x_getI d158_1 gY_158.2.2.2 gF_12_189 rfl (sh_137 hW) ?_
  refine x_istore_n (ls2 := [some (.inr 137), some (.inl (I 137 14))]) d158_4 rfl rfl ?_
  refine x_aload_n d158_5 rfl ?_
  refine x_iconst d158_6 rfl ?_
  refine x_putI d158_7 gY_158.2.2.2 gF_12_206 rfl rfl (sh_137 hW) ?_
  exact k
set_option maxHeartbeats 4000000 in
theorem b_M_readsNumber_10 {d n : Nat} {sh : ZS} {R : ZR} {I : ZI} {Q : Int → ZI → Prop} (hW : Wf sh R) {x1 : Int}
    (k : XI (d + 1) 155 [.inr 137] n sh R I (fun v1 I2 => (if v1 = 0 then Q 1 I2 else (zr (x1 + 5)) ∧ (if ¬ I2 137 14 = (x1 + 5) then (zr (10 * I2 137 21)) ∧ XI (d + 1) 154 [.inr 137] n sh R I2 (fun v5 I6 => (zr ((10 * I2 137 21) + v5)) ∧ (zr (((10 * I2 137 21) + v5) - 48)) ∧ (zr (I6 137 14 + 1)) ∧ XIs (d + 2) 158 10 [some (.inr 137), some (.inl x1)] [] n sh R (zup (zup I6 137 21 (((10 * I2 137 21) + v5) - 48)) 137 14 (I6 137 14 + 1)) Q) else (zr ((-1000) * 2)) ∧ (zr (((-1000) * 2) - I2 137 14)) ∧ Q 0 (zup I2 137 16 (((-1000) * 2) - I2 137 14)))))) : XIs (d + 2) 158 10 [some (.inr 137), some (.inl x1)] [] n sh R I Q := by
  unfold XIs
  refine x_aload_n d158_10 rfl ?_
  refine y_invI (as := []) (t := []) (o := 137) gY_155 d158_11 gY_158.2.2.2 gM_12_209 rfl (sh_137 hW) rfl k (fun v1 I2 k => ?_)
  refine x_if1 (pc2 := 69) d158_14 rfl (fun c => ?_) (fun c => ?_)
  · replace c : v1 = 0 := c
    rw [if_pos c] at k
    refine x_iconst d158_69 rfl ?_
    exact x_zret d158_70 gR_158 (by decide) ⟨_, _, rfl, rfl, k⟩
  · replace c : ¬ (v1 = 0) := c
    rw [if_neg c] at k
    refine x_aload_n d158_17 rfl ?_
    refine x_getI d158_18 gY_158.2.2.2 gF_12_189 rfl (sh_137 hW) ?_
    refine x_iload_n d158_21 rfl ?_
    refine x_iconst d158_22 rfl ?_
    have e3 := k.1
    replace k := k.2
    refine x_iadd d158_23 e3 ?_
    refine x_if2 (pc2 := 37) d158_24 rfl (fun c => ?_) (fun c => ?_)
    · replace c : ¬ I2 137 14 = (x1 + 5) := c
      rw [if_pos c] at k
      refine x_aload_n d158_37 rfl ?_
      refine x_bipush d158_38 rfl ?_
      refine x_aload_n d158_40 rfl ?_
      refine x_getI d158_41 gY_158.2.2.2 gF_12_206 rfl (sh_137 hW) ?_
      have e4 := k.1
      replace k := k.2
      refine x_imul d158_44 e4 ?_
      refine x_aload_n d158_45 rfl ?_
      refine y_invI (as := []) (t := [.inl (10 * I2 137 21), .inr 137]) (o := 137) gY_154 d158_46 gY_158.2.2.2 gM_12_195 rfl (sh_137 hW) rfl k (fun v5 I6 k => ?_)
      have e7 := k.1
      replace k := k.2
      refine x_iadd d158_49 e7 ?_
      refine x_bipush d158_50 rfl ?_
      have e8 := k.1
      replace k := k.2
      refine x_isub d158_52 e8 ?_
      refine x_putI d158_53 gY_158.2.2.2 gF_12_206 rfl rfl (sh_137 hW) ?_
      refine x_aload_n d158_56 rfl ?_
      refine x_aload_n d158_57 rfl ?_
      refine x_getI d158_58 gY_158.2.2.2 gF_12_189 rfl (sh_137 hW) ?_
      refine x_iconst d158_61 rfl ?_
      have e9 := k.1
      replace k := k.2
      refine x_iadd d158_62 e9 ?_
      refine x_putI d158_63 gY_158.2.2.2 gF_12_189 rfl rfl (sh_137 hW) ?_
      refine x_goto (pc2 := 10) d158_66 rfl ?_
      exact k
    · replace c : ¬ (¬ I2 137 14 = (x1 + 5)) := c
      rw [if_neg c] at k
      refine x_aload_n d158_27 rfl ?_
      refine x_iconst d158_28 rfl ?_
      refine x_aload_n d158_29 rfl ?_
      refine x_getI d158_30 gY_158.2.2.2 gF_12_189 rfl (sh_137 hW) ?_
      refine y_inv (as := [.inl 2, .inl (I2 137 14)]) (t := []) (o := 137) (ls2 := [some (.inr 137), some (.inl 2), some (.inl (I2 137 14))]) gY_156 d158_33 gY_158.2.2.2 gM_12_202 rfl (sh_137 hW) rfl rfl ?_
      refine x_aload_n d156_0 rfl ?_
      refine x_sipush d156_1 rfl ?_
      refine x_iload_n d156_4 rfl ?_
      have e10 := k.1
      replace k := k.2
      refine x_imul d156_5 e10 ?_
      refine x_iload_n d156_6 rfl ?_
      have e11 := k.1
      replace k := k.2
      refine x_isub d156_7 e11 ?_
      refine x_putI d156_8 gY_156.2.2.2 gF_12_199 rfl rfl (sh_137 hW) ?_
      refine x_iconst d156_11 rfl ?_
      refine x_zret d156_12 gR_156 (by decide) ?_
      show Ex (d + 2) 158 36 [some (.inr 137), some (.inl x1)] [.inl 0] (0, 0, n, sh, R, (zup I2 137 16 (((-1000) * 2) - I2 137 14))) _
      exact x_zret d158_36 gR_158 (by decide) ⟨_, _, rfl, rfl, k⟩
set_option maxHeartbeats 4000000 in
theorem b_M_opens_0 {d n : Nat} {sh : ZS} {R : ZR} {I : ZI} {Q : Int → ZI → Prop} (hW : Wf sh R) {x1 : Int}
    (k : (if ¬ I 137 17 = 6 then (zr (I 137 17 + 1)) ∧ (zr (1048576 * x1)) ∧ (0 ≤ I 137 19 ∧ I 137 19 < 220) ∧ (zr (I 137 19 + 1)) ∧ (zr (I 137 14 + 1)) ∧ Q 1 (zup (zup (zup (zup I 137 17 (I 137 17 + 1)) 146 (I 137 19).toNat (1048576 * x1)) 137 19 (I 137 19 + 1)) 137 14 (I 137 14 + 1)) else (zr ((-1000) * 5)) ∧ (zr (((-1000) * 5) - I 137 14)) ∧ Q 0 (zup I 137 16 (((-1000) * 5) - I 137 14)))) : XI (d + 1) 160 [.inr 137, .inl x1] n sh R I Q := by
  refine XI.of (ls := [some (.inr 137), some (.inl x1)]) (zloc_eq gY_160.2.2.1) ?_
  unfold XIs
  refine x_aload_n d160_0 rfl ?_
  refine x_getI d160_1 gY_160.2.2.2 gF_12_217 rfl (sh_137 hW) ?_
  refine x_bipush d160_4 rfl ?_
  refine x_if2 (pc2 := 19) d160_6 rfl (fun c => ?_) (fun c => ?_)
  · replace c : ¬ I 137 17 = 6 := c
    rw [if_pos c] at k
    refine x_aload_n d160_19 rfl ?_
    refine x_aload_n d160_20 rfl ?_
    refine x_getI d160_21 gY_160.2.2.2 gF_12_217 rfl (sh_137 hW) ?_
    refine x_iconst d160_24 rfl ?_
    have e1 := k.1
    replace k := k.2
    refine x_iadd d160_25 e1 ?_
    refine x_putI d160_26 gY_160.2.2.2 gF_12_217 rfl rfl (sh_137 hW) ?_
    refine x_aload_n d160_29 rfl ?_
    refine x_getR (r := 146) d160_30 gY_160.2.2.2 gF_12_35 rfl (sh_137 hW) (rf_137_24 hW) (by decide) ?_
    refine x_aload_n d160_33 rfl ?_
    refine x_getI d160_34 gY_160.2.2.2 gF_12_220 rfl (sh_137 hW) ?_
    refine x_ldc d160_37 gY_160.2.2.2 gK_12_216 rfl ?_
    refine x_iload_n d160_39 rfl ?_
    have e2 := k.1
    replace k := k.2
    refine x_imul d160_40 e2 ?_
    have e3 := k.1
    replace k := k.2
    refine x_iast d160_41 (sh_146 hW) e3.1 e3.2 ?_
    refine x_aload_n d160_42 rfl ?_
    refine x_aload_n d160_43 rfl ?_
    refine x_getI d160_44 gY_160.2.2.2 gF_12_220 rfl (sh_137 hW) ?_
    refine x_iconst d160_47 rfl ?_
    have e4 := k.1
    replace k := k.2
    refine x_iadd d160_48 e4 ?_
    refine x_putI d160_49 gY_160.2.2.2 gF_12_220 rfl rfl (sh_137 hW) ?_
    refine x_aload_n d160_52 rfl ?_
    refine x_aload_n d160_53 rfl ?_
    refine x_getI d160_54 gY_160.2.2.2 gF_12_189 rfl (sh_137 hW) ?_
    refine x_iconst d160_57 rfl ?_
    have e5 := k.1
    replace k := k.2
    refine x_iadd d160_58 e5 ?_
    refine x_putI d160_59 gY_160.2.2.2 gF_12_189 rfl rfl (sh_137 hW) ?_
    refine x_iconst d160_62 rfl ?_
    exact x_zret d160_63 gR_160 (by decide) ⟨_, _, rfl, rfl, k⟩
  · replace c : ¬ (¬ I 137 17 = 6) := c
    rw [if_neg c] at k
    refine x_aload_n d160_9 rfl ?_
    refine x_iconst d160_10 rfl ?_
    refine x_aload_n d160_11 rfl ?_
    refine x_getI d160_12 gY_160.2.2.2 gF_12_189 rfl (sh_137 hW) ?_
    refine y_inv (as := [.inl 5, .inl (I 137 14)]) (t := []) (o := 137) (ls2 := [some (.inr 137), some (.inl 5), some (.inl (I 137 14))]) gY_156 d160_15 gY_160.2.2.2 gM_12_202 rfl (sh_137 hW) rfl rfl ?_
    refine x_aload_n d156_0 rfl ?_
    refine x_sipush d156_1 rfl ?_
    refine x_iload_n d156_4 rfl ?_
    have e6 := k.1
    replace k := k.2
    refine x_imul d156_5 e6 ?_
    refine x_iload_n d156_6 rfl ?_
    have e7 := k.1
    replace k := k.2
    refine x_isub d156_7 e7 ?_
    refine x_putI d156_8 gY_156.2.2.2 gF_12_199 rfl rfl (sh_137 hW) ?_
    refine x_iconst d156_11 rfl ?_
    refine x_zret d156_12 gR_156 (by decide) ?_
    show Ex (d + 1) 160 18 [some (.inr 137), some (.inl x1)] [.inl 0] (0, 0, n, sh, R, (zup I 137 16 (((-1000) * 5) - I 137 14))) _
    exact x_zret d160_18 gR_160 (by decide) ⟨_, _, rfl, rfl, k⟩
set_option maxHeartbeats 4000000 in
theorem b_M_waitTop_0 {d n : Nat} {sh : ZS} {R : ZR} {I : ZI} {Q : Int → ZI → Prop} (hW : Wf sh R) 
    (k : (if ¬ I 137 19 = 0 then (zr (I 137 19 - 1)) ∧ (0 ≤ (I 137 19 - 1) ∧ (I 137 19 - 1) < 220) ∧ (0 ≤ I 146 (I 137 19 - 1).toNat ∧ I 146 (I 137 19 - 1).toNat < 2147483648) ∧ Q (I 146 (I 137 19 - 1).toNat / 1048576) I else Q (-1) I)) : XI d 161 [.inr 137] n sh R I Q := by
  refine XI.of (ls := [some (.inr 137)]) (zloc_eq gY_161.2.2.1) ?_
  unfold XIs
  refine x_aload_n d161_0 rfl ?_
  refine x_getI d161_1 gY_161.2.2.2 gF_12_220 rfl (sh_137 hW) ?_
  refine x_if1 (pc2 := 11) d161_4 rfl (fun c => ?_) (fun c => ?_)
  · replace c : ¬ I 137 19 = 0 := c
    rw [if_pos c] at k
    refine x_aload_n d161_11 rfl ?_
    refine x_getR (r := 146) d161_12 gY_161.2.2.2 gF_12_35 rfl (sh_137 hW) (rf_137_24 hW) (by decide) ?_
    refine x_aload_n d161_15 rfl ?_
    refine x_getI d161_16 gY_161.2.2.2 gF_12_220 rfl (sh_137 hW) ?_
    refine x_iconst d161_19 rfl ?_
    have e1 := k.1
    replace k := k.2
    refine x_isub d161_20 e1 ?_
    have e2 := k.1
    replace k := k.2
    refine x_iald d161_21 (sh_146 hW) e2.1 e2.2 ?_
    refine x_ldc d161_22 gY_161.2.2.2 gK_12_216 rfl ?_
    have e3 := k.1
    replace k := k.2
    refine x_idiv d161_24 e3 (by decide) ?_
    exact x_iret d161_25 gR_161 ⟨_, _, rfl, rfl, k⟩
  · replace c : ¬ (¬ I 137 19 = 0) := c
    rw [if_neg c] at k
    refine x_iconst d161_7 rfl ?_
    refine x_goto (pc2 := 25) d161_8 rfl ?_
    exact x_iret d161_25 gR_161 ⟨_, _, rfl, rfl, k⟩
set_option maxHeartbeats 4000000 in
theorem b_M_factOf_0 {d n : Nat} {sh : ZS} {R : ZR} {I : ZI} {Q : Int → ZI → Prop} (hW : Wf sh R) {x0 : Int}
    (k : (if x0 = 103 then Q 5 I else (if x0 = 105 then Q 3 I else (if x0 = 110 then Q 7 I else (if x0 = 111 then Q 6 I else (if x0 = 112 then Q 4 I else (if x0 = 114 then Q 1 I else (if x0 = 115 then Q 0 I else (if x0 = 119 then Q 2 I else Q (-1) I))))))))) : XI d 162 [.inl x0] n sh R I Q := by
  refine XI.of (ls := [some (.inl x0)]) (zloc_eq gY_162.2.2.1) ?_
  unfold XIs
  refine x_iload_n d162_0 rfl ?_
  by_cases c : x0 = 103
  · rw [if_pos c] at k
    refine x_tsw (off := 93) (pc2 := 94) d162_1 (by rw [c]; decide) rfl ?_
    refine x_iconst d162_94 rfl ?_
    exact x_iret d162_95 gR_162 ⟨_, _, rfl, rfl, k⟩
  rw [if_neg c] at k
  have c103 := c
  clear c
  by_cases c : x0 = 105
  · rw [if_pos c] at k
    refine x_tsw (off := 89) (pc2 := 90) d162_1 (by rw [c]; decide) rfl ?_
    refine x_iconst d162_90 rfl ?_
    exact x_iret d162_91 gR_162 ⟨_, _, rfl, rfl, k⟩
  rw [if_neg c] at k
  have c105 := c
  clear c
  by_cases c : x0 = 110
  · rw [if_pos c] at k
    refine x_tsw (off := 98) (pc2 := 99) d162_1 (by rw [c]; decide) rfl ?_
    refine x_bipush d162_99 rfl ?_
    exact x_iret d162_101 gR_162 ⟨_, _, rfl, rfl, k⟩
  rw [if_neg c] at k
  have c110 := c
  clear c
  by_cases c : x0 = 111
  · rw [if_pos c] at k
    refine x_tsw (off := 95) (pc2 := 96) d162_1 (by rw [c]; decide) rfl ?_
    refine x_bipush d162_96 rfl ?_
    exact x_iret d162_98 gR_162 ⟨_, _, rfl, rfl, k⟩
  rw [if_neg c] at k
  have c111 := c
  clear c
  by_cases c : x0 = 112
  · rw [if_pos c] at k
    refine x_tsw (off := 91) (pc2 := 92) d162_1 (by rw [c]; decide) rfl ?_
    refine x_iconst d162_92 rfl ?_
    exact x_iret d162_93 gR_162 ⟨_, _, rfl, rfl, k⟩
  rw [if_neg c] at k
  have c112 := c
  clear c
  by_cases c : x0 = 114
  · rw [if_pos c] at k
    refine x_tsw (off := 85) (pc2 := 86) d162_1 (by rw [c]; decide) rfl ?_
    refine x_iconst d162_86 rfl ?_
    exact x_iret d162_87 gR_162 ⟨_, _, rfl, rfl, k⟩
  rw [if_neg c] at k
  have c114 := c
  clear c
  by_cases c : x0 = 115
  · rw [if_pos c] at k
    refine x_tsw (off := 83) (pc2 := 84) d162_1 (by rw [c]; decide) rfl ?_
    refine x_iconst d162_84 rfl ?_
    exact x_iret d162_85 gR_162 ⟨_, _, rfl, rfl, k⟩
  rw [if_neg c] at k
  have c115 := c
  clear c
  by_cases c : x0 = 119
  · rw [if_pos c] at k
    refine x_tsw (off := 87) (pc2 := 88) d162_1 (by rw [c]; decide) rfl ?_
    refine x_iconst d162_88 rfl ?_
    exact x_iret d162_89 gR_162 ⟨_, _, rfl, rfl, k⟩
  rw [if_neg c] at k
  have c119 := c
  clear c
  refine x_tsw (off := 101) (pc2 := 102) d162_1 (zts_dflt [103, 105, 110, 111, 112, 114, 115, 119] (by decide) (by intro v hv; simp at hv; omega)) rfl ?_
  refine x_iconst d162_102 rfl ?_
  exact x_iret d162_103 gR_162 ⟨_, _, rfl, rfl, k⟩
set_option maxHeartbeats 4000000 in
theorem b_M_sumSign_0 {d n : Nat} {sh : ZS} {R : ZR} {I : ZI} {Q : Int → ZI → Prop} (hW : Wf sh R) {x0 : Int}
    (k : (if ¬ x0 = 43 then (if ¬ x0 = 45 then (if ¬ x0 = 42 then (if ¬ x0 = 47 then (if ¬ x0 = 37 then Q (-1) I else Q 6 I) else Q 5 I) else Q 4 I) else Q 3 I) else Q 2 I)) : XI d 163 [.inl x0] n sh R I Q := by
  refine XI.of (ls := [some (.inl x0)]) (zloc_eq gY_163.2.2.1) ?_
  unfold XIs
  refine x_iload_n d163_0 rfl ?_
  refine x_bipush d163_1 rfl ?_
  refine x_if2 (pc2 := 10) d163_3 rfl (fun c => ?_) (fun c => ?_)
  · replace c : ¬ x0 = 43 := c
    rw [if_pos c] at k
    refine x_iload_n d163_10 rfl ?_
    refine x_bipush d163_11 rfl ?_
    refine x_if2 (pc2 := 20) d163_13 rfl (fun c => ?_) (fun c => ?_)
    · replace c : ¬ x0 = 45 := c
      rw [if_pos c] at k
      refine x_iload_n d163_20 rfl ?_
      refine x_bipush d163_21 rfl ?_
      refine x_if2 (pc2 := 30) d163_23 rfl (fun c => ?_) (fun c => ?_)
      · replace c : ¬ x0 = 42 := c
        rw [if_pos c] at k
        refine x_iload_n d163_30 rfl ?_
        refine x_bipush d163_31 rfl ?_
        refine x_if2 (pc2 := 40) d163_33 rfl (fun c => ?_) (fun c => ?_)
        · replace c : ¬ x0 = 47 := c
          rw [if_pos c] at k
          refine x_iload_n d163_40 rfl ?_
          refine x_bipush d163_41 rfl ?_
          refine x_if2 (pc2 := 51) d163_43 rfl (fun c => ?_) (fun c => ?_)
          · replace c : ¬ x0 = 37 := c
            rw [if_pos c] at k
            refine x_iconst d163_51 rfl ?_
            exact x_iret d163_52 gR_163 ⟨_, _, rfl, rfl, k⟩
          · replace c : ¬ (¬ x0 = 37) := c
            rw [if_neg c] at k
            refine x_bipush d163_46 rfl ?_
            refine x_goto (pc2 := 52) d163_48 rfl ?_
            exact x_iret d163_52 gR_163 ⟨_, _, rfl, rfl, k⟩
        · replace c : ¬ (¬ x0 = 47) := c
          rw [if_neg c] at k
          refine x_iconst d163_36 rfl ?_
          refine x_goto (pc2 := 52) d163_37 rfl ?_
          exact x_iret d163_52 gR_163 ⟨_, _, rfl, rfl, k⟩
      · replace c : ¬ (¬ x0 = 42) := c
        rw [if_neg c] at k
        refine x_iconst d163_26 rfl ?_
        refine x_goto (pc2 := 52) d163_27 rfl ?_
        exact x_iret d163_52 gR_163 ⟨_, _, rfl, rfl, k⟩
    · replace c : ¬ (¬ x0 = 45) := c
      rw [if_neg c] at k
      refine x_iconst d163_16 rfl ?_
      refine x_goto (pc2 := 52) d163_17 rfl ?_
      exact x_iret d163_52 gR_163 ⟨_, _, rfl, rfl, k⟩
  · replace c : ¬ (¬ x0 = 43) := c
    rw [if_neg c] at k
    refine x_iconst d163_6 rfl ?_
    refine x_goto (pc2 := 52) d163_7 rfl ?_
    exact x_iret d163_52 gR_163 ⟨_, _, rfl, rfl, k⟩
set_option maxHeartbeats 4000000 in
theorem b_M_closesSums_0 {d n : Nat} {sh : ZS} {R : ZR} {I : ZI} {Q : ZI → Prop} (hW : Wf sh R) {x1 : Int}
    (k : XI d 161 [.inr 137] n sh R I (fun v1 I2 => (if v1 < 4 then (if x1 = 0 then Q I2 else XI d 161 [.inr 137] n sh R I2 (fun v3 I4 => (if v3 = 2 then XI d 161 [.inr 137] n sh R I4 (fun v5 I6 => (zr (1048576 * v5)) ∧ (zr ((1048576 * v5) + 0)) ∧ (0 ≤ I6 137 18 ∧ I6 137 18 < 220) ∧ (zr (I6 137 18 + 1)) ∧ (zr (I6 137 19 - 1)) ∧ XVs (d + 1) 164 0 [some (.inr 137), some (.inl x1)] [] n sh R (zup (zup (zup I6 145 (I6 137 18).toNat ((1048576 * v5) + 0)) 137 18 (I6 137 18 + 1)) 137 19 (I6 137 19 - 1)) Q) else XI d 161 [.inr 137] n sh R I4 (fun v12 I13 => (if ¬ v12 = 3 then Q I13 else XI d 161 [.inr 137] n sh R I13 (fun v14 I15 => (zr (1048576 * v14)) ∧ (zr ((1048576 * v14) + 0)) ∧ (0 ≤ I15 137 18 ∧ I15 137 18 < 220) ∧ (zr (I15 137 18 + 1)) ∧ (zr (I15 137 19 - 1)) ∧ XVs (d + 1) 164 0 [some (.inr 137), some (.inl x1)] [] n sh R (zup (zup (zup I15 145 (I15 137 18).toNat ((1048576 * v14) + 0)) 137 18 (I15 137 18 + 1)) 137 19 (I15 137 19 - 1)) Q)))))) else XI d 161 [.inr 137] n sh R I2 (fun v21 I22 => (if v21 ≤ 6 then XI d 161 [.inr 137] n sh R I22 (fun v23 I24 => (zr (1048576 * v23)) ∧ (zr ((1048576 * v23) + 0)) ∧ (0 ≤ I24 137 18 ∧ I24 137 18 < 220) ∧ (zr (I24 137 18 + 1)) ∧ (zr (I24 137 19 - 1)) ∧ XVs (d + 1) 164 0 [some (.inr 137), some (.inl x1)] [] n sh R (zup (zup (zup I24 145 (I24 137 18).toNat ((1048576 * v23) + 0)) 137 18 (I24 137 18 + 1)) 137 19 (I24 137 19 - 1)) Q) else (if x1 = 0 then Q I22 else XI d 161 [.inr 137] n sh R I22 (fun v30 I31 => (if v30 = 2 then XI d 161 [.inr 137] n sh R I31 (fun v32 I33 => (zr (1048576 * v32)) ∧ (zr ((1048576 * v32) + 0)) ∧ (0 ≤ I33 137 18 ∧ I33 137 18 < 220) ∧ (zr (I33 137 18 + 1)) ∧ (zr (I33 137 19 - 1)) ∧ XVs (d + 1) 164 0 [some (.inr 137), some (.inl x1)] [] n sh R (zup (zup (zup I33 145 (I33 137 18).toNat ((1048576 * v32) + 0)) 137 18 (I33 137 18 + 1)) 137 19 (I33 137 19 - 1)) Q) else XI d 161 [.inr 137] n sh R I31 (fun v39 I40 => (if ¬ v39 = 3 then Q I40 else XI d 161 [.inr 137] n sh R I40 (fun v41 I42 => (zr (1048576 * v41)) ∧ (zr ((1048576 * v41) + 0)) ∧ (0 ≤ I42 137 18 ∧ I42 137 18 < 220) ∧ (zr (I42 137 18 + 1)) ∧ (zr (I42 137 19 - 1)) ∧ XVs (d + 1) 164 0 [some (.inr 137), some (.inl x1)] [] n sh R (zup (zup (zup I42 145 (I42 137 18).toNat ((1048576 * v41) + 0)) 137 18 (I42 137 18 + 1)) 137 19 (I42 137 19 - 1)) Q))))))))))) : XVs (d + 1) 164 0 [some (.inr 137), some (.inl x1)] [] n sh R I Q := by
  unfold XVs
  refine x_aload_n d164_0 rfl ?_
  refine y_invI (as := []) (t := []) (o := 137) gY_161 d164_1 gY_164.2.2.2 gM_12_223 rfl (sh_137 hW) rfl k (fun v1 I2 k => ?_)
  refine x_iconst d164_4 rfl ?_
  refine x_if2 (pc2 := 17) d164_5 rfl (fun c => ?_) (fun c => ?_)
  · replace c : v1 < 4 := c
    rw [if_pos c] at k
    refine x_iload_n d164_17 rfl ?_
    refine x_if1 (pc2 := 59) d164_18 rfl (fun c => ?_) (fun c => ?_)
    · replace c : x1 = 0 := c
      rw [if_pos c] at k
      exact x_vret d164_59 gR_164 ⟨_, rfl, rfl, k⟩
    · replace c : ¬ (x1 = 0) := c
      rw [if_neg c] at k
      refine x_aload_n d164_21 rfl ?_
      refine y_invI (as := []) (t := []) (o := 137) gY_161 d164_22 gY_164.2.2.2 gM_12_223 rfl (sh_137 hW) rfl k (fun v3 I4 k => ?_)
      refine x_iconst d164_25 rfl ?_
      refine x_if2 (pc2 := 37) d164_26 rfl (fun c => ?_) (fun c => ?_)
      · replace c : v3 = 2 := c
        rw [if_pos c] at k
        refine x_aload_n d164_37 rfl ?_
        refine x_aload_n d164_38 rfl ?_
        refine y_invI (as := []) (t := [.inr 137]) (o := 137) gY_161 d164_39 gY_164.2.2.2 gM_12_223 rfl (sh_137 hW) rfl k (fun v5 I6 k => ?_)
        refine x_iconst d164_42 rfl ?_
        refine y_inv (as := [.inl v5, .inl 0]) (t := []) (o := 137) (ls2 := [some (.inr 137), some (.inl v5), some (.inl 0)]) gY_159 d164_43 gY_164.2.2.2 gM_12_226 rfl (sh_137 hW) rfl rfl ?_
        refine x_aload_n d159_0 rfl ?_
        refine x_getR (r := 145) d159_1 gY_159.2.2.2 gF_12_32 rfl (sh_137 hW) (rf_137_23 hW) (by decide) ?_
        refine x_aload_n d159_4 rfl ?_
        refine x_getI d159_5 gY_159.2.2.2 gF_12_213 rfl (sh_137 hW) ?_
        refine x_ldc d159_8 gY_159.2.2.2 gK_12_216 rfl ?_
        refine x_iload_n d159_10 rfl ?_
        have e7 := k.1
        replace k := k.2
        refine x_imul d159_11 e7 ?_
        refine x_iload_n d159_12 rfl ?_
        have e8 := k.1
        replace k := k.2
        refine x_iadd d159_13 e8 ?_
        have e9 := k.1
        replace k := k.2
        refine x_iast d159_14 (sh_145 hW) e9.1 e9.2 ?_
        refine x_aload_n d159_15 rfl ?_
        refine x_aload_n d159_16 rfl ?_
        refine x_getI d159_17 gY_159.2.2.2 gF_12_213 rfl (sh_137 hW) ?_
        refine x_iconst d159_20 rfl ?_
        have e10 := k.1
        replace k := k.2
        refine x_iadd d159_21 e10 ?_
        refine x_putI d159_22 gY_159.2.2.2 gF_12_213 rfl rfl (sh_137 hW) ?_
        refine x_vret d159_25 gR_159 ?_
        show Ex (d + 1) 164 46 [some (.inr 137), some (.inl x1)] [] (0, 0, n, sh, R, (zup (zup I6 145 (I6 137 18).toNat ((1048576 * v5) + 0)) 137 18 (I6 137 18 + 1))) _
        refine x_aload_n d164_46 rfl ?_
        refine x_aload_n d164_47 rfl ?_
        refine x_getI d164_48 gY_164.2.2.2 gF_12_220 rfl (sh_137 hW) ?_
        refine x_iconst d164_51 rfl ?_
        have e11 := k.1
        replace k := k.2
        refine x_isub d164_52 e11 ?_
        refine x_putI d164_53 gY_164.2.2.2 gF_12_220 rfl rfl (sh_137 hW) ?_
        refine x_goto (pc2 := 0) d164_56 rfl ?_
        exact k
      · replace c : ¬ (v3 = 2) := c
        rw [if_neg c] at k
        refine x_aload_n d164_29 rfl ?_
        refine y_invI (as := []) (t := []) (o := 137) gY_161 d164_30 gY_164.2.2.2 gM_12_223 rfl (sh_137 hW) rfl k (fun v12 I13 k => ?_)
        refine x_iconst d164_33 rfl ?_
        refine x_if2 (pc2 := 59) d164_34 rfl (fun c => ?_) (fun c => ?_)
        · replace c : ¬ v12 = 3 := c
          rw [if_pos c] at k
          exact x_vret d164_59 gR_164 ⟨_, rfl, rfl, k⟩
        · replace c : ¬ (¬ v12 = 3) := c
          rw [if_neg c] at k
          refine x_aload_n d164_37 rfl ?_
          refine x_aload_n d164_38 rfl ?_
          refine y_invI (as := []) (t := [.inr 137]) (o := 137) gY_161 d164_39 gY_164.2.2.2 gM_12_223 rfl (sh_137 hW) rfl k (fun v14 I15 k => ?_)
          refine x_iconst d164_42 rfl ?_
          refine y_inv (as := [.inl v14, .inl 0]) (t := []) (o := 137) (ls2 := [some (.inr 137), some (.inl v14), some (.inl 0)]) gY_159 d164_43 gY_164.2.2.2 gM_12_226 rfl (sh_137 hW) rfl rfl ?_
          refine x_aload_n d159_0 rfl ?_
          refine x_getR (r := 145) d159_1 gY_159.2.2.2 gF_12_32 rfl (sh_137 hW) (rf_137_23 hW) (by decide) ?_
          refine x_aload_n d159_4 rfl ?_
          refine x_getI d159_5 gY_159.2.2.2 gF_12_213 rfl (sh_137 hW) ?_
          refine x_ldc d159_8 gY_159.2.2.2 gK_12_216 rfl ?_
          refine x_iload_n d159_10 rfl ?_
          have e16 := k.1
          replace k := k.2
          refine x_imul d159_11 e16 ?_
          refine x_iload_n d159_12 rfl ?_
          have e17 := k.1
          replace k := k.2
          refine x_iadd d159_13 e17 ?_
          have e18 := k.1
          replace k := k.2
          refine x_iast d159_14 (sh_145 hW) e18.1 e18.2 ?_
          refine x_aload_n d159_15 rfl ?_
          refine x_aload_n d159_16 rfl ?_
          refine x_getI d159_17 gY_159.2.2.2 gF_12_213 rfl (sh_137 hW) ?_
          refine x_iconst d159_20 rfl ?_
          have e19 := k.1
          replace k := k.2
          refine x_iadd d159_21 e19 ?_
          refine x_putI d159_22 gY_159.2.2.2 gF_12_213 rfl rfl (sh_137 hW) ?_
          refine x_vret d159_25 gR_159 ?_
          show Ex (d + 1) 164 46 [some (.inr 137), some (.inl x1)] [] (0, 0, n, sh, R, (zup (zup I15 145 (I15 137 18).toNat ((1048576 * v14) + 0)) 137 18 (I15 137 18 + 1))) _
          refine x_aload_n d164_46 rfl ?_
          refine x_aload_n d164_47 rfl ?_
          refine x_getI d164_48 gY_164.2.2.2 gF_12_220 rfl (sh_137 hW) ?_
          refine x_iconst d164_51 rfl ?_
          have e20 := k.1
          replace k := k.2
          refine x_isub d164_52 e20 ?_
          refine x_putI d164_53 gY_164.2.2.2 gF_12_220 rfl rfl (sh_137 hW) ?_
          refine x_goto (pc2 := 0) d164_56 rfl ?_
          exact k
  · replace c : ¬ (v1 < 4) := c
    rw [if_neg c] at k
    refine x_aload_n d164_8 rfl ?_
    refine y_invI (as := []) (t := []) (o := 137) gY_161 d164_9 gY_164.2.2.2 gM_12_223 rfl (sh_137 hW) rfl k (fun v21 I22 k => ?_)
    refine x_bipush d164_12 rfl ?_
    refine x_if2 (pc2 := 37) d164_14 rfl (fun c => ?_) (fun c => ?_)
    · replace c : v21 ≤ 6 := c
      rw [if_pos c] at k
      refine x_aload_n d164_37 rfl ?_
      refine x_aload_n d164_38 rfl ?_
      refine y_invI (as := []) (t := [.inr 137]) (o := 137) gY_161 d164_39 gY_164.2.2.2 gM_12_223 rfl (sh_137 hW) rfl k (fun v23 I24 k => ?_)
      refine x_iconst d164_42 rfl ?_
      refine y_inv (as := [.inl v23, .inl 0]) (t := []) (o := 137) (ls2 := [some (.inr 137), some (.inl v23), some (.inl 0)]) gY_159 d164_43 gY_164.2.2.2 gM_12_226 rfl (sh_137 hW) rfl rfl ?_
      refine x_aload_n d159_0 rfl ?_
      refine x_getR (r := 145) d159_1 gY_159.2.2.2 gF_12_32 rfl (sh_137 hW) (rf_137_23 hW) (by decide) ?_
      refine x_aload_n d159_4 rfl ?_
      refine x_getI d159_5 gY_159.2.2.2 gF_12_213 rfl (sh_137 hW) ?_
      refine x_ldc d159_8 gY_159.2.2.2 gK_12_216 rfl ?_
      refine x_iload_n d159_10 rfl ?_
      have e25 := k.1
      replace k := k.2
      refine x_imul d159_11 e25 ?_
      refine x_iload_n d159_12 rfl ?_
      have e26 := k.1
      replace k := k.2
      refine x_iadd d159_13 e26 ?_
      have e27 := k.1
      replace k := k.2
      refine x_iast d159_14 (sh_145 hW) e27.1 e27.2 ?_
      refine x_aload_n d159_15 rfl ?_
      refine x_aload_n d159_16 rfl ?_
      refine x_getI d159_17 gY_159.2.2.2 gF_12_213 rfl (sh_137 hW) ?_
      refine x_iconst d159_20 rfl ?_
      have e28 := k.1
      replace k := k.2
      refine x_iadd d159_21 e28 ?_
      refine x_putI d159_22 gY_159.2.2.2 gF_12_213 rfl rfl (sh_137 hW) ?_
      refine x_vret d159_25 gR_159 ?_
      show Ex (d + 1) 164 46 [some (.inr 137), some (.inl x1)] [] (0, 0, n, sh, R, (zup (zup I24 145 (I24 137 18).toNat ((1048576 * v23) + 0)) 137 18 (I24 137 18 + 1))) _
      refine x_aload_n d164_46 rfl ?_
      refine x_aload_n d164_47 rfl ?_
      refine x_getI d164_48 gY_164.2.2.2 gF_12_220 rfl (sh_137 hW) ?_
      refine x_iconst d164_51 rfl ?_
      have e29 := k.1
      replace k := k.2
      refine x_isub d164_52 e29 ?_
      refine x_putI d164_53 gY_164.2.2.2 gF_12_220 rfl rfl (sh_137 hW) ?_
      refine x_goto (pc2 := 0) d164_56 rfl ?_
      exact k
    · replace c : ¬ (v21 ≤ 6) := c
      rw [if_neg c] at k
      refine x_iload_n d164_17 rfl ?_
      refine x_if1 (pc2 := 59) d164_18 rfl (fun c => ?_) (fun c => ?_)
      · replace c : x1 = 0 := c
        rw [if_pos c] at k
        exact x_vret d164_59 gR_164 ⟨_, rfl, rfl, k⟩
      · replace c : ¬ (x1 = 0) := c
        rw [if_neg c] at k
        refine x_aload_n d164_21 rfl ?_
        refine y_invI (as := []) (t := []) (o := 137) gY_161 d164_22 gY_164.2.2.2 gM_12_223 rfl (sh_137 hW) rfl k (fun v30 I31 k => ?_)
        refine x_iconst d164_25 rfl ?_
        refine x_if2 (pc2 := 37) d164_26 rfl (fun c => ?_) (fun c => ?_)
        · replace c : v30 = 2 := c
          rw [if_pos c] at k
          refine x_aload_n d164_37 rfl ?_
          refine x_aload_n d164_38 rfl ?_
          refine y_invI (as := []) (t := [.inr 137]) (o := 137) gY_161 d164_39 gY_164.2.2.2 gM_12_223 rfl (sh_137 hW) rfl k (fun v32 I33 k => ?_)
          refine x_iconst d164_42 rfl ?_
          refine y_inv (as := [.inl v32, .inl 0]) (t := []) (o := 137) (ls2 := [some (.inr 137), some (.inl v32), some (.inl 0)]) gY_159 d164_43 gY_164.2.2.2 gM_12_226 rfl (sh_137 hW) rfl rfl ?_
          refine x_aload_n d159_0 rfl ?_
          refine x_getR (r := 145) d159_1 gY_159.2.2.2 gF_12_32 rfl (sh_137 hW) (rf_137_23 hW) (by decide) ?_
          refine x_aload_n d159_4 rfl ?_
          refine x_getI d159_5 gY_159.2.2.2 gF_12_213 rfl (sh_137 hW) ?_
          refine x_ldc d159_8 gY_159.2.2.2 gK_12_216 rfl ?_
          refine x_iload_n d159_10 rfl ?_
          have e34 := k.1
          replace k := k.2
          refine x_imul d159_11 e34 ?_
          refine x_iload_n d159_12 rfl ?_
          have e35 := k.1
          replace k := k.2
          refine x_iadd d159_13 e35 ?_
          have e36 := k.1
          replace k := k.2
          refine x_iast d159_14 (sh_145 hW) e36.1 e36.2 ?_
          refine x_aload_n d159_15 rfl ?_
          refine x_aload_n d159_16 rfl ?_
          refine x_getI d159_17 gY_159.2.2.2 gF_12_213 rfl (sh_137 hW) ?_
          refine x_iconst d159_20 rfl ?_
          have e37 := k.1
          replace k := k.2
          refine x_iadd d159_21 e37 ?_
          refine x_putI d159_22 gY_159.2.2.2 gF_12_213 rfl rfl (sh_137 hW) ?_
          refine x_vret d159_25 gR_159 ?_
          show Ex (d + 1) 164 46 [some (.inr 137), some (.inl x1)] [] (0, 0, n, sh, R, (zup (zup I33 145 (I33 137 18).toNat ((1048576 * v32) + 0)) 137 18 (I33 137 18 + 1))) _
          refine x_aload_n d164_46 rfl ?_
          refine x_aload_n d164_47 rfl ?_
          refine x_getI d164_48 gY_164.2.2.2 gF_12_220 rfl (sh_137 hW) ?_
          refine x_iconst d164_51 rfl ?_
          have e38 := k.1
          replace k := k.2
          refine x_isub d164_52 e38 ?_
          refine x_putI d164_53 gY_164.2.2.2 gF_12_220 rfl rfl (sh_137 hW) ?_
          refine x_goto (pc2 := 0) d164_56 rfl ?_
          exact k
        · replace c : ¬ (v30 = 2) := c
          rw [if_neg c] at k
          refine x_aload_n d164_29 rfl ?_
          refine y_invI (as := []) (t := []) (o := 137) gY_161 d164_30 gY_164.2.2.2 gM_12_223 rfl (sh_137 hW) rfl k (fun v39 I40 k => ?_)
          refine x_iconst d164_33 rfl ?_
          refine x_if2 (pc2 := 59) d164_34 rfl (fun c => ?_) (fun c => ?_)
          · replace c : ¬ v39 = 3 := c
            rw [if_pos c] at k
            exact x_vret d164_59 gR_164 ⟨_, rfl, rfl, k⟩
          · replace c : ¬ (¬ v39 = 3) := c
            rw [if_neg c] at k
            refine x_aload_n d164_37 rfl ?_
            refine x_aload_n d164_38 rfl ?_
            refine y_invI (as := []) (t := [.inr 137]) (o := 137) gY_161 d164_39 gY_164.2.2.2 gM_12_223 rfl (sh_137 hW) rfl k (fun v41 I42 k => ?_)
            refine x_iconst d164_42 rfl ?_
            refine y_inv (as := [.inl v41, .inl 0]) (t := []) (o := 137) (ls2 := [some (.inr 137), some (.inl v41), some (.inl 0)]) gY_159 d164_43 gY_164.2.2.2 gM_12_226 rfl (sh_137 hW) rfl rfl ?_
            refine x_aload_n d159_0 rfl ?_
            refine x_getR (r := 145) d159_1 gY_159.2.2.2 gF_12_32 rfl (sh_137 hW) (rf_137_23 hW) (by decide) ?_
            refine x_aload_n d159_4 rfl ?_
            refine x_getI d159_5 gY_159.2.2.2 gF_12_213 rfl (sh_137 hW) ?_
            refine x_ldc d159_8 gY_159.2.2.2 gK_12_216 rfl ?_
            refine x_iload_n d159_10 rfl ?_
            have e43 := k.1
            replace k := k.2
            refine x_imul d159_11 e43 ?_
            refine x_iload_n d159_12 rfl ?_
            have e44 := k.1
            replace k := k.2
            refine x_iadd d159_13 e44 ?_
            have e45 := k.1
            replace k := k.2
            refine x_iast d159_14 (sh_145 hW) e45.1 e45.2 ?_
            refine x_aload_n d159_15 rfl ?_
            refine x_aload_n d159_16 rfl ?_
            refine x_getI d159_17 gY_159.2.2.2 gF_12_213 rfl (sh_137 hW) ?_
            refine x_iconst d159_20 rfl ?_
            have e46 := k.1
            replace k := k.2
            refine x_iadd d159_21 e46 ?_
            refine x_putI d159_22 gY_159.2.2.2 gF_12_213 rfl rfl (sh_137 hW) ?_
            refine x_vret d159_25 gR_159 ?_
            show Ex (d + 1) 164 46 [some (.inr 137), some (.inl x1)] [] (0, 0, n, sh, R, (zup (zup I42 145 (I42 137 18).toNat ((1048576 * v41) + 0)) 137 18 (I42 137 18 + 1))) _
            refine x_aload_n d164_46 rfl ?_
            refine x_aload_n d164_47 rfl ?_
            refine x_getI d164_48 gY_164.2.2.2 gF_12_220 rfl (sh_137 hW) ?_
            refine x_iconst d164_51 rfl ?_
            have e47 := k.1
            replace k := k.2
            refine x_isub d164_52 e47 ?_
            refine x_putI d164_53 gY_164.2.2.2 gF_12_220 rfl rfl (sh_137 hW) ?_
            refine x_goto (pc2 := 0) d164_56 rfl ?_
            exact k
set_option maxHeartbeats 4000000 in
theorem b_M_readsFactor_0 {d n : Nat} {sh : ZS} {R : ZR} {I : ZI} {Q : Int → ZI → Prop} (hW : Wf sh R) 
    (k : XI (d + 2) 154 [.inr 137] n sh R I (fun v1 I2 => (if ¬ v1 = 91 then XI (d + 2) 155 [.inr 137] n sh R I2 (fun v3 I4 => (if v3 = 0 then XI (d + 2) 154 [.inr 137] n sh R I4 (fun v5 I6 => XI (d + 2) 162 [.inl v5] n sh R I6 (fun v7 I8 => (if ¬ v7 = (-1) then (zr (1048576 * 1)) ∧ (zr ((1048576 * 1) + v7)) ∧ (0 ≤ I8 137 18 ∧ I8 137 18 < 220) ∧ (zr (I8 137 18 + 1)) ∧ (zr (I8 137 14 + 1)) ∧ Q 1 (zup (zup (zup I8 145 (I8 137 18).toNat ((1048576 * 1) + v7)) 137 18 (I8 137 18 + 1)) 137 14 (I8 137 14 + 1)) else (zr ((-1000) * 1)) ∧ (zr (((-1000) * 1) - I8 137 14)) ∧ Q 0 (zup I8 137 16 (((-1000) * 1) - I8 137 14))))) else XI (d + 2) 158 [.inr 137] n sh R I4 (fun v16 I17 => (if ¬ v16 = 0 then (zr (1048576 * 0)) ∧ (zr ((1048576 * 0) + I17 137 21)) ∧ (0 ≤ I17 137 18 ∧ I17 137 18 < 220) ∧ (zr (I17 137 18 + 1)) ∧ Q 1 (zup (zup I17 145 (I17 137 18).toNat ((1048576 * 0) + I17 137 21)) 137 18 (I17 137 18 + 1)) else Q 0 I17)))) else XI (d + 2) 160 [.inr 137, .inl 14] n sh R I2 (fun v22 I23 => (if ¬ v22 = 0 then XIs (d + 3) 165 0 [some (.inr 137), none] [] n sh R I23 Q else Q 0 I23))))) : XIs (d + 3) 165 0 [some (.inr 137), none] [] n sh R I Q := by
  unfold XIs
  refine x_aload_n d165_0 rfl ?_
  refine y_invI (as := []) (t := []) (o := 137) gY_154 d165_1 gY_165.2.2.2 gM_12_195 rfl (sh_137 hW) rfl k (fun v1 I2 k => ?_)
  refine x_bipush d165_4 rfl ?_
  refine x_if2 (pc2 := 20) d165_6 rfl (fun c => ?_) (fun c => ?_)
  · replace c : ¬ v1 = 91 := c
    rw [if_pos c] at k
    refine x_aload_n d165_20 rfl ?_
    refine y_invI (as := []) (t := []) (o := 137) gY_155 d165_21 gY_165.2.2.2 gM_12_209 rfl (sh_137 hW) rfl k (fun v3 I4 k => ?_)
    refine x_if1 (pc2 := 47) d165_24 rfl (fun c => ?_) (fun c => ?_)
    · replace c : v3 = 0 := c
      rw [if_pos c] at k
      refine x_aload_n d165_47 rfl ?_
      refine y_invI (as := []) (t := []) (o := 137) gY_154 d165_48 gY_165.2.2.2 gM_12_195 rfl (sh_137 hW) rfl k (fun v5 I6 k => ?_)
      refine y_insI (as := [.inl v5]) (t := []) gY_162 d165_51 gY_165.2.2.2 gM_12_236 rfl rfl k (fun v7 I8 k => ?_)
      refine x_istore_n (ls2 := [some (.inr 137), some (.inl v7)]) d165_54 rfl rfl ?_
      refine x_iload_n d165_55 rfl ?_
      refine x_iconst d165_56 rfl ?_
      refine x_if2 (pc2 := 70) d165_57 rfl (fun c => ?_) (fun c => ?_)
      · replace c : ¬ v7 = (-1) := c
        rw [if_pos c] at k
        refine x_aload_n d165_70 rfl ?_
        refine x_iconst d165_71 rfl ?_
        refine x_iload_n d165_72 rfl ?_
        refine y_inv (as := [.inl 1, .inl v7]) (t := []) (o := 137) (ls2 := [some (.inr 137), some (.inl 1), some (.inl v7)]) gY_159 d165_73 gY_165.2.2.2 gM_12_226 rfl (sh_137 hW) rfl rfl ?_
        refine x_aload_n d159_0 rfl ?_
        refine x_getR (r := 145) d159_1 gY_159.2.2.2 gF_12_32 rfl (sh_137 hW) (rf_137_23 hW) (by decide) ?_
        refine x_aload_n d159_4 rfl ?_
        refine x_getI d159_5 gY_159.2.2.2 gF_12_213 rfl (sh_137 hW) ?_
        refine x_ldc d159_8 gY_159.2.2.2 gK_12_216 rfl ?_
        refine x_iload_n d159_10 rfl ?_
        have e9 := k.1
        replace k := k.2
        refine x_imul d159_11 e9 ?_
        refine x_iload_n d159_12 rfl ?_
        have e10 := k.1
        replace k := k.2
        refine x_iadd d159_13 e10 ?_
        have e11 := k.1
        replace k := k.2
        refine x_iast d159_14 (sh_145 hW) e11.1 e11.2 ?_
        refine x_aload_n d159_15 rfl ?_
        refine x_aload_n d159_16 rfl ?_
        refine x_getI d159_17 gY_159.2.2.2 gF_12_213 rfl (sh_137 hW) ?_
        refine x_iconst d159_20 rfl ?_
        have e12 := k.1
        replace k := k.2
        refine x_iadd d159_21 e12 ?_
        refine x_putI d159_22 gY_159.2.2.2 gF_12_213 rfl rfl (sh_137 hW) ?_
        refine x_vret d159_25 gR_159 ?_
        show Ex (d + 3) 165 76 [some (.inr 137), some (.inl v7)] [] (0, 0, n, sh, R, (zup (zup I8 145 (I8 137 18).toNat ((1048576 * 1) + v7)) 137 18 (I8 137 18 + 1))) _
        refine x_aload_n d165_76 rfl ?_
        refine x_aload_n d165_77 rfl ?_
        refine x_getI d165_78 gY_165.2.2.2 gF_12_189 rfl (sh_137 hW) ?_
        refine x_iconst d165_81 rfl ?_
        have e13 := k.1
        replace k := k.2
        refine x_iadd d165_82 e13 ?_
        refine x_putI d165_83 gY_165.2.2.2 gF_12_189 rfl rfl (sh_137 hW) ?_
        refine x_iconst d165_86 rfl ?_
        exact x_zret d165_87 gR_165 (by decide) ⟨_, _, rfl, rfl, k⟩
      · replace c : ¬ (¬ v7 = (-1)) := c
        rw [if_neg c] at k
        refine x_aload_n d165_60 rfl ?_
        refine x_iconst d165_61 rfl ?_
        refine x_aload_n d165_62 rfl ?_
        refine x_getI d165_63 gY_165.2.2.2 gF_12_189 rfl (sh_137 hW) ?_
        refine y_inv (as := [.inl 1, .inl (I8 137 14)]) (t := []) (o := 137) (ls2 := [some (.inr 137), some (.inl 1), some (.inl (I8 137 14))]) gY_156 d165_66 gY_165.2.2.2 gM_12_202 rfl (sh_137 hW) rfl rfl ?_
        refine x_aload_n d156_0 rfl ?_
        refine x_sipush d156_1 rfl ?_
        refine x_iload_n d156_4 rfl ?_
        have e14 := k.1
        replace k := k.2
        refine x_imul d156_5 e14 ?_
        refine x_iload_n d156_6 rfl ?_
        have e15 := k.1
        replace k := k.2
        refine x_isub d156_7 e15 ?_
        refine x_putI d156_8 gY_156.2.2.2 gF_12_199 rfl rfl (sh_137 hW) ?_
        refine x_iconst d156_11 rfl ?_
        refine x_zret d156_12 gR_156 (by decide) ?_
        show Ex (d + 3) 165 69 [some (.inr 137), some (.inl v7)] [.inl 0] (0, 0, n, sh, R, (zup I8 137 16 (((-1000) * 1) - I8 137 14))) _
        exact x_zret d165_69 gR_165 (by decide) ⟨_, _, rfl, rfl, k⟩
    · replace c : ¬ (v3 = 0) := c
      rw [if_neg c] at k
      refine x_aload_n d165_27 rfl ?_
      refine y_invI (as := []) (t := []) (o := 137) gY_158 d165_28 gY_165.2.2.2 gM_12_233 rfl (sh_137 hW) rfl k (fun v16 I17 k => ?_)
      refine x_if1 (pc2 := 36) d165_31 rfl (fun c => ?_) (fun c => ?_)
      · replace c : ¬ v16 = 0 := c
        rw [if_pos c] at k
        refine x_aload_n d165_36 rfl ?_
        refine x_iconst d165_37 rfl ?_
        refine x_aload_n d165_38 rfl ?_
        refine x_getI d165_39 gY_165.2.2.2 gF_12_206 rfl (sh_137 hW) ?_
        refine y_inv (as := [.inl 0, .inl (I17 137 21)]) (t := []) (o := 137) (ls2 := [some (.inr 137), some (.inl 0), some (.inl (I17 137 21))]) gY_159 d165_42 gY_165.2.2.2 gM_12_226 rfl (sh_137 hW) rfl rfl ?_
        refine x_aload_n d159_0 rfl ?_
        refine x_getR (r := 145) d159_1 gY_159.2.2.2 gF_12_32 rfl (sh_137 hW) (rf_137_23 hW) (by decide) ?_
        refine x_aload_n d159_4 rfl ?_
        refine x_getI d159_5 gY_159.2.2.2 gF_12_213 rfl (sh_137 hW) ?_
        refine x_ldc d159_8 gY_159.2.2.2 gK_12_216 rfl ?_
        refine x_iload_n d159_10 rfl ?_
        have e18 := k.1
        replace k := k.2
        refine x_imul d159_11 e18 ?_
        refine x_iload_n d159_12 rfl ?_
        have e19 := k.1
        replace k := k.2
        refine x_iadd d159_13 e19 ?_
        have e20 := k.1
        replace k := k.2
        refine x_iast d159_14 (sh_145 hW) e20.1 e20.2 ?_
        refine x_aload_n d159_15 rfl ?_
        refine x_aload_n d159_16 rfl ?_
        refine x_getI d159_17 gY_159.2.2.2 gF_12_213 rfl (sh_137 hW) ?_
        refine x_iconst d159_20 rfl ?_
        have e21 := k.1
        replace k := k.2
        refine x_iadd d159_21 e21 ?_
        refine x_putI d159_22 gY_159.2.2.2 gF_12_213 rfl rfl (sh_137 hW) ?_
        refine x_vret d159_25 gR_159 ?_
        show Ex (d + 3) 165 45 [some (.inr 137), none] [] (0, 0, n, sh, R, (zup (zup I17 145 (I17 137 18).toNat ((1048576 * 0) + I17 137 21)) 137 18 (I17 137 18 + 1))) _
        refine x_iconst d165_45 rfl ?_
        exact x_zret d165_46 gR_165 (by decide) ⟨_, _, rfl, rfl, k⟩
      · replace c : ¬ (¬ v16 = 0) := c
        rw [if_neg c] at k
        refine x_iconst d165_34 rfl ?_
        exact x_zret d165_35 gR_165 (by decide) ⟨_, _, rfl, rfl, k⟩
  · replace c : ¬ (¬ v1 = 91) := c
    rw [if_neg c] at k
    refine x_aload_n d165_9 rfl ?_
    refine x_bipush d165_10 rfl ?_
    refine y_invI (as := [.inl 14]) (t := []) (o := 137) gY_160 d165_12 gY_165.2.2.2 gM_12_230 rfl (sh_137 hW) rfl k (fun v22 I23 k => ?_)
    refine x_if1 (pc2 := 0) d165_15 rfl (fun c => ?_) (fun c => ?_)
    · replace c : ¬ v22 = 0 := c
      rw [if_pos c] at k
      exact k
    · replace c : ¬ (¬ v22 = 0) := c
      rw [if_neg c] at k
      refine x_iconst d165_18 rfl ?_
      exact x_zret d165_19 gR_165 (by decide) ⟨_, _, rfl, rfl, k⟩
set_option maxHeartbeats 4000000 in
theorem b_M_hasOpenSum_0 {d n : Nat} {sh : ZS} {R : ZR} {I : ZI} {Q : Int → ZI → Prop} (hW : Wf sh R) {x1 : Int}
    (k : XIs d 166 2 [some (.inr 137), some (.inl x1), some (.inl x1)] [] n sh R I Q) : XI d 166 [.inr 137, .inl x1] n sh R I Q := by
  refine XI.of (ls := [some (.inr 137), some (.inl x1), none]) (zloc_eq gY_166.2.2.1) ?_
  unfold XIs
  refine x_iload_n d166_0 rfl ?_
  refine x_istore_n (ls2 := [some (.inr 137), some (.inl x1), some (.inl x1)]) d166_1 rfl rfl ?_
  exact k
set_option maxHeartbeats 4000000 in
theorem b_M_hasOpenSum_2 {d n : Nat} {sh : ZS} {R : ZR} {I : ZI} {Q : Int → ZI → Prop} (hW : Wf sh R) {u1 : Option AV} {x2 : Int}
    (k : (if I 137 19 ≤ x2 then Q 0 I else (0 ≤ x2 ∧ x2 < 220) ∧ (0 ≤ I 146 (x2).toNat ∧ I 146 (x2).toNat < 2147483648) ∧ (if ¬ (I 146 (x2).toNat / 1048576) = 14 then (zr (x2 + 1)) ∧ XIs d 166 2 [some (.inr 137), u1, some (.inl (x2 + 1))] [] n sh R I Q else Q 1 I))) : XIs d 166 2 [some (.inr 137), u1, some (.inl x2)] [] n sh R I Q := by
  unfold XIs
  refine x_iload_n d166_2 rfl ?_
  refine x_aload_n d166_3 rfl ?_
  refine x_getI d166_4 gY_166.2.2.2 gF_12_220 rfl (sh_137 hW) ?_
  refine x_if2 (pc2 := 32) d166_7 rfl (fun c => ?_) (fun c => ?_)
  · replace c : I 137 19 ≤ x2 := c
    rw [if_pos c] at k
    refine x_iconst d166_32 rfl ?_
    exact x_zret d166_33 gR_166 (by decide) ⟨_, _, rfl, rfl, k⟩
  · replace c : ¬ (I 137 19 ≤ x2) := c
    rw [if_neg c] at k
    refine x_aload_n d166_10 rfl ?_
    refine x_getR (r := 146) d166_11 gY_166.2.2.2 gF_12_35 rfl (sh_137 hW) (rf_137_24 hW) (by decide) ?_
    refine x_iload_n d166_14 rfl ?_
    have e1 := k.1
    replace k := k.2
    refine x_iald d166_15 (sh_146 hW) e1.1 e1.2 ?_
    refine x_ldc d166_16 gY_166.2.2.2 gK_12_216 rfl ?_
    have e2 := k.1
    replace k := k.2
    refine x_idiv d166_18 e2 (by decide) ?_
    refine x_bipush d166_19 rfl ?_
    refine x_if2 (pc2 := 26) d166_21 rfl (fun c => ?_) (fun c => ?_)
    · replace c : ¬ (I 146 (x2).toNat / 1048576) = 14 := c
      rw [if_pos c] at k
      have e3 := k.1
      replace k := k.2
      refine x_iinc (ls2 := [some (.inr 137), u1, some (.inl (x2 + 1))]) d166_26 rfl e3 rfl ?_
      refine x_goto (pc2 := 2) d166_29 rfl ?_
      exact k
    · replace c : ¬ (¬ (I 146 (x2).toNat / 1048576) = 14) := c
      rw [if_neg c] at k
      refine x_iconst d166_24 rfl ?_
      exact x_zret d166_25 gR_166 (by decide) ⟨_, _, rfl, rfl, k⟩
set_option maxHeartbeats 4000000 in
theorem b_M_readsSum_0 {d n : Nat} {sh : ZS} {R : ZR} {I : ZI} {Q : Int → ZI → Prop} (hW : Wf sh R) 
    (k : XI (d + 3) 165 [.inr 137] n sh R I (fun v1 I2 => (if ¬ v1 = 0 then XIs (d + 4) 167 14 [some (.inr 137), some (.inl (I 137 19)), none] [] n sh R I2 Q else Q 0 I2))) : XI (d + 4) 167 [.inr 137] n sh R I Q := by
  refine XI.of (ls := [some (.inr 137), none, none]) (zloc_eq gY_167.2.2.1) ?_
  unfold XIs
  refine x_aload_n d167_0 rfl ?_
  refine x_getI d167_1 gY_167.2.2.2 gF_12_220 rfl (sh_137 hW) ?_
  refine x_istore_n (ls2 := [some (.inr 137), some (.inl (I 137 19)), none]) d167_4 rfl rfl ?_
  refine x_aload_n d167_5 rfl ?_
  refine y_invI (as := []) (t := []) (o := 137) gY_165 d167_6 gY_167.2.2.2 gM_12_240 rfl (sh_137 hW) rfl k (fun v1 I2 k => ?_)
  refine x_if1 (pc2 := 14) d167_9 rfl (fun c => ?_) (fun c => ?_)
  · replace c : ¬ v1 = 0 := c
    rw [if_pos c] at k
    exact k
  · replace c : ¬ (¬ v1 = 0) := c
    rw [if_neg c] at k
    refine x_iconst d167_12 rfl ?_
    exact x_zret d167_13 gR_167 (by decide) ⟨_, _, rfl, rfl, k⟩
set_option maxHeartbeats 4000000 in
theorem b_M_readsSum_14 {d n : Nat} {sh : ZS} {R : ZR} {I : ZI} {Q : Int → ZI → Prop} (hW : Wf sh R) {x1 : Int} {u2 : Option AV}
    (k : XI (d + 3) 154 [.inr 137] n sh R I (fun v1 I2 => XI (d + 3) 163 [.inl v1] n sh R I2 (fun v3 I4 => (if v3 = (-1) then XI (d + 3) 154 [.inr 137] n sh R I4 (fun v5 I6 => (if ¬ v5 = 93 then XI (d + 3) 166 [.inr 137, .inl x1] n sh R I6 (fun v7 I8 => (if v7 = 0 then XV (d + 3) 164 [.inr 137, .inl 1] n sh R I8 (fun I10 => Q 1 I10) else (zr ((-1000) * 1)) ∧ (zr (((-1000) * 1) - I8 137 14)) ∧ Q 0 (zup I8 137 16 (((-1000) * 1) - I8 137 14)))) else XI (d + 3) 166 [.inr 137, .inl x1] n sh R I6 (fun v13 I14 => (if v13 = 0 then XI (d + 3) 166 [.inr 137, .inl x1] n sh R I14 (fun v15 I16 => (if v15 = 0 then XV (d + 3) 164 [.inr 137, .inl 1] n sh R I16 (fun I18 => Q 1 I18) else (zr ((-1000) * 1)) ∧ (zr (((-1000) * 1) - I16 137 14)) ∧ Q 0 (zup I16 137 16 (((-1000) * 1) - I16 137 14)))) else XV (d + 3) 164 [.inr 137, .inl 1] n sh R I14 (fun I22 => (zr (I22 137 19 - 1)) ∧ (zr (I22 137 17 - 1)) ∧ (zr (I22 137 14 + 1)) ∧ XIs (d + 4) 167 14 [some (.inr 137), some (.inl x1), some (.inl v3)] [] n sh R (zup (zup (zup I22 137 19 (I22 137 19 - 1)) 137 17 (I22 137 17 - 1)) 137 14 (I22 137 14 + 1)) Q))))) else (if 4 ≤ v3 then XV (d + 3) 164 [.inr 137, .inl 0] n sh R I4 (fun I27 => (zr (1048576 * v3)) ∧ (0 ≤ I27 137 19 ∧ I27 137 19 < 220) ∧ (zr (I27 137 19 + 1)) ∧ (zr (I27 137 14 + 1)) ∧ XI (d + 3) 165 [.inr 137] n sh R (zup (zup (zup I27 146 (I27 137 19).toNat (1048576 * v3)) 137 19 (I27 137 19 + 1)) 137 14 (I27 137 14 + 1)) (fun v32 I33 => (if ¬ v32 = 0 then XIs (d + 4) 167 14 [some (.inr 137), some (.inl x1), some (.inl v3)] [] n sh R I33 Q else Q 0 I33))) else XV (d + 3) 164 [.inr 137, .inl 1] n sh R I4 (fun I35 => (zr (1048576 * v3)) ∧ (0 ≤ I35 137 19 ∧ I35 137 19 < 220) ∧ (zr (I35 137 19 + 1)) ∧ (zr (I35 137 14 + 1)) ∧ XI (d + 3) 165 [.inr 137] n sh R (zup (zup (zup I35 146 (I35 137 19).toNat (1048576 * v3)) 137 19 (I35 137 19 + 1)) 137 14 (I35 137 14 + 1)) (fun v40 I41 => (if ¬ v40 = 0 then XIs (d + 4) 167 14 [some (.inr 137), some (.inl x1), some (.inl v3)] [] n sh R I41 Q else Q 0 I41)))))))) : XIs (d + 4) 167 14 [some (.inr 137), some (.inl x1), u2] [] n sh R I Q := by
  unfold XIs
  refine x_aload_n d167_14 rfl ?_
  refine y_invI (as := []) (t := []) (o := 137) gY_154 d167_15 gY_167.2.2.2 gM_12_195 rfl (sh_137 hW) rfl k (fun v1 I2 k => ?_)
  refine y_insI (as := [.inl v1]) (t := []) gY_163 d167_18 gY_167.2.2.2 gM_12_243 rfl rfl k (fun v3 I4 k => ?_)
  refine x_istore_n (ls2 := [some (.inr 137), some (.inl x1), some (.inl v3)]) d167_21 rfl rfl ?_
  refine x_iload_n d167_22 rfl ?_
  refine x_iconst d167_23 rfl ?_
  refine x_if2 (pc2 := 83) d167_24 rfl (fun c => ?_) (fun c => ?_)
  · replace c : v3 = (-1) := c
    rw [if_pos c] at k
    refine x_aload_n d167_83 rfl ?_
    refine y_invI (as := []) (t := []) (o := 137) gY_154 d167_84 gY_167.2.2.2 gM_12_195 rfl (sh_137 hW) rfl k (fun v5 I6 k => ?_)
    refine x_bipush d167_87 rfl ?_
    refine x_if2 (pc2 := 138) d167_89 rfl (fun c => ?_) (fun c => ?_)
    · replace c : ¬ v5 = 93 := c
      rw [if_pos c] at k
      refine x_aload_n d167_138 rfl ?_
      refine x_iload_n d167_139 rfl ?_
      refine y_invI (as := [.inl x1]) (t := []) (o := 137) gY_166 d167_140 gY_167.2.2.2 gM_12_250 rfl (sh_137 hW) rfl k (fun v7 I8 k => ?_)
      refine x_if1 (pc2 := 156) d167_143 rfl (fun c => ?_) (fun c => ?_)
      · replace c : v7 = 0 := c
        rw [if_pos c] at k
        refine x_aload_n d167_156 rfl ?_
        refine x_iconst d167_157 rfl ?_
        refine y_invV (as := [.inl 1]) (t := []) (o := 137) gY_164 d167_158 gY_167.2.2.2 gM_12_246 rfl (sh_137 hW) rfl k (fun I10 k => ?_)
        refine x_iconst d167_161 rfl ?_
        exact x_zret d167_162 gR_167 (by decide) ⟨_, _, rfl, rfl, k⟩
      · replace c : ¬ (v7 = 0) := c
        rw [if_neg c] at k
        refine x_aload_n d167_146 rfl ?_
        refine x_iconst d167_147 rfl ?_
        refine x_aload_n d167_148 rfl ?_
        refine x_getI d167_149 gY_167.2.2.2 gF_12_189 rfl (sh_137 hW) ?_
        refine y_inv (as := [.inl 1, .inl (I8 137 14)]) (t := []) (o := 137) (ls2 := [some (.inr 137), some (.inl 1), some (.inl (I8 137 14))]) gY_156 d167_152 gY_167.2.2.2 gM_12_202 rfl (sh_137 hW) rfl rfl ?_
        refine x_aload_n d156_0 rfl ?_
        refine x_sipush d156_1 rfl ?_
        refine x_iload_n d156_4 rfl ?_
        have e11 := k.1
        replace k := k.2
        refine x_imul d156_5 e11 ?_
        refine x_iload_n d156_6 rfl ?_
        have e12 := k.1
        replace k := k.2
        refine x_isub d156_7 e12 ?_
        refine x_putI d156_8 gY_156.2.2.2 gF_12_199 rfl rfl (sh_137 hW) ?_
        refine x_iconst d156_11 rfl ?_
        refine x_zret d156_12 gR_156 (by decide) ?_
        show Ex (d + 4) 167 155 [some (.inr 137), some (.inl x1), some (.inl v3)] [.inl 0] (0, 0, n, sh, R, (zup I8 137 16 (((-1000) * 1) - I8 137 14))) _
        exact x_zret d167_155 gR_167 (by decide) ⟨_, _, rfl, rfl, k⟩
    · replace c : ¬ (¬ v5 = 93) := c
      rw [if_neg c] at k
      refine x_aload_n d167_92 rfl ?_
      refine x_iload_n d167_93 rfl ?_
      refine y_invI (as := [.inl x1]) (t := []) (o := 137) gY_166 d167_94 gY_167.2.2.2 gM_12_250 rfl (sh_137 hW) rfl k (fun v13 I14 k => ?_)
      refine x_if1 (pc2 := 138) d167_97 rfl (fun c => ?_) (fun c => ?_)
      · replace c : v13 = 0 := c
        rw [if_pos c] at k
        refine x_aload_n d167_138 rfl ?_
        refine x_iload_n d167_139 rfl ?_
        refine y_invI (as := [.inl x1]) (t := []) (o := 137) gY_166 d167_140 gY_167.2.2.2 gM_12_250 rfl (sh_137 hW) rfl k (fun v15 I16 k => ?_)
        refine x_if1 (pc2 := 156) d167_143 rfl (fun c => ?_) (fun c => ?_)
        · replace c : v15 = 0 := c
          rw [if_pos c] at k
          refine x_aload_n d167_156 rfl ?_
          refine x_iconst d167_157 rfl ?_
          refine y_invV (as := [.inl 1]) (t := []) (o := 137) gY_164 d167_158 gY_167.2.2.2 gM_12_246 rfl (sh_137 hW) rfl k (fun I18 k => ?_)
          refine x_iconst d167_161 rfl ?_
          exact x_zret d167_162 gR_167 (by decide) ⟨_, _, rfl, rfl, k⟩
        · replace c : ¬ (v15 = 0) := c
          rw [if_neg c] at k
          refine x_aload_n d167_146 rfl ?_
          refine x_iconst d167_147 rfl ?_
          refine x_aload_n d167_148 rfl ?_
          refine x_getI d167_149 gY_167.2.2.2 gF_12_189 rfl (sh_137 hW) ?_
          refine y_inv (as := [.inl 1, .inl (I16 137 14)]) (t := []) (o := 137) (ls2 := [some (.inr 137), some (.inl 1), some (.inl (I16 137 14))]) gY_156 d167_152 gY_167.2.2.2 gM_12_202 rfl (sh_137 hW) rfl rfl ?_
          refine x_aload_n d156_0 rfl ?_
          refine x_sipush d156_1 rfl ?_
          refine x_iload_n d156_4 rfl ?_
          have e19 := k.1
          replace k := k.2
          refine x_imul d156_5 e19 ?_
          refine x_iload_n d156_6 rfl ?_
          have e20 := k.1
          replace k := k.2
          refine x_isub d156_7 e20 ?_
          refine x_putI d156_8 gY_156.2.2.2 gF_12_199 rfl rfl (sh_137 hW) ?_
          refine x_iconst d156_11 rfl ?_
          refine x_zret d156_12 gR_156 (by decide) ?_
          show Ex (d + 4) 167 155 [some (.inr 137), some (.inl x1), some (.inl v3)] [.inl 0] (0, 0, n, sh, R, (zup I16 137 16 (((-1000) * 1) - I16 137 14))) _
          exact x_zret d167_155 gR_167 (by decide) ⟨_, _, rfl, rfl, k⟩
      · replace c : ¬ (v13 = 0) := c
        rw [if_neg c] at k
        refine x_aload_n d167_100 rfl ?_
        refine x_iconst d167_101 rfl ?_
        refine y_invV (as := [.inl 1]) (t := []) (o := 137) gY_164 d167_102 gY_167.2.2.2 gM_12_246 rfl (sh_137 hW) rfl k (fun I22 k => ?_)
        refine x_aload_n d167_105 rfl ?_
        refine x_aload_n d167_106 rfl ?_
        refine x_getI d167_107 gY_167.2.2.2 gF_12_220 rfl (sh_137 hW) ?_
        refine x_iconst d167_110 rfl ?_
        have e23 := k.1
        replace k := k.2
        refine x_isub d167_111 e23 ?_
        refine x_putI d167_112 gY_167.2.2.2 gF_12_220 rfl rfl (sh_137 hW) ?_
        refine x_aload_n d167_115 rfl ?_
        refine x_aload_n d167_116 rfl ?_
        refine x_getI d167_117 gY_167.2.2.2 gF_12_217 rfl (sh_137 hW) ?_
        refine x_iconst d167_120 rfl ?_
        have e24 := k.1
        replace k := k.2
        refine x_isub d167_121 e24 ?_
        refine x_putI d167_122 gY_167.2.2.2 gF_12_217 rfl rfl (sh_137 hW) ?_
        refine x_aload_n d167_125 rfl ?_
        refine x_aload_n d167_126 rfl ?_
        refine x_getI d167_127 gY_167.2.2.2 gF_12_189 rfl (sh_137 hW) ?_
        refine x_iconst d167_130 rfl ?_
        have e25 := k.1
        replace k := k.2
        refine x_iadd d167_131 e25 ?_
        refine x_putI d167_132 gY_167.2.2.2 gF_12_189 rfl rfl (sh_137 hW) ?_
        refine x_goto (pc2 := 163) d167_135 rfl ?_
        refine x_goto (pc2 := 14) d167_163 rfl ?_
        exact k
  · replace c : ¬ (v3 = (-1)) := c
    rw [if_neg c] at k
    refine x_aload_n d167_27 rfl ?_
    refine x_iload_n d167_28 rfl ?_
    refine x_iconst d167_29 rfl ?_
    refine x_if2 (pc2 := 37) d167_30 rfl (fun c => ?_) (fun c => ?_)
    · replace c : 4 ≤ v3 := c
      rw [if_pos c] at k
      refine x_iconst d167_37 rfl ?_
      refine y_invV (as := [.inl 0]) (t := []) (o := 137) gY_164 d167_38 gY_167.2.2.2 gM_12_246 rfl (sh_137 hW) rfl k (fun I27 k => ?_)
      refine x_aload_n d167_41 rfl ?_
      refine x_getR (r := 146) d167_42 gY_167.2.2.2 gF_12_35 rfl (sh_137 hW) (rf_137_24 hW) (by decide) ?_
      refine x_aload_n d167_45 rfl ?_
      refine x_getI d167_46 gY_167.2.2.2 gF_12_220 rfl (sh_137 hW) ?_
      refine x_ldc d167_49 gY_167.2.2.2 gK_12_216 rfl ?_
      refine x_iload_n d167_51 rfl ?_
      have e28 := k.1
      replace k := k.2
      refine x_imul d167_52 e28 ?_
      have e29 := k.1
      replace k := k.2
      refine x_iast d167_53 (sh_146 hW) e29.1 e29.2 ?_
      refine x_aload_n d167_54 rfl ?_
      refine x_aload_n d167_55 rfl ?_
      refine x_getI d167_56 gY_167.2.2.2 gF_12_220 rfl (sh_137 hW) ?_
      refine x_iconst d167_59 rfl ?_
      have e30 := k.1
      replace k := k.2
      refine x_iadd d167_60 e30 ?_
      refine x_putI d167_61 gY_167.2.2.2 gF_12_220 rfl rfl (sh_137 hW) ?_
      refine x_aload_n d167_64 rfl ?_
      refine x_aload_n d167_65 rfl ?_
      refine x_getI d167_66 gY_167.2.2.2 gF_12_189 rfl (sh_137 hW) ?_
      refine x_iconst d167_69 rfl ?_
      have e31 := k.1
      replace k := k.2
      refine x_iadd d167_70 e31 ?_
      refine x_putI d167_71 gY_167.2.2.2 gF_12_189 rfl rfl (sh_137 hW) ?_
      refine x_aload_n d167_74 rfl ?_
      refine y_invI (as := []) (t := []) (o := 137) gY_165 d167_75 gY_167.2.2.2 gM_12_240 rfl (sh_137 hW) rfl k (fun v32 I33 k => ?_)
      refine x_if1 (pc2 := 163) d167_78 rfl (fun c => ?_) (fun c => ?_)
      · replace c : ¬ v32 = 0 := c
        rw [if_pos c] at k
        refine x_goto (pc2 := 14) d167_163 rfl ?_
        exact k
      · replace c : ¬ (¬ v32 = 0) := c
        rw [if_neg c] at k
        refine x_iconst d167_81 rfl ?_
        exact x_zret d167_82 gR_167 (by decide) ⟨_, _, rfl, rfl, k⟩
    · replace c : ¬ (4 ≤ v3) := c
      rw [if_neg c] at k
      refine x_iconst d167_33 rfl ?_
      refine x_goto (pc2 := 38) d167_34 rfl ?_
      refine y_invV (as := [.inl 1]) (t := []) (o := 137) gY_164 d167_38 gY_167.2.2.2 gM_12_246 rfl (sh_137 hW) rfl k (fun I35 k => ?_)
      refine x_aload_n d167_41 rfl ?_
      refine x_getR (r := 146) d167_42 gY_167.2.2.2 gF_12_35 rfl (sh_137 hW) (rf_137_24 hW) (by decide) ?_
      refine x_aload_n d167_45 rfl ?_
      refine x_getI d167_46 gY_167.2.2.2 gF_12_220 rfl (sh_137 hW) ?_
      refine x_ldc d167_49 gY_167.2.2.2 gK_12_216 rfl ?_
      refine x_iload_n d167_51 rfl ?_
      have e36 := k.1
      replace k := k.2
      refine x_imul d167_52 e36 ?_
      have e37 := k.1
      replace k := k.2
      refine x_iast d167_53 (sh_146 hW) e37.1 e37.2 ?_
      refine x_aload_n d167_54 rfl ?_
      refine x_aload_n d167_55 rfl ?_
      refine x_getI d167_56 gY_167.2.2.2 gF_12_220 rfl (sh_137 hW) ?_
      refine x_iconst d167_59 rfl ?_
      have e38 := k.1
      replace k := k.2
      refine x_iadd d167_60 e38 ?_
      refine x_putI d167_61 gY_167.2.2.2 gF_12_220 rfl rfl (sh_137 hW) ?_
      refine x_aload_n d167_64 rfl ?_
      refine x_aload_n d167_65 rfl ?_
      refine x_getI d167_66 gY_167.2.2.2 gF_12_189 rfl (sh_137 hW) ?_
      refine x_iconst d167_69 rfl ?_
      have e39 := k.1
      replace k := k.2
      refine x_iadd d167_70 e39 ?_
      refine x_putI d167_71 gY_167.2.2.2 gF_12_189 rfl rfl (sh_137 hW) ?_
      refine x_aload_n d167_74 rfl ?_
      refine y_invI (as := []) (t := []) (o := 137) gY_165 d167_75 gY_167.2.2.2 gM_12_240 rfl (sh_137 hW) rfl k (fun v40 I41 k => ?_)
      refine x_if1 (pc2 := 163) d167_78 rfl (fun c => ?_) (fun c => ?_)
      · replace c : ¬ v40 = 0 := c
        rw [if_pos c] at k
        refine x_goto (pc2 := 14) d167_163 rfl ?_
        exact k
      · replace c : ¬ (¬ v40 = 0) := c
        rw [if_neg c] at k
        refine x_iconst d167_81 rfl ?_
        exact x_zret d167_82 gR_167 (by decide) ⟨_, _, rfl, rfl, k⟩
set_option maxHeartbeats 4000000 in
theorem b_M_endsPiece_0 {d n : Nat} {sh : ZS} {R : ZR} {I : ZI} {Q : ZI → Prop} (hW : Wf sh R) 
    (k : XI d 161 [.inr 137] n sh R I (fun v1 I2 => (if ¬ v1 = 10 then Q I2 else (zr (1048576 * 10)) ∧ (zr ((1048576 * 10) + 0)) ∧ (0 ≤ I2 137 18 ∧ I2 137 18 < 220) ∧ (zr (I2 137 18 + 1)) ∧ (zr (I2 137 19 - 1)) ∧ (zr (I2 137 17 - 1)) ∧ XVs (d + 1) 168 0 [some (.inr 137)] [] n sh R (zup (zup (zup (zup I2 145 (I2 137 18).toNat ((1048576 * 10) + 0)) 137 18 (I2 137 18 + 1)) 137 19 (I2 137 19 - 1)) 137 17 (I2 137 17 - 1)) Q))) : XVs (d + 1) 168 0 [some (.inr 137)] [] n sh R I Q := by
  unfold XVs
  refine x_aload_n d168_0 rfl ?_
  refine y_invI (as := []) (t := []) (o := 137) gY_161 d168_1 gY_168.2.2.2 gM_12_223 rfl (sh_137 hW) rfl k (fun v1 I2 k => ?_)
  refine x_bipush d168_4 rfl ?_
  refine x_if2 (pc2 := 39) d168_6 rfl (fun c => ?_) (fun c => ?_)
  · replace c : ¬ v1 = 10 := c
    rw [if_pos c] at k
    exact x_vret d168_39 gR_168 ⟨_, rfl, rfl, k⟩
  · replace c : ¬ (¬ v1 = 10) := c
    rw [if_neg c] at k
    refine x_aload_n d168_9 rfl ?_
    refine x_bipush d168_10 rfl ?_
    refine x_iconst d168_12 rfl ?_
    refine y_inv (as := [.inl 10, .inl 0]) (t := []) (o := 137) (ls2 := [some (.inr 137), some (.inl 10), some (.inl 0)]) gY_159 d168_13 gY_168.2.2.2 gM_12_226 rfl (sh_137 hW) rfl rfl ?_
    refine x_aload_n d159_0 rfl ?_
    refine x_getR (r := 145) d159_1 gY_159.2.2.2 gF_12_32 rfl (sh_137 hW) (rf_137_23 hW) (by decide) ?_
    refine x_aload_n d159_4 rfl ?_
    refine x_getI d159_5 gY_159.2.2.2 gF_12_213 rfl (sh_137 hW) ?_
    refine x_ldc d159_8 gY_159.2.2.2 gK_12_216 rfl ?_
    refine x_iload_n d159_10 rfl ?_
    have e3 := k.1
    replace k := k.2
    refine x_imul d159_11 e3 ?_
    refine x_iload_n d159_12 rfl ?_
    have e4 := k.1
    replace k := k.2
    refine x_iadd d159_13 e4 ?_
    have e5 := k.1
    replace k := k.2
    refine x_iast d159_14 (sh_145 hW) e5.1 e5.2 ?_
    refine x_aload_n d159_15 rfl ?_
    refine x_aload_n d159_16 rfl ?_
    refine x_getI d159_17 gY_159.2.2.2 gF_12_213 rfl (sh_137 hW) ?_
    refine x_iconst d159_20 rfl ?_
    have e6 := k.1
    replace k := k.2
    refine x_iadd d159_21 e6 ?_
    refine x_putI d159_22 gY_159.2.2.2 gF_12_213 rfl rfl (sh_137 hW) ?_
    refine x_vret d159_25 gR_159 ?_
    show Ex (d + 1) 168 16 [some (.inr 137)] [] (0, 0, n, sh, R, (zup (zup I2 145 (I2 137 18).toNat ((1048576 * 10) + 0)) 137 18 (I2 137 18 + 1))) _
    refine x_aload_n d168_16 rfl ?_
    refine x_aload_n d168_17 rfl ?_
    refine x_getI d168_18 gY_168.2.2.2 gF_12_220 rfl (sh_137 hW) ?_
    refine x_iconst d168_21 rfl ?_
    have e7 := k.1
    replace k := k.2
    refine x_isub d168_22 e7 ?_
    refine x_putI d168_23 gY_168.2.2.2 gF_12_220 rfl rfl (sh_137 hW) ?_
    refine x_aload_n d168_26 rfl ?_
    refine x_aload_n d168_27 rfl ?_
    refine x_getI d168_28 gY_168.2.2.2 gF_12_217 rfl (sh_137 hW) ?_
    refine x_iconst d168_31 rfl ?_
    have e8 := k.1
    replace k := k.2
    refine x_isub d168_32 e8 ?_
    refine x_putI d168_33 gY_168.2.2.2 gF_12_217 rfl rfl (sh_137 hW) ?_
    refine x_goto (pc2 := 0) d168_36 rfl ?_
    exact k
set_option maxHeartbeats 4000000 in
theorem b_M_lands_0 {d n : Nat} {sh : ZS} {R : ZR} {I : ZI} {Q : ZI → Prop} (hW : Wf sh R) {x1 : Int}
    (k : XI d 161 [.inr 137] n sh R I (fun v1 I2 => (if v1 = 11 then (zr (I2 137 19 - 1)) ∧ (0 ≤ (I2 137 19 - 1) ∧ (I2 137 19 - 1) < 220) ∧ (0 ≤ I2 146 (I2 137 19 - 1).toNat) ∧ (0 ≤ (I2 146 (I2 137 19 - 1).toNat % 1048576) ∧ (I2 146 (I2 137 19 - 1).toNat % 1048576) < 220) ∧ (0 ≤ I2 145 (I2 146 (I2 137 19 - 1).toNat % 1048576).toNat ∧ I2 145 (I2 146 (I2 137 19 - 1).toNat % 1048576).toNat < 2147483648) ∧ (zr (1048576 * (I2 145 (I2 146 (I2 137 19 - 1).toNat % 1048576).toNat / 1048576))) ∧ (zr ((1048576 * (I2 145 (I2 146 (I2 137 19 - 1).toNat % 1048576).toNat / 1048576)) + I2 137 18)) ∧ XVs (d + 1) 169 0 [some (.inr 137), some (.inl x1), some (.inl (I2 146 (I2 137 19 - 1).toNat % 1048576))] [] n sh R (zup (zup I2 145 (I2 146 (I2 137 19 - 1).toNat % 1048576).toNat ((1048576 * (I2 145 (I2 146 (I2 137 19 - 1).toNat % 1048576).toNat / 1048576)) + I2 137 18)) 137 19 (I2 137 19 - 1)) Q else (if x1 = 0 then Q I2 else XI d 161 [.inr 137] n sh R I2 (fun v10 I11 => (if ¬ v10 = 12 then Q I11 else (zr (I11 137 19 - 1)) ∧ (0 ≤ (I11 137 19 - 1) ∧ (I11 137 19 - 1) < 220) ∧ (0 ≤ I11 146 (I11 137 19 - 1).toNat) ∧ (0 ≤ (I11 146 (I11 137 19 - 1).toNat % 1048576) ∧ (I11 146 (I11 137 19 - 1).toNat % 1048576) < 220) ∧ (0 ≤ I11 145 (I11 146 (I11 137 19 - 1).toNat % 1048576).toNat ∧ I11 145 (I11 146 (I11 137 19 - 1).toNat % 1048576).toNat < 2147483648) ∧ (zr (1048576 * (I11 145 (I11 146 (I11 137 19 - 1).toNat % 1048576).toNat / 1048576))) ∧ (zr ((1048576 * (I11 145 (I11 146 (I11 137 19 - 1).toNat % 1048576).toNat / 1048576)) + I11 137 18)) ∧ XVs (d + 1) 169 0 [some (.inr 137), some (.inl x1), some (.inl (I11 146 (I11 137 19 - 1).toNat % 1048576))] [] n sh R (zup (zup I11 145 (I11 146 (I11 137 19 - 1).toNat % 1048576).toNat ((1048576 * (I11 145 (I11 146 (I11 137 19 - 1).toNat % 1048576).toNat / 1048576)) + I11 137 18)) 137 19 (I11 137 19 - 1)) Q)))))) : XVs (d + 1) 169 0 [some (.inr 137), some (.inl x1), none] [] n sh R I Q := by
  unfold XVs
  refine x_aload_n d169_0 rfl ?_
  refine y_invI (as := []) (t := []) (o := 137) gY_161 d169_1 gY_169.2.2.2 gM_12_223 rfl (sh_137 hW) rfl k (fun v1 I2 k => ?_)
  refine x_bipush d169_4 rfl ?_
  refine x_if2 (pc2 := 22) d169_6 rfl (fun c => ?_) (fun c => ?_)
  · replace c : v1 = 11 := c
    rw [if_pos c] at k
    refine x_aload_n d169_22 rfl ?_
    refine x_getR (r := 146) d169_23 gY_169.2.2.2 gF_12_35 rfl (sh_137 hW) (rf_137_24 hW) (by decide) ?_
    refine x_aload_n d169_26 rfl ?_
    refine x_getI d169_27 gY_169.2.2.2 gF_12_220 rfl (sh_137 hW) ?_
    refine x_iconst d169_30 rfl ?_
    have e3 := k.1
    replace k := k.2
    refine x_isub d169_31 e3 ?_
    have e4 := k.1
    replace k := k.2
    refine x_iald d169_32 (sh_146 hW) e4.1 e4.2 ?_
    refine x_ldc d169_33 gY_169.2.2.2 gK_12_216 rfl ?_
    have e5 := k.1
    replace k := k.2
    refine x_irem d169_35 e5 (by decide) ?_
    refine x_istore_n (ls2 := [some (.inr 137), some (.inl x1), some (.inl (I2 146 (I2 137 19 - 1).toNat % 1048576))]) d169_36 rfl rfl ?_
    refine x_aload_n d169_37 rfl ?_
    refine x_getR (r := 145) d169_38 gY_169.2.2.2 gF_12_32 rfl (sh_137 hW) (rf_137_23 hW) (by decide) ?_
    refine x_iload_n d169_41 rfl ?_
    refine x_ldc d169_42 gY_169.2.2.2 gK_12_216 rfl ?_
    refine x_aload_n d169_44 rfl ?_
    refine x_getR (r := 145) d169_45 gY_169.2.2.2 gF_12_32 rfl (sh_137 hW) (rf_137_23 hW) (by decide) ?_
    refine x_iload_n d169_48 rfl ?_
    have e6 := k.1
    replace k := k.2
    refine x_iald d169_49 (sh_145 hW) e6.1 e6.2 ?_
    refine x_ldc d169_50 gY_169.2.2.2 gK_12_216 rfl ?_
    have e7 := k.1
    replace k := k.2
    refine x_idiv d169_52 e7 (by decide) ?_
    have e8 := k.1
    replace k := k.2
    refine x_imul d169_53 e8 ?_
    refine x_aload_n d169_54 rfl ?_
    refine x_getI d169_55 gY_169.2.2.2 gF_12_213 rfl (sh_137 hW) ?_
    have e9 := k.1
    replace k := k.2
    refine x_iadd d169_58 e9 ?_
    refine x_iast d169_59 (sh_145 hW) e6.1 e6.2 ?_
    refine x_aload_n d169_60 rfl ?_
    refine x_aload_n d169_61 rfl ?_
    refine x_getI d169_62 gY_169.2.2.2 gF_12_220 rfl (sh_137 hW) ?_
    refine x_iconst d169_65 rfl ?_
    refine x_isub d169_66 e3 ?_
    refine x_putI d169_67 gY_169.2.2.2 gF_12_220 rfl rfl (sh_137 hW) ?_
    refine x_goto (pc2 := 0) d169_70 rfl ?_
    exact k
  · replace c : ¬ (v1 = 11) := c
    rw [if_neg c] at k
    refine x_iload_n d169_9 rfl ?_
    refine x_if1 (pc2 := 73) d169_10 rfl (fun c => ?_) (fun c => ?_)
    · replace c : x1 = 0 := c
      rw [if_pos c] at k
      exact x_vret d169_73 gR_169 ⟨_, rfl, rfl, k⟩
    · replace c : ¬ (x1 = 0) := c
      rw [if_neg c] at k
      refine x_aload_n d169_13 rfl ?_
      refine y_invI (as := []) (t := []) (o := 137) gY_161 d169_14 gY_169.2.2.2 gM_12_223 rfl (sh_137 hW) rfl k (fun v10 I11 k => ?_)
      refine x_bipush d169_17 rfl ?_
      refine x_if2 (pc2 := 73) d169_19 rfl (fun c => ?_) (fun c => ?_)
      · replace c : ¬ v10 = 12 := c
        rw [if_pos c] at k
        exact x_vret d169_73 gR_169 ⟨_, rfl, rfl, k⟩
      · replace c : ¬ (¬ v10 = 12) := c
        rw [if_neg c] at k
        refine x_aload_n d169_22 rfl ?_
        refine x_getR (r := 146) d169_23 gY_169.2.2.2 gF_12_35 rfl (sh_137 hW) (rf_137_24 hW) (by decide) ?_
        refine x_aload_n d169_26 rfl ?_
        refine x_getI d169_27 gY_169.2.2.2 gF_12_220 rfl (sh_137 hW) ?_
        refine x_iconst d169_30 rfl ?_
        have e12 := k.1
        replace k := k.2
        refine x_isub d169_31 e12 ?_
        have e13 := k.1
        replace k := k.2
        refine x_iald d169_32 (sh_146 hW) e13.1 e13.2 ?_
        refine x_ldc d169_33 gY_169.2.2.2 gK_12_216 rfl ?_
        have e14 := k.1
        replace k := k.2
        refine x_irem d169_35 e14 (by decide) ?_
        refine x_istore_n (ls2 := [some (.inr 137), some (.inl x1), some (.inl (I11 146 (I11 137 19 - 1).toNat % 1048576))]) d169_36 rfl rfl ?_
        refine x_aload_n d169_37 rfl ?_
        refine x_getR (r := 145) d169_38 gY_169.2.2.2 gF_12_32 rfl (sh_137 hW) (rf_137_23 hW) (by decide) ?_
        refine x_iload_n d169_41 rfl ?_
        refine x_ldc d169_42 gY_169.2.2.2 gK_12_216 rfl ?_
        refine x_aload_n d169_44 rfl ?_
        refine x_getR (r := 145) d169_45 gY_169.2.2.2 gF_12_32 rfl (sh_137 hW) (rf_137_23 hW) (by decide) ?_
        refine x_iload_n d169_48 rfl ?_
        have e15 := k.1
        replace k := k.2
        refine x_iald d169_49 (sh_145 hW) e15.1 e15.2 ?_
        refine x_ldc d169_50 gY_169.2.2.2 gK_12_216 rfl ?_
        have e16 := k.1
        replace k := k.2
        refine x_idiv d169_52 e16 (by decide) ?_
        have e17 := k.1
        replace k := k.2
        refine x_imul d169_53 e17 ?_
        refine x_aload_n d169_54 rfl ?_
        refine x_getI d169_55 gY_169.2.2.2 gF_12_213 rfl (sh_137 hW) ?_
        have e18 := k.1
        replace k := k.2
        refine x_iadd d169_58 e18 ?_
        refine x_iast d169_59 (sh_145 hW) e15.1 e15.2 ?_
        refine x_aload_n d169_60 rfl ?_
        refine x_aload_n d169_61 rfl ?_
        refine x_getI d169_62 gY_169.2.2.2 gF_12_220 rfl (sh_137 hW) ?_
        refine x_iconst d169_65 rfl ?_
        refine x_isub d169_66 e12 ?_
        refine x_putI d169_67 gY_169.2.2.2 gF_12_220 rfl rfl (sh_137 hW) ?_
        refine x_goto (pc2 := 0) d169_70 rfl ?_
        exact k
set_option maxHeartbeats 4000000 in
theorem b_M_jumps_0 {d n : Nat} {sh : ZS} {R : ZR} {I : ZI} {Q : ZI → Prop} (hW : Wf sh R) {x1 : Int}
    (k : (zr (1048576 * x1)) ∧ (zr ((1048576 * x1) + I 137 18)) ∧ (0 ≤ I 137 19 ∧ I 137 19 < 220) ∧ (zr (I 137 19 + 1)) ∧ (zr ((1048576 * x1) + 0)) ∧ (0 ≤ I 137 18 ∧ I 137 18 < 220) ∧ (zr (I 137 18 + 1)) ∧ (zr (I 137 14 + 1)) ∧ Q (zup (zup (zup (zup (zup I 146 (I 137 19).toNat ((1048576 * x1) + I 137 18)) 137 19 (I 137 19 + 1)) 145 (I 137 18).toNat ((1048576 * x1) + 0)) 137 18 (I 137 18 + 1)) 137 14 (I 137 14 + 1))) : XV (d + 1) 170 [.inr 137, .inl x1] n sh R I Q := by
  refine XV.of (ls := [some (.inr 137), some (.inl x1)]) (zloc_eq gY_170.2.2.1) ?_
  unfold XVs
  refine x_aload_n d170_0 rfl ?_
  refine x_getR (r := 146) d170_1 gY_170.2.2.2 gF_12_35 rfl (sh_137 hW) (rf_137_24 hW) (by decide) ?_
  refine x_aload_n d170_4 rfl ?_
  refine x_getI d170_5 gY_170.2.2.2 gF_12_220 rfl (sh_137 hW) ?_
  refine x_ldc d170_8 gY_170.2.2.2 gK_12_216 rfl ?_
  refine x_iload_n d170_10 rfl ?_
  have e1 := k.1
  replace k := k.2
  refine x_imul d170_11 e1 ?_
  refine x_aload_n d170_12 rfl ?_
  refine x_getI d170_13 gY_170.2.2.2 gF_12_213 rfl (sh_137 hW) ?_
  have e2 := k.1
  replace k := k.2
  refine x_iadd d170_16 e2 ?_
  have e3 := k.1
  replace k := k.2
  refine x_iast d170_17 (sh_146 hW) e3.1 e3.2 ?_
  refine x_aload_n d170_18 rfl ?_
  refine x_aload_n d170_19 rfl ?_
  refine x_getI d170_20 gY_170.2.2.2 gF_12_220 rfl (sh_137 hW) ?_
  refine x_iconst d170_23 rfl ?_
  have e4 := k.1
  replace k := k.2
  refine x_iadd d170_24 e4 ?_
  refine x_putI d170_25 gY_170.2.2.2 gF_12_220 rfl rfl (sh_137 hW) ?_
  refine x_aload_n d170_28 rfl ?_
  refine x_iload_n d170_29 rfl ?_
  refine x_iconst d170_30 rfl ?_
  refine y_inv (as := [.inl x1, .inl 0]) (t := []) (o := 137) (ls2 := [some (.inr 137), some (.inl x1), some (.inl 0)]) gY_159 d170_31 gY_170.2.2.2 gM_12_226 rfl (sh_137 hW) rfl rfl ?_
  refine x_aload_n d159_0 rfl ?_
  refine x_getR (r := 145) d159_1 gY_159.2.2.2 gF_12_32 rfl (sh_137 hW) (rf_137_23 hW) (by decide) ?_
  refine x_aload_n d159_4 rfl ?_
  refine x_getI d159_5 gY_159.2.2.2 gF_12_213 rfl (sh_137 hW) ?_
  refine x_ldc d159_8 gY_159.2.2.2 gK_12_216 rfl ?_
  refine x_iload_n d159_10 rfl ?_
  refine x_imul d159_11 e1 ?_
  refine x_iload_n d159_12 rfl ?_
  have e5 := k.1
  replace k := k.2
  refine x_iadd d159_13 e5 ?_
  have e6 := k.1
  replace k := k.2
  refine x_iast d159_14 (sh_145 hW) e6.1 e6.2 ?_
  refine x_aload_n d159_15 rfl ?_
  refine x_aload_n d159_16 rfl ?_
  refine x_getI d159_17 gY_159.2.2.2 gF_12_213 rfl (sh_137 hW) ?_
  refine x_iconst d159_20 rfl ?_
  have e7 := k.1
  replace k := k.2
  refine x_iadd d159_21 e7 ?_
  refine x_putI d159_22 gY_159.2.2.2 gF_12_213 rfl rfl (sh_137 hW) ?_
  refine x_vret d159_25 gR_159 ?_
  show Ex (d + 1) 170 34 [some (.inr 137), some (.inl x1)] [] (0, 0, n, sh, R, (zup (zup (zup (zup I 146 (I 137 19).toNat ((1048576 * x1) + I 137 18)) 137 19 (I 137 19 + 1)) 145 (I 137 18).toNat ((1048576 * x1) + 0)) 137 18 (I 137 18 + 1))) _
  refine x_aload_n d170_34 rfl ?_
  refine x_aload_n d170_35 rfl ?_
  refine x_getI d170_36 gY_170.2.2.2 gF_12_189 rfl (sh_137 hW) ?_
  refine x_iconst d170_39 rfl ?_
  have e8 := k.1
  replace k := k.2
  refine x_iadd d170_40 e8 ?_
  refine x_putI d170_41 gY_170.2.2.2 gF_12_189 rfl rfl (sh_137 hW) ?_
  exact x_vret d170_44 gR_170 ⟨_, rfl, rfl, k⟩
set_option maxHeartbeats 4000000 in
theorem b_M_readsCompared_0 {d n : Nat} {sh : ZS} {R : ZR} {I : ZI} {Q : Int → ZI → Prop} (hW : Wf sh R) 
    (k : XI (d + 4) 167 [.inr 137] n sh R I (fun v1 I2 => (if ¬ v1 = 0 then XI (d + 4) 154 [.inr 137] n sh R I2 (fun v3 I4 => (if ¬ v3 = 60 then XI (d + 4) 154 [.inr 137] n sh R I4 (fun v5 I6 => (if ¬ v5 = 62 then XI (d + 4) 154 [.inr 137] n sh R I6 (fun v7 I8 => (if ¬ v7 = 61 then (zr ((-1000) * 1)) ∧ (zr (((-1000) * 1) - I8 137 14)) ∧ Q 0 (zup I8 137 16 (((-1000) * 1) - I8 137 14)) else (zr (I8 137 14 + 1)) ∧ XI (d + 4) 167 [.inr 137] n sh R (zup I8 137 14 (I8 137 14 + 1)) (fun v12 I13 => (if ¬ v12 = 0 then (zr (1048576 * 9)) ∧ (zr ((1048576 * 9) + 0)) ∧ (0 ≤ I13 137 18 ∧ I13 137 18 < 220) ∧ (zr (I13 137 18 + 1)) ∧ XV (d + 4) 168 [.inr 137] n sh R (zup (zup I13 145 (I13 137 18).toNat ((1048576 * 9) + 0)) 137 18 (I13 137 18 + 1)) (fun I19 => Q 1 I19) else Q 0 I13)))) else (zr (I6 137 14 + 1)) ∧ XI (d + 4) 167 [.inr 137] n sh R (zup I6 137 14 (I6 137 14 + 1)) (fun v21 I22 => (if ¬ v21 = 0 then (zr (1048576 * 8)) ∧ (zr ((1048576 * 8) + 0)) ∧ (0 ≤ I22 137 18 ∧ I22 137 18 < 220) ∧ (zr (I22 137 18 + 1)) ∧ XV (d + 4) 168 [.inr 137] n sh R (zup (zup I22 145 (I22 137 18).toNat ((1048576 * 8) + 0)) 137 18 (I22 137 18 + 1)) (fun I28 => Q 1 I28) else Q 0 I22)))) else (zr (I4 137 14 + 1)) ∧ XI (d + 4) 167 [.inr 137] n sh R (zup I4 137 14 (I4 137 14 + 1)) (fun v30 I31 => (if ¬ v30 = 0 then (zr (1048576 * 7)) ∧ (zr ((1048576 * 7) + 0)) ∧ (0 ≤ I31 137 18 ∧ I31 137 18 < 220) ∧ (zr (I31 137 18 + 1)) ∧ XV (d + 4) 168 [.inr 137] n sh R (zup (zup I31 145 (I31 137 18).toNat ((1048576 * 7) + 0)) 137 18 (I31 137 18 + 1)) (fun I37 => Q 1 I37) else Q 0 I31)))) else Q 0 I2))) : XI (d + 5) 171 [.inr 137] n sh R I Q := by
  refine XI.of (ls := [some (.inr 137), none]) (zloc_eq gY_171.2.2.1) ?_
  unfold XIs
  refine x_aload_n d171_0 rfl ?_
  refine y_invI (as := []) (t := []) (o := 137) gY_167 d171_1 gY_171.2.2.2 gM_12_253 rfl (sh_137 hW) rfl k (fun v1 I2 k => ?_)
  refine x_if1 (pc2 := 9) d171_4 rfl (fun c => ?_) (fun c => ?_)
  · replace c : ¬ v1 = 0 := c
    rw [if_pos c] at k
    refine x_aload_n d171_9 rfl ?_
    refine y_invI (as := []) (t := []) (o := 137) gY_154 d171_10 gY_171.2.2.2 gM_12_195 rfl (sh_137 hW) rfl k (fun v3 I4 k => ?_)
    refine x_bipush d171_13 rfl ?_
    refine x_if2 (pc2 := 23) d171_15 rfl (fun c => ?_) (fun c => ?_)
    · replace c : ¬ v3 = 60 := c
      rw [if_pos c] at k
      refine x_aload_n d171_23 rfl ?_
      refine y_invI (as := []) (t := []) (o := 137) gY_154 d171_24 gY_171.2.2.2 gM_12_195 rfl (sh_137 hW) rfl k (fun v5 I6 k => ?_)
      refine x_bipush d171_27 rfl ?_
      refine x_if2 (pc2 := 37) d171_29 rfl (fun c => ?_) (fun c => ?_)
      · replace c : ¬ v5 = 62 := c
        rw [if_pos c] at k
        refine x_aload_n d171_37 rfl ?_
        refine y_invI (as := []) (t := []) (o := 137) gY_154 d171_38 gY_171.2.2.2 gM_12_195 rfl (sh_137 hW) rfl k (fun v7 I8 k => ?_)
        refine x_bipush d171_41 rfl ?_
        refine x_if2 (pc2 := 51) d171_43 rfl (fun c => ?_) (fun c => ?_)
        · replace c : ¬ v7 = 61 := c
          rw [if_pos c] at k
          refine x_iconst d171_51 rfl ?_
          refine x_istore_n (ls2 := [some (.inr 137), some (.inl (-1))]) d171_52 rfl rfl ?_
          refine x_iload_n d171_53 rfl ?_
          refine x_iconst d171_54 rfl ?_
          refine x_if2 (pc2 := 68) d171_55 rfl (fun c => absurd (show ¬ ((-1) : Int) = (-1) from c) (by decide)) (fun _ => ?_)
          refine x_aload_n d171_58 rfl ?_
          refine x_iconst d171_59 rfl ?_
          refine x_aload_n d171_60 rfl ?_
          refine x_getI d171_61 gY_171.2.2.2 gF_12_189 rfl (sh_137 hW) ?_
          refine y_inv (as := [.inl 1, .inl (I8 137 14)]) (t := []) (o := 137) (ls2 := [some (.inr 137), some (.inl 1), some (.inl (I8 137 14))]) gY_156 d171_64 gY_171.2.2.2 gM_12_202 rfl (sh_137 hW) rfl rfl ?_
          refine x_aload_n d156_0 rfl ?_
          refine x_sipush d156_1 rfl ?_
          refine x_iload_n d156_4 rfl ?_
          have e9 := k.1
          replace k := k.2
          refine x_imul d156_5 e9 ?_
          refine x_iload_n d156_6 rfl ?_
          have e10 := k.1
          replace k := k.2
          refine x_isub d156_7 e10 ?_
          refine x_putI d156_8 gY_156.2.2.2 gF_12_199 rfl rfl (sh_137 hW) ?_
          refine x_iconst d156_11 rfl ?_
          refine x_zret d156_12 gR_156 (by decide) ?_
          show Ex (d + 5) 171 67 [some (.inr 137), some (.inl (-1))] [.inl 0] (0, 0, n, sh, R, (zup I8 137 16 (((-1000) * 1) - I8 137 14))) _
          exact x_zret d171_67 gR_171 (by decide) ⟨_, _, rfl, rfl, k⟩
        · replace c : ¬ (¬ v7 = 61) := c
          rw [if_neg c] at k
          refine x_bipush d171_46 rfl ?_
          refine x_goto (pc2 := 52) d171_48 rfl ?_
          refine x_istore_n (ls2 := [some (.inr 137), some (.inl 9)]) d171_52 rfl rfl ?_
          refine x_iload_n d171_53 rfl ?_
          refine x_iconst d171_54 rfl ?_
          refine x_if2 (pc2 := 68) d171_55 rfl (fun _ => ?_) (fun c => absurd (show ¬ (9 : Int) = (-1) by decide) c)
          refine x_aload_n d171_68 rfl ?_
          refine x_aload_n d171_69 rfl ?_
          refine x_getI d171_70 gY_171.2.2.2 gF_12_189 rfl (sh_137 hW) ?_
          refine x_iconst d171_73 rfl ?_
          have e11 := k.1
          replace k := k.2
          refine x_iadd d171_74 e11 ?_
          refine x_putI d171_75 gY_171.2.2.2 gF_12_189 rfl rfl (sh_137 hW) ?_
          refine x_aload_n d171_78 rfl ?_
          refine y_invI (as := []) (t := []) (o := 137) gY_167 d171_79 gY_171.2.2.2 gM_12_253 rfl (sh_137 hW) rfl k (fun v12 I13 k => ?_)
          refine x_if1 (pc2 := 87) d171_82 rfl (fun c => ?_) (fun c => ?_)
          · replace c : ¬ v12 = 0 := c
            rw [if_pos c] at k
            refine x_aload_n d171_87 rfl ?_
            refine x_iload_n d171_88 rfl ?_
            refine x_iconst d171_89 rfl ?_
            refine y_inv (as := [.inl 9, .inl 0]) (t := []) (o := 137) (ls2 := [some (.inr 137), some (.inl 9), some (.inl 0)]) gY_159 d171_90 gY_171.2.2.2 gM_12_226 rfl (sh_137 hW) rfl rfl ?_
            refine x_aload_n d159_0 rfl ?_
            refine x_getR (r := 145) d159_1 gY_159.2.2.2 gF_12_32 rfl (sh_137 hW) (rf_137_23 hW) (by decide) ?_
            refine x_aload_n d159_4 rfl ?_
            refine x_getI d159_5 gY_159.2.2.2 gF_12_213 rfl (sh_137 hW) ?_
            refine x_ldc d159_8 gY_159.2.2.2 gK_12_216 rfl ?_
            refine x_iload_n d159_10 rfl ?_
            have e14 := k.1
            replace k := k.2
            refine x_imul d159_11 e14 ?_
            refine x_iload_n d159_12 rfl ?_
            have e15 := k.1
            replace k := k.2
            refine x_iadd d159_13 e15 ?_
            have e16 := k.1
            replace k := k.2
            refine x_iast d159_14 (sh_145 hW) e16.1 e16.2 ?_
            refine x_aload_n d159_15 rfl ?_
            refine x_aload_n d159_16 rfl ?_
            refine x_getI d159_17 gY_159.2.2.2 gF_12_213 rfl (sh_137 hW) ?_
            refine x_iconst d159_20 rfl ?_
            have e17 := k.1
            replace k := k.2
            refine x_iadd d159_21 e17 ?_
            refine x_putI d159_22 gY_159.2.2.2 gF_12_213 rfl rfl (sh_137 hW) ?_
            refine x_vret d159_25 gR_159 ?_
            show Ex (d + 5) 171 93 [some (.inr 137), some (.inl 9)] [] (0, 0, n, sh, R, (zup (zup I13 145 (I13 137 18).toNat ((1048576 * 9) + 0)) 137 18 (I13 137 18 + 1))) _
            refine x_aload_n d171_93 rfl ?_
            refine y_invV (as := []) (t := []) (o := 137) gY_168 d171_94 gY_171.2.2.2 gM_12_256 rfl (sh_137 hW) rfl k (fun I19 k => ?_)
            refine x_iconst d171_97 rfl ?_
            exact x_zret d171_98 gR_171 (by decide) ⟨_, _, rfl, rfl, k⟩
          · replace c : ¬ (¬ v12 = 0) := c
            rw [if_neg c] at k
            refine x_iconst d171_85 rfl ?_
            exact x_zret d171_86 gR_171 (by decide) ⟨_, _, rfl, rfl, k⟩
      · replace c : ¬ (¬ v5 = 62) := c
        rw [if_neg c] at k
        refine x_bipush d171_32 rfl ?_
        refine x_goto (pc2 := 52) d171_34 rfl ?_
        refine x_istore_n (ls2 := [some (.inr 137), some (.inl 8)]) d171_52 rfl rfl ?_
        refine x_iload_n d171_53 rfl ?_
        refine x_iconst d171_54 rfl ?_
        refine x_if2 (pc2 := 68) d171_55 rfl (fun _ => ?_) (fun c => absurd (show ¬ (8 : Int) = (-1) by decide) c)
        refine x_aload_n d171_68 rfl ?_
        refine x_aload_n d171_69 rfl ?_
        refine x_getI d171_70 gY_171.2.2.2 gF_12_189 rfl (sh_137 hW) ?_
        refine x_iconst d171_73 rfl ?_
        have e20 := k.1
        replace k := k.2
        refine x_iadd d171_74 e20 ?_
        refine x_putI d171_75 gY_171.2.2.2 gF_12_189 rfl rfl (sh_137 hW) ?_
        refine x_aload_n d171_78 rfl ?_
        refine y_invI (as := []) (t := []) (o := 137) gY_167 d171_79 gY_171.2.2.2 gM_12_253 rfl (sh_137 hW) rfl k (fun v21 I22 k => ?_)
        refine x_if1 (pc2 := 87) d171_82 rfl (fun c => ?_) (fun c => ?_)
        · replace c : ¬ v21 = 0 := c
          rw [if_pos c] at k
          refine x_aload_n d171_87 rfl ?_
          refine x_iload_n d171_88 rfl ?_
          refine x_iconst d171_89 rfl ?_
          refine y_inv (as := [.inl 8, .inl 0]) (t := []) (o := 137) (ls2 := [some (.inr 137), some (.inl 8), some (.inl 0)]) gY_159 d171_90 gY_171.2.2.2 gM_12_226 rfl (sh_137 hW) rfl rfl ?_
          refine x_aload_n d159_0 rfl ?_
          refine x_getR (r := 145) d159_1 gY_159.2.2.2 gF_12_32 rfl (sh_137 hW) (rf_137_23 hW) (by decide) ?_
          refine x_aload_n d159_4 rfl ?_
          refine x_getI d159_5 gY_159.2.2.2 gF_12_213 rfl (sh_137 hW) ?_
          refine x_ldc d159_8 gY_159.2.2.2 gK_12_216 rfl ?_
          refine x_iload_n d159_10 rfl ?_
          have e23 := k.1
          replace k := k.2
          refine x_imul d159_11 e23 ?_
          refine x_iload_n d159_12 rfl ?_
          have e24 := k.1
          replace k := k.2
          refine x_iadd d159_13 e24 ?_
          have e25 := k.1
          replace k := k.2
          refine x_iast d159_14 (sh_145 hW) e25.1 e25.2 ?_
          refine x_aload_n d159_15 rfl ?_
          refine x_aload_n d159_16 rfl ?_
          refine x_getI d159_17 gY_159.2.2.2 gF_12_213 rfl (sh_137 hW) ?_
          refine x_iconst d159_20 rfl ?_
          have e26 := k.1
          replace k := k.2
          refine x_iadd d159_21 e26 ?_
          refine x_putI d159_22 gY_159.2.2.2 gF_12_213 rfl rfl (sh_137 hW) ?_
          refine x_vret d159_25 gR_159 ?_
          show Ex (d + 5) 171 93 [some (.inr 137), some (.inl 8)] [] (0, 0, n, sh, R, (zup (zup I22 145 (I22 137 18).toNat ((1048576 * 8) + 0)) 137 18 (I22 137 18 + 1))) _
          refine x_aload_n d171_93 rfl ?_
          refine y_invV (as := []) (t := []) (o := 137) gY_168 d171_94 gY_171.2.2.2 gM_12_256 rfl (sh_137 hW) rfl k (fun I28 k => ?_)
          refine x_iconst d171_97 rfl ?_
          exact x_zret d171_98 gR_171 (by decide) ⟨_, _, rfl, rfl, k⟩
        · replace c : ¬ (¬ v21 = 0) := c
          rw [if_neg c] at k
          refine x_iconst d171_85 rfl ?_
          exact x_zret d171_86 gR_171 (by decide) ⟨_, _, rfl, rfl, k⟩
    · replace c : ¬ (¬ v3 = 60) := c
      rw [if_neg c] at k
      refine x_bipush d171_18 rfl ?_
      refine x_goto (pc2 := 52) d171_20 rfl ?_
      refine x_istore_n (ls2 := [some (.inr 137), some (.inl 7)]) d171_52 rfl rfl ?_
      refine x_iload_n d171_53 rfl ?_
      refine x_iconst d171_54 rfl ?_
      refine x_if2 (pc2 := 68) d171_55 rfl (fun _ => ?_) (fun c => absurd (show ¬ (7 : Int) = (-1) by decide) c)
      refine x_aload_n d171_68 rfl ?_
      refine x_aload_n d171_69 rfl ?_
      refine x_getI d171_70 gY_171.2.2.2 gF_12_189 rfl (sh_137 hW) ?_
      refine x_iconst d171_73 rfl ?_
      have e29 := k.1
      replace k := k.2
      refine x_iadd d171_74 e29 ?_
      refine x_putI d171_75 gY_171.2.2.2 gF_12_189 rfl rfl (sh_137 hW) ?_
      refine x_aload_n d171_78 rfl ?_
      refine y_invI (as := []) (t := []) (o := 137) gY_167 d171_79 gY_171.2.2.2 gM_12_253 rfl (sh_137 hW) rfl k (fun v30 I31 k => ?_)
      refine x_if1 (pc2 := 87) d171_82 rfl (fun c => ?_) (fun c => ?_)
      · replace c : ¬ v30 = 0 := c
        rw [if_pos c] at k
        refine x_aload_n d171_87 rfl ?_
        refine x_iload_n d171_88 rfl ?_
        refine x_iconst d171_89 rfl ?_
        refine y_inv (as := [.inl 7, .inl 0]) (t := []) (o := 137) (ls2 := [some (.inr 137), some (.inl 7), some (.inl 0)]) gY_159 d171_90 gY_171.2.2.2 gM_12_226 rfl (sh_137 hW) rfl rfl ?_
        refine x_aload_n d159_0 rfl ?_
        refine x_getR (r := 145) d159_1 gY_159.2.2.2 gF_12_32 rfl (sh_137 hW) (rf_137_23 hW) (by decide) ?_
        refine x_aload_n d159_4 rfl ?_
        refine x_getI d159_5 gY_159.2.2.2 gF_12_213 rfl (sh_137 hW) ?_
        refine x_ldc d159_8 gY_159.2.2.2 gK_12_216 rfl ?_
        refine x_iload_n d159_10 rfl ?_
        have e32 := k.1
        replace k := k.2
        refine x_imul d159_11 e32 ?_
        refine x_iload_n d159_12 rfl ?_
        have e33 := k.1
        replace k := k.2
        refine x_iadd d159_13 e33 ?_
        have e34 := k.1
        replace k := k.2
        refine x_iast d159_14 (sh_145 hW) e34.1 e34.2 ?_
        refine x_aload_n d159_15 rfl ?_
        refine x_aload_n d159_16 rfl ?_
        refine x_getI d159_17 gY_159.2.2.2 gF_12_213 rfl (sh_137 hW) ?_
        refine x_iconst d159_20 rfl ?_
        have e35 := k.1
        replace k := k.2
        refine x_iadd d159_21 e35 ?_
        refine x_putI d159_22 gY_159.2.2.2 gF_12_213 rfl rfl (sh_137 hW) ?_
        refine x_vret d159_25 gR_159 ?_
        show Ex (d + 5) 171 93 [some (.inr 137), some (.inl 7)] [] (0, 0, n, sh, R, (zup (zup I31 145 (I31 137 18).toNat ((1048576 * 7) + 0)) 137 18 (I31 137 18 + 1))) _
        refine x_aload_n d171_93 rfl ?_
        refine y_invV (as := []) (t := []) (o := 137) gY_168 d171_94 gY_171.2.2.2 gM_12_256 rfl (sh_137 hW) rfl k (fun I37 k => ?_)
        refine x_iconst d171_97 rfl ?_
        exact x_zret d171_98 gR_171 (by decide) ⟨_, _, rfl, rfl, k⟩
      · replace c : ¬ (¬ v30 = 0) := c
        rw [if_neg c] at k
        refine x_iconst d171_85 rfl ?_
        exact x_zret d171_86 gR_171 (by decide) ⟨_, _, rfl, rfl, k⟩
  · replace c : ¬ (¬ v1 = 0) := c
    rw [if_neg c] at k
    refine x_iconst d171_7 rfl ?_
    exact x_zret d171_8 gR_171 (by decide) ⟨_, _, rfl, rfl, k⟩
set_option maxHeartbeats 4000000 in
theorem b_M_readsCondition_0 {d n : Nat} {sh : ZS} {R : ZR} {I : ZI} {Q : Int → ZI → Prop} (hW : Wf sh R) 
    (k : XI (d + 5) 154 [.inr 137] n sh R I (fun v1 I2 => (if v1 = 40 then XI (d + 5) 160 [.inr 137, .inl 13] n sh R (zup (zup I2 137 17 0) 137 19 0) (fun v3 I4 => (if ¬ v3 = 0 then XIs (d + 6) 172 40 [some (.inr 137)] [] n sh R I4 Q else Q 0 I4)) else (zr ((-1000) * 1)) ∧ (zr (((-1000) * 1) - I2 137 14)) ∧ Q 0 (zup I2 137 16 (((-1000) * 1) - I2 137 14))))) : XI (d + 6) 172 [.inr 137] n sh R I Q := by
  refine XI.of (ls := [some (.inr 137)]) (zloc_eq gY_172.2.2.1) ?_
  unfold XIs
  refine x_aload_n d172_0 rfl ?_
  refine y_invI (as := []) (t := []) (o := 137) gY_154 d172_1 gY_172.2.2.2 gM_12_195 rfl (sh_137 hW) rfl k (fun v1 I2 k => ?_)
  refine x_bipush d172_4 rfl ?_
  refine x_if2 (pc2 := 19) d172_6 rfl (fun c => ?_) (fun c => ?_)
  · replace c : v1 = 40 := c
    rw [if_pos c] at k
    refine x_aload_n d172_19 rfl ?_
    refine x_iconst d172_20 rfl ?_
    refine x_putI d172_21 gY_172.2.2.2 gF_12_217 rfl rfl (sh_137 hW) ?_
    refine x_aload_n d172_24 rfl ?_
    refine x_iconst d172_25 rfl ?_
    refine x_putI d172_26 gY_172.2.2.2 gF_12_220 rfl rfl (sh_137 hW) ?_
    refine x_aload_n d172_29 rfl ?_
    refine x_bipush d172_30 rfl ?_
    refine y_invI (as := [.inl 13]) (t := []) (o := 137) gY_160 d172_32 gY_172.2.2.2 gM_12_230 rfl (sh_137 hW) rfl k (fun v3 I4 k => ?_)
    refine x_if1 (pc2 := 40) d172_35 rfl (fun c => ?_) (fun c => ?_)
    · replace c : ¬ v3 = 0 := c
      rw [if_pos c] at k
      exact k
    · replace c : ¬ (¬ v3 = 0) := c
      rw [if_neg c] at k
      refine x_iconst d172_38 rfl ?_
      exact x_zret d172_39 gR_172 (by decide) ⟨_, _, rfl, rfl, k⟩
  · replace c : ¬ (v1 = 40) := c
    rw [if_neg c] at k
    refine x_aload_n d172_9 rfl ?_
    refine x_iconst d172_10 rfl ?_
    refine x_aload_n d172_11 rfl ?_
    refine x_getI d172_12 gY_172.2.2.2 gF_12_189 rfl (sh_137 hW) ?_
    refine y_inv (as := [.inl 1, .inl (I2 137 14)]) (t := []) (o := 137) (ls2 := [some (.inr 137), some (.inl 1), some (.inl (I2 137 14))]) gY_156 d172_15 gY_172.2.2.2 gM_12_202 rfl (sh_137 hW) rfl rfl ?_
    refine x_aload_n d156_0 rfl ?_
    refine x_sipush d156_1 rfl ?_
    refine x_iload_n d156_4 rfl ?_
    have e5 := k.1
    replace k := k.2
    refine x_imul d156_5 e5 ?_
    refine x_iload_n d156_6 rfl ?_
    have e6 := k.1
    replace k := k.2
    refine x_isub d156_7 e6 ?_
    refine x_putI d156_8 gY_156.2.2.2 gF_12_199 rfl rfl (sh_137 hW) ?_
    refine x_iconst d156_11 rfl ?_
    refine x_zret d156_12 gR_156 (by decide) ?_
    show Ex (d + 6) 172 18 [some (.inr 137)] [.inl 0] (0, 0, n, sh, R, (zup I2 137 16 (((-1000) * 1) - I2 137 14))) _
    exact x_zret d172_18 gR_172 (by decide) ⟨_, _, rfl, rfl, k⟩
set_option maxHeartbeats 4000000 in
theorem b_M_readsCondition_40 {d n : Nat} {sh : ZS} {R : ZR} {I : ZI} {Q : Int → ZI → Prop} (hW : Wf sh R) 
    (k : XI (d + 5) 154 [.inr 137] n sh R I (fun v1 I2 => (if v1 = 33 then XI (d + 5) 154 [.inr 137] n sh R I2 (fun v3 I4 => (if ¬ v3 = 33 then XI (d + 5) 160 [.inr 137, .inl 13] n sh R I4 (fun v5 I6 => (if ¬ v5 = 0 then XIs (d + 6) 172 40 [some (.inr 137)] [] n sh R I6 Q else Q 0 I6)) else XI (d + 5) 160 [.inr 137, .inl 10] n sh R I4 (fun v7 I8 => (if ¬ v7 = 0 then XIs (d + 6) 172 40 [some (.inr 137)] [] n sh R I8 Q else Q 0 I8)))) else XI (d + 5) 154 [.inr 137] n sh R I2 (fun v9 I10 => (if ¬ v9 = 40 then XI (d + 5) 171 [.inr 137] n sh R I10 (fun v11 I12 => (if ¬ v11 = 0 then XIs (d + 6) 172 92 [some (.inr 137)] [] n sh R I12 Q else Q 0 I12)) else XI (d + 5) 154 [.inr 137] n sh R I10 (fun v13 I14 => (if ¬ v13 = 33 then XI (d + 5) 160 [.inr 137, .inl 13] n sh R I14 (fun v15 I16 => (if ¬ v15 = 0 then XIs (d + 6) 172 40 [some (.inr 137)] [] n sh R I16 Q else Q 0 I16)) else XI (d + 5) 160 [.inr 137, .inl 10] n sh R I14 (fun v17 I18 => (if ¬ v17 = 0 then XIs (d + 6) 172 40 [some (.inr 137)] [] n sh R I18 Q else Q 0 I18))))))))) : XIs (d + 6) 172 40 [some (.inr 137)] [] n sh R I Q := by
  unfold XIs
  refine x_aload_n d172_40 rfl ?_
  refine y_invI (as := []) (t := []) (o := 137) gY_154 d172_41 gY_172.2.2.2 gM_12_195 rfl (sh_137 hW) rfl k (fun v1 I2 k => ?_)
  refine x_bipush d172_44 rfl ?_
  refine x_if2 (pc2 := 58) d172_46 rfl (fun c => ?_) (fun c => ?_)
  · replace c : v1 = 33 := c
    rw [if_pos c] at k
    refine x_aload_n d172_58 rfl ?_
    refine x_aload_n d172_59 rfl ?_
    refine y_invI (as := []) (t := [.inr 137]) (o := 137) gY_154 d172_60 gY_172.2.2.2 gM_12_195 rfl (sh_137 hW) rfl k (fun v3 I4 k => ?_)
    refine x_bipush d172_63 rfl ?_
    refine x_if2 (pc2 := 73) d172_65 rfl (fun c => ?_) (fun c => ?_)
    · replace c : ¬ v3 = 33 := c
      rw [if_pos c] at k
      refine x_bipush d172_73 rfl ?_
      refine y_invI (as := [.inl 13]) (t := []) (o := 137) gY_160 d172_75 gY_172.2.2.2 gM_12_230 rfl (sh_137 hW) rfl k (fun v5 I6 k => ?_)
      refine x_if1 (pc2 := 40) d172_78 rfl (fun c => ?_) (fun c => ?_)
      · replace c : ¬ v5 = 0 := c
        rw [if_pos c] at k
        exact k
      · replace c : ¬ (¬ v5 = 0) := c
        rw [if_neg c] at k
        refine x_iconst d172_81 rfl ?_
        exact x_zret d172_82 gR_172 (by decide) ⟨_, _, rfl, rfl, k⟩
    · replace c : ¬ (¬ v3 = 33) := c
      rw [if_neg c] at k
      refine x_bipush d172_68 rfl ?_
      refine x_goto (pc2 := 75) d172_70 rfl ?_
      refine y_invI (as := [.inl 10]) (t := []) (o := 137) gY_160 d172_75 gY_172.2.2.2 gM_12_230 rfl (sh_137 hW) rfl k (fun v7 I8 k => ?_)
      refine x_if1 (pc2 := 40) d172_78 rfl (fun c => ?_) (fun c => ?_)
      · replace c : ¬ v7 = 0 := c
        rw [if_pos c] at k
        exact k
      · replace c : ¬ (¬ v7 = 0) := c
        rw [if_neg c] at k
        refine x_iconst d172_81 rfl ?_
        exact x_zret d172_82 gR_172 (by decide) ⟨_, _, rfl, rfl, k⟩
  · replace c : ¬ (v1 = 33) := c
    rw [if_neg c] at k
    refine x_aload_n d172_49 rfl ?_
    refine y_invI (as := []) (t := []) (o := 137) gY_154 d172_50 gY_172.2.2.2 gM_12_195 rfl (sh_137 hW) rfl k (fun v9 I10 k => ?_)
    refine x_bipush d172_53 rfl ?_
    refine x_if2 (pc2 := 83) d172_55 rfl (fun c => ?_) (fun c => ?_)
    · replace c : ¬ v9 = 40 := c
      rw [if_pos c] at k
      refine x_aload_n d172_83 rfl ?_
      refine y_invI (as := []) (t := []) (o := 137) gY_171 d172_84 gY_172.2.2.2 gM_12_259 rfl (sh_137 hW) rfl k (fun v11 I12 k => ?_)
      refine x_if1 (pc2 := 92) d172_87 rfl (fun c => ?_) (fun c => ?_)
      · replace c : ¬ v11 = 0 := c
        rw [if_pos c] at k
        exact k
      · replace c : ¬ (¬ v11 = 0) := c
        rw [if_neg c] at k
        refine x_iconst d172_90 rfl ?_
        exact x_zret d172_91 gR_172 (by decide) ⟨_, _, rfl, rfl, k⟩
    · replace c : ¬ (¬ v9 = 40) := c
      rw [if_neg c] at k
      refine x_aload_n d172_58 rfl ?_
      refine x_aload_n d172_59 rfl ?_
      refine y_invI (as := []) (t := [.inr 137]) (o := 137) gY_154 d172_60 gY_172.2.2.2 gM_12_195 rfl (sh_137 hW) rfl k (fun v13 I14 k => ?_)
      refine x_bipush d172_63 rfl ?_
      refine x_if2 (pc2 := 73) d172_65 rfl (fun c => ?_) (fun c => ?_)
      · replace c : ¬ v13 = 33 := c
        rw [if_pos c] at k
        refine x_bipush d172_73 rfl ?_
        refine y_invI (as := [.inl 13]) (t := []) (o := 137) gY_160 d172_75 gY_172.2.2.2 gM_12_230 rfl (sh_137 hW) rfl k (fun v15 I16 k => ?_)
        refine x_if1 (pc2 := 40) d172_78 rfl (fun c => ?_) (fun c => ?_)
        · replace c : ¬ v15 = 0 := c
          rw [if_pos c] at k
          exact k
        · replace c : ¬ (¬ v15 = 0) := c
          rw [if_neg c] at k
          refine x_iconst d172_81 rfl ?_
          exact x_zret d172_82 gR_172 (by decide) ⟨_, _, rfl, rfl, k⟩
      · replace c : ¬ (¬ v13 = 33) := c
        rw [if_neg c] at k
        refine x_bipush d172_68 rfl ?_
        refine x_goto (pc2 := 75) d172_70 rfl ?_
        refine y_invI (as := [.inl 10]) (t := []) (o := 137) gY_160 d172_75 gY_172.2.2.2 gM_12_230 rfl (sh_137 hW) rfl k (fun v17 I18 k => ?_)
        refine x_if1 (pc2 := 40) d172_78 rfl (fun c => ?_) (fun c => ?_)
        · replace c : ¬ v17 = 0 := c
          rw [if_pos c] at k
          exact k
        · replace c : ¬ (¬ v17 = 0) := c
          rw [if_neg c] at k
          refine x_iconst d172_81 rfl ?_
          exact x_zret d172_82 gR_172 (by decide) ⟨_, _, rfl, rfl, k⟩
set_option maxHeartbeats 4000000 in
theorem b_M_readsCondition_92 {d n : Nat} {sh : ZS} {R : ZR} {I : ZI} {Q : Int → ZI → Prop} (hW : Wf sh R) 
    (k : XI (d + 5) 154 [.inr 137] n sh R I (fun v1 I2 => (if ¬ v1 = 41 then XI (d + 5) 154 [.inr 137] n sh R I2 (fun v3 I4 => (if v3 = 38 then XI (d + 5) 154 [.inr 137] n sh R I4 (fun v5 I6 => (if ¬ v5 = 124 then XV (d + 5) 169 [.inr 137, .inl 0] n sh R I6 (fun I8 => XI (d + 5) 154 [.inr 137] n sh R I8 (fun v9 I10 => (if ¬ v9 = 38 then XV (d + 5) 170 [.inr 137, .inl 12] n sh R I10 (fun I12 => XIs (d + 6) 172 40 [some (.inr 137)] [] n sh R I12 Q) else XV (d + 5) 170 [.inr 137, .inl 11] n sh R I10 (fun I14 => XIs (d + 6) 172 40 [some (.inr 137)] [] n sh R I14 Q)))) else XV (d + 5) 169 [.inr 137, .inl 1] n sh R I6 (fun I16 => XI (d + 5) 154 [.inr 137] n sh R I16 (fun v17 I18 => (if ¬ v17 = 38 then XV (d + 5) 170 [.inr 137, .inl 12] n sh R I18 (fun I20 => XIs (d + 6) 172 40 [some (.inr 137)] [] n sh R I20 Q) else XV (d + 5) 170 [.inr 137, .inl 11] n sh R I18 (fun I22 => XIs (d + 6) 172 40 [some (.inr 137)] [] n sh R I22 Q)))))) else XI (d + 5) 154 [.inr 137] n sh R I4 (fun v23 I24 => (if v23 = 124 then XI (d + 5) 154 [.inr 137] n sh R I24 (fun v25 I26 => (if ¬ v25 = 124 then XV (d + 5) 169 [.inr 137, .inl 0] n sh R I26 (fun I28 => XI (d + 5) 154 [.inr 137] n sh R I28 (fun v29 I30 => (if ¬ v29 = 38 then XV (d + 5) 170 [.inr 137, .inl 12] n sh R I30 (fun I32 => XIs (d + 6) 172 40 [some (.inr 137)] [] n sh R I32 Q) else XV (d + 5) 170 [.inr 137, .inl 11] n sh R I30 (fun I34 => XIs (d + 6) 172 40 [some (.inr 137)] [] n sh R I34 Q)))) else XV (d + 5) 169 [.inr 137, .inl 1] n sh R I26 (fun I36 => XI (d + 5) 154 [.inr 137] n sh R I36 (fun v37 I38 => (if ¬ v37 = 38 then XV (d + 5) 170 [.inr 137, .inl 12] n sh R I38 (fun I40 => XIs (d + 6) 172 40 [some (.inr 137)] [] n sh R I40 Q) else XV (d + 5) 170 [.inr 137, .inl 11] n sh R I38 (fun I42 => XIs (d + 6) 172 40 [some (.inr 137)] [] n sh R I42 Q)))))) else (zr ((-1000) * 1)) ∧ (zr (((-1000) * 1) - I24 137 14)) ∧ Q 0 (zup I24 137 16 (((-1000) * 1) - I24 137 14)))))) else XV (d + 5) 169 [.inr 137, .inl 1] n sh R I2 (fun I46 => (zr (I46 137 19 - 1)) ∧ (zr (I46 137 17 - 1)) ∧ (zr (I46 137 14 + 1)) ∧ (if ¬ (I46 137 19 - 1) = 0 then XV (d + 5) 168 [.inr 137] n sh R (zup (zup (zup I46 137 19 (I46 137 19 - 1)) 137 17 (I46 137 17 - 1)) 137 14 (I46 137 14 + 1)) (fun I51 => XIs (d + 6) 172 92 [some (.inr 137)] [] n sh R I51 Q) else Q 1 (zup (zup (zup I46 137 19 (I46 137 19 - 1)) 137 17 (I46 137 17 - 1)) 137 14 (I46 137 14 + 1))))))) : XIs (d + 6) 172 92 [some (.inr 137)] [] n sh R I Q := by
  unfold XIs
  refine x_aload_n d172_92 rfl ?_
  refine y_invI (as := []) (t := []) (o := 137) gY_154 d172_93 gY_172.2.2.2 gM_12_195 rfl (sh_137 hW) rfl k (fun v1 I2 k => ?_)
  refine x_bipush d172_96 rfl ?_
  refine x_if2 (pc2 := 152) d172_98 rfl (fun c => ?_) (fun c => ?_)
  · replace c : ¬ v1 = 41 := c
    rw [if_pos c] at k
    refine x_aload_n d172_152 rfl ?_
    refine y_invI (as := []) (t := []) (o := 137) gY_154 d172_153 gY_172.2.2.2 gM_12_195 rfl (sh_137 hW) rfl k (fun v3 I4 k => ?_)
    refine x_bipush d172_156 rfl ?_
    refine x_if2 (pc2 := 180) d172_158 rfl (fun c => ?_) (fun c => ?_)
    · replace c : v3 = 38 := c
      rw [if_pos c] at k
      refine x_aload_n d172_180 rfl ?_
      refine x_aload_n d172_181 rfl ?_
      refine y_invI (as := []) (t := [.inr 137]) (o := 137) gY_154 d172_182 gY_172.2.2.2 gM_12_195 rfl (sh_137 hW) rfl k (fun v5 I6 k => ?_)
      refine x_bipush d172_185 rfl ?_
      refine x_if2 (pc2 := 194) d172_187 rfl (fun c => ?_) (fun c => ?_)
      · replace c : ¬ v5 = 124 := c
        rw [if_pos c] at k
        refine x_iconst d172_194 rfl ?_
        refine y_invV (as := [.inl 0]) (t := []) (o := 137) gY_169 d172_195 gY_172.2.2.2 gM_12_262 rfl (sh_137 hW) rfl k (fun I8 k => ?_)
        refine x_aload_n d172_198 rfl ?_
        refine x_aload_n d172_199 rfl ?_
        refine y_invI (as := []) (t := [.inr 137]) (o := 137) gY_154 d172_200 gY_172.2.2.2 gM_12_195 rfl (sh_137 hW) rfl k (fun v9 I10 k => ?_)
        refine x_bipush d172_203 rfl ?_
        refine x_if2 (pc2 := 213) d172_205 rfl (fun c => ?_) (fun c => ?_)
        · replace c : ¬ v9 = 38 := c
          rw [if_pos c] at k
          refine x_bipush d172_213 rfl ?_
          refine y_invV (as := [.inl 12]) (t := []) (o := 137) gY_170 d172_215 gY_172.2.2.2 gM_12_265 rfl (sh_137 hW) rfl k (fun I12 k => ?_)
          refine x_goto (pc2 := 40) d172_218 rfl ?_
          exact k
        · replace c : ¬ (¬ v9 = 38) := c
          rw [if_neg c] at k
          refine x_bipush d172_208 rfl ?_
          refine x_goto (pc2 := 215) d172_210 rfl ?_
          refine y_invV (as := [.inl 11]) (t := []) (o := 137) gY_170 d172_215 gY_172.2.2.2 gM_12_265 rfl (sh_137 hW) rfl k (fun I14 k => ?_)
          refine x_goto (pc2 := 40) d172_218 rfl ?_
          exact k
      · replace c : ¬ (¬ v5 = 124) := c
        rw [if_neg c] at k
        refine x_iconst d172_190 rfl ?_
        refine x_goto (pc2 := 195) d172_191 rfl ?_
        refine y_invV (as := [.inl 1]) (t := []) (o := 137) gY_169 d172_195 gY_172.2.2.2 gM_12_262 rfl (sh_137 hW) rfl k (fun I16 k => ?_)
        refine x_aload_n d172_198 rfl ?_
        refine x_aload_n d172_199 rfl ?_
        refine y_invI (as := []) (t := [.inr 137]) (o := 137) gY_154 d172_200 gY_172.2.2.2 gM_12_195 rfl (sh_137 hW) rfl k (fun v17 I18 k => ?_)
        refine x_bipush d172_203 rfl ?_
        refine x_if2 (pc2 := 213) d172_205 rfl (fun c => ?_) (fun c => ?_)
        · replace c : ¬ v17 = 38 := c
          rw [if_pos c] at k
          refine x_bipush d172_213 rfl ?_
          refine y_invV (as := [.inl 12]) (t := []) (o := 137) gY_170 d172_215 gY_172.2.2.2 gM_12_265 rfl (sh_137 hW) rfl k (fun I20 k => ?_)
          refine x_goto (pc2 := 40) d172_218 rfl ?_
          exact k
        · replace c : ¬ (¬ v17 = 38) := c
          rw [if_neg c] at k
          refine x_bipush d172_208 rfl ?_
          refine x_goto (pc2 := 215) d172_210 rfl ?_
          refine y_invV (as := [.inl 11]) (t := []) (o := 137) gY_170 d172_215 gY_172.2.2.2 gM_12_265 rfl (sh_137 hW) rfl k (fun I22 k => ?_)
          refine x_goto (pc2 := 40) d172_218 rfl ?_
          exact k
    · replace c : ¬ (v3 = 38) := c
      rw [if_neg c] at k
      refine x_aload_n d172_161 rfl ?_
      refine y_invI (as := []) (t := []) (o := 137) gY_154 d172_162 gY_172.2.2.2 gM_12_195 rfl (sh_137 hW) rfl k (fun v23 I24 k => ?_)
      refine x_bipush d172_165 rfl ?_
      refine x_if2 (pc2 := 180) d172_167 rfl (fun c => ?_) (fun c => ?_)
      · replace c : v23 = 124 := c
        rw [if_pos c] at k
        refine x_aload_n d172_180 rfl ?_
        refine x_aload_n d172_181 rfl ?_
        refine y_invI (as := []) (t := [.inr 137]) (o := 137) gY_154 d172_182 gY_172.2.2.2 gM_12_195 rfl (sh_137 hW) rfl k (fun v25 I26 k => ?_)
        refine x_bipush d172_185 rfl ?_
        refine x_if2 (pc2 := 194) d172_187 rfl (fun c => ?_) (fun c => ?_)
        · replace c : ¬ v25 = 124 := c
          rw [if_pos c] at k
          refine x_iconst d172_194 rfl ?_
          refine y_invV (as := [.inl 0]) (t := []) (o := 137) gY_169 d172_195 gY_172.2.2.2 gM_12_262 rfl (sh_137 hW) rfl k (fun I28 k => ?_)
          refine x_aload_n d172_198 rfl ?_
          refine x_aload_n d172_199 rfl ?_
          refine y_invI (as := []) (t := [.inr 137]) (o := 137) gY_154 d172_200 gY_172.2.2.2 gM_12_195 rfl (sh_137 hW) rfl k (fun v29 I30 k => ?_)
          refine x_bipush d172_203 rfl ?_
          refine x_if2 (pc2 := 213) d172_205 rfl (fun c => ?_) (fun c => ?_)
          · replace c : ¬ v29 = 38 := c
            rw [if_pos c] at k
            refine x_bipush d172_213 rfl ?_
            refine y_invV (as := [.inl 12]) (t := []) (o := 137) gY_170 d172_215 gY_172.2.2.2 gM_12_265 rfl (sh_137 hW) rfl k (fun I32 k => ?_)
            refine x_goto (pc2 := 40) d172_218 rfl ?_
            exact k
          · replace c : ¬ (¬ v29 = 38) := c
            rw [if_neg c] at k
            refine x_bipush d172_208 rfl ?_
            refine x_goto (pc2 := 215) d172_210 rfl ?_
            refine y_invV (as := [.inl 11]) (t := []) (o := 137) gY_170 d172_215 gY_172.2.2.2 gM_12_265 rfl (sh_137 hW) rfl k (fun I34 k => ?_)
            refine x_goto (pc2 := 40) d172_218 rfl ?_
            exact k
        · replace c : ¬ (¬ v25 = 124) := c
          rw [if_neg c] at k
          refine x_iconst d172_190 rfl ?_
          refine x_goto (pc2 := 195) d172_191 rfl ?_
          refine y_invV (as := [.inl 1]) (t := []) (o := 137) gY_169 d172_195 gY_172.2.2.2 gM_12_262 rfl (sh_137 hW) rfl k (fun I36 k => ?_)
          refine x_aload_n d172_198 rfl ?_
          refine x_aload_n d172_199 rfl ?_
          refine y_invI (as := []) (t := [.inr 137]) (o := 137) gY_154 d172_200 gY_172.2.2.2 gM_12_195 rfl (sh_137 hW) rfl k (fun v37 I38 k => ?_)
          refine x_bipush d172_203 rfl ?_
          refine x_if2 (pc2 := 213) d172_205 rfl (fun c => ?_) (fun c => ?_)
          · replace c : ¬ v37 = 38 := c
            rw [if_pos c] at k
            refine x_bipush d172_213 rfl ?_
            refine y_invV (as := [.inl 12]) (t := []) (o := 137) gY_170 d172_215 gY_172.2.2.2 gM_12_265 rfl (sh_137 hW) rfl k (fun I40 k => ?_)
            refine x_goto (pc2 := 40) d172_218 rfl ?_
            exact k
          · replace c : ¬ (¬ v37 = 38) := c
            rw [if_neg c] at k
            refine x_bipush d172_208 rfl ?_
            refine x_goto (pc2 := 215) d172_210 rfl ?_
            refine y_invV (as := [.inl 11]) (t := []) (o := 137) gY_170 d172_215 gY_172.2.2.2 gM_12_265 rfl (sh_137 hW) rfl k (fun I42 k => ?_)
            refine x_goto (pc2 := 40) d172_218 rfl ?_
            exact k
      · replace c : ¬ (v23 = 124) := c
        rw [if_neg c] at k
        refine x_aload_n d172_170 rfl ?_
        refine x_iconst d172_171 rfl ?_
        refine x_aload_n d172_172 rfl ?_
        refine x_getI d172_173 gY_172.2.2.2 gF_12_189 rfl (sh_137 hW) ?_
        refine y_inv (as := [.inl 1, .inl (I24 137 14)]) (t := []) (o := 137) (ls2 := [some (.inr 137), some (.inl 1), some (.inl (I24 137 14))]) gY_156 d172_176 gY_172.2.2.2 gM_12_202 rfl (sh_137 hW) rfl rfl ?_
        refine x_aload_n d156_0 rfl ?_
        refine x_sipush d156_1 rfl ?_
        refine x_iload_n d156_4 rfl ?_
        have e43 := k.1
        replace k := k.2
        refine x_imul d156_5 e43 ?_
        refine x_iload_n d156_6 rfl ?_
        have e44 := k.1
        replace k := k.2
        refine x_isub d156_7 e44 ?_
        refine x_putI d156_8 gY_156.2.2.2 gF_12_199 rfl rfl (sh_137 hW) ?_
        refine x_iconst d156_11 rfl ?_
        refine x_zret d156_12 gR_156 (by decide) ?_
        show Ex (d + 6) 172 179 [some (.inr 137)] [.inl 0] (0, 0, n, sh, R, (zup I24 137 16 (((-1000) * 1) - I24 137 14))) _
        exact x_zret d172_179 gR_172 (by decide) ⟨_, _, rfl, rfl, k⟩
  · replace c : ¬ (¬ v1 = 41) := c
    rw [if_neg c] at k
    refine x_aload_n d172_101 rfl ?_
    refine x_iconst d172_102 rfl ?_
    refine y_invV (as := [.inl 1]) (t := []) (o := 137) gY_169 d172_103 gY_172.2.2.2 gM_12_262 rfl (sh_137 hW) rfl k (fun I46 k => ?_)
    refine x_aload_n d172_106 rfl ?_
    refine x_aload_n d172_107 rfl ?_
    refine x_getI d172_108 gY_172.2.2.2 gF_12_220 rfl (sh_137 hW) ?_
    refine x_iconst d172_111 rfl ?_
    have e47 := k.1
    replace k := k.2
    refine x_isub d172_112 e47 ?_
    refine x_putI d172_113 gY_172.2.2.2 gF_12_220 rfl rfl (sh_137 hW) ?_
    refine x_aload_n d172_116 rfl ?_
    refine x_aload_n d172_117 rfl ?_
    refine x_getI d172_118 gY_172.2.2.2 gF_12_217 rfl (sh_137 hW) ?_
    refine x_iconst d172_121 rfl ?_
    have e48 := k.1
    replace k := k.2
    refine x_isub d172_122 e48 ?_
    refine x_putI d172_123 gY_172.2.2.2 gF_12_217 rfl rfl (sh_137 hW) ?_
    refine x_aload_n d172_126 rfl ?_
    refine x_aload_n d172_127 rfl ?_
    refine x_getI d172_128 gY_172.2.2.2 gF_12_189 rfl (sh_137 hW) ?_
    refine x_iconst d172_131 rfl ?_
    have e49 := k.1
    replace k := k.2
    refine x_iadd d172_132 e49 ?_
    refine x_putI d172_133 gY_172.2.2.2 gF_12_189 rfl rfl (sh_137 hW) ?_
    refine x_aload_n d172_136 rfl ?_
    refine x_getI d172_137 gY_172.2.2.2 gF_12_220 rfl (sh_137 hW) ?_
    refine x_if1 (pc2 := 145) d172_140 rfl (fun c => ?_) (fun c => ?_)
    · replace c : ¬ (I46 137 19 - 1) = 0 := c
      rw [if_pos c] at k
      refine x_aload_n d172_145 rfl ?_
      refine y_invV (as := []) (t := []) (o := 137) gY_168 d172_146 gY_172.2.2.2 gM_12_256 rfl (sh_137 hW) rfl k (fun I51 k => ?_)
      refine x_goto (pc2 := 92) d172_149 rfl ?_
      exact k
    · replace c : ¬ (¬ (I46 137 19 - 1) = 0) := c
      rw [if_neg c] at k
      refine x_iconst d172_143 rfl ?_
      exact x_zret d172_144 gR_172 (by decide) ⟨_, _, rfl, rfl, k⟩
set_option maxHeartbeats 4000000 in
theorem b_M_readsClause_0 {d n : Nat} {sh : ZS} {R : ZR} {I : ZI} {Q : Int → ZI → Prop} (hW : Wf sh R) 
    (k : XI (d + 6) 154 [.inr 137] n sh R I (fun v1 I2 => (if v1 = 104 then (if ¬ I2 137 20 = 14 then (0 ≤ I2 137 20 ∧ I2 137 20 < 14) ∧ (zr (I2 137 14 + 1)) ∧ (if v1 = 122 then XI (d + 6) 172 [.inr 137] n sh R (zup (zup (zup (zup (zup (zup I2 147 (I2 137 20).toNat v1) 137 14 (I2 137 14 + 1)) 148 (I2 137 20).toNat (I2 137 18)) 137 17 0) 137 19 0) 149 (I2 137 20).toNat (I2 137 18)) (fun v5 I6 => (if ¬ v5 = 0 then (0 ≤ I6 137 20 ∧ I6 137 20 < 14) ∧ (zr (I6 137 20 + 1)) ∧ Q 1 (zup (zup I6 150 (I6 137 20).toNat (I6 137 18)) 137 20 (I6 137 20 + 1)) else Q 0 I6)) else XI (d + 6) 167 [.inr 137] n sh R (zup (zup (zup (zup (zup I2 147 (I2 137 20).toNat v1) 137 14 (I2 137 14 + 1)) 148 (I2 137 20).toNat (I2 137 18)) 137 17 0) 137 19 0) (fun v9 I10 => (if ¬ v9 = 0 then (0 ≤ I10 137 20 ∧ I10 137 20 < 14) ∧ XI (d + 6) 172 [.inr 137] n sh R (zup I10 149 (I10 137 20).toNat (I10 137 18)) (fun v12 I13 => (if ¬ v12 = 0 then (0 ≤ I13 137 20 ∧ I13 137 20 < 14) ∧ (zr (I13 137 20 + 1)) ∧ Q 1 (zup (zup I13 150 (I13 137 20).toNat (I13 137 18)) 137 20 (I13 137 20 + 1)) else Q 0 I13)) else Q 0 I10))) else (zr ((-1000) * 4)) ∧ (zr (((-1000) * 4) - I2 137 14)) ∧ Q 0 (zup I2 137 16 (((-1000) * 4) - I2 137 14))) else (if v1 = 116 then (if ¬ I2 137 20 = 14 then (0 ≤ I2 137 20 ∧ I2 137 20 < 14) ∧ (zr (I2 137 14 + 1)) ∧ (if v1 = 122 then XI (d + 6) 172 [.inr 137] n sh R (zup (zup (zup (zup (zup (zup I2 147 (I2 137 20).toNat v1) 137 14 (I2 137 14 + 1)) 148 (I2 137 20).toNat (I2 137 18)) 137 17 0) 137 19 0) 149 (I2 137 20).toNat (I2 137 18)) (fun v20 I21 => (if ¬ v20 = 0 then (0 ≤ I21 137 20 ∧ I21 137 20 < 14) ∧ (zr (I21 137 20 + 1)) ∧ Q 1 (zup (zup I21 150 (I21 137 20).toNat (I21 137 18)) 137 20 (I21 137 20 + 1)) else Q 0 I21)) else XI (d + 6) 167 [.inr 137] n sh R (zup (zup (zup (zup (zup I2 147 (I2 137 20).toNat v1) 137 14 (I2 137 14 + 1)) 148 (I2 137 20).toNat (I2 137 18)) 137 17 0) 137 19 0) (fun v24 I25 => (if ¬ v24 = 0 then (0 ≤ I25 137 20 ∧ I25 137 20 < 14) ∧ XI (d + 6) 172 [.inr 137] n sh R (zup I25 149 (I25 137 20).toNat (I25 137 18)) (fun v27 I28 => (if ¬ v27 = 0 then (0 ≤ I28 137 20 ∧ I28 137 20 < 14) ∧ (zr (I28 137 20 + 1)) ∧ Q 1 (zup (zup I28 150 (I28 137 20).toNat (I28 137 18)) 137 20 (I28 137 20 + 1)) else Q 0 I28)) else Q 0 I25))) else (zr ((-1000) * 4)) ∧ (zr (((-1000) * 4) - I2 137 14)) ∧ Q 0 (zup I2 137 16 (((-1000) * 4) - I2 137 14))) else (if v1 = 122 then (if ¬ I2 137 20 = 14 then (0 ≤ I2 137 20 ∧ I2 137 20 < 14) ∧ (zr (I2 137 14 + 1)) ∧ (if v1 = 122 then XI (d + 6) 172 [.inr 137] n sh R (zup (zup (zup (zup (zup (zup I2 147 (I2 137 20).toNat v1) 137 14 (I2 137 14 + 1)) 148 (I2 137 20).toNat (I2 137 18)) 137 17 0) 137 19 0) 149 (I2 137 20).toNat (I2 137 18)) (fun v35 I36 => (if ¬ v35 = 0 then (0 ≤ I36 137 20 ∧ I36 137 20 < 14) ∧ (zr (I36 137 20 + 1)) ∧ Q 1 (zup (zup I36 150 (I36 137 20).toNat (I36 137 18)) 137 20 (I36 137 20 + 1)) else Q 0 I36)) else XI (d + 6) 167 [.inr 137] n sh R (zup (zup (zup (zup (zup I2 147 (I2 137 20).toNat v1) 137 14 (I2 137 14 + 1)) 148 (I2 137 20).toNat (I2 137 18)) 137 17 0) 137 19 0) (fun v39 I40 => (if ¬ v39 = 0 then (0 ≤ I40 137 20 ∧ I40 137 20 < 14) ∧ XI (d + 6) 172 [.inr 137] n sh R (zup I40 149 (I40 137 20).toNat (I40 137 18)) (fun v42 I43 => (if ¬ v42 = 0 then (0 ≤ I43 137 20 ∧ I43 137 20 < 14) ∧ (zr (I43 137 20 + 1)) ∧ Q 1 (zup (zup I43 150 (I43 137 20).toNat (I43 137 18)) 137 20 (I43 137 20 + 1)) else Q 0 I43)) else Q 0 I40))) else (zr ((-1000) * 4)) ∧ (zr (((-1000) * 4) - I2 137 14)) ∧ Q 0 (zup I2 137 16 (((-1000) * 4) - I2 137 14))) else (zr ((-1000) * 1)) ∧ (zr (((-1000) * 1) - I2 137 14)) ∧ Q 0 (zup I2 137 16 (((-1000) * 1) - I2 137 14))))))) : XI (d + 7) 173 [.inr 137] n sh R I Q := by
  refine XI.of (ls := [some (.inr 137), none]) (zloc_eq gY_173.2.2.1) ?_
  unfold XIs
  refine x_aload_n d173_0 rfl ?_
  refine y_invI (as := []) (t := []) (o := 137) gY_154 d173_1 gY_173.2.2.2 gM_12_195 rfl (sh_137 hW) rfl k (fun v1 I2 k => ?_)
  refine x_istore_n (ls2 := [some (.inr 137), some (.inl v1)]) d173_4 rfl rfl ?_
  refine x_iload_n d173_5 rfl ?_
  refine x_bipush d173_6 rfl ?_
  refine x_if2 (pc2 := 33) d173_8 rfl (fun c => ?_) (fun c => ?_)
  · replace c : v1 = 104 := c
    rw [if_pos c] at k
    refine x_aload_n d173_33 rfl ?_
    refine x_getI d173_34 gY_173.2.2.2 gF_12_268 rfl (sh_137 hW) ?_
    refine x_bipush d173_37 rfl ?_
    refine x_if2 (pc2 := 52) d173_39 rfl (fun c => ?_) (fun c => ?_)
    · replace c : ¬ I2 137 20 = 14 := c
      rw [if_pos c] at k
      refine x_aload_n d173_52 rfl ?_
      refine x_getR (r := 147) d173_53 gY_173.2.2.2 gF_12_38 rfl (sh_137 hW) (rf_137_25 hW) (by decide) ?_
      refine x_aload_n d173_56 rfl ?_
      refine x_getI d173_57 gY_173.2.2.2 gF_12_268 rfl (sh_137 hW) ?_
      refine x_iload_n d173_60 rfl ?_
      have e3 := k.1
      replace k := k.2
      refine x_iast d173_61 (sh_147 hW) e3.1 e3.2 ?_
      refine x_aload_n d173_62 rfl ?_
      refine x_aload_n d173_63 rfl ?_
      refine x_getI d173_64 gY_173.2.2.2 gF_12_189 rfl (sh_137 hW) ?_
      refine x_iconst d173_67 rfl ?_
      have e4 := k.1
      replace k := k.2
      refine x_iadd d173_68 e4 ?_
      refine x_putI d173_69 gY_173.2.2.2 gF_12_189 rfl rfl (sh_137 hW) ?_
      refine x_aload_n d173_72 rfl ?_
      refine x_getR (r := 148) d173_73 gY_173.2.2.2 gF_12_41 rfl (sh_137 hW) (rf_137_26 hW) (by decide) ?_
      refine x_aload_n d173_76 rfl ?_
      refine x_getI d173_77 gY_173.2.2.2 gF_12_268 rfl (sh_137 hW) ?_
      refine x_aload_n d173_80 rfl ?_
      refine x_getI d173_81 gY_173.2.2.2 gF_12_213 rfl (sh_137 hW) ?_
      refine x_iast d173_84 (sh_148 hW) e3.1 e3.2 ?_
      refine x_aload_n d173_85 rfl ?_
      refine x_iconst d173_86 rfl ?_
      refine x_putI d173_87 gY_173.2.2.2 gF_12_217 rfl rfl (sh_137 hW) ?_
      refine x_aload_n d173_90 rfl ?_
      refine x_iconst d173_91 rfl ?_
      refine x_putI d173_92 gY_173.2.2.2 gF_12_220 rfl rfl (sh_137 hW) ?_
      refine x_iload_n d173_95 rfl ?_
      refine x_bipush d173_96 rfl ?_
      refine x_if2 (pc2 := 110) d173_98 rfl (fun c => ?_) (fun c => ?_)
      · replace c : v1 = 122 := c
        rw [if_pos c] at k
        refine x_aload_n d173_110 rfl ?_
        refine x_getR (r := 149) d173_111 gY_173.2.2.2 gF_12_44 rfl (sh_137 hW) (rf_137_27 hW) (by decide) ?_
        refine x_aload_n d173_114 rfl ?_
        refine x_getI d173_115 gY_173.2.2.2 gF_12_268 rfl (sh_137 hW) ?_
        refine x_aload_n d173_118 rfl ?_
        refine x_getI d173_119 gY_173.2.2.2 gF_12_213 rfl (sh_137 hW) ?_
        refine x_iast d173_122 (sh_149 hW) e3.1 e3.2 ?_
        refine x_aload_n d173_123 rfl ?_
        refine y_invI (as := []) (t := []) (o := 137) gY_172 d173_124 gY_173.2.2.2 gM_12_271 rfl (sh_137 hW) rfl k (fun v5 I6 k => ?_)
        refine x_if1 (pc2 := 132) d173_127 rfl (fun c => ?_) (fun c => ?_)
        · replace c : ¬ v5 = 0 := c
          rw [if_pos c] at k
          refine x_aload_n d173_132 rfl ?_
          refine x_getR (r := 150) d173_133 gY_173.2.2.2 gF_12_47 rfl (sh_137 hW) (rf_137_28 hW) (by decide) ?_
          refine x_aload_n d173_136 rfl ?_
          refine x_getI d173_137 gY_173.2.2.2 gF_12_268 rfl (sh_137 hW) ?_
          refine x_aload_n d173_140 rfl ?_
          refine x_getI d173_141 gY_173.2.2.2 gF_12_213 rfl (sh_137 hW) ?_
          have e7 := k.1
          replace k := k.2
          refine x_iast d173_144 (sh_150 hW) e7.1 e7.2 ?_
          refine x_aload_n d173_145 rfl ?_
          refine x_aload_n d173_146 rfl ?_
          refine x_getI d173_147 gY_173.2.2.2 gF_12_268 rfl (sh_137 hW) ?_
          refine x_iconst d173_150 rfl ?_
          have e8 := k.1
          replace k := k.2
          refine x_iadd d173_151 e8 ?_
          refine x_putI d173_152 gY_173.2.2.2 gF_12_268 rfl rfl (sh_137 hW) ?_
          refine x_iconst d173_155 rfl ?_
          exact x_zret d173_156 gR_173 (by decide) ⟨_, _, rfl, rfl, k⟩
        · replace c : ¬ (¬ v5 = 0) := c
          rw [if_neg c] at k
          refine x_iconst d173_130 rfl ?_
          exact x_zret d173_131 gR_173 (by decide) ⟨_, _, rfl, rfl, k⟩
      · replace c : ¬ (v1 = 122) := c
        rw [if_neg c] at k
        refine x_aload_n d173_101 rfl ?_
        refine y_invI (as := []) (t := []) (o := 137) gY_167 d173_102 gY_173.2.2.2 gM_12_253 rfl (sh_137 hW) rfl k (fun v9 I10 k => ?_)
        refine x_if1 (pc2 := 110) d173_105 rfl (fun c => ?_) (fun c => ?_)
        · replace c : ¬ v9 = 0 := c
          rw [if_pos c] at k
          refine x_aload_n d173_110 rfl ?_
          refine x_getR (r := 149) d173_111 gY_173.2.2.2 gF_12_44 rfl (sh_137 hW) (rf_137_27 hW) (by decide) ?_
          refine x_aload_n d173_114 rfl ?_
          refine x_getI d173_115 gY_173.2.2.2 gF_12_268 rfl (sh_137 hW) ?_
          refine x_aload_n d173_118 rfl ?_
          refine x_getI d173_119 gY_173.2.2.2 gF_12_213 rfl (sh_137 hW) ?_
          have e11 := k.1
          replace k := k.2
          refine x_iast d173_122 (sh_149 hW) e11.1 e11.2 ?_
          refine x_aload_n d173_123 rfl ?_
          refine y_invI (as := []) (t := []) (o := 137) gY_172 d173_124 gY_173.2.2.2 gM_12_271 rfl (sh_137 hW) rfl k (fun v12 I13 k => ?_)
          refine x_if1 (pc2 := 132) d173_127 rfl (fun c => ?_) (fun c => ?_)
          · replace c : ¬ v12 = 0 := c
            rw [if_pos c] at k
            refine x_aload_n d173_132 rfl ?_
            refine x_getR (r := 150) d173_133 gY_173.2.2.2 gF_12_47 rfl (sh_137 hW) (rf_137_28 hW) (by decide) ?_
            refine x_aload_n d173_136 rfl ?_
            refine x_getI d173_137 gY_173.2.2.2 gF_12_268 rfl (sh_137 hW) ?_
            refine x_aload_n d173_140 rfl ?_
            refine x_getI d173_141 gY_173.2.2.2 gF_12_213 rfl (sh_137 hW) ?_
            have e14 := k.1
            replace k := k.2
            refine x_iast d173_144 (sh_150 hW) e14.1 e14.2 ?_
            refine x_aload_n d173_145 rfl ?_
            refine x_aload_n d173_146 rfl ?_
            refine x_getI d173_147 gY_173.2.2.2 gF_12_268 rfl (sh_137 hW) ?_
            refine x_iconst d173_150 rfl ?_
            have e15 := k.1
            replace k := k.2
            refine x_iadd d173_151 e15 ?_
            refine x_putI d173_152 gY_173.2.2.2 gF_12_268 rfl rfl (sh_137 hW) ?_
            refine x_iconst d173_155 rfl ?_
            exact x_zret d173_156 gR_173 (by decide) ⟨_, _, rfl, rfl, k⟩
          · replace c : ¬ (¬ v12 = 0) := c
            rw [if_neg c] at k
            refine x_iconst d173_130 rfl ?_
            exact x_zret d173_131 gR_173 (by decide) ⟨_, _, rfl, rfl, k⟩
        · replace c : ¬ (¬ v9 = 0) := c
          rw [if_neg c] at k
          refine x_iconst d173_108 rfl ?_
          exact x_zret d173_109 gR_173 (by decide) ⟨_, _, rfl, rfl, k⟩
    · replace c : ¬ (¬ I2 137 20 = 14) := c
      rw [if_neg c] at k
      refine x_aload_n d173_42 rfl ?_
      refine x_iconst d173_43 rfl ?_
      refine x_aload_n d173_44 rfl ?_
      refine x_getI d173_45 gY_173.2.2.2 gF_12_189 rfl (sh_137 hW) ?_
      refine y_inv (as := [.inl 4, .inl (I2 137 14)]) (t := []) (o := 137) (ls2 := [some (.inr 137), some (.inl 4), some (.inl (I2 137 14))]) gY_156 d173_48 gY_173.2.2.2 gM_12_202 rfl (sh_137 hW) rfl rfl ?_
      refine x_aload_n d156_0 rfl ?_
      refine x_sipush d156_1 rfl ?_
      refine x_iload_n d156_4 rfl ?_
      have e16 := k.1
      replace k := k.2
      refine x_imul d156_5 e16 ?_
      refine x_iload_n d156_6 rfl ?_
      have e17 := k.1
      replace k := k.2
      refine x_isub d156_7 e17 ?_
      refine x_putI d156_8 gY_156.2.2.2 gF_12_199 rfl rfl (sh_137 hW) ?_
      refine x_iconst d156_11 rfl ?_
      refine x_zret d156_12 gR_156 (by decide) ?_
      show Ex (d + 7) 173 51 [some (.inr 137), some (.inl v1)] [.inl 0] (0, 0, n, sh, R, (zup I2 137 16 (((-1000) * 4) - I2 137 14))) _
      exact x_zret d173_51 gR_173 (by decide) ⟨_, _, rfl, rfl, k⟩
  · replace c : ¬ (v1 = 104) := c
    rw [if_neg c] at k
    refine x_iload_n d173_11 rfl ?_
    refine x_bipush d173_12 rfl ?_
    refine x_if2 (pc2 := 33) d173_14 rfl (fun c => ?_) (fun c => ?_)
    · replace c : v1 = 116 := c
      rw [if_pos c] at k
      refine x_aload_n d173_33 rfl ?_
      refine x_getI d173_34 gY_173.2.2.2 gF_12_268 rfl (sh_137 hW) ?_
      refine x_bipush d173_37 rfl ?_
      refine x_if2 (pc2 := 52) d173_39 rfl (fun c => ?_) (fun c => ?_)
      · replace c : ¬ I2 137 20 = 14 := c
        rw [if_pos c] at k
        refine x_aload_n d173_52 rfl ?_
        refine x_getR (r := 147) d173_53 gY_173.2.2.2 gF_12_38 rfl (sh_137 hW) (rf_137_25 hW) (by decide) ?_
        refine x_aload_n d173_56 rfl ?_
        refine x_getI d173_57 gY_173.2.2.2 gF_12_268 rfl (sh_137 hW) ?_
        refine x_iload_n d173_60 rfl ?_
        have e18 := k.1
        replace k := k.2
        refine x_iast d173_61 (sh_147 hW) e18.1 e18.2 ?_
        refine x_aload_n d173_62 rfl ?_
        refine x_aload_n d173_63 rfl ?_
        refine x_getI d173_64 gY_173.2.2.2 gF_12_189 rfl (sh_137 hW) ?_
        refine x_iconst d173_67 rfl ?_
        have e19 := k.1
        replace k := k.2
        refine x_iadd d173_68 e19 ?_
        refine x_putI d173_69 gY_173.2.2.2 gF_12_189 rfl rfl (sh_137 hW) ?_
        refine x_aload_n d173_72 rfl ?_
        refine x_getR (r := 148) d173_73 gY_173.2.2.2 gF_12_41 rfl (sh_137 hW) (rf_137_26 hW) (by decide) ?_
        refine x_aload_n d173_76 rfl ?_
        refine x_getI d173_77 gY_173.2.2.2 gF_12_268 rfl (sh_137 hW) ?_
        refine x_aload_n d173_80 rfl ?_
        refine x_getI d173_81 gY_173.2.2.2 gF_12_213 rfl (sh_137 hW) ?_
        refine x_iast d173_84 (sh_148 hW) e18.1 e18.2 ?_
        refine x_aload_n d173_85 rfl ?_
        refine x_iconst d173_86 rfl ?_
        refine x_putI d173_87 gY_173.2.2.2 gF_12_217 rfl rfl (sh_137 hW) ?_
        refine x_aload_n d173_90 rfl ?_
        refine x_iconst d173_91 rfl ?_
        refine x_putI d173_92 gY_173.2.2.2 gF_12_220 rfl rfl (sh_137 hW) ?_
        refine x_iload_n d173_95 rfl ?_
        refine x_bipush d173_96 rfl ?_
        refine x_if2 (pc2 := 110) d173_98 rfl (fun c => ?_) (fun c => ?_)
        · replace c : v1 = 122 := c
          rw [if_pos c] at k
          refine x_aload_n d173_110 rfl ?_
          refine x_getR (r := 149) d173_111 gY_173.2.2.2 gF_12_44 rfl (sh_137 hW) (rf_137_27 hW) (by decide) ?_
          refine x_aload_n d173_114 rfl ?_
          refine x_getI d173_115 gY_173.2.2.2 gF_12_268 rfl (sh_137 hW) ?_
          refine x_aload_n d173_118 rfl ?_
          refine x_getI d173_119 gY_173.2.2.2 gF_12_213 rfl (sh_137 hW) ?_
          refine x_iast d173_122 (sh_149 hW) e18.1 e18.2 ?_
          refine x_aload_n d173_123 rfl ?_
          refine y_invI (as := []) (t := []) (o := 137) gY_172 d173_124 gY_173.2.2.2 gM_12_271 rfl (sh_137 hW) rfl k (fun v20 I21 k => ?_)
          refine x_if1 (pc2 := 132) d173_127 rfl (fun c => ?_) (fun c => ?_)
          · replace c : ¬ v20 = 0 := c
            rw [if_pos c] at k
            refine x_aload_n d173_132 rfl ?_
            refine x_getR (r := 150) d173_133 gY_173.2.2.2 gF_12_47 rfl (sh_137 hW) (rf_137_28 hW) (by decide) ?_
            refine x_aload_n d173_136 rfl ?_
            refine x_getI d173_137 gY_173.2.2.2 gF_12_268 rfl (sh_137 hW) ?_
            refine x_aload_n d173_140 rfl ?_
            refine x_getI d173_141 gY_173.2.2.2 gF_12_213 rfl (sh_137 hW) ?_
            have e22 := k.1
            replace k := k.2
            refine x_iast d173_144 (sh_150 hW) e22.1 e22.2 ?_
            refine x_aload_n d173_145 rfl ?_
            refine x_aload_n d173_146 rfl ?_
            refine x_getI d173_147 gY_173.2.2.2 gF_12_268 rfl (sh_137 hW) ?_
            refine x_iconst d173_150 rfl ?_
            have e23 := k.1
            replace k := k.2
            refine x_iadd d173_151 e23 ?_
            refine x_putI d173_152 gY_173.2.2.2 gF_12_268 rfl rfl (sh_137 hW) ?_
            refine x_iconst d173_155 rfl ?_
            exact x_zret d173_156 gR_173 (by decide) ⟨_, _, rfl, rfl, k⟩
          · replace c : ¬ (¬ v20 = 0) := c
            rw [if_neg c] at k
            refine x_iconst d173_130 rfl ?_
            exact x_zret d173_131 gR_173 (by decide) ⟨_, _, rfl, rfl, k⟩
        · replace c : ¬ (v1 = 122) := c
          rw [if_neg c] at k
          refine x_aload_n d173_101 rfl ?_
          refine y_invI (as := []) (t := []) (o := 137) gY_167 d173_102 gY_173.2.2.2 gM_12_253 rfl (sh_137 hW) rfl k (fun v24 I25 k => ?_)
          refine x_if1 (pc2 := 110) d173_105 rfl (fun c => ?_) (fun c => ?_)
          · replace c : ¬ v24 = 0 := c
            rw [if_pos c] at k
            refine x_aload_n d173_110 rfl ?_
            refine x_getR (r := 149) d173_111 gY_173.2.2.2 gF_12_44 rfl (sh_137 hW) (rf_137_27 hW) (by decide) ?_
            refine x_aload_n d173_114 rfl ?_
            refine x_getI d173_115 gY_173.2.2.2 gF_12_268 rfl (sh_137 hW) ?_
            refine x_aload_n d173_118 rfl ?_
            refine x_getI d173_119 gY_173.2.2.2 gF_12_213 rfl (sh_137 hW) ?_
            have e26 := k.1
            replace k := k.2
            refine x_iast d173_122 (sh_149 hW) e26.1 e26.2 ?_
            refine x_aload_n d173_123 rfl ?_
            refine y_invI (as := []) (t := []) (o := 137) gY_172 d173_124 gY_173.2.2.2 gM_12_271 rfl (sh_137 hW) rfl k (fun v27 I28 k => ?_)
            refine x_if1 (pc2 := 132) d173_127 rfl (fun c => ?_) (fun c => ?_)
            · replace c : ¬ v27 = 0 := c
              rw [if_pos c] at k
              refine x_aload_n d173_132 rfl ?_
              refine x_getR (r := 150) d173_133 gY_173.2.2.2 gF_12_47 rfl (sh_137 hW) (rf_137_28 hW) (by decide) ?_
              refine x_aload_n d173_136 rfl ?_
              refine x_getI d173_137 gY_173.2.2.2 gF_12_268 rfl (sh_137 hW) ?_
              refine x_aload_n d173_140 rfl ?_
              refine x_getI d173_141 gY_173.2.2.2 gF_12_213 rfl (sh_137 hW) ?_
              have e29 := k.1
              replace k := k.2
              refine x_iast d173_144 (sh_150 hW) e29.1 e29.2 ?_
              refine x_aload_n d173_145 rfl ?_
              refine x_aload_n d173_146 rfl ?_
              refine x_getI d173_147 gY_173.2.2.2 gF_12_268 rfl (sh_137 hW) ?_
              refine x_iconst d173_150 rfl ?_
              have e30 := k.1
              replace k := k.2
              refine x_iadd d173_151 e30 ?_
              refine x_putI d173_152 gY_173.2.2.2 gF_12_268 rfl rfl (sh_137 hW) ?_
              refine x_iconst d173_155 rfl ?_
              exact x_zret d173_156 gR_173 (by decide) ⟨_, _, rfl, rfl, k⟩
            · replace c : ¬ (¬ v27 = 0) := c
              rw [if_neg c] at k
              refine x_iconst d173_130 rfl ?_
              exact x_zret d173_131 gR_173 (by decide) ⟨_, _, rfl, rfl, k⟩
          · replace c : ¬ (¬ v24 = 0) := c
            rw [if_neg c] at k
            refine x_iconst d173_108 rfl ?_
            exact x_zret d173_109 gR_173 (by decide) ⟨_, _, rfl, rfl, k⟩
      · replace c : ¬ (¬ I2 137 20 = 14) := c
        rw [if_neg c] at k
        refine x_aload_n d173_42 rfl ?_
        refine x_iconst d173_43 rfl ?_
        refine x_aload_n d173_44 rfl ?_
        refine x_getI d173_45 gY_173.2.2.2 gF_12_189 rfl (sh_137 hW) ?_
        refine y_inv (as := [.inl 4, .inl (I2 137 14)]) (t := []) (o := 137) (ls2 := [some (.inr 137), some (.inl 4), some (.inl (I2 137 14))]) gY_156 d173_48 gY_173.2.2.2 gM_12_202 rfl (sh_137 hW) rfl rfl ?_
        refine x_aload_n d156_0 rfl ?_
        refine x_sipush d156_1 rfl ?_
        refine x_iload_n d156_4 rfl ?_
        have e31 := k.1
        replace k := k.2
        refine x_imul d156_5 e31 ?_
        refine x_iload_n d156_6 rfl ?_
        have e32 := k.1
        replace k := k.2
        refine x_isub d156_7 e32 ?_
        refine x_putI d156_8 gY_156.2.2.2 gF_12_199 rfl rfl (sh_137 hW) ?_
        refine x_iconst d156_11 rfl ?_
        refine x_zret d156_12 gR_156 (by decide) ?_
        show Ex (d + 7) 173 51 [some (.inr 137), some (.inl v1)] [.inl 0] (0, 0, n, sh, R, (zup I2 137 16 (((-1000) * 4) - I2 137 14))) _
        exact x_zret d173_51 gR_173 (by decide) ⟨_, _, rfl, rfl, k⟩
    · replace c : ¬ (v1 = 116) := c
      rw [if_neg c] at k
      refine x_iload_n d173_17 rfl ?_
      refine x_bipush d173_18 rfl ?_
      refine x_if2 (pc2 := 33) d173_20 rfl (fun c => ?_) (fun c => ?_)
      · replace c : v1 = 122 := c
        rw [if_pos c] at k
        refine x_aload_n d173_33 rfl ?_
        refine x_getI d173_34 gY_173.2.2.2 gF_12_268 rfl (sh_137 hW) ?_
        refine x_bipush d173_37 rfl ?_
        refine x_if2 (pc2 := 52) d173_39 rfl (fun c => ?_) (fun c => ?_)
        · replace c : ¬ I2 137 20 = 14 := c
          rw [if_pos c] at k
          refine x_aload_n d173_52 rfl ?_
          refine x_getR (r := 147) d173_53 gY_173.2.2.2 gF_12_38 rfl (sh_137 hW) (rf_137_25 hW) (by decide) ?_
          refine x_aload_n d173_56 rfl ?_
          refine x_getI d173_57 gY_173.2.2.2 gF_12_268 rfl (sh_137 hW) ?_
          refine x_iload_n d173_60 rfl ?_
          have e33 := k.1
          replace k := k.2
          refine x_iast d173_61 (sh_147 hW) e33.1 e33.2 ?_
          refine x_aload_n d173_62 rfl ?_
          refine x_aload_n d173_63 rfl ?_
          refine x_getI d173_64 gY_173.2.2.2 gF_12_189 rfl (sh_137 hW) ?_
          refine x_iconst d173_67 rfl ?_
          have e34 := k.1
          replace k := k.2
          refine x_iadd d173_68 e34 ?_
          refine x_putI d173_69 gY_173.2.2.2 gF_12_189 rfl rfl (sh_137 hW) ?_
          refine x_aload_n d173_72 rfl ?_
          refine x_getR (r := 148) d173_73 gY_173.2.2.2 gF_12_41 rfl (sh_137 hW) (rf_137_26 hW) (by decide) ?_
          refine x_aload_n d173_76 rfl ?_
          refine x_getI d173_77 gY_173.2.2.2 gF_12_268 rfl (sh_137 hW) ?_
          refine x_aload_n d173_80 rfl ?_
          refine x_getI d173_81 gY_173.2.2.2 gF_12_213 rfl (sh_137 hW) ?_
          refine x_iast d173_84 (sh_148 hW) e33.1 e33.2 ?_
          refine x_aload_n d173_85 rfl ?_
          refine x_iconst d173_86 rfl ?_
          refine x_putI d173_87 gY_173.2.2.2 gF_12_217 rfl rfl (sh_137 hW) ?_
          refine x_aload_n d173_90 rfl ?_
          refine x_iconst d173_91 rfl ?_
          refine x_putI d173_92 gY_173.2.2.2 gF_12_220 rfl rfl (sh_137 hW) ?_
          refine x_iload_n d173_95 rfl ?_
          refine x_bipush d173_96 rfl ?_
          refine x_if2 (pc2 := 110) d173_98 rfl (fun c => ?_) (fun c => ?_)
          · replace c : v1 = 122 := c
            rw [if_pos c] at k
            refine x_aload_n d173_110 rfl ?_
            refine x_getR (r := 149) d173_111 gY_173.2.2.2 gF_12_44 rfl (sh_137 hW) (rf_137_27 hW) (by decide) ?_
            refine x_aload_n d173_114 rfl ?_
            refine x_getI d173_115 gY_173.2.2.2 gF_12_268 rfl (sh_137 hW) ?_
            refine x_aload_n d173_118 rfl ?_
            refine x_getI d173_119 gY_173.2.2.2 gF_12_213 rfl (sh_137 hW) ?_
            refine x_iast d173_122 (sh_149 hW) e33.1 e33.2 ?_
            refine x_aload_n d173_123 rfl ?_
            refine y_invI (as := []) (t := []) (o := 137) gY_172 d173_124 gY_173.2.2.2 gM_12_271 rfl (sh_137 hW) rfl k (fun v35 I36 k => ?_)
            refine x_if1 (pc2 := 132) d173_127 rfl (fun c => ?_) (fun c => ?_)
            · replace c : ¬ v35 = 0 := c
              rw [if_pos c] at k
              refine x_aload_n d173_132 rfl ?_
              refine x_getR (r := 150) d173_133 gY_173.2.2.2 gF_12_47 rfl (sh_137 hW) (rf_137_28 hW) (by decide) ?_
              refine x_aload_n d173_136 rfl ?_
              refine x_getI d173_137 gY_173.2.2.2 gF_12_268 rfl (sh_137 hW) ?_
              refine x_aload_n d173_140 rfl ?_
              refine x_getI d173_141 gY_173.2.2.2 gF_12_213 rfl (sh_137 hW) ?_
              have e37 := k.1
              replace k := k.2
              refine x_iast d173_144 (sh_150 hW) e37.1 e37.2 ?_
              refine x_aload_n d173_145 rfl ?_
              refine x_aload_n d173_146 rfl ?_
              refine x_getI d173_147 gY_173.2.2.2 gF_12_268 rfl (sh_137 hW) ?_
              refine x_iconst d173_150 rfl ?_
              have e38 := k.1
              replace k := k.2
              refine x_iadd d173_151 e38 ?_
              refine x_putI d173_152 gY_173.2.2.2 gF_12_268 rfl rfl (sh_137 hW) ?_
              refine x_iconst d173_155 rfl ?_
              exact x_zret d173_156 gR_173 (by decide) ⟨_, _, rfl, rfl, k⟩
            · replace c : ¬ (¬ v35 = 0) := c
              rw [if_neg c] at k
              refine x_iconst d173_130 rfl ?_
              exact x_zret d173_131 gR_173 (by decide) ⟨_, _, rfl, rfl, k⟩
          · replace c : ¬ (v1 = 122) := c
            rw [if_neg c] at k
            refine x_aload_n d173_101 rfl ?_
            refine y_invI (as := []) (t := []) (o := 137) gY_167 d173_102 gY_173.2.2.2 gM_12_253 rfl (sh_137 hW) rfl k (fun v39 I40 k => ?_)
            refine x_if1 (pc2 := 110) d173_105 rfl (fun c => ?_) (fun c => ?_)
            · replace c : ¬ v39 = 0 := c
              rw [if_pos c] at k
              refine x_aload_n d173_110 rfl ?_
              refine x_getR (r := 149) d173_111 gY_173.2.2.2 gF_12_44 rfl (sh_137 hW) (rf_137_27 hW) (by decide) ?_
              refine x_aload_n d173_114 rfl ?_
              refine x_getI d173_115 gY_173.2.2.2 gF_12_268 rfl (sh_137 hW) ?_
              refine x_aload_n d173_118 rfl ?_
              refine x_getI d173_119 gY_173.2.2.2 gF_12_213 rfl (sh_137 hW) ?_
              have e41 := k.1
              replace k := k.2
              refine x_iast d173_122 (sh_149 hW) e41.1 e41.2 ?_
              refine x_aload_n d173_123 rfl ?_
              refine y_invI (as := []) (t := []) (o := 137) gY_172 d173_124 gY_173.2.2.2 gM_12_271 rfl (sh_137 hW) rfl k (fun v42 I43 k => ?_)
              refine x_if1 (pc2 := 132) d173_127 rfl (fun c => ?_) (fun c => ?_)
              · replace c : ¬ v42 = 0 := c
                rw [if_pos c] at k
                refine x_aload_n d173_132 rfl ?_
                refine x_getR (r := 150) d173_133 gY_173.2.2.2 gF_12_47 rfl (sh_137 hW) (rf_137_28 hW) (by decide) ?_
                refine x_aload_n d173_136 rfl ?_
                refine x_getI d173_137 gY_173.2.2.2 gF_12_268 rfl (sh_137 hW) ?_
                refine x_aload_n d173_140 rfl ?_
                refine x_getI d173_141 gY_173.2.2.2 gF_12_213 rfl (sh_137 hW) ?_
                have e44 := k.1
                replace k := k.2
                refine x_iast d173_144 (sh_150 hW) e44.1 e44.2 ?_
                refine x_aload_n d173_145 rfl ?_
                refine x_aload_n d173_146 rfl ?_
                refine x_getI d173_147 gY_173.2.2.2 gF_12_268 rfl (sh_137 hW) ?_
                refine x_iconst d173_150 rfl ?_
                have e45 := k.1
                replace k := k.2
                refine x_iadd d173_151 e45 ?_
                refine x_putI d173_152 gY_173.2.2.2 gF_12_268 rfl rfl (sh_137 hW) ?_
                refine x_iconst d173_155 rfl ?_
                exact x_zret d173_156 gR_173 (by decide) ⟨_, _, rfl, rfl, k⟩
              · replace c : ¬ (¬ v42 = 0) := c
                rw [if_neg c] at k
                refine x_iconst d173_130 rfl ?_
                exact x_zret d173_131 gR_173 (by decide) ⟨_, _, rfl, rfl, k⟩
            · replace c : ¬ (¬ v39 = 0) := c
              rw [if_neg c] at k
              refine x_iconst d173_108 rfl ?_
              exact x_zret d173_109 gR_173 (by decide) ⟨_, _, rfl, rfl, k⟩
        · replace c : ¬ (¬ I2 137 20 = 14) := c
          rw [if_neg c] at k
          refine x_aload_n d173_42 rfl ?_
          refine x_iconst d173_43 rfl ?_
          refine x_aload_n d173_44 rfl ?_
          refine x_getI d173_45 gY_173.2.2.2 gF_12_189 rfl (sh_137 hW) ?_
          refine y_inv (as := [.inl 4, .inl (I2 137 14)]) (t := []) (o := 137) (ls2 := [some (.inr 137), some (.inl 4), some (.inl (I2 137 14))]) gY_156 d173_48 gY_173.2.2.2 gM_12_202 rfl (sh_137 hW) rfl rfl ?_
          refine x_aload_n d156_0 rfl ?_
          refine x_sipush d156_1 rfl ?_
          refine x_iload_n d156_4 rfl ?_
          have e46 := k.1
          replace k := k.2
          refine x_imul d156_5 e46 ?_
          refine x_iload_n d156_6 rfl ?_
          have e47 := k.1
          replace k := k.2
          refine x_isub d156_7 e47 ?_
          refine x_putI d156_8 gY_156.2.2.2 gF_12_199 rfl rfl (sh_137 hW) ?_
          refine x_iconst d156_11 rfl ?_
          refine x_zret d156_12 gR_156 (by decide) ?_
          show Ex (d + 7) 173 51 [some (.inr 137), some (.inl v1)] [.inl 0] (0, 0, n, sh, R, (zup I2 137 16 (((-1000) * 4) - I2 137 14))) _
          exact x_zret d173_51 gR_173 (by decide) ⟨_, _, rfl, rfl, k⟩
      · replace c : ¬ (v1 = 122) := c
        rw [if_neg c] at k
        refine x_aload_n d173_23 rfl ?_
        refine x_iconst d173_24 rfl ?_
        refine x_aload_n d173_25 rfl ?_
        refine x_getI d173_26 gY_173.2.2.2 gF_12_189 rfl (sh_137 hW) ?_
        refine y_inv (as := [.inl 1, .inl (I2 137 14)]) (t := []) (o := 137) (ls2 := [some (.inr 137), some (.inl 1), some (.inl (I2 137 14))]) gY_156 d173_29 gY_173.2.2.2 gM_12_202 rfl (sh_137 hW) rfl rfl ?_
        refine x_aload_n d156_0 rfl ?_
        refine x_sipush d156_1 rfl ?_
        refine x_iload_n d156_4 rfl ?_
        have e48 := k.1
        replace k := k.2
        refine x_imul d156_5 e48 ?_
        refine x_iload_n d156_6 rfl ?_
        have e49 := k.1
        replace k := k.2
        refine x_isub d156_7 e49 ?_
        refine x_putI d156_8 gY_156.2.2.2 gF_12_199 rfl rfl (sh_137 hW) ?_
        refine x_iconst d156_11 rfl ?_
        refine x_zret d156_12 gR_156 (by decide) ?_
        show Ex (d + 7) 173 32 [some (.inr 137), some (.inl v1)] [.inl 0] (0, 0, n, sh, R, (zup I2 137 16 (((-1000) * 1) - I2 137 14))) _
        exact x_zret d173_32 gR_173 (by decide) ⟨_, _, rfl, rfl, k⟩
set_option maxHeartbeats 4000000 in
theorem b_M_law_0 {d n : Nat} {sh : ZS} {R : ZR} {I : ZI} {Q : Int → ZI → Prop} (hW : Wf sh R) {x1 : Int}
    (k : (if x1 < 1 then Q (-1) I else (if 200 < x1 then Q (-1) I else (if x1 ≤ I 137 13 then XI (d + 7) 173 [.inr 137] n sh R (zup (zup (zup (zup I 137 14 0) 137 15 x1) 137 18 0) 137 20 0) (fun v1 I2 => XIs (d + 8) 174 46 [some (.inr 137), some (.inl x1), some (.inl v1), none] [] n sh R I2 Q) else Q (-1) I)))) : XI (d + 8) 174 [.inr 137, .inl x1] n sh R I Q := by
  refine XI.of (ls := [some (.inr 137), some (.inl x1), none, none]) (zloc_eq gY_174.2.2.1) ?_
  unfold XIs
  refine x_iload_n d174_0 rfl ?_
  refine x_iconst d174_1 rfl ?_
  refine x_sipush d174_2 rfl ?_
  refine y_ins (as := [.inl x1, .inl 1, .inl 200]) (t := []) (ls2 := [some (.inl x1), some (.inl 1), some (.inl 200)]) gY_140 d174_5 gY_174.2.2.2 gM_12_169 rfl rfl rfl ?_
  refine x_iload_n d140_0 rfl ?_
  refine x_iload_n d140_1 rfl ?_
  refine x_if2 (pc2 := 14) d140_2 rfl (fun c => ?_) (fun c => ?_)
  · replace c : x1 < 1 := c
    rw [if_pos c] at k
    refine x_iconst d140_14 rfl ?_
    refine x_zret d140_15 gR_140 (by decide) ?_
    show Ex (d + 8) 174 8 [some (.inr 137), some (.inl x1), none, none] [.inl 0] (0, 0, n, sh, R, I) _
    refine x_if1 (pc2 := 19) d174_8 rfl (fun _ => ?_) (fun c => absurd (show (0 : Int) = 0 by decide) c)
    refine x_iconst d174_19 rfl ?_
    exact x_iret d174_20 gR_174 ⟨_, _, rfl, rfl, k⟩
  · replace c : ¬ (x1 < 1) := c
    rw [if_neg c] at k
    refine x_iload_n d140_5 rfl ?_
    refine x_iload_n d140_6 rfl ?_
    refine x_if2 (pc2 := 14) d140_7 rfl (fun c => ?_) (fun c => ?_)
    · replace c : 200 < x1 := c
      rw [if_pos c] at k
      refine x_iconst d140_14 rfl ?_
      refine x_zret d140_15 gR_140 (by decide) ?_
      show Ex (d + 8) 174 8 [some (.inr 137), some (.inl x1), none, none] [.inl 0] (0, 0, n, sh, R, I) _
      refine x_if1 (pc2 := 19) d174_8 rfl (fun _ => ?_) (fun c => absurd (show (0 : Int) = 0 by decide) c)
      refine x_iconst d174_19 rfl ?_
      exact x_iret d174_20 gR_174 ⟨_, _, rfl, rfl, k⟩
    · replace c : ¬ (200 < x1) := c
      rw [if_neg c] at k
      refine x_iconst d140_10 rfl ?_
      refine x_goto (pc2 := 15) d140_11 rfl ?_
      refine x_zret d140_15 gR_140 (by decide) ?_
      show Ex (d + 8) 174 8 [some (.inr 137), some (.inl x1), none, none] [.inl 1] (0, 0, n, sh, R, I) _
      refine x_if1 (pc2 := 19) d174_8 rfl (fun c => absurd (show (1 : Int) = 0 from c) (by decide)) (fun _ => ?_)
      refine x_iload_n d174_11 rfl ?_
      refine x_aload_n d174_12 rfl ?_
      refine x_getI d174_13 gY_174.2.2.2 gF_12_183 rfl (sh_137 hW) ?_
      refine x_if2 (pc2 := 21) d174_16 rfl (fun c => ?_) (fun c => ?_)
      · replace c : x1 ≤ I 137 13 := c
        rw [if_pos c] at k
        refine x_aload_n d174_21 rfl ?_
        refine x_iconst d174_22 rfl ?_
        refine x_putI d174_23 gY_174.2.2.2 gF_12_189 rfl rfl (sh_137 hW) ?_
        refine x_aload_n d174_26 rfl ?_
        refine x_iload_n d174_27 rfl ?_
        refine x_putI d174_28 gY_174.2.2.2 gF_12_192 rfl rfl (sh_137 hW) ?_
        refine x_aload_n d174_31 rfl ?_
        refine x_iconst d174_32 rfl ?_
        refine x_putI d174_33 gY_174.2.2.2 gF_12_213 rfl rfl (sh_137 hW) ?_
        refine x_aload_n d174_36 rfl ?_
        refine x_iconst d174_37 rfl ?_
        refine x_putI d174_38 gY_174.2.2.2 gF_12_268 rfl rfl (sh_137 hW) ?_
        refine x_aload_n d174_41 rfl ?_
        refine y_invI (as := []) (t := []) (o := 137) gY_173 d174_42 gY_174.2.2.2 gM_12_274 rfl (sh_137 hW) rfl k (fun v1 I2 k => ?_)
        refine x_istore_n (ls2 := [some (.inr 137), some (.inl x1), some (.inl v1), none]) d174_45 rfl rfl ?_
        exact k
      · replace c : ¬ (x1 ≤ I 137 13) := c
        rw [if_neg c] at k
        refine x_iconst d174_19 rfl ?_
        exact x_iret d174_20 gR_174 ⟨_, _, rfl, rfl, k⟩
set_option maxHeartbeats 4000000 in
theorem b_M_law_46 {d n : Nat} {sh : ZS} {R : ZR} {I : ZI} {Q : Int → ZI → Prop} (hW : Wf sh R) {u1 : Option AV} {x2 : Int} {u3 : Option AV}
    (k : (if x2 = 0 then (if ¬ x2 = 0 then XIs (d + 8) 174 110 [some (.inr 137), u1, some (.inl x2), some (.inl 0)] [] n sh R (zup (zup I 137 13 0) 137 22 (I 137 20)) Q else Q (I 137 16) (zup I 137 13 0)) else (if I 137 15 ≤ I 137 14 then (if ¬ x2 = 0 then XIs (d + 8) 174 110 [some (.inr 137), u1, some (.inl x2), some (.inl 0)] [] n sh R (zup (zup I 137 13 0) 137 22 (I 137 20)) Q else Q (I 137 16) (zup I 137 13 0)) else XI (d + 7) 157 [.inr 137, .inl 59] n sh R I (fun v1 I2 => (if v1 = 0 then XIs (d + 8) 174 46 [some (.inr 137), u1, some (.inl 0), u3] [] n sh R I2 Q else XI (d + 7) 173 [.inr 137] n sh R I2 (fun v3 I4 => (if v3 = 0 then XIs (d + 8) 174 46 [some (.inr 137), u1, some (.inl 0), u3] [] n sh R I4 Q else XIs (d + 8) 174 46 [some (.inr 137), u1, some (.inl 1), u3] [] n sh R I4 Q))))))) : XIs (d + 8) 174 46 [some (.inr 137), u1, some (.inl x2), u3] [] n sh R I Q := by
  unfold XIs
  refine x_iload_n d174_46 rfl ?_
  refine x_if1 (pc2 := 86) d174_47 rfl (fun c => ?_) (fun c => ?_)
  · replace c : x2 = 0 := c
    rw [if_pos c] at k
    refine x_aload_n d174_86 rfl ?_
    refine x_iconst d174_87 rfl ?_
    refine x_putI d174_88 gY_174.2.2.2 gF_12_183 rfl rfl (sh_137 hW) ?_
    refine x_iload_n d174_91 rfl ?_
    refine x_if1 (pc2 := 100) d174_92 rfl (fun c => ?_) (fun c => ?_)
    · replace c : ¬ x2 = 0 := c
      rw [if_pos c] at k
      refine x_aload_n d174_100 rfl ?_
      refine x_aload_n d174_101 rfl ?_
      refine x_getI d174_102 gY_174.2.2.2 gF_12_268 rfl (sh_137 hW) ?_
      refine x_putI d174_105 gY_174.2.2.2 gF_12_280 rfl rfl (sh_137 hW) ?_
      refine x_iconst d174_108 rfl ?_
      refine x_istore_n (ls2 := [some (.inr 137), u1, some (.inl x2), some (.inl 0)]) d174_109 rfl rfl ?_
      exact k
    · replace c : ¬ (¬ x2 = 0) := c
      rw [if_neg c] at k
      refine x_aload_n d174_95 rfl ?_
      refine x_getI d174_96 gY_174.2.2.2 gF_12_199 rfl (sh_137 hW) ?_
      exact x_iret d174_99 gR_174 ⟨_, _, rfl, rfl, k⟩
  · replace c : ¬ (x2 = 0) := c
    rw [if_neg c] at k
    refine x_aload_n d174_50 rfl ?_
    refine x_getI d174_51 gY_174.2.2.2 gF_12_189 rfl (sh_137 hW) ?_
    refine x_aload_n d174_54 rfl ?_
    refine x_getI d174_55 gY_174.2.2.2 gF_12_192 rfl (sh_137 hW) ?_
    refine x_if2 (pc2 := 86) d174_58 rfl (fun c => ?_) (fun c => ?_)
    · replace c : I 137 15 ≤ I 137 14 := c
      rw [if_pos c] at k
      refine x_aload_n d174_86 rfl ?_
      refine x_iconst d174_87 rfl ?_
      refine x_putI d174_88 gY_174.2.2.2 gF_12_183 rfl rfl (sh_137 hW) ?_
      refine x_iload_n d174_91 rfl ?_
      refine x_if1 (pc2 := 100) d174_92 rfl (fun c => ?_) (fun c => ?_)
      · replace c : ¬ x2 = 0 := c
        rw [if_pos c] at k
        refine x_aload_n d174_100 rfl ?_
        refine x_aload_n d174_101 rfl ?_
        refine x_getI d174_102 gY_174.2.2.2 gF_12_268 rfl (sh_137 hW) ?_
        refine x_putI d174_105 gY_174.2.2.2 gF_12_280 rfl rfl (sh_137 hW) ?_
        refine x_iconst d174_108 rfl ?_
        refine x_istore_n (ls2 := [some (.inr 137), u1, some (.inl x2), some (.inl 0)]) d174_109 rfl rfl ?_
        exact k
      · replace c : ¬ (¬ x2 = 0) := c
        rw [if_neg c] at k
        refine x_aload_n d174_95 rfl ?_
        refine x_getI d174_96 gY_174.2.2.2 gF_12_199 rfl (sh_137 hW) ?_
        exact x_iret d174_99 gR_174 ⟨_, _, rfl, rfl, k⟩
    · replace c : ¬ (I 137 15 ≤ I 137 14) := c
      rw [if_neg c] at k
      refine x_aload_n d174_61 rfl ?_
      refine x_bipush d174_62 rfl ?_
      refine y_invI (as := [.inl 59]) (t := []) (o := 137) gY_157 d174_64 gY_174.2.2.2 gM_12_277 rfl (sh_137 hW) rfl k (fun v1 I2 k => ?_)
      refine x_if1 (pc2 := 81) d174_67 rfl (fun c => ?_) (fun c => ?_)
      · replace c : v1 = 0 := c
        rw [if_pos c] at k
        refine x_iconst d174_81 rfl ?_
        refine x_istore_n (ls2 := [some (.inr 137), u1, some (.inl 0), u3]) d174_82 rfl rfl ?_
        refine x_goto (pc2 := 46) d174_83 rfl ?_
        exact k
      · replace c : ¬ (v1 = 0) := c
        rw [if_neg c] at k
        refine x_aload_n d174_70 rfl ?_
        refine y_invI (as := []) (t := []) (o := 137) gY_173 d174_71 gY_174.2.2.2 gM_12_274 rfl (sh_137 hW) rfl k (fun v3 I4 k => ?_)
        refine x_if1 (pc2 := 81) d174_74 rfl (fun c => ?_) (fun c => ?_)
        · replace c : v3 = 0 := c
          rw [if_pos c] at k
          refine x_iconst d174_81 rfl ?_
          refine x_istore_n (ls2 := [some (.inr 137), u1, some (.inl 0), u3]) d174_82 rfl rfl ?_
          refine x_goto (pc2 := 46) d174_83 rfl ?_
          exact k
        · replace c : ¬ (v3 = 0) := c
          rw [if_neg c] at k
          refine x_iconst d174_77 rfl ?_
          refine x_goto (pc2 := 82) d174_78 rfl ?_
          refine x_istore_n (ls2 := [some (.inr 137), u1, some (.inl 1), u3]) d174_82 rfl rfl ?_
          refine x_goto (pc2 := 46) d174_83 rfl ?_
          exact k
set_option maxHeartbeats 4000000 in
theorem b_M_law_110 {d n : Nat} {sh : ZS} {R : ZR} {I : ZI} {Q : Int → ZI → Prop} (hW : Wf sh R) {u1 : Option AV} {u2 : Option AV} {x3 : Int}
    (k : (if I 137 18 ≤ x3 then XIs (d + 8) 174 138 [some (.inr 137), u1, u2, some (.inl 0)] [] n sh R I Q else (0 ≤ x3 ∧ x3 < 220) ∧ (zr (x3 + 1)) ∧ XIs (d + 8) 174 110 [some (.inr 137), u1, u2, some (.inl (x3 + 1))] [] n sh R (zup I 151 (x3).toNat (I 145 (x3).toNat)) Q)) : XIs (d + 8) 174 110 [some (.inr 137), u1, u2, some (.inl x3)] [] n sh R I Q := by
  unfold XIs
  refine x_iload_n d174_110 rfl ?_
  refine x_aload_n d174_111 rfl ?_
  refine x_getI d174_112 gY_174.2.2.2 gF_12_213 rfl (sh_137 hW) ?_
  refine x_if2 (pc2 := 136) d174_115 rfl (fun c => ?_) (fun c => ?_)
  · replace c : I 137 18 ≤ x3 := c
    rw [if_pos c] at k
    refine x_iconst d174_136 rfl ?_
    refine x_istore_n (ls2 := [some (.inr 137), u1, u2, some (.inl 0)]) d174_137 rfl rfl ?_
    exact k
  · replace c : ¬ (I 137 18 ≤ x3) := c
    rw [if_neg c] at k
    refine x_aload_n d174_118 rfl ?_
    refine x_getR (r := 151) d174_119 gY_174.2.2.2 gF_12_50 rfl (sh_137 hW) (rf_137_29 hW) (by decide) ?_
    refine x_iload_n d174_122 rfl ?_
    refine x_aload_n d174_123 rfl ?_
    refine x_getR (r := 145) d174_124 gY_174.2.2.2 gF_12_32 rfl (sh_137 hW) (rf_137_23 hW) (by decide) ?_
    refine x_iload_n d174_127 rfl ?_
    have e1 := k.1
    replace k := k.2
    refine x_iald d174_128 (sh_145 hW) e1.1 e1.2 ?_
    refine x_iast d174_129 (sh_151 hW) e1.1 e1.2 ?_
    have e2 := k.1
    replace k := k.2
    refine x_iinc (ls2 := [some (.inr 137), u1, u2, some (.inl (x3 + 1))]) d174_130 rfl e2 rfl ?_
    refine x_goto (pc2 := 110) d174_133 rfl ?_
    exact k
set_option maxHeartbeats 4000000 in
theorem b_M_law_138 {d n : Nat} {sh : ZS} {R : ZR} {I : ZI} {Q : Int → ZI → Prop} (hW : Wf sh R) {u1 : Option AV} {u2 : Option AV} {x3 : Int}
    (k : (if I 137 20 ≤ x3 then Q (I 137 20) I else (0 ≤ x3 ∧ x3 < 14) ∧ (zr (x3 + 1)) ∧ XIs (d + 8) 174 138 [some (.inr 137), u1, u2, some (.inl (x3 + 1))] [] n sh R (zup (zup (zup (zup I 152 (x3).toNat (I 147 (x3).toNat)) 153 (x3).toNat (I 148 (x3).toNat)) 154 (x3).toNat (I 149 (x3).toNat)) 155 (x3).toNat (I 150 (x3).toNat)) Q)) : XIs (d + 8) 174 138 [some (.inr 137), u1, u2, some (.inl x3)] [] n sh R I Q := by
  unfold XIs
  refine x_iload_n d174_138 rfl ?_
  refine x_aload_n d174_139 rfl ?_
  refine x_getI d174_140 gY_174.2.2.2 gF_12_268 rfl (sh_137 hW) ?_
  refine x_if2 (pc2 := 200) d174_143 rfl (fun c => ?_) (fun c => ?_)
  · replace c : I 137 20 ≤ x3 := c
    rw [if_pos c] at k
    refine x_aload_n d174_200 rfl ?_
    refine x_getI d174_201 gY_174.2.2.2 gF_12_268 rfl (sh_137 hW) ?_
    exact x_iret d174_204 gR_174 ⟨_, _, rfl, rfl, k⟩
  · replace c : ¬ (I 137 20 ≤ x3) := c
    rw [if_neg c] at k
    refine x_aload_n d174_146 rfl ?_
    refine x_getR (r := 152) d174_147 gY_174.2.2.2 gF_12_53 rfl (sh_137 hW) (rf_137_30 hW) (by decide) ?_
    refine x_iload_n d174_150 rfl ?_
    refine x_aload_n d174_151 rfl ?_
    refine x_getR (r := 147) d174_152 gY_174.2.2.2 gF_12_38 rfl (sh_137 hW) (rf_137_25 hW) (by decide) ?_
    refine x_iload_n d174_155 rfl ?_
    have e1 := k.1
    replace k := k.2
    refine x_iald d174_156 (sh_147 hW) e1.1 e1.2 ?_
    refine x_iast d174_157 (sh_152 hW) e1.1 e1.2 ?_
    refine x_aload_n d174_158 rfl ?_
    refine x_getR (r := 153) d174_159 gY_174.2.2.2 gF_12_56 rfl (sh_137 hW) (rf_137_31 hW) (by decide) ?_
    refine x_iload_n d174_162 rfl ?_
    refine x_aload_n d174_163 rfl ?_
    refine x_getR (r := 148) d174_164 gY_174.2.2.2 gF_12_41 rfl (sh_137 hW) (rf_137_26 hW) (by decide) ?_
    refine x_iload_n d174_167 rfl ?_
    refine x_iald d174_168 (sh_148 hW) e1.1 e1.2 ?_
    refine x_iast d174_169 (sh_153 hW) e1.1 e1.2 ?_
    refine x_aload_n d174_170 rfl ?_
    refine x_getR (r := 154) d174_171 gY_174.2.2.2 gF_12_59 rfl (sh_137 hW) (rf_137_32 hW) (by decide) ?_
    refine x_iload_n d174_174 rfl ?_
    refine x_aload_n d174_175 rfl ?_
    refine x_getR (r := 149) d174_176 gY_174.2.2.2 gF_12_44 rfl (sh_137 hW) (rf_137_27 hW) (by decide) ?_
    refine x_iload_n d174_179 rfl ?_
    refine x_iald d174_180 (sh_149 hW) e1.1 e1.2 ?_
    refine x_iast d174_181 (sh_154 hW) e1.1 e1.2 ?_
    refine x_aload_n d174_182 rfl ?_
    refine x_getR (r := 155) d174_183 gY_174.2.2.2 gF_12_62 rfl (sh_137 hW) (rf_137_33 hW) (by decide) ?_
    refine x_iload_n d174_186 rfl ?_
    refine x_aload_n d174_187 rfl ?_
    refine x_getR (r := 150) d174_188 gY_174.2.2.2 gF_12_47 rfl (sh_137 hW) (rf_137_28 hW) (by decide) ?_
    refine x_iload_n d174_191 rfl ?_
    refine x_iald d174_192 (sh_150 hW) e1.1 e1.2 ?_
    refine x_iast d174_193 (sh_155 hW) e1.1 e1.2 ?_
    have e2 := k.1
    replace k := k.2
    refine x_iinc (ls2 := [some (.inr 137), u1, u2, some (.inl (x3 + 1))]) d174_194 rfl e2 rfl ?_
    refine x_goto (pc2 := 138) d174_197 rfl ?_
    exact k
set_option maxHeartbeats 4000000 in
theorem b_M_reckon_0 {d n : Nat} {sh : ZS} {R : ZR} {I : ZI} {Q : Int → ZI → Prop} (hW : Wf sh R) {x0 : Int} {x1 : Int} {x2 : Int}
    (k : (if x0 = 2 then Q (zw (x1 + x2)) I else (if x0 = 3 then Q (zw (x1 - x2)) I else (if x0 = 4 then Q (zw (x1 * x2)) I else (if x0 = 5 then (¬ x2 = 0) ∧ Q (zw ((x1).tdiv x2)) I else (if x0 = 6 then (¬ x2 = 0) ∧ Q ((x1).tmod x2) I else (if x0 = 7 then (if x2 ≤ x1 then Q 0 I else Q 1 I) else (if x0 = 8 then (if x1 ≤ x2 then Q 0 I else Q 1 I) else (if ¬ x1 = x2 then Q 0 I else Q 1 I))))))))) : XI d 175 [.inl x0, .inl x1, .inl x2] n sh R I Q := by
  refine XI.of (ls := [some (.inl x0), some (.inl x1), some (.inl x2)]) (zloc_eq gY_175.2.2.1) ?_
  unfold XIs
  refine x_iload_n d175_0 rfl ?_
  by_cases c : x0 = 2
  · rw [if_pos c] at k
    refine x_tsw (off := 43) (pc2 := 44) d175_1 (by rw [c]; decide) rfl ?_
    refine x_iload_n d175_44 rfl ?_
    refine x_iload_n d175_45 rfl ?_
    refine x_iaddW d175_46 ?_
    exact x_iret d175_47 gR_175 ⟨_, _, rfl, rfl, k⟩
  rw [if_neg c] at k
  have c2 := c
  clear c
  by_cases c : x0 = 3
  · rw [if_pos c] at k
    refine x_tsw (off := 47) (pc2 := 48) d175_1 (by rw [c]; decide) rfl ?_
    refine x_iload_n d175_48 rfl ?_
    refine x_iload_n d175_49 rfl ?_
    refine x_isubW d175_50 ?_
    exact x_iret d175_51 gR_175 ⟨_, _, rfl, rfl, k⟩
  rw [if_neg c] at k
  have c3 := c
  clear c
  by_cases c : x0 = 4
  · rw [if_pos c] at k
    refine x_tsw (off := 51) (pc2 := 52) d175_1 (by rw [c]; decide) rfl ?_
    refine x_iload_n d175_52 rfl ?_
    refine x_iload_n d175_53 rfl ?_
    refine x_imulW d175_54 ?_
    exact x_iret d175_55 gR_175 ⟨_, _, rfl, rfl, k⟩
  rw [if_neg c] at k
  have c4 := c
  clear c
  by_cases c : x0 = 5
  · rw [if_pos c] at k
    refine x_tsw (off := 55) (pc2 := 56) d175_1 (by rw [c]; decide) rfl ?_
    refine x_iload_n d175_56 rfl ?_
    refine x_iload_n d175_57 rfl ?_
    have e1 := k.1
    replace k := k.2
    refine x_idivW d175_58 e1 ?_
    exact x_iret d175_59 gR_175 ⟨_, _, rfl, rfl, k⟩
  rw [if_neg c] at k
  have c5 := c
  clear c
  by_cases c : x0 = 6
  · rw [if_pos c] at k
    refine x_tsw (off := 59) (pc2 := 60) d175_1 (by rw [c]; decide) rfl ?_
    refine x_iload_n d175_60 rfl ?_
    refine x_iload_n d175_61 rfl ?_
    have e2 := k.1
    replace k := k.2
    refine x_iremW d175_62 e2 ?_
    exact x_iret d175_63 gR_175 ⟨_, _, rfl, rfl, k⟩
  rw [if_neg c] at k
  have c6 := c
  clear c
  by_cases c : x0 = 7
  · rw [if_pos c] at k
    refine x_tsw (off := 63) (pc2 := 64) d175_1 (by rw [c]; decide) rfl ?_
    refine x_iload_n d175_64 rfl ?_
    refine x_iload_n d175_65 rfl ?_
    refine x_if2 (pc2 := 73) d175_66 rfl (fun c => ?_) (fun c => ?_)
    · replace c : x2 ≤ x1 := c
      rw [if_pos c] at k
      refine x_iconst d175_73 rfl ?_
      exact x_iret d175_74 gR_175 ⟨_, _, rfl, rfl, k⟩
    · replace c : ¬ (x2 ≤ x1) := c
      rw [if_neg c] at k
      refine x_iconst d175_69 rfl ?_
      refine x_goto (pc2 := 74) d175_70 rfl ?_
      exact x_iret d175_74 gR_175 ⟨_, _, rfl, rfl, k⟩
  rw [if_neg c] at k
  have c7 := c
  clear c
  by_cases c : x0 = 8
  · rw [if_pos c] at k
    refine x_tsw (off := 74) (pc2 := 75) d175_1 (by rw [c]; decide) rfl ?_
    refine x_iload_n d175_75 rfl ?_
    refine x_iload_n d175_76 rfl ?_
    refine x_if2 (pc2 := 84) d175_77 rfl (fun c => ?_) (fun c => ?_)
    · replace c : x1 ≤ x2 := c
      rw [if_pos c] at k
      refine x_iconst d175_84 rfl ?_
      exact x_iret d175_85 gR_175 ⟨_, _, rfl, rfl, k⟩
    · replace c : ¬ (x1 ≤ x2) := c
      rw [if_neg c] at k
      refine x_iconst d175_80 rfl ?_
      refine x_goto (pc2 := 85) d175_81 rfl ?_
      exact x_iret d175_85 gR_175 ⟨_, _, rfl, rfl, k⟩
  rw [if_neg c] at k
  have c8 := c
  clear c
  refine x_tsw (off := 85) (pc2 := 86) d175_1 (zts_dflt [2, 3, 4, 5, 6, 7, 8] (by decide) (by intro v hv; simp at hv; omega)) rfl ?_
  refine x_iload_n d175_86 rfl ?_
  refine x_iload_n d175_87 rfl ?_
  refine x_if2 (pc2 := 95) d175_88 rfl (fun c => ?_) (fun c => ?_)
  · replace c : ¬ x1 = x2 := c
    rw [if_pos c] at k
    refine x_iconst d175_95 rfl ?_
    exact x_iret d175_96 gR_175 ⟨_, _, rfl, rfl, k⟩
  · replace c : ¬ (¬ x1 = x2) := c
    rw [if_neg c] at k
    refine x_iconst d175_91 rfl ?_
    refine x_goto (pc2 := 96) d175_92 rfl ?_
    exact x_iret d175_96 gR_175 ⟨_, _, rfl, rfl, k⟩
set_option maxHeartbeats 4000000 in
theorem b_M_comesTo_0 {d n : Nat} {sh : ZS} {R : ZR} {I : ZI} {Q : Int → ZI → Prop} (hW : Wf sh R) {x1 : Int} {x2 : Int}
    (k : (0 ≤ x1 ∧ x1 < 2147483648) ∧ (zr (220 * (x1 / 220))) ∧ XIs (d + 1) 176 16 [some (.inr 137), some (.inl x1), some (.inl x2), some (.inl 0), some (.inl (220 * (x1 / 220))), some (.inl x1), none, none] [] n sh R I Q) : XI (d + 1) 176 [.inr 137, .inl x1, .inl x2] n sh R I Q := by
  refine XI.of (ls := [some (.inr 137), some (.inl x1), some (.inl x2), none, none, none, none, none]) (zloc_eq gY_176.2.2.1) ?_
  unfold XIs
  refine x_iconst d176_0 rfl ?_
  refine x_istore_n (ls2 := [some (.inr 137), some (.inl x1), some (.inl x2), some (.inl 0), none, none, none, none]) d176_1 rfl rfl ?_
  refine x_sipush d176_2 rfl ?_
  refine x_iload_n d176_5 rfl ?_
  refine x_sipush d176_6 rfl ?_
  have e1 := k.1
  replace k := k.2
  refine x_idiv d176_9 e1 (by decide) ?_
  have e2 := k.1
  replace k := k.2
  refine x_imul d176_10 e2 ?_
  refine x_istore (ls2 := [some (.inr 137), some (.inl x1), some (.inl x2), some (.inl 0), some (.inl (220 * (x1 / 220))), none, none, none]) d176_11 rfl rfl ?_
  refine x_iload_n d176_13 rfl ?_
  refine x_istore (ls2 := [some (.inr 137), some (.inl x1), some (.inl x2), some (.inl 0), some (.inl (220 * (x1 / 220))), some (.inl x1), none, none]) d176_14 rfl rfl ?_
  exact k
set_option maxHeartbeats 4000000 in
theorem b_M_comesTo_16 {d n : Nat} {sh : ZS} {R : ZR} {I : ZI} {Q : Int → ZI → Prop} (hW : Wf sh R) {u1 : Option AV} {x2 : Int} {x3 : Int} {x4 : Int} {x5 : Int} {u6 : Option AV} {u7 : Option AV}
    (k : (if x2 ≤ x5 then Q (I 156 0) I else (0 ≤ x5 ∧ x5 < 220) ∧ (0 ≤ I 151 (x5).toNat ∧ I 151 (x5).toNat < 2147483648) ∧ (0 ≤ I 151 (x5).toNat) ∧ (zr (x5 + 1)) ∧ (if (I 151 (x5).toNat / 1048576) = 0 then (if ¬ (I 151 (x5).toNat / 1048576) = 0 then (0 ≤ (I 151 (x5).toNat % 1048576) ∧ (I 151 (x5).toNat % 1048576) < 8) ∧ (0 ≤ x3 ∧ x3 < 220) ∧ (zr (x3 + 1)) ∧ XIs (d + 1) 176 16 [some (.inr 137), u1, some (.inl x2), some (.inl (x3 + 1)), some (.inl x4), some (.inl (x5 + 1)), some (.inl (I 151 (x5).toNat / 1048576)), some (.inl (I 151 (x5).toNat % 1048576))] [] n sh R (zup I 156 (x3).toNat (I 157 (I 151 (x5).toNat % 1048576).toNat)) Q else (0 ≤ x3 ∧ x3 < 220) ∧ (zr (x3 + 1)) ∧ XIs (d + 1) 176 16 [some (.inr 137), u1, some (.inl x2), some (.inl (x3 + 1)), some (.inl x4), some (.inl (x5 + 1)), some (.inl (I 151 (x5).toNat / 1048576)), some (.inl (I 151 (x5).toNat % 1048576))] [] n sh R (zup I 156 (x3).toNat (I 151 (x5).toNat % 1048576)) Q) else (if ¬ (I 151 (x5).toNat / 1048576) = 1 then (if ¬ (I 151 (x5).toNat / 1048576) = 10 then (if (I 151 (x5).toNat / 1048576) = 11 then (zr (x3 - 1)) ∧ (0 ≤ (x3 - 1) ∧ (x3 - 1) < 220) ∧ (if ¬ (I 151 (x5).toNat / 1048576) = 12 then (if ¬ I 156 (x3 - 1).toNat = 0 then XIs (d + 1) 176 16 [some (.inr 137), u1, some (.inl x2), some (.inl (x3 - 1)), some (.inl x4), some (.inl (x5 + 1)), some (.inl (I 151 (x5).toNat / 1048576)), some (.inl (I 151 (x5).toNat % 1048576))] [] n sh R I Q else (zr (x4 + (I 151 (x5).toNat % 1048576))) ∧ XIs (d + 1) 176 16 [some (.inr 137), u1, some (.inl x2), some (.inl x3), some (.inl x4), some (.inl (x4 + (I 151 (x5).toNat % 1048576))), some (.inl (I 151 (x5).toNat / 1048576)), some (.inl (I 151 (x5).toNat % 1048576))] [] n sh R I Q) else (if ¬ I 156 (x3 - 1).toNat = 1 then XIs (d + 1) 176 16 [some (.inr 137), u1, some (.inl x2), some (.inl (x3 - 1)), some (.inl x4), some (.inl (x5 + 1)), some (.inl (I 151 (x5).toNat / 1048576)), some (.inl (I 151 (x5).toNat % 1048576))] [] n sh R I Q else (zr (x4 + (I 151 (x5).toNat % 1048576))) ∧ XIs (d + 1) 176 16 [some (.inr 137), u1, some (.inl x2), some (.inl x3), some (.inl x4), some (.inl (x4 + (I 151 (x5).toNat % 1048576))), some (.inl (I 151 (x5).toNat / 1048576)), some (.inl (I 151 (x5).toNat % 1048576))] [] n sh R I Q)) else (if ¬ (I 151 (x5).toNat / 1048576) = 12 then (zr (x3 - 1)) ∧ (if (I 151 (x5).toNat / 1048576) = 5 then (0 ≤ (x3 - 1) ∧ (x3 - 1) < 220) ∧ (if ¬ I 156 (x3 - 1).toNat = 0 then (zr ((x3 - 1) - 1)) ∧ (0 ≤ ((x3 - 1) - 1) ∧ ((x3 - 1) - 1) < 220) ∧ XI d 175 [.inl (I 151 (x5).toNat / 1048576), .inl (I 156 ((x3 - 1) - 1).toNat), .inl (I 156 (x3 - 1).toNat)] n sh R I (fun v18 I19 => XIs (d + 1) 176 16 [some (.inr 137), u1, some (.inl x2), some (.inl (x3 - 1)), some (.inl x4), some (.inl (x5 + 1)), some (.inl (I 151 (x5).toNat / 1048576)), some (.inl (I 151 (x5).toNat % 1048576))] [] n sh R (zup I19 156 ((x3 - 1) - 1).toNat v18) Q) else Q 0 I) else (if ¬ (I 151 (x5).toNat / 1048576) = 6 then (zr ((x3 - 1) - 1)) ∧ (0 ≤ ((x3 - 1) - 1) ∧ ((x3 - 1) - 1) < 220) ∧ (0 ≤ (x3 - 1) ∧ (x3 - 1) < 220) ∧ XI d 175 [.inl (I 151 (x5).toNat / 1048576), .inl (I 156 ((x3 - 1) - 1).toNat), .inl (I 156 (x3 - 1).toNat)] n sh R I (fun v23 I24 => XIs (d + 1) 176 16 [some (.inr 137), u1, some (.inl x2), some (.inl (x3 - 1)), some (.inl x4), some (.inl (x5 + 1)), some (.inl (I 151 (x5).toNat / 1048576)), some (.inl (I 151 (x5).toNat % 1048576))] [] n sh R (zup I24 156 ((x3 - 1) - 1).toNat v23) Q) else (0 ≤ (x3 - 1) ∧ (x3 - 1) < 220) ∧ (if ¬ I 156 (x3 - 1).toNat = 0 then (zr ((x3 - 1) - 1)) ∧ (0 ≤ ((x3 - 1) - 1) ∧ ((x3 - 1) - 1) < 220) ∧ XI d 175 [.inl (I 151 (x5).toNat / 1048576), .inl (I 156 ((x3 - 1) - 1).toNat), .inl (I 156 (x3 - 1).toNat)] n sh R I (fun v28 I29 => XIs (d + 1) 176 16 [some (.inr 137), u1, some (.inl x2), some (.inl (x3 - 1)), some (.inl x4), some (.inl (x5 + 1)), some (.inl (I 151 (x5).toNat / 1048576)), some (.inl (I 151 (x5).toNat % 1048576))] [] n sh R (zup I29 156 ((x3 - 1) - 1).toNat v28) Q) else Q 0 I))) else (zr (x3 - 1)) ∧ (0 ≤ (x3 - 1) ∧ (x3 - 1) < 220) ∧ (if ¬ (I 151 (x5).toNat / 1048576) = 12 then (if ¬ I 156 (x3 - 1).toNat = 0 then XIs (d + 1) 176 16 [some (.inr 137), u1, some (.inl x2), some (.inl (x3 - 1)), some (.inl x4), some (.inl (x5 + 1)), some (.inl (I 151 (x5).toNat / 1048576)), some (.inl (I 151 (x5).toNat % 1048576))] [] n sh R I Q else (zr (x4 + (I 151 (x5).toNat % 1048576))) ∧ XIs (d + 1) 176 16 [some (.inr 137), u1, some (.inl x2), some (.inl x3), some (.inl x4), some (.inl (x4 + (I 151 (x5).toNat % 1048576))), some (.inl (I 151 (x5).toNat / 1048576)), some (.inl (I 151 (x5).toNat % 1048576))] [] n sh R I Q) else (if ¬ I 156 (x3 - 1).toNat = 1 then XIs (d + 1) 176 16 [some (.inr 137), u1, some (.inl x2), some (.inl (x3 - 1)), some (.inl x4), some (.inl (x5 + 1)), some (.inl (I 151 (x5).toNat / 1048576)), some (.inl (I 151 (x5).toNat % 1048576))] [] n sh R I Q else (zr (x4 + (I 151 (x5).toNat % 1048576))) ∧ XIs (d + 1) 176 16 [some (.inr 137), u1, some (.inl x2), some (.inl x3), some (.inl x4), some (.inl (x4 + (I 151 (x5).toNat % 1048576))), some (.inl (I 151 (x5).toNat / 1048576)), some (.inl (I 151 (x5).toNat % 1048576))] [] n sh R I Q)))) else (zr (x3 - 1)) ∧ (0 ≤ (x3 - 1) ∧ (x3 - 1) < 220) ∧ (zr (1 - I 156 (x3 - 1).toNat)) ∧ XIs (d + 1) 176 16 [some (.inr 137), u1, some (.inl x2), some (.inl x3), some (.inl x4), some (.inl (x5 + 1)), some (.inl (I 151 (x5).toNat / 1048576)), some (.inl (I 151 (x5).toNat % 1048576))] [] n sh R (zup I 156 (x3 - 1).toNat (1 - I 156 (x3 - 1).toNat)) Q) else (if ¬ (I 151 (x5).toNat / 1048576) = 0 then (0 ≤ (I 151 (x5).toNat % 1048576) ∧ (I 151 (x5).toNat % 1048576) < 8) ∧ (0 ≤ x3 ∧ x3 < 220) ∧ (zr (x3 + 1)) ∧ XIs (d + 1) 176 16 [some (.inr 137), u1, some (.inl x2), some (.inl (x3 + 1)), some (.inl x4), some (.inl (x5 + 1)), some (.inl (I 151 (x5).toNat / 1048576)), some (.inl (I 151 (x5).toNat % 1048576))] [] n sh R (zup I 156 (x3).toNat (I 157 (I 151 (x5).toNat % 1048576).toNat)) Q else (0 ≤ x3 ∧ x3 < 220) ∧ (zr (x3 + 1)) ∧ XIs (d + 1) 176 16 [some (.inr 137), u1, some (.inl x2), some (.inl (x3 + 1)), some (.inl x4), some (.inl (x5 + 1)), some (.inl (I 151 (x5).toNat / 1048576)), some (.inl (I 151 (x5).toNat % 1048576))] [] n sh R (zup I 156 (x3).toNat (I 151 (x5).toNat % 1048576)) Q))))) : XIs (d + 1) 176 16 [some (.inr 137), u1, some (.inl x2), some (.inl x3), some (.inl x4), some (.inl x5), u6, u7] [] n sh R I Q := by
  unfold XIs
  refine x_iload d176_16 rfl ?_
  refine x_iload_n d176_18 rfl ?_
  refine x_if2 (pc2 := 233) d176_19 rfl (fun c => ?_) (fun c => ?_)
  · replace c : x2 ≤ x5 := c
    rw [if_pos c] at k
    refine x_aload_n d176_233 rfl ?_
    refine x_getR (r := 156) d176_234 gY_176.2.2.2 gF_12_65 rfl (sh_137 hW) (rf_137_34 hW) (by decide) ?_
    refine x_iconst d176_237 rfl ?_
    refine x_iald d176_238 (sh_156 hW) (by decide) (by decide) ?_
    exact x_iret d176_239 gR_176 ⟨_, _, rfl, rfl, k⟩
  · replace c : ¬ (x2 ≤ x5) := c
    rw [if_neg c] at k
    refine x_aload_n d176_22 rfl ?_
    refine x_getR (r := 151) d176_23 gY_176.2.2.2 gF_12_50 rfl (sh_137 hW) (rf_137_29 hW) (by decide) ?_
    refine x_iload d176_26 rfl ?_
    have e1 := k.1
    replace k := k.2
    refine x_iald d176_28 (sh_151 hW) e1.1 e1.2 ?_
    refine x_ldc d176_29 gY_176.2.2.2 gK_12_216 rfl ?_
    have e2 := k.1
    replace k := k.2
    refine x_idiv d176_31 e2 (by decide) ?_
    refine x_istore (ls2 := [some (.inr 137), u1, some (.inl x2), some (.inl x3), some (.inl x4), some (.inl x5), some (.inl (I 151 (x5).toNat / 1048576)), u7]) d176_32 rfl rfl ?_
    refine x_aload_n d176_34 rfl ?_
    refine x_getR (r := 151) d176_35 gY_176.2.2.2 gF_12_50 rfl (sh_137 hW) (rf_137_29 hW) (by decide) ?_
    refine x_iload d176_38 rfl ?_
    refine x_iald d176_40 (sh_151 hW) e1.1 e1.2 ?_
    refine x_ldc d176_41 gY_176.2.2.2 gK_12_216 rfl ?_
    have e3 := k.1
    replace k := k.2
    refine x_irem d176_43 e3 (by decide) ?_
    refine x_istore (ls2 := [some (.inr 137), u1, some (.inl x2), some (.inl x3), some (.inl x4), some (.inl x5), some (.inl (I 151 (x5).toNat / 1048576)), some (.inl (I 151 (x5).toNat % 1048576))]) d176_44 rfl rfl ?_
    refine x_iload d176_46 rfl ?_
    refine x_iconst d176_48 rfl ?_
    have e4 := k.1
    replace k := k.2
    refine x_iadd d176_49 e4 ?_
    refine x_istore (ls2 := [some (.inr 137), u1, some (.inl x2), some (.inl x3), some (.inl x4), some (.inl (x5 + 1)), some (.inl (I 151 (x5).toNat / 1048576)), some (.inl (I 151 (x5).toNat % 1048576))]) d176_50 rfl rfl ?_
    refine x_iload d176_52 rfl ?_
    refine x_if1 (pc2 := 63) d176_54 rfl (fun c => ?_) (fun c => ?_)
    · replace c : (I 151 (x5).toNat / 1048576) = 0 := c
      rw [if_pos c] at k
      refine x_aload_n d176_63 rfl ?_
      refine x_getR (r := 156) d176_64 gY_176.2.2.2 gF_12_65 rfl (sh_137 hW) (rf_137_34 hW) (by decide) ?_
      refine x_iload_n d176_67 rfl ?_
      refine x_iload d176_68 rfl ?_
      refine x_if1 (pc2 := 78) d176_70 rfl (fun c => ?_) (fun c => ?_)
      · replace c : ¬ (I 151 (x5).toNat / 1048576) = 0 := c
        rw [if_pos c] at k
        refine x_aload_n d176_78 rfl ?_
        refine x_getR (r := 157) d176_79 gY_176.2.2.2 gF_12_68 rfl (sh_137 hW) (rf_137_35 hW) (by decide) ?_
        refine x_iload d176_82 rfl ?_
        have e5 := k.1
        replace k := k.2
        refine x_iald d176_84 (sh_157 hW) e5.1 e5.2 ?_
        have e6 := k.1
        replace k := k.2
        refine x_iast d176_85 (sh_156 hW) e6.1 e6.2 ?_
        refine x_iload_n d176_86 rfl ?_
        refine x_iconst d176_87 rfl ?_
        have e7 := k.1
        replace k := k.2
        refine x_iadd d176_88 e7 ?_
        refine x_istore_n (ls2 := [some (.inr 137), u1, some (.inl x2), some (.inl (x3 + 1)), some (.inl x4), some (.inl (x5 + 1)), some (.inl (I 151 (x5).toNat / 1048576)), some (.inl (I 151 (x5).toNat % 1048576))]) d176_89 rfl rfl ?_
        refine x_goto (pc2 := 230) d176_90 rfl ?_
        refine x_goto (pc2 := 16) d176_230 rfl ?_
        exact k
      · replace c : ¬ (¬ (I 151 (x5).toNat / 1048576) = 0) := c
        rw [if_neg c] at k
        refine x_iload d176_73 rfl ?_
        refine x_goto (pc2 := 85) d176_75 rfl ?_
        have e8 := k.1
        replace k := k.2
        refine x_iast d176_85 (sh_156 hW) e8.1 e8.2 ?_
        refine x_iload_n d176_86 rfl ?_
        refine x_iconst d176_87 rfl ?_
        have e9 := k.1
        replace k := k.2
        refine x_iadd d176_88 e9 ?_
        refine x_istore_n (ls2 := [some (.inr 137), u1, some (.inl x2), some (.inl (x3 + 1)), some (.inl x4), some (.inl (x5 + 1)), some (.inl (I 151 (x5).toNat / 1048576)), some (.inl (I 151 (x5).toNat % 1048576))]) d176_89 rfl rfl ?_
        refine x_goto (pc2 := 230) d176_90 rfl ?_
        refine x_goto (pc2 := 16) d176_230 rfl ?_
        exact k
    · replace c : ¬ ((I 151 (x5).toNat / 1048576) = 0) := c
      rw [if_neg c] at k
      refine x_iload d176_57 rfl ?_
      refine x_iconst d176_59 rfl ?_
      refine x_if2 (pc2 := 93) d176_60 rfl (fun c => ?_) (fun c => ?_)
      · replace c : ¬ (I 151 (x5).toNat / 1048576) = 1 := c
        rw [if_pos c] at k
        refine x_iload d176_93 rfl ?_
        refine x_bipush d176_95 rfl ?_
        refine x_if2 (pc2 := 121) d176_97 rfl (fun c => ?_) (fun c => ?_)
        · replace c : ¬ (I 151 (x5).toNat / 1048576) = 10 := c
          rw [if_pos c] at k
          refine x_iload d176_121 rfl ?_
          refine x_bipush d176_123 rfl ?_
          refine x_if2 (pc2 := 135) d176_125 rfl (fun c => ?_) (fun c => ?_)
          · replace c : (I 151 (x5).toNat / 1048576) = 11 := c
            rw [if_pos c] at k
            refine x_aload_n d176_135 rfl ?_
            refine x_getR (r := 156) d176_136 gY_176.2.2.2 gF_12_65 rfl (sh_137 hW) (rf_137_34 hW) (by decide) ?_
            refine x_iload_n d176_139 rfl ?_
            refine x_iconst d176_140 rfl ?_
            have e10 := k.1
            replace k := k.2
            refine x_isub d176_141 e10 ?_
            have e11 := k.1
            replace k := k.2
            refine x_iald d176_142 (sh_156 hW) e11.1 e11.2 ?_
            refine x_iload d176_143 rfl ?_
            refine x_bipush d176_145 rfl ?_
            refine x_if2 (pc2 := 154) d176_147 rfl (fun c => ?_) (fun c => ?_)
            · replace c : ¬ (I 151 (x5).toNat / 1048576) = 12 := c
              rw [if_pos c] at k
              refine x_iconst d176_154 rfl ?_
              refine x_if2 (pc2 := 168) d176_155 rfl (fun c => ?_) (fun c => ?_)
              · replace c : ¬ I 156 (x3 - 1).toNat = 0 := c
                rw [if_pos c] at k
                refine x_iload_n d176_168 rfl ?_
                refine x_iconst d176_169 rfl ?_
                refine x_isub d176_170 e10 ?_
                refine x_istore_n (ls2 := [some (.inr 137), u1, some (.inl x2), some (.inl (x3 - 1)), some (.inl x4), some (.inl (x5 + 1)), some (.inl (I 151 (x5).toNat / 1048576)), some (.inl (I 151 (x5).toNat % 1048576))]) d176_171 rfl rfl ?_
                refine x_goto (pc2 := 230) d176_172 rfl ?_
                refine x_goto (pc2 := 16) d176_230 rfl ?_
                exact k
              · replace c : ¬ (¬ I 156 (x3 - 1).toNat = 0) := c
                rw [if_neg c] at k
                refine x_iload d176_158 rfl ?_
                refine x_iload d176_160 rfl ?_
                have e12 := k.1
                replace k := k.2
                refine x_iadd d176_162 e12 ?_
                refine x_istore (ls2 := [some (.inr 137), u1, some (.inl x2), some (.inl x3), some (.inl x4), some (.inl (x4 + (I 151 (x5).toNat % 1048576))), some (.inl (I 151 (x5).toNat / 1048576)), some (.inl (I 151 (x5).toNat % 1048576))]) d176_163 rfl rfl ?_
                refine x_goto (pc2 := 230) d176_165 rfl ?_
                refine x_goto (pc2 := 16) d176_230 rfl ?_
                exact k
            · replace c : ¬ (¬ (I 151 (x5).toNat / 1048576) = 12) := c
              rw [if_neg c] at k
              refine x_iconst d176_150 rfl ?_
              refine x_goto (pc2 := 155) d176_151 rfl ?_
              refine x_if2 (pc2 := 168) d176_155 rfl (fun c => ?_) (fun c => ?_)
              · replace c : ¬ I 156 (x3 - 1).toNat = 1 := c
                rw [if_pos c] at k
                refine x_iload_n d176_168 rfl ?_
                refine x_iconst d176_169 rfl ?_
                refine x_isub d176_170 e10 ?_
                refine x_istore_n (ls2 := [some (.inr 137), u1, some (.inl x2), some (.inl (x3 - 1)), some (.inl x4), some (.inl (x5 + 1)), some (.inl (I 151 (x5).toNat / 1048576)), some (.inl (I 151 (x5).toNat % 1048576))]) d176_171 rfl rfl ?_
                refine x_goto (pc2 := 230) d176_172 rfl ?_
                refine x_goto (pc2 := 16) d176_230 rfl ?_
                exact k
              · replace c : ¬ (¬ I 156 (x3 - 1).toNat = 1) := c
                rw [if_neg c] at k
                refine x_iload d176_158 rfl ?_
                refine x_iload d176_160 rfl ?_
                have e13 := k.1
                replace k := k.2
                refine x_iadd d176_162 e13 ?_
                refine x_istore (ls2 := [some (.inr 137), u1, some (.inl x2), some (.inl x3), some (.inl x4), some (.inl (x4 + (I 151 (x5).toNat % 1048576))), some (.inl (I 151 (x5).toNat / 1048576)), some (.inl (I 151 (x5).toNat % 1048576))]) d176_163 rfl rfl ?_
                refine x_goto (pc2 := 230) d176_165 rfl ?_
                refine x_goto (pc2 := 16) d176_230 rfl ?_
                exact k
          · replace c : ¬ ((I 151 (x5).toNat / 1048576) = 11) := c
            rw [if_neg c] at k
            refine x_iload d176_128 rfl ?_
            refine x_bipush d176_130 rfl ?_
            refine x_if2 (pc2 := 175) d176_132 rfl (fun c => ?_) (fun c => ?_)
            · replace c : ¬ (I 151 (x5).toNat / 1048576) = 12 := c
              rw [if_pos c] at k
              refine x_iload_n d176_175 rfl ?_
              refine x_iconst d176_176 rfl ?_
              have e14 := k.1
              replace k := k.2
              refine x_isub d176_177 e14 ?_
              refine x_istore_n (ls2 := [some (.inr 137), u1, some (.inl x2), some (.inl (x3 - 1)), some (.inl x4), some (.inl (x5 + 1)), some (.inl (I 151 (x5).toNat / 1048576)), some (.inl (I 151 (x5).toNat % 1048576))]) d176_178 rfl rfl ?_
              refine x_iload d176_179 rfl ?_
              refine x_iconst d176_181 rfl ?_
              refine x_if2 (pc2 := 192) d176_182 rfl (fun c => ?_) (fun c => ?_)
              · replace c : (I 151 (x5).toNat / 1048576) = 5 := c
                rw [if_pos c] at k
                refine x_aload_n d176_192 rfl ?_
                refine x_getR (r := 156) d176_193 gY_176.2.2.2 gF_12_65 rfl (sh_137 hW) (rf_137_34 hW) (by decide) ?_
                refine x_iload_n d176_196 rfl ?_
                have e15 := k.1
                replace k := k.2
                refine x_iald d176_197 (sh_156 hW) e15.1 e15.2 ?_
                refine x_if1 (pc2 := 203) d176_198 rfl (fun c => ?_) (fun c => ?_)
                · replace c : ¬ I 156 (x3 - 1).toNat = 0 := c
                  rw [if_pos c] at k
                  refine x_aload_n d176_203 rfl ?_
                  refine x_getR (r := 156) d176_204 gY_176.2.2.2 gF_12_65 rfl (sh_137 hW) (rf_137_34 hW) (by decide) ?_
                  refine x_iload_n d176_207 rfl ?_
                  refine x_iconst d176_208 rfl ?_
                  have e16 := k.1
                  replace k := k.2
                  refine x_isub d176_209 e16 ?_
                  refine x_iload d176_210 rfl ?_
                  refine x_aload_n d176_212 rfl ?_
                  refine x_getR (r := 156) d176_213 gY_176.2.2.2 gF_12_65 rfl (sh_137 hW) (rf_137_34 hW) (by decide) ?_
                  refine x_iload_n d176_216 rfl ?_
                  refine x_iconst d176_217 rfl ?_
                  refine x_isub d176_218 e16 ?_
                  have e17 := k.1
                  replace k := k.2
                  refine x_iald d176_219 (sh_156 hW) e17.1 e17.2 ?_
                  refine x_aload_n d176_220 rfl ?_
                  refine x_getR (r := 156) d176_221 gY_176.2.2.2 gF_12_65 rfl (sh_137 hW) (rf_137_34 hW) (by decide) ?_
                  refine x_iload_n d176_224 rfl ?_
                  refine x_iald d176_225 (sh_156 hW) e15.1 e15.2 ?_
                  refine y_insI (as := [.inl (I 151 (x5).toNat / 1048576), .inl (I 156 ((x3 - 1) - 1).toNat), .inl (I 156 (x3 - 1).toNat)]) (t := [.inl ((x3 - 1) - 1), .inr 156]) gY_175 d176_226 gY_176.2.2.2 gM_12_283 rfl rfl k (fun v18 I19 k => ?_)
                  refine x_iast d176_229 (sh_156 hW) e17.1 e17.2 ?_
                  refine x_goto (pc2 := 16) d176_230 rfl ?_
                  exact k
                · replace c : ¬ (¬ I 156 (x3 - 1).toNat = 0) := c
                  rw [if_neg c] at k
                  refine x_iconst d176_201 rfl ?_
                  exact x_iret d176_202 gR_176 ⟨_, _, rfl, rfl, k⟩
              · replace c : ¬ ((I 151 (x5).toNat / 1048576) = 5) := c
                rw [if_neg c] at k
                refine x_iload d176_185 rfl ?_
                refine x_bipush d176_187 rfl ?_
                refine x_if2 (pc2 := 203) d176_189 rfl (fun c => ?_) (fun c => ?_)
                · replace c : ¬ (I 151 (x5).toNat / 1048576) = 6 := c
                  rw [if_pos c] at k
                  refine x_aload_n d176_203 rfl ?_
                  refine x_getR (r := 156) d176_204 gY_176.2.2.2 gF_12_65 rfl (sh_137 hW) (rf_137_34 hW) (by decide) ?_
                  refine x_iload_n d176_207 rfl ?_
                  refine x_iconst d176_208 rfl ?_
                  have e20 := k.1
                  replace k := k.2
                  refine x_isub d176_209 e20 ?_
                  refine x_iload d176_210 rfl ?_
                  refine x_aload_n d176_212 rfl ?_
                  refine x_getR (r := 156) d176_213 gY_176.2.2.2 gF_12_65 rfl (sh_137 hW) (rf_137_34 hW) (by decide) ?_
                  refine x_iload_n d176_216 rfl ?_
                  refine x_iconst d176_217 rfl ?_
                  refine x_isub d176_218 e20 ?_
                  have e21 := k.1
                  replace k := k.2
                  refine x_iald d176_219 (sh_156 hW) e21.1 e21.2 ?_
                  refine x_aload_n d176_220 rfl ?_
                  refine x_getR (r := 156) d176_221 gY_176.2.2.2 gF_12_65 rfl (sh_137 hW) (rf_137_34 hW) (by decide) ?_
                  refine x_iload_n d176_224 rfl ?_
                  have e22 := k.1
                  replace k := k.2
                  refine x_iald d176_225 (sh_156 hW) e22.1 e22.2 ?_
                  refine y_insI (as := [.inl (I 151 (x5).toNat / 1048576), .inl (I 156 ((x3 - 1) - 1).toNat), .inl (I 156 (x3 - 1).toNat)]) (t := [.inl ((x3 - 1) - 1), .inr 156]) gY_175 d176_226 gY_176.2.2.2 gM_12_283 rfl rfl k (fun v23 I24 k => ?_)
                  refine x_iast d176_229 (sh_156 hW) e21.1 e21.2 ?_
                  refine x_goto (pc2 := 16) d176_230 rfl ?_
                  exact k
                · replace c : ¬ (¬ (I 151 (x5).toNat / 1048576) = 6) := c
                  rw [if_neg c] at k
                  refine x_aload_n d176_192 rfl ?_
                  refine x_getR (r := 156) d176_193 gY_176.2.2.2 gF_12_65 rfl (sh_137 hW) (rf_137_34 hW) (by decide) ?_
                  refine x_iload_n d176_196 rfl ?_
                  have e25 := k.1
                  replace k := k.2
                  refine x_iald d176_197 (sh_156 hW) e25.1 e25.2 ?_
                  refine x_if1 (pc2 := 203) d176_198 rfl (fun c => ?_) (fun c => ?_)
                  · replace c : ¬ I 156 (x3 - 1).toNat = 0 := c
                    rw [if_pos c] at k
                    refine x_aload_n d176_203 rfl ?_
                    refine x_getR (r := 156) d176_204 gY_176.2.2.2 gF_12_65 rfl (sh_137 hW) (rf_137_34 hW) (by decide) ?_
                    refine x_iload_n d176_207 rfl ?_
                    refine x_iconst d176_208 rfl ?_
                    have e26 := k.1
                    replace k := k.2
                    refine x_isub d176_209 e26 ?_
                    refine x_iload d176_210 rfl ?_
                    refine x_aload_n d176_212 rfl ?_
                    refine x_getR (r := 156) d176_213 gY_176.2.2.2 gF_12_65 rfl (sh_137 hW) (rf_137_34 hW) (by decide) ?_
                    refine x_iload_n d176_216 rfl ?_
                    refine x_iconst d176_217 rfl ?_
                    refine x_isub d176_218 e26 ?_
                    have e27 := k.1
                    replace k := k.2
                    refine x_iald d176_219 (sh_156 hW) e27.1 e27.2 ?_
                    refine x_aload_n d176_220 rfl ?_
                    refine x_getR (r := 156) d176_221 gY_176.2.2.2 gF_12_65 rfl (sh_137 hW) (rf_137_34 hW) (by decide) ?_
                    refine x_iload_n d176_224 rfl ?_
                    refine x_iald d176_225 (sh_156 hW) e25.1 e25.2 ?_
                    refine y_insI (as := [.inl (I 151 (x5).toNat / 1048576), .inl (I 156 ((x3 - 1) - 1).toNat), .inl (I 156 (x3 - 1).toNat)]) (t := [.inl ((x3 - 1) - 1), .inr 156]) gY_175 d176_226 gY_176.2.2.2 gM_12_283 rfl rfl k (fun v28 I29 k => ?_)
                    refine x_iast d176_229 (sh_156 hW) e27.1 e27.2 ?_
                    refine x_goto (pc2 := 16) d176_230 rfl ?_
                    exact k
                  · replace c : ¬ (¬ I 156 (x3 - 1).toNat = 0) := c
                    rw [if_neg c] at k
                    refine x_iconst d176_201 rfl ?_
                    exact x_iret d176_202 gR_176 ⟨_, _, rfl, rfl, k⟩
            · replace c : ¬ (¬ (I 151 (x5).toNat / 1048576) = 12) := c
              rw [if_neg c] at k
              refine x_aload_n d176_135 rfl ?_
              refine x_getR (r := 156) d176_136 gY_176.2.2.2 gF_12_65 rfl (sh_137 hW) (rf_137_34 hW) (by decide) ?_
              refine x_iload_n d176_139 rfl ?_
              refine x_iconst d176_140 rfl ?_
              have e30 := k.1
              replace k := k.2
              refine x_isub d176_141 e30 ?_
              have e31 := k.1
              replace k := k.2
              refine x_iald d176_142 (sh_156 hW) e31.1 e31.2 ?_
              refine x_iload d176_143 rfl ?_
              refine x_bipush d176_145 rfl ?_
              refine x_if2 (pc2 := 154) d176_147 rfl (fun c => ?_) (fun c => ?_)
              · replace c : ¬ (I 151 (x5).toNat / 1048576) = 12 := c
                rw [if_pos c] at k
                refine x_iconst d176_154 rfl ?_
                refine x_if2 (pc2 := 168) d176_155 rfl (fun c => ?_) (fun c => ?_)
                · replace c : ¬ I 156 (x3 - 1).toNat = 0 := c
                  rw [if_pos c] at k
                  refine x_iload_n d176_168 rfl ?_
                  refine x_iconst d176_169 rfl ?_
                  refine x_isub d176_170 e30 ?_
                  refine x_istore_n (ls2 := [some (.inr 137), u1, some (.inl x2), some (.inl (x3 - 1)), some (.inl x4), some (.inl (x5 + 1)), some (.inl (I 151 (x5).toNat / 1048576)), some (.inl (I 151 (x5).toNat % 1048576))]) d176_171 rfl rfl ?_
                  refine x_goto (pc2 := 230) d176_172 rfl ?_
                  refine x_goto (pc2 := 16) d176_230 rfl ?_
                  exact k
                · replace c : ¬ (¬ I 156 (x3 - 1).toNat = 0) := c
                  rw [if_neg c] at k
                  refine x_iload d176_158 rfl ?_
                  refine x_iload d176_160 rfl ?_
                  have e32 := k.1
                  replace k := k.2
                  refine x_iadd d176_162 e32 ?_
                  refine x_istore (ls2 := [some (.inr 137), u1, some (.inl x2), some (.inl x3), some (.inl x4), some (.inl (x4 + (I 151 (x5).toNat % 1048576))), some (.inl (I 151 (x5).toNat / 1048576)), some (.inl (I 151 (x5).toNat % 1048576))]) d176_163 rfl rfl ?_
                  refine x_goto (pc2 := 230) d176_165 rfl ?_
                  refine x_goto (pc2 := 16) d176_230 rfl ?_
                  exact k
              · replace c : ¬ (¬ (I 151 (x5).toNat / 1048576) = 12) := c
                rw [if_neg c] at k
                refine x_iconst d176_150 rfl ?_
                refine x_goto (pc2 := 155) d176_151 rfl ?_
                refine x_if2 (pc2 := 168) d176_155 rfl (fun c => ?_) (fun c => ?_)
                · replace c : ¬ I 156 (x3 - 1).toNat = 1 := c
                  rw [if_pos c] at k
                  refine x_iload_n d176_168 rfl ?_
                  refine x_iconst d176_169 rfl ?_
                  refine x_isub d176_170 e30 ?_
                  refine x_istore_n (ls2 := [some (.inr 137), u1, some (.inl x2), some (.inl (x3 - 1)), some (.inl x4), some (.inl (x5 + 1)), some (.inl (I 151 (x5).toNat / 1048576)), some (.inl (I 151 (x5).toNat % 1048576))]) d176_171 rfl rfl ?_
                  refine x_goto (pc2 := 230) d176_172 rfl ?_
                  refine x_goto (pc2 := 16) d176_230 rfl ?_
                  exact k
                · replace c : ¬ (¬ I 156 (x3 - 1).toNat = 1) := c
                  rw [if_neg c] at k
                  refine x_iload d176_158 rfl ?_
                  refine x_iload d176_160 rfl ?_
                  have e33 := k.1
                  replace k := k.2
                  refine x_iadd d176_162 e33 ?_
                  refine x_istore (ls2 := [some (.inr 137), u1, some (.inl x2), some (.inl x3), some (.inl x4), some (.inl (x4 + (I 151 (x5).toNat % 1048576))), some (.inl (I 151 (x5).toNat / 1048576)), some (.inl (I 151 (x5).toNat % 1048576))]) d176_163 rfl rfl ?_
                  refine x_goto (pc2 := 230) d176_165 rfl ?_
                  refine x_goto (pc2 := 16) d176_230 rfl ?_
                  exact k
        · replace c : ¬ (¬ (I 151 (x5).toNat / 1048576) = 10) := c
          rw [if_neg c] at k
          refine x_aload_n d176_100 rfl ?_
          refine x_getR (r := 156) d176_101 gY_176.2.2.2 gF_12_65 rfl (sh_137 hW) (rf_137_34 hW) (by decide) ?_
          refine x_iload_n d176_104 rfl ?_
          refine x_iconst d176_105 rfl ?_
          have e34 := k.1
          replace k := k.2
          refine x_isub d176_106 e34 ?_
          refine x_iconst d176_107 rfl ?_
          refine x_aload_n d176_108 rfl ?_
          refine x_getR (r := 156) d176_109 gY_176.2.2.2 gF_12_65 rfl (sh_137 hW) (rf_137_34 hW) (by decide) ?_
          refine x_iload_n d176_112 rfl ?_
          refine x_iconst d176_113 rfl ?_
          refine x_isub d176_114 e34 ?_
          have e35 := k.1
          replace k := k.2
          refine x_iald d176_115 (sh_156 hW) e35.1 e35.2 ?_
          have e36 := k.1
          replace k := k.2
          refine x_isub d176_116 e36 ?_
          refine x_iast d176_117 (sh_156 hW) e35.1 e35.2 ?_
          refine x_goto (pc2 := 230) d176_118 rfl ?_
          refine x_goto (pc2 := 16) d176_230 rfl ?_
          exact k
      · replace c : ¬ (¬ (I 151 (x5).toNat / 1048576) = 1) := c
        rw [if_neg c] at k
        refine x_aload_n d176_63 rfl ?_
        refine x_getR (r := 156) d176_64 gY_176.2.2.2 gF_12_65 rfl (sh_137 hW) (rf_137_34 hW) (by decide) ?_
        refine x_iload_n d176_67 rfl ?_
        refine x_iload d176_68 rfl ?_
        refine x_if1 (pc2 := 78) d176_70 rfl (fun c => ?_) (fun c => ?_)
        · replace c : ¬ (I 151 (x5).toNat / 1048576) = 0 := c
          rw [if_pos c] at k
          refine x_aload_n d176_78 rfl ?_
          refine x_getR (r := 157) d176_79 gY_176.2.2.2 gF_12_68 rfl (sh_137 hW) (rf_137_35 hW) (by decide) ?_
          refine x_iload d176_82 rfl ?_
          have e37 := k.1
          replace k := k.2
          refine x_iald d176_84 (sh_157 hW) e37.1 e37.2 ?_
          have e38 := k.1
          replace k := k.2
          refine x_iast d176_85 (sh_156 hW) e38.1 e38.2 ?_
          refine x_iload_n d176_86 rfl ?_
          refine x_iconst d176_87 rfl ?_
          have e39 := k.1
          replace k := k.2
          refine x_iadd d176_88 e39 ?_
          refine x_istore_n (ls2 := [some (.inr 137), u1, some (.inl x2), some (.inl (x3 + 1)), some (.inl x4), some (.inl (x5 + 1)), some (.inl (I 151 (x5).toNat / 1048576)), some (.inl (I 151 (x5).toNat % 1048576))]) d176_89 rfl rfl ?_
          refine x_goto (pc2 := 230) d176_90 rfl ?_
          refine x_goto (pc2 := 16) d176_230 rfl ?_
          exact k
        · replace c : ¬ (¬ (I 151 (x5).toNat / 1048576) = 0) := c
          rw [if_neg c] at k
          refine x_iload d176_73 rfl ?_
          refine x_goto (pc2 := 85) d176_75 rfl ?_
          have e40 := k.1
          replace k := k.2
          refine x_iast d176_85 (sh_156 hW) e40.1 e40.2 ?_
          refine x_iload_n d176_86 rfl ?_
          refine x_iconst d176_87 rfl ?_
          have e41 := k.1
          replace k := k.2
          refine x_iadd d176_88 e41 ?_
          refine x_istore_n (ls2 := [some (.inr 137), u1, some (.inl x2), some (.inl (x3 + 1)), some (.inl x4), some (.inl (x5 + 1)), some (.inl (I 151 (x5).toNat / 1048576)), some (.inl (I 151 (x5).toNat % 1048576))]) d176_89 rfl rfl ?_
          refine x_goto (pc2 := 230) d176_90 rfl ?_
          refine x_goto (pc2 := 16) d176_230 rfl ?_
          exact k
set_option maxHeartbeats 4000000 in
theorem b_M_byLaw_0 {d n : Nat} {sh : ZS} {R : ZR} {I : ZI} {Q : Int → ZI → Prop} (hW : Wf sh R) {x1 : Int} {x2 : Int}
    (k : XIs (d + 2) 177 2 [some (.inr 137), some (.inl x1), some (.inl x2), some (.inl 0), none] [] n sh R I Q) : XI (d + 2) 177 [.inr 137, .inl x1, .inl x2] n sh R I Q := by
  refine XI.of (ls := [some (.inr 137), some (.inl x1), some (.inl x2), none, none]) (zloc_eq gY_177.2.2.1) ?_
  unfold XIs
  refine x_iconst d177_0 rfl ?_
  refine x_istore_n (ls2 := [some (.inr 137), some (.inl x1), some (.inl x2), some (.inl 0), none]) d177_1 rfl rfl ?_
  exact k
set_option maxHeartbeats 4000000 in
theorem b_M_byLaw_2 {d n : Nat} {sh : ZS} {R : ZR} {I : ZI} {Q : Int → ZI → Prop} (hW : Wf sh R) {x1 : Int} {x2 : Int} {x3 : Int} {u4 : Option AV}
    (k : (if I 137 22 ≤ x3 then Q 0 I else (0 ≤ x3 ∧ x3 < 14) ∧ (if ¬ I 152 (x3).toNat = x1 then (zr (x3 + 1)) ∧ XIs (d + 2) 177 2 [some (.inr 137), some (.inl x1), some (.inl x2), some (.inl (x3 + 1)), u4] [] n sh R I Q else XI (d + 1) 176 [.inr 137, .inl (I 154 (x3).toNat), .inl (I 155 (x3).toNat)] n sh R I (fun v3 I4 => (if v3 = 1 then XI (d + 1) 176 [.inr 137, .inl (I4 153 (x3).toNat), .inl (I4 154 (x3).toNat)] n sh R I4 (fun v5 I6 => (if 0 ≤ v5 then (if v5 ≤ x2 then Q v5 I6 else Q x2 I6) else Q 0 I6)) else (zr (x3 + 1)) ∧ XIs (d + 2) 177 2 [some (.inr 137), some (.inl x1), some (.inl x2), some (.inl (x3 + 1)), u4] [] n sh R I4 Q))))) : XIs (d + 2) 177 2 [some (.inr 137), some (.inl x1), some (.inl x2), some (.inl x3), u4] [] n sh R I Q := by
  unfold XIs
  refine x_iload_n d177_2 rfl ?_
  refine x_aload_n d177_3 rfl ?_
  refine x_getI d177_4 gY_177.2.2.2 gF_12_280 rfl (sh_137 hW) ?_
  refine x_if2 (pc2 := 89) d177_7 rfl (fun c => ?_) (fun c => ?_)
  · replace c : I 137 22 ≤ x3 := c
    rw [if_pos c] at k
    refine x_iconst d177_89 rfl ?_
    exact x_iret d177_90 gR_177 ⟨_, _, rfl, rfl, k⟩
  · replace c : ¬ (I 137 22 ≤ x3) := c
    rw [if_neg c] at k
    refine x_aload_n d177_10 rfl ?_
    refine x_getR (r := 152) d177_11 gY_177.2.2.2 gF_12_53 rfl (sh_137 hW) (rf_137_30 hW) (by decide) ?_
    refine x_iload_n d177_14 rfl ?_
    have e1 := k.1
    replace k := k.2
    refine x_iald d177_15 (sh_152 hW) e1.1 e1.2 ?_
    refine x_iload_n d177_16 rfl ?_
    refine x_if2 (pc2 := 83) d177_17 rfl (fun c => ?_) (fun c => ?_)
    · replace c : ¬ I 152 (x3).toNat = x1 := c
      rw [if_pos c] at k
      have e2 := k.1
      replace k := k.2
      refine x_iinc (ls2 := [some (.inr 137), some (.inl x1), some (.inl x2), some (.inl (x3 + 1)), u4]) d177_83 rfl e2 rfl ?_
      refine x_goto (pc2 := 2) d177_86 rfl ?_
      exact k
    · replace c : ¬ (¬ I 152 (x3).toNat = x1) := c
      rw [if_neg c] at k
      refine x_aload_n d177_20 rfl ?_
      refine x_aload_n d177_21 rfl ?_
      refine x_getR (r := 154) d177_22 gY_177.2.2.2 gF_12_59 rfl (sh_137 hW) (rf_137_32 hW) (by decide) ?_
      refine x_iload_n d177_25 rfl ?_
      refine x_iald d177_26 (sh_154 hW) e1.1 e1.2 ?_
      refine x_aload_n d177_27 rfl ?_
      refine x_getR (r := 155) d177_28 gY_177.2.2.2 gF_12_62 rfl (sh_137 hW) (rf_137_33 hW) (by decide) ?_
      refine x_iload_n d177_31 rfl ?_
      refine x_iald d177_32 (sh_155 hW) e1.1 e1.2 ?_
      refine y_invI (as := [.inl (I 154 (x3).toNat), .inl (I 155 (x3).toNat)]) (t := []) (o := 137) gY_176 d177_33 gY_177.2.2.2 gM_12_287 rfl (sh_137 hW) rfl k (fun v3 I4 k => ?_)
      refine x_iconst d177_36 rfl ?_
      refine x_if2 (pc2 := 43) d177_37 rfl (fun c => ?_) (fun c => ?_)
      · replace c : v3 = 1 := c
        rw [if_pos c] at k
        refine x_aload_n d177_43 rfl ?_
        refine x_aload_n d177_44 rfl ?_
        refine x_getR (r := 153) d177_45 gY_177.2.2.2 gF_12_56 rfl (sh_137 hW) (rf_137_31 hW) (by decide) ?_
        refine x_iload_n d177_48 rfl ?_
        refine x_iald d177_49 (sh_153 hW) e1.1 e1.2 ?_
        refine x_aload_n d177_50 rfl ?_
        refine x_getR (r := 154) d177_51 gY_177.2.2.2 gF_12_59 rfl (sh_137 hW) (rf_137_32 hW) (by decide) ?_
        refine x_iload_n d177_54 rfl ?_
        refine x_iald d177_55 (sh_154 hW) e1.1 e1.2 ?_
        refine y_invI (as := [.inl (I4 153 (x3).toNat), .inl (I4 154 (x3).toNat)]) (t := []) (o := 137) gY_176 d177_56 gY_177.2.2.2 gM_12_287 rfl (sh_137 hW) rfl k (fun v5 I6 k => ?_)
        refine x_istore (ls2 := [some (.inr 137), some (.inl x1), some (.inl x2), some (.inl x3), some (.inl v5)]) d177_59 rfl rfl ?_
        refine x_iload d177_61 rfl ?_
        refine x_if1 (pc2 := 70) d177_63 rfl (fun c => ?_) (fun c => ?_)
        · replace c : 0 ≤ v5 := c
          rw [if_pos c] at k
          refine x_iload d177_70 rfl ?_
          refine x_iload_n d177_72 rfl ?_
          refine x_if2 (pc2 := 80) d177_73 rfl (fun c => ?_) (fun c => ?_)
          · replace c : v5 ≤ x2 := c
            rw [if_pos c] at k
            refine x_iload d177_80 rfl ?_
            exact x_iret d177_82 gR_177 ⟨_, _, rfl, rfl, k⟩
          · replace c : ¬ (v5 ≤ x2) := c
            rw [if_neg c] at k
            refine x_iload_n d177_76 rfl ?_
            refine x_goto (pc2 := 82) d177_77 rfl ?_
            exact x_iret d177_82 gR_177 ⟨_, _, rfl, rfl, k⟩
        · replace c : ¬ (0 ≤ v5) := c
          rw [if_neg c] at k
          refine x_iconst d177_66 rfl ?_
          refine x_goto (pc2 := 82) d177_67 rfl ?_
          exact x_iret d177_82 gR_177 ⟨_, _, rfl, rfl, k⟩
      · replace c : ¬ (v3 = 1) := c
        rw [if_neg c] at k
        refine x_goto (pc2 := 83) d177_40 rfl ?_
        have e7 := k.1
        replace k := k.2
        refine x_iinc (ls2 := [some (.inr 137), some (.inl x1), some (.inl x2), some (.inl (x3 + 1)), u4]) d177_83 rfl e7 rfl ?_
        refine x_goto (pc2 := 2) d177_86 rfl ?_
        exact k
set_option maxHeartbeats 4000000 in
theorem b_M_feels_0 {d n : Nat} {sh : ZS} {R : ZR} {I : ZI} {Q : ZI → Prop} (hW : Wf sh R) {x1 : Int}
    (k : (0 ≤ x1 ∧ x1 < 32) ∧ (0 ≤ I 142 (x1).toNat ∧ I 142 (x1).toNat < 32) ∧ (0 ≤ I 138 (I 142 (x1).toNat).toNat ∧ I 138 (I 142 (x1).toNat).toNat < 20) ∧ Q (zup (zup (zup (zup (zup (zup (zup (zup I 157 0 (I 138 (I 142 (x1).toNat).toNat)) 157 1 (I 143 (I 138 (I 142 (x1).toNat).toNat).toNat)) 157 2 (I 139 (I 142 (x1).toNat).toNat)) 157 3 (I 142 (x1).toNat)) 157 4 x1) 157 5 (I 137 2)) 157 6 (I 141 (I 142 (x1).toNat).toNat)) 157 7 (I 137 3))) : XV (d + 1) 178 [.inr 137, .inl x1] n sh R I Q := by
  refine XV.of (ls := [some (.inr 137), some (.inl x1), none]) (zloc_eq gY_178.2.2.1) ?_
  unfold XVs
  refine x_aload_n d178_0 rfl ?_
  refine x_getR (r := 142) d178_1 gY_178.2.2.2 gF_12_22 rfl (sh_137 hW) (rf_137_10 hW) (by decide) ?_
  refine x_iload_n d178_4 rfl ?_
  have e1 := k.1
  replace k := k.2
  refine x_iald d178_5 (sh_142 hW) e1.1 e1.2 ?_
  refine x_istore_n (ls2 := [some (.inr 137), some (.inl x1), some (.inl (I 142 (x1).toNat))]) d178_6 rfl rfl ?_
  refine x_aload_n d178_7 rfl ?_
  refine x_getR (r := 157) d178_8 gY_178.2.2.2 gF_12_68 rfl (sh_137 hW) (rf_137_35 hW) (by decide) ?_
  refine x_iconst d178_11 rfl ?_
  refine x_aload_n d178_12 rfl ?_
  refine x_getR (r := 138) d178_13 gY_178.2.2.2 gF_12_7 rfl (sh_137 hW) (rf_137_6 hW) (by decide) ?_
  refine x_iload_n d178_16 rfl ?_
  have e2 := k.1
  replace k := k.2
  refine x_iald d178_17 (sh_138 hW) e2.1 e2.2 ?_
  refine x_iast d178_18 (sh_157 hW) (by decide) (by decide) ?_
  refine x_aload_n d178_19 rfl ?_
  refine x_getR (r := 157) d178_20 gY_178.2.2.2 gF_12_68 rfl (sh_137 hW) (rf_137_35 hW) (by decide) ?_
  refine x_iconst d178_23 rfl ?_
  refine x_aload_n d178_24 rfl ?_
  refine x_iload_n d178_25 rfl ?_
  refine y_inv (as := [.inl (I 142 (x1).toNat)]) (t := [.inl 1, .inr 157]) (o := 137) (ls2 := [some (.inr 137), some (.inl (I 142 (x1).toNat))]) gY_146 d178_26 gY_178.2.2.2 gM_12_291 rfl (sh_137 hW) rfl rfl ?_
  refine x_aload_n d146_0 rfl ?_
  refine x_getR (r := 143) d146_1 gY_146.2.2.2 gF_12_25 rfl (sh_137 hW) (rf_137_11 hW) (by decide) ?_
  refine x_aload_n d146_4 rfl ?_
  refine x_getR (r := 138) d146_5 gY_146.2.2.2 gF_12_7 rfl (sh_137 hW) (rf_137_6 hW) (by decide) ?_
  refine x_iload_n d146_8 rfl ?_
  refine x_iald d146_9 (sh_138 hW) e2.1 e2.2 ?_
  have e3 := k.1
  replace k := k.2
  refine x_iald d146_10 (sh_143 hW) e3.1 e3.2 ?_
  refine x_iret d146_11 gR_146 ?_
  show Ex (d + 1) 178 29 [some (.inr 137), some (.inl x1), some (.inl (I 142 (x1).toNat))] [.inl (I 143 (I 138 (I 142 (x1).toNat).toNat).toNat), .inl 1, .inr 157] (0, 0, n, sh, R, (zup I 157 0 (I 138 (I 142 (x1).toNat).toNat))) _
  refine x_iast d178_29 (sh_157 hW) (by decide) (by decide) ?_
  refine x_aload_n d178_30 rfl ?_
  refine x_getR (r := 157) d178_31 gY_178.2.2.2 gF_12_68 rfl (sh_137 hW) (rf_137_35 hW) (by decide) ?_
  refine x_iconst d178_34 rfl ?_
  refine x_aload_n d178_35 rfl ?_
  refine x_getR (r := 139) d178_36 gY_178.2.2.2 gF_12_13 rfl (sh_137 hW) (rf_137_7 hW) (by decide) ?_
  refine x_iload_n d178_39 rfl ?_
  refine x_iald d178_40 (sh_139 hW) e2.1 e2.2 ?_
  refine x_iast d178_41 (sh_157 hW) (by decide) (by decide) ?_
  refine x_aload_n d178_42 rfl ?_
  refine x_getR (r := 157) d178_43 gY_178.2.2.2 gF_12_68 rfl (sh_137 hW) (rf_137_35 hW) (by decide) ?_
  refine x_iconst d178_46 rfl ?_
  refine x_iload_n d178_47 rfl ?_
  refine x_iast d178_48 (sh_157 hW) (by decide) (by decide) ?_
  refine x_aload_n d178_49 rfl ?_
  refine x_getR (r := 157) d178_50 gY_178.2.2.2 gF_12_68 rfl (sh_137 hW) (rf_137_35 hW) (by decide) ?_
  refine x_iconst d178_53 rfl ?_
  refine x_iload_n d178_54 rfl ?_
  refine x_iast d178_55 (sh_157 hW) (by decide) (by decide) ?_
  refine x_aload_n d178_56 rfl ?_
  refine x_getR (r := 157) d178_57 gY_178.2.2.2 gF_12_68 rfl (sh_137 hW) (rf_137_35 hW) (by decide) ?_
  refine x_iconst d178_60 rfl ?_
  refine x_aload_n d178_61 rfl ?_
  refine x_getI d178_62 gY_178.2.2.2 gF_12_173 rfl (sh_137 hW) ?_
  refine x_iast d178_65 (sh_157 hW) (by decide) (by decide) ?_
  refine x_aload_n d178_66 rfl ?_
  refine x_getR (r := 157) d178_67 gY_178.2.2.2 gF_12_68 rfl (sh_137 hW) (rf_137_35 hW) (by decide) ?_
  refine x_bipush d178_70 rfl ?_
  refine x_aload_n d178_72 rfl ?_
  refine x_getR (r := 141) d178_73 gY_178.2.2.2 gF_12_19 rfl (sh_137 hW) (rf_137_9 hW) (by decide) ?_
  refine x_iload_n d178_76 rfl ?_
  refine x_iald d178_77 (sh_141 hW) e2.1 e2.2 ?_
  refine x_iast d178_78 (sh_157 hW) (by decide) (by decide) ?_
  refine x_aload_n d178_79 rfl ?_
  refine x_getR (r := 157) d178_80 gY_178.2.2.2 gF_12_68 rfl (sh_137 hW) (rf_137_35 hW) (by decide) ?_
  refine x_bipush d178_83 rfl ?_
  refine x_aload_n d178_85 rfl ?_
  refine x_getI d178_86 gY_178.2.2.2 gF_12_156 rfl (sh_137 hW) ?_
  refine x_iast d178_89 (sh_157 hW) (by decide) (by decide) ?_
  exact x_vret d178_90 gR_178 ⟨_, rfl, rfl, k⟩
set_option maxHeartbeats 4000000 in
theorem b_M_isLeftOut_0 {d n : Nat} {sh : ZS} {R : ZR} {I : ZI} {Q : Int → ZI → Prop} (hW : Wf sh R) {x1 : Int}
    (k : XV (d + 1) 178 [.inr 137, .inl x1] n sh R I (fun I2 => XIs (d + 2) 179 7 [some (.inr 137), some (.inl x1), some (.inl 0)] [] n sh R I2 Q)) : XI (d + 2) 179 [.inr 137, .inl x1] n sh R I Q := by
  refine XI.of (ls := [some (.inr 137), some (.inl x1), none]) (zloc_eq gY_179.2.2.1) ?_
  unfold XIs
  refine x_aload_n d179_0 rfl ?_
  refine x_iload_n d179_1 rfl ?_
  refine y_invV (as := [.inl x1]) (t := []) (o := 137) gY_178 d179_2 gY_179.2.2.2 gM_12_294 rfl (sh_137 hW) rfl k (fun I2 k => ?_)
  refine x_iconst d179_5 rfl ?_
  refine x_istore_n (ls2 := [some (.inr 137), some (.inl x1), some (.inl 0)]) d179_6 rfl rfl ?_
  exact k
set_option maxHeartbeats 4000000 in
theorem b_M_isLeftOut_7 {d n : Nat} {sh : ZS} {R : ZR} {I : ZI} {Q : Int → ZI → Prop} (hW : Wf sh R) {u1 : Option AV} {x2 : Int}
    (k : (if I 137 22 ≤ x2 then Q 0 I else (0 ≤ x2 ∧ x2 < 14) ∧ (if ¬ I 152 (x2).toNat = 122 then (zr (x2 + 1)) ∧ XIs (d + 2) 179 7 [some (.inr 137), u1, some (.inl (x2 + 1))] [] n sh R I Q else XI (d + 1) 176 [.inr 137, .inl (I 154 (x2).toNat), .inl (I 155 (x2).toNat)] n sh R I (fun v3 I4 => (if ¬ v3 = 1 then (zr (x2 + 1)) ∧ XIs (d + 2) 179 7 [some (.inr 137), u1, some (.inl (x2 + 1))] [] n sh R I4 Q else Q 1 I4))))) : XIs (d + 2) 179 7 [some (.inr 137), u1, some (.inl x2)] [] n sh R I Q := by
  unfold XIs
  refine x_iload_n d179_7 rfl ?_
  refine x_aload_n d179_8 rfl ?_
  refine x_getI d179_9 gY_179.2.2.2 gF_12_280 rfl (sh_137 hW) ?_
  refine x_if2 (pc2 := 54) d179_12 rfl (fun c => ?_) (fun c => ?_)
  · replace c : I 137 22 ≤ x2 := c
    rw [if_pos c] at k
    refine x_iconst d179_54 rfl ?_
    exact x_zret d179_55 gR_179 (by decide) ⟨_, _, rfl, rfl, k⟩
  · replace c : ¬ (I 137 22 ≤ x2) := c
    rw [if_neg c] at k
    refine x_aload_n d179_15 rfl ?_
    refine x_getR (r := 152) d179_16 gY_179.2.2.2 gF_12_53 rfl (sh_137 hW) (rf_137_30 hW) (by decide) ?_
    refine x_iload_n d179_19 rfl ?_
    have e1 := k.1
    replace k := k.2
    refine x_iald d179_20 (sh_152 hW) e1.1 e1.2 ?_
    refine x_bipush d179_21 rfl ?_
    refine x_if2 (pc2 := 48) d179_23 rfl (fun c => ?_) (fun c => ?_)
    · replace c : ¬ I 152 (x2).toNat = 122 := c
      rw [if_pos c] at k
      have e2 := k.1
      replace k := k.2
      refine x_iinc (ls2 := [some (.inr 137), u1, some (.inl (x2 + 1))]) d179_48 rfl e2 rfl ?_
      refine x_goto (pc2 := 7) d179_51 rfl ?_
      exact k
    · replace c : ¬ (¬ I 152 (x2).toNat = 122) := c
      rw [if_neg c] at k
      refine x_aload_n d179_26 rfl ?_
      refine x_aload_n d179_27 rfl ?_
      refine x_getR (r := 154) d179_28 gY_179.2.2.2 gF_12_59 rfl (sh_137 hW) (rf_137_32 hW) (by decide) ?_
      refine x_iload_n d179_31 rfl ?_
      refine x_iald d179_32 (sh_154 hW) e1.1 e1.2 ?_
      refine x_aload_n d179_33 rfl ?_
      refine x_getR (r := 155) d179_34 gY_179.2.2.2 gF_12_62 rfl (sh_137 hW) (rf_137_33 hW) (by decide) ?_
      refine x_iload_n d179_37 rfl ?_
      refine x_iald d179_38 (sh_155 hW) e1.1 e1.2 ?_
      refine y_invI (as := [.inl (I 154 (x2).toNat), .inl (I 155 (x2).toNat)]) (t := []) (o := 137) gY_176 d179_39 gY_179.2.2.2 gM_12_287 rfl (sh_137 hW) rfl k (fun v3 I4 k => ?_)
      refine x_iconst d179_42 rfl ?_
      refine x_if2 (pc2 := 48) d179_43 rfl (fun c => ?_) (fun c => ?_)
      · replace c : ¬ v3 = 1 := c
        rw [if_pos c] at k
        have e5 := k.1
        replace k := k.2
        refine x_iinc (ls2 := [some (.inr 137), u1, some (.inl (x2 + 1))]) d179_48 rfl e5 rfl ?_
        refine x_goto (pc2 := 7) d179_51 rfl ?_
        exact k
      · replace c : ¬ (¬ v3 = 1) := c
        rw [if_neg c] at k
        refine x_iconst d179_46 rfl ?_
        exact x_zret d179_47 gR_179 (by decide) ⟨_, _, rfl, rfl, k⟩
set_option maxHeartbeats 4000000 in
theorem b_M_holeFor_0 {d n : Nat} {sh : ZS} {R : ZR} {I : ZI} {Q : Int → ZI → Prop} (hW : Wf sh R) {x1 : Int}
    (k : XV (d + 2) 178 [.inr 137, .inl x1] n sh R I (fun I2 => (zr (I2 137 3 - 1)) ∧ XI (d + 2) 177 [.inr 137, .inl 104, .inl (I2 137 3 - 1)] n sh R I2 (fun v4 I5 => Q v4 I5))) : XI (d + 3) 180 [.inr 137, .inl x1] n sh R I Q := by
  refine XI.of (ls := [some (.inr 137), some (.inl x1)]) (zloc_eq gY_180.2.2.1) ?_
  unfold XIs
  refine x_aload_n d180_0 rfl ?_
  refine x_iload_n d180_1 rfl ?_
  refine y_invV (as := [.inl x1]) (t := []) (o := 137) gY_178 d180_2 gY_180.2.2.2 gM_12_294 rfl (sh_137 hW) rfl k (fun I2 k => ?_)
  refine x_aload_n d180_5 rfl ?_
  refine x_bipush d180_6 rfl ?_
  refine x_aload_n d180_8 rfl ?_
  refine x_getI d180_9 gY_180.2.2.2 gF_12_156 rfl (sh_137 hW) ?_
  refine x_iconst d180_12 rfl ?_
  have e3 := k.1
  replace k := k.2
  refine x_isub d180_13 e3 ?_
  refine y_invI (as := [.inl 104, .inl (I2 137 3 - 1)]) (t := []) (o := 137) gY_177 d180_14 gY_180.2.2.2 gM_12_297 rfl (sh_137 hW) rfl k (fun v4 I5 k => ?_)
  exact x_iret d180_17 gR_180 ⟨_, _, rfl, rfl, k⟩
set_option maxHeartbeats 4000000 in
theorem b_M_secondsFor_0 {d n : Nat} {sh : ZS} {R : ZR} {I : ZI} {Q : Int → ZI → Prop} (hW : Wf sh R) {x1 : Int}
    (k : XV (d + 2) 178 [.inr 137, .inl x1] n sh R I (fun I2 => XI (d + 2) 177 [.inr 137, .inl 116, .inl 99] n sh R I2 (fun v3 I4 => Q v3 I4))) : XI (d + 3) 181 [.inr 137, .inl x1] n sh R I Q := by
  refine XI.of (ls := [some (.inr 137), some (.inl x1)]) (zloc_eq gY_181.2.2.1) ?_
  unfold XIs
  refine x_aload_n d181_0 rfl ?_
  refine x_iload_n d181_1 rfl ?_
  refine y_invV (as := [.inl x1]) (t := []) (o := 137) gY_178 d181_2 gY_181.2.2.2 gM_12_294 rfl (sh_137 hW) rfl k (fun I2 k => ?_)
  refine x_aload_n d181_5 rfl ?_
  refine x_bipush d181_6 rfl ?_
  refine x_bipush d181_8 rfl ?_
  refine y_invI (as := [.inl 116, .inl 99]) (t := []) (o := 137) gY_177 d181_10 gY_181.2.2.2 gM_12_297 rfl (sh_137 hW) rfl k (fun v3 I4 k => ?_)
  exact x_iret d181_13 gR_181 ⟨_, _, rfl, rfl, k⟩
set_option maxHeartbeats 4000000 in
theorem b_M_comeAhead_0 {d n : Nat} {sh : ZS} {R : ZR} {I : ZI} {Q : ZI → Prop} (hW : Wf sh R) 
    (k : XVs (d + 1) 182 2 [some (.inr 137), some (.inl 0)] [] n sh R I Q) : XV (d + 1) 182 [.inr 137] n sh R I Q := by
  refine XV.of (ls := [some (.inr 137), none]) (zloc_eq gY_182.2.2.1) ?_
  unfold XVs
  refine x_iconst d182_0 rfl ?_
  refine x_istore_n (ls2 := [some (.inr 137), some (.inl 0)]) d182_1 rfl rfl ?_
  exact k
set_option maxHeartbeats 4000000 in
theorem b_M_comeAhead_2 {d n : Nat} {sh : ZS} {R : ZR} {I : ZI} {Q : ZI → Prop} (hW : Wf sh R) {x1 : Int}
    (k : (if I 137 0 ≤ x1 then Q I else (0 ≤ x1 ∧ x1 < 32) ∧ (zr (I 137 2 + 1)) ∧ (if ¬ I 140 (x1).toNat = (I 137 2 + 1) then (zr (x1 + 1)) ∧ XVs (d + 1) 182 2 [some (.inr 137), some (.inl (x1 + 1))] [] n sh R I Q else (0 ≤ I 137 1 ∧ I 137 1 < 32) ∧ (zr (I 137 1 + 1)) ∧ (zr (x1 + 1)) ∧ XVs (d + 1) 182 2 [some (.inr 137), some (.inl (x1 + 1))] [] n sh R (zup (zup I 142 (I 137 1).toNat x1) 137 1 (I 137 1 + 1)) Q))) : XVs (d + 1) 182 2 [some (.inr 137), some (.inl x1)] [] n sh R I Q := by
  unfold XVs
  refine x_iload_n d182_2 rfl ?_
  refine x_aload_n d182_3 rfl ?_
  refine x_getI d182_4 gY_182.2.2.2 gF_12_159 rfl (sh_137 hW) ?_
  refine x_if2 (pc2 := 36) d182_7 rfl (fun c => ?_) (fun c => ?_)
  · replace c : I 137 0 ≤ x1 := c
    rw [if_pos c] at k
    exact x_vret d182_36 gR_182 ⟨_, rfl, rfl, k⟩
  · replace c : ¬ (I 137 0 ≤ x1) := c
    rw [if_neg c] at k
    refine x_aload_n d182_10 rfl ?_
    refine x_getR (r := 140) d182_11 gY_182.2.2.2 gF_12_16 rfl (sh_137 hW) (rf_137_8 hW) (by decide) ?_
    refine x_iload_n d182_14 rfl ?_
    have e1 := k.1
    replace k := k.2
    refine x_iald d182_15 (sh_140 hW) e1.1 e1.2 ?_
    refine x_aload_n d182_16 rfl ?_
    refine x_getI d182_17 gY_182.2.2.2 gF_12_173 rfl (sh_137 hW) ?_
    refine x_iconst d182_20 rfl ?_
    have e2 := k.1
    replace k := k.2
    refine x_iadd d182_21 e2 ?_
    refine x_if2 (pc2 := 30) d182_22 rfl (fun c => ?_) (fun c => ?_)
    · replace c : ¬ I 140 (x1).toNat = (I 137 2 + 1) := c
      rw [if_pos c] at k
      have e3 := k.1
      replace k := k.2
      refine x_iinc (ls2 := [some (.inr 137), some (.inl (x1 + 1))]) d182_30 rfl e3 rfl ?_
      refine x_goto (pc2 := 2) d182_33 rfl ?_
      exact k
    · replace c : ¬ (¬ I 140 (x1).toNat = (I 137 2 + 1)) := c
      rw [if_neg c] at k
      refine x_aload_n d182_25 rfl ?_
      refine x_iload_n d182_26 rfl ?_
      refine y_inv (as := [.inl x1]) (t := []) (o := 137) (ls2 := [some (.inr 137), some (.inl x1)]) gY_147 d182_27 gY_182.2.2.2 gM_12_176 rfl (sh_137 hW) rfl rfl ?_
      refine x_aload_n d147_0 rfl ?_
      refine x_getR (r := 142) d147_1 gY_147.2.2.2 gF_12_22 rfl (sh_137 hW) (rf_137_10 hW) (by decide) ?_
      refine x_aload_n d147_4 rfl ?_
      refine x_getI d147_5 gY_147.2.2.2 gF_12_162 rfl (sh_137 hW) ?_
      refine x_iload_n d147_8 rfl ?_
      have e4 := k.1
      replace k := k.2
      refine x_iast d147_9 (sh_142 hW) e4.1 e4.2 ?_
      refine x_aload_n d147_10 rfl ?_
      refine x_aload_n d147_11 rfl ?_
      refine x_getI d147_12 gY_147.2.2.2 gF_12_162 rfl (sh_137 hW) ?_
      refine x_iconst d147_15 rfl ?_
      have e5 := k.1
      replace k := k.2
      refine x_iadd d147_16 e5 ?_
      refine x_putI d147_17 gY_147.2.2.2 gF_12_162 rfl rfl (sh_137 hW) ?_
      refine x_vret d147_20 gR_147 ?_
      show Ex (d + 1) 182 30 [some (.inr 137), some (.inl x1)] [] (0, 0, n, sh, R, (zup (zup I 142 (I 137 1).toNat x1) 137 1 (I 137 1 + 1))) _
      have e6 := k.1
      replace k := k.2
      refine x_iinc (ls2 := [some (.inr 137), some (.inl (x1 + 1))]) d182_30 rfl e6 rfl ?_
      refine x_goto (pc2 := 2) d182_33 rfl ?_
      exact k
set_option maxHeartbeats 4000000 in
theorem b_M_givesBack_0 {d n : Nat} {sh : ZS} {R : ZR} {I : ZI} {Q : ZI → Prop} (hW : Wf sh R) 
    (k : XVs (d + 1) 183 4 [some (.inr 137), some (.inl 0), some (.inl 0), none, none] [] n sh R I Q) : XV (d + 1) 183 [.inr 137] n sh R I Q := by
  refine XV.of (ls := [some (.inr 137), none, none, none, none]) (zloc_eq gY_183.2.2.1) ?_
  unfold XVs
  refine x_iconst d183_0 rfl ?_
  refine x_istore_n (ls2 := [some (.inr 137), some (.inl 0), none, none, none]) d183_1 rfl rfl ?_
  refine x_iconst d183_2 rfl ?_
  refine x_istore_n (ls2 := [some (.inr 137), some (.inl 0), some (.inl 0), none, none]) d183_3 rfl rfl ?_
  exact k
set_option maxHeartbeats 4000000 in
theorem b_M_givesBack_4 {d n : Nat} {sh : ZS} {R : ZR} {I : ZI} {Q : ZI → Prop} (hW : Wf sh R) {x1 : Int} {x2 : Int} {u3 : Option AV} {u4 : Option AV}
    (k : (if I 137 1 ≤ x2 then XVs (d + 1) 183 49 [some (.inr 137), some (.inl x1), some (.inl 0), u3, u4] [] n sh R I Q else (0 ≤ x2 ∧ x2 < 32) ∧ (if I 158 (x2).toNat = (-1) then (0 ≤ x1 ∧ x1 < 32) ∧ (zr (x1 + 1)) ∧ (zr (x2 + 1)) ∧ XVs (d + 1) 183 4 [some (.inr 137), some (.inl (x1 + 1)), some (.inl (x2 + 1)), u3, u4] [] n sh R (zup I 159 (x1).toNat (I 142 (x2).toNat)) Q else (zr (x2 + 1)) ∧ XVs (d + 1) 183 4 [some (.inr 137), some (.inl x1), some (.inl (x2 + 1)), u3, u4] [] n sh R I Q))) : XVs (d + 1) 183 4 [some (.inr 137), some (.inl x1), some (.inl x2), u3, u4] [] n sh R I Q := by
  unfold XVs
  refine x_iload_n d183_4 rfl ?_
  refine x_aload_n d183_5 rfl ?_
  refine x_getI d183_6 gY_183.2.2.2 gF_12_162 rfl (sh_137 hW) ?_
  refine x_if2 (pc2 := 47) d183_9 rfl (fun c => ?_) (fun c => ?_)
  · replace c : I 137 1 ≤ x2 := c
    rw [if_pos c] at k
    refine x_iconst d183_47 rfl ?_
    refine x_istore_n (ls2 := [some (.inr 137), some (.inl x1), some (.inl 0), u3, u4]) d183_48 rfl rfl ?_
    exact k
  · replace c : ¬ (I 137 1 ≤ x2) := c
    rw [if_neg c] at k
    refine x_aload_n d183_12 rfl ?_
    refine x_getR (r := 158) d183_13 gY_183.2.2.2 gF_12_71 rfl (sh_137 hW) (rf_137_39 hW) (by decide) ?_
    refine x_iload_n d183_16 rfl ?_
    have e1 := k.1
    replace k := k.2
    refine x_iald d183_17 (sh_158 hW) e1.1 e1.2 ?_
    refine x_iconst d183_18 rfl ?_
    refine x_if2 (pc2 := 25) d183_19 rfl (fun c => ?_) (fun c => ?_)
    · replace c : I 158 (x2).toNat = (-1) := c
      rw [if_pos c] at k
      refine x_aload_n d183_25 rfl ?_
      refine x_getR (r := 159) d183_26 gY_183.2.2.2 gF_12_74 rfl (sh_137 hW) (rf_137_40 hW) (by decide) ?_
      refine x_iload_n d183_29 rfl ?_
      refine x_aload_n d183_30 rfl ?_
      refine x_getR (r := 142) d183_31 gY_183.2.2.2 gF_12_22 rfl (sh_137 hW) (rf_137_10 hW) (by decide) ?_
      refine x_iload_n d183_34 rfl ?_
      refine x_iald d183_35 (sh_142 hW) e1.1 e1.2 ?_
      have e2 := k.1
      replace k := k.2
      refine x_iast d183_36 (sh_159 hW) e2.1 e2.2 ?_
      refine x_iload_n d183_37 rfl ?_
      refine x_iconst d183_38 rfl ?_
      have e3 := k.1
      replace k := k.2
      refine x_iadd d183_39 e3 ?_
      refine x_istore_n (ls2 := [some (.inr 137), some (.inl (x1 + 1)), some (.inl x2), u3, u4]) d183_40 rfl rfl ?_
      have e4 := k.1
      replace k := k.2
      refine x_iinc (ls2 := [some (.inr 137), some (.inl (x1 + 1)), some (.inl (x2 + 1)), u3, u4]) d183_41 rfl e4 rfl ?_
      refine x_goto (pc2 := 4) d183_44 rfl ?_
      exact k
    · replace c : ¬ (I 158 (x2).toNat = (-1)) := c
      rw [if_neg c] at k
      refine x_goto (pc2 := 41) d183_22 rfl ?_
      have e5 := k.1
      replace k := k.2
      refine x_iinc (ls2 := [some (.inr 137), some (.inl x1), some (.inl (x2 + 1)), u3, u4]) d183_41 rfl e5 rfl ?_
      refine x_goto (pc2 := 4) d183_44 rfl ?_
      exact k
set_option maxHeartbeats 4000000 in
theorem b_M_givesBack_49 {d n : Nat} {sh : ZS} {R : ZR} {I : ZI} {Q : ZI → Prop} (hW : Wf sh R) {x1 : Int} {x2 : Int} {u3 : Option AV} {u4 : Option AV}
    (k : (if I 137 3 ≤ x2 then XVs (d + 1) 183 137 [some (.inr 137), some (.inl x1), some (.inl 0), u3, u4] [] n sh R I Q else XVs (d + 1) 183 59 [some (.inr 137), some (.inl x1), some (.inl x2), some (.inl 0), u4] [] n sh R I Q)) : XVs (d + 1) 183 49 [some (.inr 137), some (.inl x1), some (.inl x2), u3, u4] [] n sh R I Q := by
  unfold XVs
  refine x_iload_n d183_49 rfl ?_
  refine x_aload_n d183_50 rfl ?_
  refine x_getI d183_51 gY_183.2.2.2 gF_12_156 rfl (sh_137 hW) ?_
  refine x_if2 (pc2 := 135) d183_54 rfl (fun c => ?_) (fun c => ?_)
  · replace c : I 137 3 ≤ x2 := c
    rw [if_pos c] at k
    refine x_iconst d183_135 rfl ?_
    refine x_istore_n (ls2 := [some (.inr 137), some (.inl x1), some (.inl 0), u3, u4]) d183_136 rfl rfl ?_
    exact k
  · replace c : ¬ (I 137 3 ≤ x2) := c
    rw [if_neg c] at k
    refine x_iconst d183_57 rfl ?_
    refine x_istore_n (ls2 := [some (.inr 137), some (.inl x1), some (.inl x2), some (.inl 0), u4]) d183_58 rfl rfl ?_
    exact k
set_option maxHeartbeats 4000000 in
theorem b_M_givesBack_59 {d n : Nat} {sh : ZS} {R : ZR} {I : ZI} {Q : ZI → Prop} (hW : Wf sh R) {x1 : Int} {x2 : Int} {x3 : Int} {u4 : Option AV}
    (k : (if I 137 1 ≤ x3 then (zr (x2 + 1)) ∧ XVs (d + 1) 183 49 [some (.inr 137), some (.inl x1), some (.inl (x2 + 1)), some (.inl x3), u4] [] n sh R I Q else (if ¬ (zand (zshr (I 137 4) x2) 1) = 1 then (0 ≤ x3 ∧ x3 < 32) ∧ (if I 158 (x3).toNat = x2 then (0 ≤ x1 ∧ x1 < 32) ∧ (zr (x1 + 1)) ∧ (zr (x3 + 1)) ∧ XVs (d + 1) 183 59 [some (.inr 137), some (.inl (x1 + 1)), some (.inl x2), some (.inl (x3 + 1)), some (.inl x3)] [] n sh R (zup I 159 (x1).toNat (I 142 (x3).toNat)) Q else (zr (x3 + 1)) ∧ XVs (d + 1) 183 59 [some (.inr 137), some (.inl x1), some (.inl x2), some (.inl (x3 + 1)), some (.inl x3)] [] n sh R I Q) else (zr (I 137 1 - 1)) ∧ (zr ((I 137 1 - 1) - x3)) ∧ (0 ≤ ((I 137 1 - 1) - x3) ∧ ((I 137 1 - 1) - x3) < 32) ∧ (if I 158 ((I 137 1 - 1) - x3).toNat = x2 then (0 ≤ x1 ∧ x1 < 32) ∧ (zr (x1 + 1)) ∧ (zr (x3 + 1)) ∧ XVs (d + 1) 183 59 [some (.inr 137), some (.inl (x1 + 1)), some (.inl x2), some (.inl (x3 + 1)), some (.inl ((I 137 1 - 1) - x3))] [] n sh R (zup I 159 (x1).toNat (I 142 ((I 137 1 - 1) - x3).toNat)) Q else (zr (x3 + 1)) ∧ XVs (d + 1) 183 59 [some (.inr 137), some (.inl x1), some (.inl x2), some (.inl (x3 + 1)), some (.inl ((I 137 1 - 1) - x3))] [] n sh R I Q)))) : XVs (d + 1) 183 59 [some (.inr 137), some (.inl x1), some (.inl x2), some (.inl x3), u4] [] n sh R I Q := by
  unfold XVs
  refine x_iload_n d183_59 rfl ?_
  refine x_aload_n d183_60 rfl ?_
  refine x_getI d183_61 gY_183.2.2.2 gF_12_162 rfl (sh_137 hW) ?_
  refine x_if2 (pc2 := 129) d183_64 rfl (fun c => ?_) (fun c => ?_)
  · replace c : I 137 1 ≤ x3 := c
    rw [if_pos c] at k
    have e1 := k.1
    replace k := k.2
    refine x_iinc (ls2 := [some (.inr 137), some (.inl x1), some (.inl (x2 + 1)), some (.inl x3), u4]) d183_129 rfl e1 rfl ?_
    refine x_goto (pc2 := 49) d183_132 rfl ?_
    exact k
  · replace c : ¬ (I 137 1 ≤ x3) := c
    rw [if_neg c] at k
    refine x_aload_n d183_67 rfl ?_
    refine x_getI d183_68 gY_183.2.2.2 gF_12_180 rfl (sh_137 hW) ?_
    refine x_iload_n d183_71 rfl ?_
    refine y_ins (as := [.inl (I 137 4), .inl x2]) (t := []) (ls2 := [some (.inl (I 137 4)), some (.inl x2)]) gY_143 d183_72 gY_183.2.2.2 gM_12_300 rfl rfl rfl ?_
    refine x_iload_n d143_0 rfl ?_
    refine x_iload_n d143_1 rfl ?_
    refine x_ishr d143_2 ?_
    refine x_iconst d143_3 rfl ?_
    refine x_iand d143_4 ?_
    refine x_iconst d143_5 rfl ?_
    refine x_if2 (pc2 := 13) d143_6 rfl (fun c => ?_) (fun c => ?_)
    · replace c : ¬ (zand (zshr (I 137 4) x2) 1) = 1 := c
      rw [if_pos c] at k
      refine x_iconst d143_13 rfl ?_
      refine x_zret d143_14 gR_143 (by decide) ?_
      show Ex (d + 1) 183 75 [some (.inr 137), some (.inl x1), some (.inl x2), some (.inl x3), u4] [.inl 0] (0, 0, n, sh, R, I) _
      refine x_if1 (pc2 := 89) d183_75 rfl (fun _ => ?_) (fun c => absurd (show (0 : Int) = 0 by decide) c)
      refine x_iload_n d183_89 rfl ?_
      refine x_istore (ls2 := [some (.inr 137), some (.inl x1), some (.inl x2), some (.inl x3), some (.inl x3)]) d183_90 rfl rfl ?_
      refine x_aload_n d183_92 rfl ?_
      refine x_getR (r := 158) d183_93 gY_183.2.2.2 gF_12_71 rfl (sh_137 hW) (rf_137_39 hW) (by decide) ?_
      refine x_iload d183_96 rfl ?_
      have e2 := k.1
      replace k := k.2
      refine x_iald d183_98 (sh_158 hW) e2.1 e2.2 ?_
      refine x_iload_n d183_99 rfl ?_
      refine x_if2 (pc2 := 106) d183_100 rfl (fun c => ?_) (fun c => ?_)
      · replace c : I 158 (x3).toNat = x2 := c
        rw [if_pos c] at k
        refine x_aload_n d183_106 rfl ?_
        refine x_getR (r := 159) d183_107 gY_183.2.2.2 gF_12_74 rfl (sh_137 hW) (rf_137_40 hW) (by decide) ?_
        refine x_iload_n d183_110 rfl ?_
        refine x_aload_n d183_111 rfl ?_
        refine x_getR (r := 142) d183_112 gY_183.2.2.2 gF_12_22 rfl (sh_137 hW) (rf_137_10 hW) (by decide) ?_
        refine x_iload d183_115 rfl ?_
        refine x_iald d183_117 (sh_142 hW) e2.1 e2.2 ?_
        have e3 := k.1
        replace k := k.2
        refine x_iast d183_118 (sh_159 hW) e3.1 e3.2 ?_
        refine x_iload_n d183_119 rfl ?_
        refine x_iconst d183_120 rfl ?_
        have e4 := k.1
        replace k := k.2
        refine x_iadd d183_121 e4 ?_
        refine x_istore_n (ls2 := [some (.inr 137), some (.inl (x1 + 1)), some (.inl x2), some (.inl x3), some (.inl x3)]) d183_122 rfl rfl ?_
        have e5 := k.1
        replace k := k.2
        refine x_iinc (ls2 := [some (.inr 137), some (.inl (x1 + 1)), some (.inl x2), some (.inl (x3 + 1)), some (.inl x3)]) d183_123 rfl e5 rfl ?_
        refine x_goto (pc2 := 59) d183_126 rfl ?_
        exact k
      · replace c : ¬ (I 158 (x3).toNat = x2) := c
        rw [if_neg c] at k
        refine x_goto (pc2 := 123) d183_103 rfl ?_
        have e6 := k.1
        replace k := k.2
        refine x_iinc (ls2 := [some (.inr 137), some (.inl x1), some (.inl x2), some (.inl (x3 + 1)), some (.inl x3)]) d183_123 rfl e6 rfl ?_
        refine x_goto (pc2 := 59) d183_126 rfl ?_
        exact k
    · replace c : ¬ (¬ (zand (zshr (I 137 4) x2) 1) = 1) := c
      rw [if_neg c] at k
      refine x_iconst d143_9 rfl ?_
      refine x_goto (pc2 := 14) d143_10 rfl ?_
      refine x_zret d143_14 gR_143 (by decide) ?_
      show Ex (d + 1) 183 75 [some (.inr 137), some (.inl x1), some (.inl x2), some (.inl x3), u4] [.inl 1] (0, 0, n, sh, R, I) _
      refine x_if1 (pc2 := 89) d183_75 rfl (fun c => absurd (show (1 : Int) = 0 from c) (by decide)) (fun _ => ?_)
      refine x_aload_n d183_78 rfl ?_
      refine x_getI d183_79 gY_183.2.2.2 gF_12_162 rfl (sh_137 hW) ?_
      refine x_iconst d183_82 rfl ?_
      have e7 := k.1
      replace k := k.2
      refine x_isub d183_83 e7 ?_
      refine x_iload_n d183_84 rfl ?_
      have e8 := k.1
      replace k := k.2
      refine x_isub d183_85 e8 ?_
      refine x_goto (pc2 := 90) d183_86 rfl ?_
      refine x_istore (ls2 := [some (.inr 137), some (.inl x1), some (.inl x2), some (.inl x3), some (.inl ((I 137 1 - 1) - x3))]) d183_90 rfl rfl ?_
      refine x_aload_n d183_92 rfl ?_
      refine x_getR (r := 158) d183_93 gY_183.2.2.2 gF_12_71 rfl (sh_137 hW) (rf_137_39 hW) (by decide) ?_
      refine x_iload d183_96 rfl ?_
      have e9 := k.1
      replace k := k.2
      refine x_iald d183_98 (sh_158 hW) e9.1 e9.2 ?_
      refine x_iload_n d183_99 rfl ?_
      refine x_if2 (pc2 := 106) d183_100 rfl (fun c => ?_) (fun c => ?_)
      · replace c : I 158 ((I 137 1 - 1) - x3).toNat = x2 := c
        rw [if_pos c] at k
        refine x_aload_n d183_106 rfl ?_
        refine x_getR (r := 159) d183_107 gY_183.2.2.2 gF_12_74 rfl (sh_137 hW) (rf_137_40 hW) (by decide) ?_
        refine x_iload_n d183_110 rfl ?_
        refine x_aload_n d183_111 rfl ?_
        refine x_getR (r := 142) d183_112 gY_183.2.2.2 gF_12_22 rfl (sh_137 hW) (rf_137_10 hW) (by decide) ?_
        refine x_iload d183_115 rfl ?_
        refine x_iald d183_117 (sh_142 hW) e9.1 e9.2 ?_
        have e10 := k.1
        replace k := k.2
        refine x_iast d183_118 (sh_159 hW) e10.1 e10.2 ?_
        refine x_iload_n d183_119 rfl ?_
        refine x_iconst d183_120 rfl ?_
        have e11 := k.1
        replace k := k.2
        refine x_iadd d183_121 e11 ?_
        refine x_istore_n (ls2 := [some (.inr 137), some (.inl (x1 + 1)), some (.inl x2), some (.inl x3), some (.inl ((I 137 1 - 1) - x3))]) d183_122 rfl rfl ?_
        have e12 := k.1
        replace k := k.2
        refine x_iinc (ls2 := [some (.inr 137), some (.inl (x1 + 1)), some (.inl x2), some (.inl (x3 + 1)), some (.inl ((I 137 1 - 1) - x3))]) d183_123 rfl e12 rfl ?_
        refine x_goto (pc2 := 59) d183_126 rfl ?_
        exact k
      · replace c : ¬ (I 158 ((I 137 1 - 1) - x3).toNat = x2) := c
        rw [if_neg c] at k
        refine x_goto (pc2 := 123) d183_103 rfl ?_
        have e13 := k.1
        replace k := k.2
        refine x_iinc (ls2 := [some (.inr 137), some (.inl x1), some (.inl x2), some (.inl (x3 + 1)), some (.inl ((I 137 1 - 1) - x3))]) d183_123 rfl e13 rfl ?_
        refine x_goto (pc2 := 59) d183_126 rfl ?_
        exact k
set_option maxHeartbeats 4000000 in
theorem b_M_givesBack_137 {d n : Nat} {sh : ZS} {R : ZR} {I : ZI} {Q : ZI → Prop} (hW : Wf sh R) {x1 : Int} {x2 : Int} {u3 : Option AV} {u4 : Option AV}
    (k : (if x1 ≤ x2 then Q I else (0 ≤ x2 ∧ x2 < 32) ∧ (zr (x2 + 1)) ∧ XVs (d + 1) 183 137 [some (.inr 137), some (.inl x1), some (.inl (x2 + 1)), u3, u4] [] n sh R (zup I 142 (x2).toNat (I 159 (x2).toNat)) Q)) : XVs (d + 1) 183 137 [some (.inr 137), some (.inl x1), some (.inl x2), u3, u4] [] n sh R I Q := by
  unfold XVs
  refine x_iload_n d183_137 rfl ?_
  refine x_iload_n d183_138 rfl ?_
  refine x_if2 (pc2 := 160) d183_139 rfl (fun c => ?_) (fun c => ?_)
  · replace c : x1 ≤ x2 := c
    rw [if_pos c] at k
    exact x_vret d183_160 gR_183 ⟨_, rfl, rfl, k⟩
  · replace c : ¬ (x1 ≤ x2) := c
    rw [if_neg c] at k
    refine x_aload_n d183_142 rfl ?_
    refine x_getR (r := 142) d183_143 gY_183.2.2.2 gF_12_22 rfl (sh_137 hW) (rf_137_10 hW) (by decide) ?_
    refine x_iload_n d183_146 rfl ?_
    refine x_aload_n d183_147 rfl ?_
    refine x_getR (r := 159) d183_148 gY_183.2.2.2 gF_12_74 rfl (sh_137 hW) (rf_137_40 hW) (by decide) ?_
    refine x_iload_n d183_151 rfl ?_
    have e1 := k.1
    replace k := k.2
    refine x_iald d183_152 (sh_159 hW) e1.1 e1.2 ?_
    refine x_iast d183_153 (sh_142 hW) e1.1 e1.2 ?_
    have e2 := k.1
    replace k := k.2
    refine x_iinc (ls2 := [some (.inr 137), some (.inl x1), some (.inl (x2 + 1)), u3, u4]) d183_154 rfl e2 rfl ?_
    refine x_goto (pc2 := 137) d183_157 rfl ?_
    exact k
set_option maxHeartbeats 4000000 in
theorem b_M_asksAll_0 {d n : Nat} {sh : ZS} {R : ZR} {I : ZI} {Q : ZI → Prop} (hW : Wf sh R) 
    (k : XVs (d + 4) 184 2 [some (.inr 137), some (.inl 0)] [] n sh R I Q) : XV (d + 4) 184 [.inr 137] n sh R I Q := by
  refine XV.of (ls := [some (.inr 137), none]) (zloc_eq gY_184.2.2.1) ?_
  unfold XVs
  refine x_iconst d184_0 rfl ?_
  refine x_istore_n (ls2 := [some (.inr 137), some (.inl 0)]) d184_1 rfl rfl ?_
  exact k
set_option maxHeartbeats 4000000 in
theorem b_M_asksAll_2 {d n : Nat} {sh : ZS} {R : ZR} {I : ZI} {Q : ZI → Prop} (hW : Wf sh R) {x1 : Int}
    (k : (if I 137 1 ≤ x1 then Q I else XI (d + 3) 179 [.inr 137, .inl x1] n sh R I (fun v1 I2 => (if v1 = 0 then XI (d + 3) 180 [.inr 137, .inl x1] n sh R I2 (fun v3 I4 => (0 ≤ x1 ∧ x1 < 32) ∧ (if ¬ (zup I4 158 (x1).toNat v3) 158 (x1).toNat = (-1) then XI (d + 3) 181 [.inr 137, .inl x1] n sh R (zup I4 158 (x1).toNat v3) (fun v6 I7 => (zr (I4 137 36 + v6)) ∧ (0 ≤ I7 142 (x1).toNat ∧ I7 142 (x1).toNat < 32) ∧ (zr (I7 137 37 + I7 139 (I7 142 (x1).toNat).toNat)) ∧ (zr (I7 137 38 + 1)) ∧ (zr (x1 + 1)) ∧ XVs (d + 4) 184 2 [some (.inr 137), some (.inl (x1 + 1))] [] n sh R (zup (zup (zup I7 137 36 (I4 137 36 + v6)) 137 37 (I7 137 37 + I7 139 (I7 142 (x1).toNat).toNat)) 137 38 (I7 137 38 + 1)) Q) else (zr (x1 + 1)) ∧ XVs (d + 4) 184 2 [some (.inr 137), some (.inl (x1 + 1))] [] n sh R (zup I4 158 (x1).toNat v3) Q)) else (0 ≤ x1 ∧ x1 < 32) ∧ (if ¬ (zup I2 158 (x1).toNat (-1)) 158 (x1).toNat = (-1) then XI (d + 3) 181 [.inr 137, .inl x1] n sh R (zup I2 158 (x1).toNat (-1)) (fun v15 I16 => (zr (I2 137 36 + v15)) ∧ (0 ≤ I16 142 (x1).toNat ∧ I16 142 (x1).toNat < 32) ∧ (zr (I16 137 37 + I16 139 (I16 142 (x1).toNat).toNat)) ∧ (zr (I16 137 38 + 1)) ∧ (zr (x1 + 1)) ∧ XVs (d + 4) 184 2 [some (.inr 137), some (.inl (x1 + 1))] [] n sh R (zup (zup (zup I16 137 36 (I2 137 36 + v15)) 137 37 (I16 137 37 + I16 139 (I16 142 (x1).toNat).toNat)) 137 38 (I16 137 38 + 1)) Q) else (zr (x1 + 1)) ∧ XVs (d + 4) 184 2 [some (.inr 137), some (.inl (x1 + 1))] [] n sh R (zup I2 158 (x1).toNat (-1)) Q))))) : XVs (d + 4) 184 2 [some (.inr 137), some (.inl x1)] [] n sh R I Q := by
  unfold XVs
  refine x_iload_n d184_2 rfl ?_
  refine x_aload_n d184_3 rfl ?_
  refine x_getI d184_4 gY_184.2.2.2 gF_12_162 rfl (sh_137 hW) ?_
  refine x_if2 (pc2 := 96) d184_7 rfl (fun c => ?_) (fun c => ?_)
  · replace c : I 137 1 ≤ x1 := c
    rw [if_pos c] at k
    exact x_vret d184_96 gR_184 ⟨_, rfl, rfl, k⟩
  · replace c : ¬ (I 137 1 ≤ x1) := c
    rw [if_neg c] at k
    refine x_aload_n d184_10 rfl ?_
    refine x_getR (r := 158) d184_11 gY_184.2.2.2 gF_12_71 rfl (sh_137 hW) (rf_137_39 hW) (by decide) ?_
    refine x_iload_n d184_14 rfl ?_
    refine x_aload_n d184_15 rfl ?_
    refine x_iload_n d184_16 rfl ?_
    refine y_invI (as := [.inl x1]) (t := [.inl x1, .inr 158]) (o := 137) gY_179 d184_17 gY_184.2.2.2 gM_12_303 rfl (sh_137 hW) rfl k (fun v1 I2 k => ?_)
    refine x_if1 (pc2 := 27) d184_20 rfl (fun c => ?_) (fun c => ?_)
    · replace c : v1 = 0 := c
      rw [if_pos c] at k
      refine x_aload_n d184_27 rfl ?_
      refine x_iload_n d184_28 rfl ?_
      refine y_invI (as := [.inl x1]) (t := [.inl x1, .inr 158]) (o := 137) gY_180 d184_29 gY_184.2.2.2 gM_12_306 rfl (sh_137 hW) rfl k (fun v3 I4 k => ?_)
      have e5 := k.1
      replace k := k.2
      refine x_iast d184_32 (sh_158 hW) e5.1 e5.2 ?_
      refine x_aload_n d184_33 rfl ?_
      refine x_getR (r := 158) d184_34 gY_184.2.2.2 gF_12_71 rfl (sh_137 hW) (rf_137_39 hW) (by decide) ?_
      refine x_iload_n d184_37 rfl ?_
      refine x_iald d184_38 (sh_158 hW) e5.1 e5.2 ?_
      refine x_iconst d184_39 rfl ?_
      refine x_if2 (pc2 := 46) d184_40 rfl (fun c => ?_) (fun c => ?_)
      · replace c : ¬ (zup I4 158 (x1).toNat v3) 158 (x1).toNat = (-1) := c
        rw [if_pos c] at k
        refine x_aload_n d184_46 rfl ?_
        refine x_aload_n d184_47 rfl ?_
        refine x_getI d184_48 gY_184.2.2.2 gF_12_309 rfl (sh_137 hW) ?_
        refine x_aload_n d184_51 rfl ?_
        refine x_iload_n d184_52 rfl ?_
        refine y_invI (as := [.inl x1]) (t := [.inl (I4 137 36), .inr 137]) (o := 137) gY_181 d184_53 gY_184.2.2.2 gM_12_312 rfl (sh_137 hW) rfl k (fun v6 I7 k => ?_)
        have e8 := k.1
        replace k := k.2
        refine x_iadd d184_56 e8 ?_
        refine x_putI d184_57 gY_184.2.2.2 gF_12_309 rfl rfl (sh_137 hW) ?_
        refine x_aload_n d184_60 rfl ?_
        refine x_aload_n d184_61 rfl ?_
        refine x_getI d184_62 gY_184.2.2.2 gF_12_315 rfl (sh_137 hW) ?_
        refine x_aload_n d184_65 rfl ?_
        refine x_getR (r := 139) d184_66 gY_184.2.2.2 gF_12_13 rfl (sh_137 hW) (rf_137_7 hW) (by decide) ?_
        refine x_aload_n d184_69 rfl ?_
        refine x_getR (r := 142) d184_70 gY_184.2.2.2 gF_12_22 rfl (sh_137 hW) (rf_137_10 hW) (by decide) ?_
        refine x_iload_n d184_73 rfl ?_
        refine x_iald d184_74 (sh_142 hW) e5.1 e5.2 ?_
        have e9 := k.1
        replace k := k.2
        refine x_iald d184_75 (sh_139 hW) e9.1 e9.2 ?_
        have e10 := k.1
        replace k := k.2
        refine x_iadd d184_76 e10 ?_
        refine x_putI d184_77 gY_184.2.2.2 gF_12_315 rfl rfl (sh_137 hW) ?_
        refine x_aload_n d184_80 rfl ?_
        refine x_aload_n d184_81 rfl ?_
        refine x_getI d184_82 gY_184.2.2.2 gF_12_318 rfl (sh_137 hW) ?_
        refine x_iconst d184_85 rfl ?_
        have e11 := k.1
        replace k := k.2
        refine x_iadd d184_86 e11 ?_
        refine x_putI d184_87 gY_184.2.2.2 gF_12_318 rfl rfl (sh_137 hW) ?_
        have e12 := k.1
        replace k := k.2
        refine x_iinc (ls2 := [some (.inr 137), some (.inl (x1 + 1))]) d184_90 rfl e12 rfl ?_
        refine x_goto (pc2 := 2) d184_93 rfl ?_
        exact k
      · replace c : ¬ (¬ (zup I4 158 (x1).toNat v3) 158 (x1).toNat = (-1)) := c
        rw [if_neg c] at k
        refine x_goto (pc2 := 90) d184_43 rfl ?_
        have e13 := k.1
        replace k := k.2
        refine x_iinc (ls2 := [some (.inr 137), some (.inl (x1 + 1))]) d184_90 rfl e13 rfl ?_
        refine x_goto (pc2 := 2) d184_93 rfl ?_
        exact k
    · replace c : ¬ (v1 = 0) := c
      rw [if_neg c] at k
      refine x_iconst d184_23 rfl ?_
      refine x_goto (pc2 := 32) d184_24 rfl ?_
      have e14 := k.1
      replace k := k.2
      refine x_iast d184_32 (sh_158 hW) e14.1 e14.2 ?_
      refine x_aload_n d184_33 rfl ?_
      refine x_getR (r := 158) d184_34 gY_184.2.2.2 gF_12_71 rfl (sh_137 hW) (rf_137_39 hW) (by decide) ?_
      refine x_iload_n d184_37 rfl ?_
      refine x_iald d184_38 (sh_158 hW) e14.1 e14.2 ?_
      refine x_iconst d184_39 rfl ?_
      refine x_if2 (pc2 := 46) d184_40 rfl (fun c => ?_) (fun c => ?_)
      · replace c : ¬ (zup I2 158 (x1).toNat (-1)) 158 (x1).toNat = (-1) := c
        rw [if_pos c] at k
        refine x_aload_n d184_46 rfl ?_
        refine x_aload_n d184_47 rfl ?_
        refine x_getI d184_48 gY_184.2.2.2 gF_12_309 rfl (sh_137 hW) ?_
        refine x_aload_n d184_51 rfl ?_
        refine x_iload_n d184_52 rfl ?_
        refine y_invI (as := [.inl x1]) (t := [.inl (I2 137 36), .inr 137]) (o := 137) gY_181 d184_53 gY_184.2.2.2 gM_12_312 rfl (sh_137 hW) rfl k (fun v15 I16 k => ?_)
        have e17 := k.1
        replace k := k.2
        refine x_iadd d184_56 e17 ?_
        refine x_putI d184_57 gY_184.2.2.2 gF_12_309 rfl rfl (sh_137 hW) ?_
        refine x_aload_n d184_60 rfl ?_
        refine x_aload_n d184_61 rfl ?_
        refine x_getI d184_62 gY_184.2.2.2 gF_12_315 rfl (sh_137 hW) ?_
        refine x_aload_n d184_65 rfl ?_
        refine x_getR (r := 139) d184_66 gY_184.2.2.2 gF_12_13 rfl (sh_137 hW) (rf_137_7 hW) (by decide) ?_
        refine x_aload_n d184_69 rfl ?_
        refine x_getR (r := 142) d184_70 gY_184.2.2.2 gF_12_22 rfl (sh_137 hW) (rf_137_10 hW) (by decide) ?_
        refine x_iload_n d184_73 rfl ?_
        refine x_iald d184_74 (sh_142 hW) e14.1 e14.2 ?_
        have e18 := k.1
        replace k := k.2
        refine x_iald d184_75 (sh_139 hW) e18.1 e18.2 ?_
        have e19 := k.1
        replace k := k.2
        refine x_iadd d184_76 e19 ?_
        refine x_putI d184_77 gY_184.2.2.2 gF_12_315 rfl rfl (sh_137 hW) ?_
        refine x_aload_n d184_80 rfl ?_
        refine x_aload_n d184_81 rfl ?_
        refine x_getI d184_82 gY_184.2.2.2 gF_12_318 rfl (sh_137 hW) ?_
        refine x_iconst d184_85 rfl ?_
        have e20 := k.1
        replace k := k.2
        refine x_iadd d184_86 e20 ?_
        refine x_putI d184_87 gY_184.2.2.2 gF_12_318 rfl rfl (sh_137 hW) ?_
        have e21 := k.1
        replace k := k.2
        refine x_iinc (ls2 := [some (.inr 137), some (.inl (x1 + 1))]) d184_90 rfl e21 rfl ?_
        refine x_goto (pc2 := 2) d184_93 rfl ?_
        exact k
      · replace c : ¬ (¬ (zup I2 158 (x1).toNat (-1)) 158 (x1).toNat = (-1)) := c
        rw [if_neg c] at k
        refine x_goto (pc2 := 90) d184_43 rfl ?_
        have e22 := k.1
        replace k := k.2
        refine x_iinc (ls2 := [some (.inr 137), some (.inl (x1 + 1))]) d184_90 rfl e22 rfl ?_
        refine x_goto (pc2 := 2) d184_93 rfl ?_
        exact k
set_option maxHeartbeats 4000000 in
theorem b_M_throwsAll_0 {d n : Nat} {sh : ZS} {R : ZR} {I : ZI} {Q : ZI → Prop} (hW : Wf sh R) 
    (k : XVs (d + 2) 185 2 [some (.inr 137), some (.inl 0)] [] n sh R I Q) : XV (d + 2) 185 [.inr 137] n sh R I Q := by
  refine XV.of (ls := [some (.inr 137), none]) (zloc_eq gY_185.2.2.1) ?_
  unfold XVs
  refine x_iconst d185_0 rfl ?_
  refine x_istore_n (ls2 := [some (.inr 137), some (.inl 0)]) d185_1 rfl rfl ?_
  exact k
set_option maxHeartbeats 4000000 in
theorem b_M_throwsAll_2 {d n : Nat} {sh : ZS} {R : ZR} {I : ZI} {Q : ZI → Prop} (hW : Wf sh R) {x1 : Int}
    (k : (if I 137 1 ≤ x1 then XV (d + 1) 183 [.inr 137] n sh R I (fun I2 => (zr (I2 137 2 + 1)) ∧ Q (zup I2 137 2 (I2 137 2 + 1))) else (0 ≤ x1 ∧ x1 < 32) ∧ (if I 158 (x1).toNat = (-1) then (zr (x1 + 1)) ∧ XVs (d + 2) 185 2 [some (.inr 137), some (.inl (x1 + 1))] [] n sh R I Q else (0 ≤ I 142 (x1).toNat ∧ I 142 (x1).toNat < 32) ∧ (zr (x1 + 1)) ∧ XVs (d + 2) 185 2 [some (.inr 137), some (.inl (x1 + 1))] [] n sh R (zup I 141 (I 142 (x1).toNat).toNat (I 158 (x1).toNat)) Q))) : XVs (d + 2) 185 2 [some (.inr 137), some (.inl x1)] [] n sh R I Q := by
  unfold XVs
  refine x_iload_n d185_2 rfl ?_
  refine x_aload_n d185_3 rfl ?_
  refine x_getI d185_4 gY_185.2.2.2 gF_12_162 rfl (sh_137 hW) ?_
  refine x_if2 (pc2 := 43) d185_7 rfl (fun c => ?_) (fun c => ?_)
  · replace c : I 137 1 ≤ x1 := c
    rw [if_pos c] at k
    refine x_aload_n d185_43 rfl ?_
    refine y_invV (as := []) (t := []) (o := 137) gY_183 d185_44 gY_185.2.2.2 gM_12_321 rfl (sh_137 hW) rfl k (fun I2 k => ?_)
    refine x_aload_n d185_47 rfl ?_
    refine x_aload_n d185_48 rfl ?_
    refine x_getI d185_49 gY_185.2.2.2 gF_12_173 rfl (sh_137 hW) ?_
    refine x_iconst d185_52 rfl ?_
    have e3 := k.1
    replace k := k.2
    refine x_iadd d185_53 e3 ?_
    refine x_putI d185_54 gY_185.2.2.2 gF_12_173 rfl rfl (sh_137 hW) ?_
    exact x_vret d185_57 gR_185 ⟨_, rfl, rfl, k⟩
  · replace c : ¬ (I 137 1 ≤ x1) := c
    rw [if_neg c] at k
    refine x_aload_n d185_10 rfl ?_
    refine x_getR (r := 158) d185_11 gY_185.2.2.2 gF_12_71 rfl (sh_137 hW) (rf_137_39 hW) (by decide) ?_
    refine x_iload_n d185_14 rfl ?_
    have e4 := k.1
    replace k := k.2
    refine x_iald d185_15 (sh_158 hW) e4.1 e4.2 ?_
    refine x_iconst d185_16 rfl ?_
    refine x_if2 (pc2 := 37) d185_17 rfl (fun c => ?_) (fun c => ?_)
    · replace c : I 158 (x1).toNat = (-1) := c
      rw [if_pos c] at k
      have e5 := k.1
      replace k := k.2
      refine x_iinc (ls2 := [some (.inr 137), some (.inl (x1 + 1))]) d185_37 rfl e5 rfl ?_
      refine x_goto (pc2 := 2) d185_40 rfl ?_
      exact k
    · replace c : ¬ (I 158 (x1).toNat = (-1)) := c
      rw [if_neg c] at k
      refine x_aload_n d185_20 rfl ?_
      refine x_getR (r := 141) d185_21 gY_185.2.2.2 gF_12_19 rfl (sh_137 hW) (rf_137_9 hW) (by decide) ?_
      refine x_aload_n d185_24 rfl ?_
      refine x_getR (r := 142) d185_25 gY_185.2.2.2 gF_12_22 rfl (sh_137 hW) (rf_137_10 hW) (by decide) ?_
      refine x_iload_n d185_28 rfl ?_
      refine x_iald d185_29 (sh_142 hW) e4.1 e4.2 ?_
      refine x_aload_n d185_30 rfl ?_
      refine x_getR (r := 158) d185_31 gY_185.2.2.2 gF_12_71 rfl (sh_137 hW) (rf_137_39 hW) (by decide) ?_
      refine x_iload_n d185_34 rfl ?_
      refine x_iald d185_35 (sh_158 hW) e4.1 e4.2 ?_
      have e6 := k.1
      replace k := k.2
      refine x_iast d185_36 (sh_141 hW) e6.1 e6.2 ?_
      have e7 := k.1
      replace k := k.2
      refine x_iinc (ls2 := [some (.inr 137), some (.inl (x1 + 1))]) d185_37 rfl e7 rfl ?_
      refine x_goto (pc2 := 2) d185_40 rfl ?_
      exact k
set_option maxHeartbeats 4000000 in
theorem b_M_goesOnce_0 {d n : Nat} {sh : ZS} {R : ZR} {I : ZI} {Q : ZI → Prop} (hW : Wf sh R) 
    (k : XV (d + 4) 182 [.inr 137] n sh R I (fun I2 => XV (d + 4) 184 [.inr 137] n sh R I2 (fun I4 => XV (d + 4) 185 [.inr 137] n sh R I4 (fun I6 => Q I6)))) : XV (d + 5) 186 [.inr 137] n sh R I Q := by
  refine XV.of (ls := [some (.inr 137)]) (zloc_eq gY_186.2.2.1) ?_
  unfold XVs
  refine x_aload_n d186_0 rfl ?_
  refine y_invV (as := []) (t := []) (o := 137) gY_182 d186_1 gY_186.2.2.2 gM_12_324 rfl (sh_137 hW) rfl k (fun I2 k => ?_)
  refine x_aload_n d186_4 rfl ?_
  refine y_invV (as := []) (t := []) (o := 137) gY_184 d186_5 gY_186.2.2.2 gM_12_327 rfl (sh_137 hW) rfl k (fun I4 k => ?_)
  refine x_aload_n d186_8 rfl ?_
  refine y_invV (as := []) (t := []) (o := 137) gY_185 d186_9 gY_186.2.2.2 gM_12_330 rfl (sh_137 hW) rfl k (fun I6 k => ?_)
  exact x_vret d186_12 gR_186 ⟨_, rfl, rfl, k⟩
set_option maxHeartbeats 4000000 in
theorem b_M_goesBy_0 {d n : Nat} {sh : ZS} {R : ZR} {I : ZI} {Q : ZI → Prop} (hW : Wf sh R) {x1 : Int}
    (k : XVs (d + 6) 187 17 [some (.inr 137), some (.inl x1), some (.inl 0)] [] n sh R (zup (zup (zup I 137 36 0) 137 37 0) 137 38 0) Q) : XV (d + 6) 187 [.inr 137, .inl x1] n sh R I Q := by
  refine XV.of (ls := [some (.inr 137), some (.inl x1), none]) (zloc_eq gY_187.2.2.1) ?_
  unfold XVs
  refine x_aload_n d187_0 rfl ?_
  refine x_iconst d187_1 rfl ?_
  refine x_putI d187_2 gY_187.2.2.2 gF_12_309 rfl rfl (sh_137 hW) ?_
  refine x_aload_n d187_5 rfl ?_
  refine x_iconst d187_6 rfl ?_
  refine x_putI d187_7 gY_187.2.2.2 gF_12_315 rfl rfl (sh_137 hW) ?_
  refine x_aload_n d187_10 rfl ?_
  refine x_iconst d187_11 rfl ?_
  refine x_putI d187_12 gY_187.2.2.2 gF_12_318 rfl rfl (sh_137 hW) ?_
  refine x_iconst d187_15 rfl ?_
  refine x_istore_n (ls2 := [some (.inr 137), some (.inl x1), some (.inl 0)]) d187_16 rfl rfl ?_
  exact k
set_option maxHeartbeats 4000000 in
theorem b_M_goesBy_17 {d n : Nat} {sh : ZS} {R : ZR} {I : ZI} {Q : ZI → Prop} (hW : Wf sh R) {x1 : Int} {x2 : Int}
    (k : (if x1 ≤ x2 then Q I else XV (d + 5) 186 [.inr 137] n sh R I (fun I2 => (zr (x2 + 1)) ∧ XVs (d + 6) 187 17 [some (.inr 137), some (.inl x1), some (.inl (x2 + 1))] [] n sh R I2 Q))) : XVs (d + 6) 187 17 [some (.inr 137), some (.inl x1), some (.inl x2)] [] n sh R I Q := by
  unfold XVs
  refine x_iload_n d187_17 rfl ?_
  refine x_iload_n d187_18 rfl ?_
  refine x_if2 (pc2 := 32) d187_19 rfl (fun c => ?_) (fun c => ?_)
  · replace c : x1 ≤ x2 := c
    rw [if_pos c] at k
    exact x_vret d187_32 gR_187 ⟨_, rfl, rfl, k⟩
  · replace c : ¬ (x1 ≤ x2) := c
    rw [if_neg c] at k
    refine x_aload_n d187_22 rfl ?_
    refine y_invV (as := []) (t := []) (o := 137) gY_186 d187_23 gY_187.2.2.2 gM_12_333 rfl (sh_137 hW) rfl k (fun I2 k => ?_)
    have e3 := k.1
    replace k := k.2
    refine x_iinc (ls2 := [some (.inr 137), some (.inl x1), some (.inl (x2 + 1))]) d187_26 rfl e3 rfl ?_
    refine x_goto (pc2 := 17) d187_29 rfl ?_
    exact k
set_option maxHeartbeats 4000000 in
theorem b_M_copies_0 {d n : Nat} {sh : ZS} {R : ZR} {I : ZI} {Q : ZI → Prop} (hW : Wf sh R) {a0 : Nat} (ha0 : sh a0 = (0, 32)) {a1 : Nat} (ha1 : sh a1 = (0, 32))
    (k : XVs d 189 2 [some (.inr a0), some (.inr a1), some (.inl 0)] [] n sh R I Q) : XV d 189 [.inr a0, .inr a1] n sh R I Q := by
  refine XV.of (ls := [some (.inr a0), some (.inr a1), none]) (zloc_eq gY_189.2.2.1) ?_
  unfold XVs
  refine x_iconst d189_0 rfl ?_
  refine x_istore_n (ls2 := [some (.inr a0), some (.inr a1), some (.inl 0)]) d189_1 rfl rfl ?_
  exact k
set_option maxHeartbeats 4000000 in
theorem b_M_copies_2 {d n : Nat} {sh : ZS} {R : ZR} {I : ZI} {Q : ZI → Prop} (hW : Wf sh R) {a0 : Nat} (ha0 : sh a0 = (0, 32)) {a1 : Nat} (ha1 : sh a1 = (0, 32)) {x2 : Int}
    (k : (if 32 ≤ x2 then Q I else (0 ≤ x2 ∧ x2 < 32) ∧ (zr (x2 + 1)) ∧ XVs d 189 2 [some (.inr a0), some (.inr a1), some (.inl (x2 + 1))] [] n sh R (zup I a1 (x2).toNat (I a0 (x2).toNat)) Q)) : XVs d 189 2 [some (.inr a0), some (.inr a1), some (.inl x2)] [] n sh R I Q := by
  unfold XVs
  refine x_iload_n d189_2 rfl ?_
  refine x_bipush d189_3 rfl ?_
  refine x_if2 (pc2 := 20) d189_5 rfl (fun c => ?_) (fun c => ?_)
  · replace c : 32 ≤ x2 := c
    rw [if_pos c] at k
    exact x_vret d189_20 gR_189 ⟨_, rfl, rfl, k⟩
  · replace c : ¬ (32 ≤ x2) := c
    rw [if_neg c] at k
    refine x_aload_n d189_8 rfl ?_
    refine x_iload_n d189_9 rfl ?_
    refine x_aload_n d189_10 rfl ?_
    refine x_iload_n d189_11 rfl ?_
    have e1 := k.1
    replace k := k.2
    refine x_iald d189_12 ha0 e1.1 e1.2 ?_
    refine x_iast d189_13 ha1 e1.1 e1.2 ?_
    have e2 := k.1
    replace k := k.2
    refine x_iinc (ls2 := [some (.inr a0), some (.inr a1), some (.inl (x2 + 1))]) d189_14 rfl e2 rfl ?_
    refine x_goto (pc2 := 2) d189_17 rfl ?_
    exact k
set_option maxHeartbeats 4000000 in
theorem b_M_begins_0 {d n : Nat} {sh : ZS} {R : ZR} {I : ZI} {Q : ZI → Prop} (hW : Wf sh R) 
    (k : XV d 189 [.inr 142, .inr 160] n sh R (zup (zup I 137 41 (I 137 1)) 137 42 (I 137 2)) (fun I2 => XV d 189 [.inr 141, .inr 161] n sh R I2 (fun I4 => Q I4))) : XV (d + 1) 190 [.inr 137] n sh R I Q := by
  refine XV.of (ls := [some (.inr 137)]) (zloc_eq gY_190.2.2.1) ?_
  unfold XVs
  refine x_aload_n d190_0 rfl ?_
  refine x_aload_n d190_1 rfl ?_
  refine x_getI d190_2 gY_190.2.2.2 gF_12_162 rfl (sh_137 hW) ?_
  refine x_putI d190_5 gY_190.2.2.2 gF_12_336 rfl rfl (sh_137 hW) ?_
  refine x_aload_n d190_8 rfl ?_
  refine x_aload_n d190_9 rfl ?_
  refine x_getI d190_10 gY_190.2.2.2 gF_12_173 rfl (sh_137 hW) ?_
  refine x_putI d190_13 gY_190.2.2.2 gF_12_339 rfl rfl (sh_137 hW) ?_
  refine x_aload_n d190_16 rfl ?_
  refine x_getR (r := 142) d190_17 gY_190.2.2.2 gF_12_22 rfl (sh_137 hW) (rf_137_10 hW) (by decide) ?_
  refine x_aload_n d190_20 rfl ?_
  refine x_getR (r := 160) d190_21 gY_190.2.2.2 gF_12_77 rfl (sh_137 hW) (rf_137_43 hW) (by decide) ?_
  refine y_insV (as := [.inr 142, .inr 160]) (t := []) gY_189 d190_24 gY_190.2.2.2 gM_12_342 rfl rfl k (fun I2 k => ?_)
  refine x_aload_n d190_27 rfl ?_
  refine x_getR (r := 141) d190_28 gY_190.2.2.2 gF_12_19 rfl (sh_137 hW) (rf_137_9 hW) (by decide) ?_
  refine x_aload_n d190_31 rfl ?_
  refine x_getR (r := 161) d190_32 gY_190.2.2.2 gF_12_80 rfl (sh_137 hW) (rf_137_44 hW) (by decide) ?_
  refine y_insV (as := [.inr 141, .inr 161]) (t := []) gY_189 d190_35 gY_190.2.2.2 gM_12_342 rfl rfl k (fun I4 k => ?_)
  exact x_vret d190_38 gR_190 ⟨_, rfl, rfl, k⟩
set_option maxHeartbeats 4000000 in
theorem b_M_again_0 {d n : Nat} {sh : ZS} {R : ZR} {I : ZI} {Q : ZI → Prop} (hW : Wf sh R) 
    (k : XV d 189 [.inr 160, .inr 142] n sh R (zup (zup I 137 1 (I 137 41)) 137 2 (I 137 42)) (fun I2 => XV d 189 [.inr 161, .inr 141] n sh R I2 (fun I4 => Q I4))) : XV (d + 1) 191 [.inr 137] n sh R I Q := by
  refine XV.of (ls := [some (.inr 137)]) (zloc_eq gY_191.2.2.1) ?_
  unfold XVs
  refine x_aload_n d191_0 rfl ?_
  refine x_aload_n d191_1 rfl ?_
  refine x_getI d191_2 gY_191.2.2.2 gF_12_336 rfl (sh_137 hW) ?_
  refine x_putI d191_5 gY_191.2.2.2 gF_12_162 rfl rfl (sh_137 hW) ?_
  refine x_aload_n d191_8 rfl ?_
  refine x_aload_n d191_9 rfl ?_
  refine x_getI d191_10 gY_191.2.2.2 gF_12_339 rfl (sh_137 hW) ?_
  refine x_putI d191_13 gY_191.2.2.2 gF_12_173 rfl rfl (sh_137 hW) ?_
  refine x_aload_n d191_16 rfl ?_
  refine x_getR (r := 160) d191_17 gY_191.2.2.2 gF_12_77 rfl (sh_137 hW) (rf_137_43 hW) (by decide) ?_
  refine x_aload_n d191_20 rfl ?_
  refine x_getR (r := 142) d191_21 gY_191.2.2.2 gF_12_22 rfl (sh_137 hW) (rf_137_10 hW) (by decide) ?_
  refine y_insV (as := [.inr 160, .inr 142]) (t := []) gY_189 d191_24 gY_191.2.2.2 gM_12_342 rfl rfl k (fun I2 k => ?_)
  refine x_aload_n d191_27 rfl ?_
  refine x_getR (r := 161) d191_28 gY_191.2.2.2 gF_12_80 rfl (sh_137 hW) (rf_137_44 hW) (by decide) ?_
  refine x_aload_n d191_31 rfl ?_
  refine x_getR (r := 141) d191_32 gY_191.2.2.2 gF_12_19 rfl (sh_137 hW) (rf_137_9 hW) (by decide) ?_
  refine y_insV (as := [.inr 161, .inr 141]) (t := []) gY_189 d191_35 gY_191.2.2.2 gM_12_342 rfl rfl k (fun I4 k => ?_)
  exact x_vret d191_38 gR_191 ⟨_, rfl, rfl, k⟩
set_option maxHeartbeats 4000000 in
theorem b_M_order_0 {d n : Nat} {sh : ZS} {R : ZR} {I : ZI} {Q : Int → ZI → Prop} (hW : Wf sh R) {x1 : Int}
    (k : (if ¬ x1 = I 137 1 then Q 0 I else (if x1 ≤ I 137 13 then XIs (d + 1) 192 27 [some (.inr 137), some (.inl x1), some (.inl 0), some (.inl 0), none] [] n sh R (zup I 137 13 0) Q else Q 0 I))) : XI (d + 1) 192 [.inr 137, .inl x1] n sh R I Q := by
  refine XI.of (ls := [some (.inr 137), some (.inl x1), none, none, none]) (zloc_eq gY_192.2.2.1) ?_
  unfold XIs
  refine x_iload_n d192_0 rfl ?_
  refine x_aload_n d192_1 rfl ?_
  refine x_getI d192_2 gY_192.2.2.2 gF_12_162 rfl (sh_137 hW) ?_
  refine x_if2 (pc2 := 16) d192_5 rfl (fun c => ?_) (fun c => ?_)
  · replace c : ¬ x1 = I 137 1 := c
    rw [if_pos c] at k
    refine x_iconst d192_16 rfl ?_
    exact x_zret d192_17 gR_192 (by decide) ⟨_, _, rfl, rfl, k⟩
  · replace c : ¬ (¬ x1 = I 137 1) := c
    rw [if_neg c] at k
    refine x_iload_n d192_8 rfl ?_
    refine x_aload_n d192_9 rfl ?_
    refine x_getI d192_10 gY_192.2.2.2 gF_12_183 rfl (sh_137 hW) ?_
    refine x_if2 (pc2 := 18) d192_13 rfl (fun c => ?_) (fun c => ?_)
    · replace c : x1 ≤ I 137 13 := c
      rw [if_pos c] at k
      refine x_aload_n d192_18 rfl ?_
      refine x_iconst d192_19 rfl ?_
      refine x_putI d192_20 gY_192.2.2.2 gF_12_183 rfl rfl (sh_137 hW) ?_
      refine x_iconst d192_23 rfl ?_
      refine x_istore_n (ls2 := [some (.inr 137), some (.inl x1), some (.inl 0), none, none]) d192_24 rfl rfl ?_
      refine x_iconst d192_25 rfl ?_
      refine x_istore_n (ls2 := [some (.inr 137), some (.inl x1), some (.inl 0), some (.inl 0), none]) d192_26 rfl rfl ?_
      exact k
    · replace c : ¬ (x1 ≤ I 137 13) := c
      rw [if_neg c] at k
      refine x_iconst d192_16 rfl ?_
      exact x_zret d192_17 gR_192 (by decide) ⟨_, _, rfl, rfl, k⟩
set_option maxHeartbeats 4000000 in
theorem b_M_order_27 {d n : Nat} {sh : ZS} {R : ZR} {I : ZI} {Q : Int → ZI → Prop} (hW : Wf sh R) {x1 : Int} {x2 : Int} {x3 : Int} {u4 : Option AV}
    (k : (if x1 ≤ x3 then XIs (d + 1) 192 85 [some (.inr 137), some (.inl x1), some (.inl x2), some (.inl 0), u4] [] n sh R I Q else (0 ≤ x3 ∧ x3 < 220) ∧ (if I 144 (x3).toNat < 0 then Q 0 I else (if I 137 0 ≤ I 144 (x3).toNat then Q 0 I else XI d 151 [.inr 137, .inl (I 144 (x3).toNat)] n sh R I (fun v2 I3 => (if v2 = (-1) then Q 0 I3 else (if ¬ (zand (zshr x2 (I 144 (x3).toNat)) 1) = 1 then (zr (x3 + 1)) ∧ XIs (d + 1) 192 27 [some (.inr 137), some (.inl x1), some (.inl (zor x2 (zshl 1 (I 144 (x3).toNat)))), some (.inl (x3 + 1)), some (.inl (I 144 (x3).toNat))] [] n sh R I3 Q else Q 0 I3))))))) : XIs (d + 1) 192 27 [some (.inr 137), some (.inl x1), some (.inl x2), some (.inl x3), u4] [] n sh R I Q := by
  unfold XIs
  refine x_iload_n d192_27 rfl ?_
  refine x_iload_n d192_28 rfl ?_
  refine x_if2 (pc2 := 83) d192_29 rfl (fun c => ?_) (fun c => ?_)
  · replace c : x1 ≤ x3 := c
    rw [if_pos c] at k
    refine x_iconst d192_83 rfl ?_
    refine x_istore_n (ls2 := [some (.inr 137), some (.inl x1), some (.inl x2), some (.inl 0), u4]) d192_84 rfl rfl ?_
    exact k
  · replace c : ¬ (x1 ≤ x3) := c
    rw [if_neg c] at k
    refine x_aload_n d192_32 rfl ?_
    refine x_getR (r := 144) d192_33 gY_192.2.2.2 gF_12_28 rfl (sh_137 hW) (rf_137_12 hW) (by decide) ?_
    refine x_iload_n d192_36 rfl ?_
    have e1 := k.1
    replace k := k.2
    refine x_bald d192_37 (sh_144 hW) e1.1 e1.2 ?_
    refine x_istore (ls2 := [some (.inr 137), some (.inl x1), some (.inl x2), some (.inl x3), some (.inl (I 144 (x3).toNat))]) d192_38 rfl rfl ?_
    refine x_aload_n d192_40 rfl ?_
    refine x_iload d192_41 rfl ?_
    refine y_inv (as := [.inl (I 144 (x3).toNat)]) (t := []) (o := 137) (ls2 := [some (.inr 137), some (.inl (I 144 (x3).toNat))]) gY_144 d192_43 gY_192.2.2.2 gM_12_346 rfl (sh_137 hW) rfl rfl ?_
    refine x_iload_n d144_0 rfl ?_
    refine x_if1 (pc2 := 16) d144_1 rfl (fun c => ?_) (fun c => ?_)
    · replace c : I 144 (x3).toNat < 0 := c
      rw [if_pos c] at k
      refine x_iconst d144_16 rfl ?_
      refine x_zret d144_17 gR_144 (by decide) ?_
      show Ex (d + 1) 192 46 [some (.inr 137), some (.inl x1), some (.inl x2), some (.inl x3), some (.inl (I 144 (x3).toNat))] [.inl 0] (0, 0, n, sh, R, I) _
      refine x_if1 (pc2 := 68) d192_46 rfl (fun _ => ?_) (fun c => absurd (show (0 : Int) = 0 by decide) c)
      refine x_iconst d192_68 rfl ?_
      exact x_zret d192_69 gR_192 (by decide) ⟨_, _, rfl, rfl, k⟩
    · replace c : ¬ (I 144 (x3).toNat < 0) := c
      rw [if_neg c] at k
      refine x_iload_n d144_4 rfl ?_
      refine x_aload_n d144_5 rfl ?_
      refine x_getI d144_6 gY_144.2.2.2 gF_12_159 rfl (sh_137 hW) ?_
      refine x_if2 (pc2 := 16) d144_9 rfl (fun c => ?_) (fun c => ?_)
      · replace c : I 137 0 ≤ I 144 (x3).toNat := c
        rw [if_pos c] at k
        refine x_iconst d144_16 rfl ?_
        refine x_zret d144_17 gR_144 (by decide) ?_
        show Ex (d + 1) 192 46 [some (.inr 137), some (.inl x1), some (.inl x2), some (.inl x3), some (.inl (I 144 (x3).toNat))] [.inl 0] (0, 0, n, sh, R, I) _
        refine x_if1 (pc2 := 68) d192_46 rfl (fun _ => ?_) (fun c => absurd (show (0 : Int) = 0 by decide) c)
        refine x_iconst d192_68 rfl ?_
        exact x_zret d192_69 gR_192 (by decide) ⟨_, _, rfl, rfl, k⟩
      · replace c : ¬ (I 137 0 ≤ I 144 (x3).toNat) := c
        rw [if_neg c] at k
        refine x_iconst d144_12 rfl ?_
        refine x_goto (pc2 := 17) d144_13 rfl ?_
        refine x_zret d144_17 gR_144 (by decide) ?_
        show Ex (d + 1) 192 46 [some (.inr 137), some (.inl x1), some (.inl x2), some (.inl x3), some (.inl (I 144 (x3).toNat))] [.inl 1] (0, 0, n, sh, R, I) _
        refine x_if1 (pc2 := 68) d192_46 rfl (fun c => absurd (show (1 : Int) = 0 from c) (by decide)) (fun _ => ?_)
        refine x_aload_n d192_49 rfl ?_
        refine x_iload d192_50 rfl ?_
        refine y_invI (as := [.inl (I 144 (x3).toNat)]) (t := []) (o := 137) gY_151 d192_52 gY_192.2.2.2 gM_12_349 rfl (sh_137 hW) rfl k (fun v2 I3 k => ?_)
        refine x_iconst d192_55 rfl ?_
        refine x_if2 (pc2 := 68) d192_56 rfl (fun c => ?_) (fun c => ?_)
        · replace c : v2 = (-1) := c
          rw [if_pos c] at k
          refine x_iconst d192_68 rfl ?_
          exact x_zret d192_69 gR_192 (by decide) ⟨_, _, rfl, rfl, k⟩
        · replace c : ¬ (v2 = (-1)) := c
          rw [if_neg c] at k
          refine x_iload_n d192_59 rfl ?_
          refine x_iload d192_60 rfl ?_
          refine y_ins (as := [.inl x2, .inl (I 144 (x3).toNat)]) (t := []) (ls2 := [some (.inl x2), some (.inl (I 144 (x3).toNat))]) gY_143 d192_62 gY_192.2.2.2 gM_12_300 rfl rfl rfl ?_
          refine x_iload_n d143_0 rfl ?_
          refine x_iload_n d143_1 rfl ?_
          refine x_ishr d143_2 ?_
          refine x_iconst d143_3 rfl ?_
          refine x_iand d143_4 ?_
          refine x_iconst d143_5 rfl ?_
          refine x_if2 (pc2 := 13) d143_6 rfl (fun c => ?_) (fun c => ?_)
          · replace c : ¬ (zand (zshr x2 (I 144 (x3).toNat)) 1) = 1 := c
            rw [if_pos c] at k
            refine x_iconst d143_13 rfl ?_
            refine x_zret d143_14 gR_143 (by decide) ?_
            show Ex (d + 1) 192 65 [some (.inr 137), some (.inl x1), some (.inl x2), some (.inl x3), some (.inl (I 144 (x3).toNat))] [.inl 0] (0, 0, n, sh, R, I3) _
            refine x_if1 (pc2 := 70) d192_65 rfl (fun _ => ?_) (fun c => absurd (show (0 : Int) = 0 by decide) c)
            refine x_iload_n d192_70 rfl ?_
            refine x_iconst d192_71 rfl ?_
            refine x_iload d192_72 rfl ?_
            refine x_ishl d192_74 ?_
            refine x_ior d192_75 ?_
            refine x_istore_n (ls2 := [some (.inr 137), some (.inl x1), some (.inl (zor x2 (zshl 1 (I 144 (x3).toNat)))), some (.inl x3), some (.inl (I 144 (x3).toNat))]) d192_76 rfl rfl ?_
            have e4 := k.1
            replace k := k.2
            refine x_iinc (ls2 := [some (.inr 137), some (.inl x1), some (.inl (zor x2 (zshl 1 (I 144 (x3).toNat)))), some (.inl (x3 + 1)), some (.inl (I 144 (x3).toNat))]) d192_77 rfl e4 rfl ?_
            refine x_goto (pc2 := 27) d192_80 rfl ?_
            exact k
          · replace c : ¬ (¬ (zand (zshr x2 (I 144 (x3).toNat)) 1) = 1) := c
            rw [if_neg c] at k
            refine x_iconst d143_9 rfl ?_
            refine x_goto (pc2 := 14) d143_10 rfl ?_
            refine x_zret d143_14 gR_143 (by decide) ?_
            show Ex (d + 1) 192 65 [some (.inr 137), some (.inl x1), some (.inl x2), some (.inl x3), some (.inl (I 144 (x3).toNat))] [.inl 1] (0, 0, n, sh, R, I3) _
            refine x_if1 (pc2 := 70) d192_65 rfl (fun c => absurd (show (1 : Int) = 0 from c) (by decide)) (fun _ => ?_)
            refine x_iconst d192_68 rfl ?_
            exact x_zret d192_69 gR_192 (by decide) ⟨_, _, rfl, rfl, k⟩
set_option maxHeartbeats 4000000 in
theorem b_M_order_85 {d n : Nat} {sh : ZS} {R : ZR} {I : ZI} {Q : Int → ZI → Prop} (hW : Wf sh R) {x1 : Int} {u2 : Option AV} {x3 : Int} {u4 : Option AV}
    (k : (if x1 ≤ x3 then Q 1 I else (0 ≤ x3 ∧ x3 < 220) ∧ (0 ≤ x3 ∧ x3 < 32) ∧ (zr (x3 + 1)) ∧ XIs (d + 1) 192 85 [some (.inr 137), some (.inl x1), u2, some (.inl (x3 + 1)), u4] [] n sh R (zup I 142 (x3).toNat (I 144 (x3).toNat)) Q)) : XIs (d + 1) 192 85 [some (.inr 137), some (.inl x1), u2, some (.inl x3), u4] [] n sh R I Q := by
  unfold XIs
  refine x_iload_n d192_85 rfl ?_
  refine x_iload_n d192_86 rfl ?_
  refine x_if2 (pc2 := 108) d192_87 rfl (fun c => ?_) (fun c => ?_)
  · replace c : x1 ≤ x3 := c
    rw [if_pos c] at k
    refine x_iconst d192_108 rfl ?_
    exact x_zret d192_109 gR_192 (by decide) ⟨_, _, rfl, rfl, k⟩
  · replace c : ¬ (x1 ≤ x3) := c
    rw [if_neg c] at k
    refine x_aload_n d192_90 rfl ?_
    refine x_getR (r := 142) d192_91 gY_192.2.2.2 gF_12_22 rfl (sh_137 hW) (rf_137_10 hW) (by decide) ?_
    refine x_iload_n d192_94 rfl ?_
    refine x_aload_n d192_95 rfl ?_
    refine x_getR (r := 144) d192_96 gY_192.2.2.2 gF_12_28 rfl (sh_137 hW) (rf_137_12 hW) (by decide) ?_
    refine x_iload_n d192_99 rfl ?_
    have e1 := k.1
    replace k := k.2
    refine x_bald d192_100 (sh_144 hW) e1.1 e1.2 ?_
    have e2 := k.1
    replace k := k.2
    refine x_iast d192_101 (sh_142 hW) e2.1 e2.2 ?_
    have e3 := k.1
    replace k := k.2
    refine x_iinc (ls2 := [some (.inr 137), some (.inl x1), u2, some (.inl (x3 + 1)), u4]) d192_102 rfl e3 rfl ?_
    refine x_goto (pc2 := 85) d192_105 rfl ?_
    exact k
set_option maxHeartbeats 4000000 in
theorem b_M_letterIs_0 {d n : Nat} {sh : ZS} {R : ZR} {I : ZI} {Q : Int → ZI → Prop} (hW : Wf sh R) {x1 : Int} {x2 : Int}
    (k : (if x1 < 0 then Q (-1) I else (if I 137 0 ≤ x1 then Q (-1) I else XI (d + 3) 151 [.inr 137, .inl x1] n sh R I (fun v1 I2 => (if x2 = 0 then (0 ≤ x1 ∧ x1 < 32) ∧ Q (I2 138 (x1).toNat) I2 else (if x2 = 1 then (0 ≤ x1 ∧ x1 < 32) ∧ Q (I2 139 (x1).toNat) I2 else (if x2 = 2 then (if ¬ v1 = (-1) then Q v1 I2 else Q (-2) I2) else (if x2 = 3 then (0 ≤ x1 ∧ x1 < 32) ∧ Q (I2 141 (x1).toNat) I2 else (if x2 = 4 then (if v1 = (-1) then Q (-2) I2 else XI (d + 3) 179 [.inr 137, .inl v1] n sh R I2 (fun v6 I7 => (if v6 = 0 then XI (d + 3) 180 [.inr 137, .inl v1] n sh R I7 (fun v8 I9 => Q v8 I9) else Q (-2) I7))) else Q (-1) I2))))))))) : XI (d + 4) 193 [.inr 137, .inl x1, .inl x2] n sh R I Q := by
  refine XI.of (ls := [some (.inr 137), some (.inl x1), some (.inl x2), none]) (zloc_eq gY_193.2.2.1) ?_
  unfold XIs
  refine x_aload_n d193_0 rfl ?_
  refine x_iload_n d193_1 rfl ?_
  refine y_inv (as := [.inl x1]) (t := []) (o := 137) (ls2 := [some (.inr 137), some (.inl x1)]) gY_144 d193_2 gY_193.2.2.2 gM_12_346 rfl (sh_137 hW) rfl rfl ?_
  refine x_iload_n d144_0 rfl ?_
  refine x_if1 (pc2 := 16) d144_1 rfl (fun c => ?_) (fun c => ?_)
  · replace c : x1 < 0 := c
    rw [if_pos c] at k
    refine x_iconst d144_16 rfl ?_
    refine x_zret d144_17 gR_144 (by decide) ?_
    show Ex (d + 4) 193 5 [some (.inr 137), some (.inl x1), some (.inl x2), none] [.inl 0] (0, 0, n, sh, R, I) _
    refine x_if1 (pc2 := 10) d193_5 rfl (fun c => absurd (show ¬ (0 : Int) = 0 from c) (by decide)) (fun _ => ?_)
    refine x_iconst d193_8 rfl ?_
    exact x_iret d193_9 gR_193 ⟨_, _, rfl, rfl, k⟩
  · replace c : ¬ (x1 < 0) := c
    rw [if_neg c] at k
    refine x_iload_n d144_4 rfl ?_
    refine x_aload_n d144_5 rfl ?_
    refine x_getI d144_6 gY_144.2.2.2 gF_12_159 rfl (sh_137 hW) ?_
    refine x_if2 (pc2 := 16) d144_9 rfl (fun c => ?_) (fun c => ?_)
    · replace c : I 137 0 ≤ x1 := c
      rw [if_pos c] at k
      refine x_iconst d144_16 rfl ?_
      refine x_zret d144_17 gR_144 (by decide) ?_
      show Ex (d + 4) 193 5 [some (.inr 137), some (.inl x1), some (.inl x2), none] [.inl 0] (0, 0, n, sh, R, I) _
      refine x_if1 (pc2 := 10) d193_5 rfl (fun c => absurd (show ¬ (0 : Int) = 0 from c) (by decide)) (fun _ => ?_)
      refine x_iconst d193_8 rfl ?_
      exact x_iret d193_9 gR_193 ⟨_, _, rfl, rfl, k⟩
    · replace c : ¬ (I 137 0 ≤ x1) := c
      rw [if_neg c] at k
      refine x_iconst d144_12 rfl ?_
      refine x_goto (pc2 := 17) d144_13 rfl ?_
      refine x_zret d144_17 gR_144 (by decide) ?_
      show Ex (d + 4) 193 5 [some (.inr 137), some (.inl x1), some (.inl x2), none] [.inl 1] (0, 0, n, sh, R, I) _
      refine x_if1 (pc2 := 10) d193_5 rfl (fun _ => ?_) (fun c => absurd (show ¬ (1 : Int) = 0 by decide) c)
      refine x_aload_n d193_10 rfl ?_
      refine x_iload_n d193_11 rfl ?_
      refine y_invI (as := [.inl x1]) (t := []) (o := 137) gY_151 d193_12 gY_193.2.2.2 gM_12_349 rfl (sh_137 hW) rfl k (fun v1 I2 k => ?_)
      refine x_istore_n (ls2 := [some (.inr 137), some (.inl x1), some (.inl x2), some (.inl v1)]) d193_15 rfl rfl ?_
      refine x_iload_n d193_16 rfl ?_
      by_cases c : x2 = 0
      · rw [if_pos c] at k
        refine x_tsw (off := 35) (pc2 := 52) d193_17 (by rw [c]; decide) rfl ?_
        refine x_aload_n d193_52 rfl ?_
        refine x_getR (r := 138) d193_53 gY_193.2.2.2 gF_12_7 rfl (sh_137 hW) (rf_137_6 hW) (by decide) ?_
        refine x_iload_n d193_56 rfl ?_
        have e3 := k.1
        replace k := k.2
        refine x_iald d193_57 (sh_138 hW) e3.1 e3.2 ?_
        exact x_iret d193_58 gR_193 ⟨_, _, rfl, rfl, k⟩
      rw [if_neg c] at k
      have c0 := c
      clear c
      by_cases c : x2 = 1
      · rw [if_pos c] at k
        refine x_tsw (off := 42) (pc2 := 59) d193_17 (by rw [c]; decide) rfl ?_
        refine x_aload_n d193_59 rfl ?_
        refine x_getR (r := 139) d193_60 gY_193.2.2.2 gF_12_13 rfl (sh_137 hW) (rf_137_7 hW) (by decide) ?_
        refine x_iload_n d193_63 rfl ?_
        have e4 := k.1
        replace k := k.2
        refine x_iald d193_64 (sh_139 hW) e4.1 e4.2 ?_
        exact x_iret d193_65 gR_193 ⟨_, _, rfl, rfl, k⟩
      rw [if_neg c] at k
      have c1 := c
      clear c
      by_cases c : x2 = 2
      · rw [if_pos c] at k
        refine x_tsw (off := 49) (pc2 := 66) d193_17 (by rw [c]; decide) rfl ?_
        refine x_iload_n d193_66 rfl ?_
        refine x_iconst d193_67 rfl ?_
        refine x_if2 (pc2 := 76) d193_68 rfl (fun c => ?_) (fun c => ?_)
        · replace c : ¬ v1 = (-1) := c
          rw [if_pos c] at k
          refine x_iload_n d193_76 rfl ?_
          exact x_iret d193_77 gR_193 ⟨_, _, rfl, rfl, k⟩
        · replace c : ¬ (¬ v1 = (-1)) := c
          rw [if_neg c] at k
          refine x_bipush d193_71 rfl ?_
          refine x_goto (pc2 := 77) d193_73 rfl ?_
          exact x_iret d193_77 gR_193 ⟨_, _, rfl, rfl, k⟩
      rw [if_neg c] at k
      have c2 := c
      clear c
      by_cases c : x2 = 3
      · rw [if_pos c] at k
        refine x_tsw (off := 61) (pc2 := 78) d193_17 (by rw [c]; decide) rfl ?_
        refine x_aload_n d193_78 rfl ?_
        refine x_getR (r := 141) d193_79 gY_193.2.2.2 gF_12_19 rfl (sh_137 hW) (rf_137_9 hW) (by decide) ?_
        refine x_iload_n d193_82 rfl ?_
        have e5 := k.1
        replace k := k.2
        refine x_iald d193_83 (sh_141 hW) e5.1 e5.2 ?_
        exact x_iret d193_84 gR_193 ⟨_, _, rfl, rfl, k⟩
      rw [if_neg c] at k
      have c3 := c
      clear c
      by_cases c : x2 = 4
      · rw [if_pos c] at k
        refine x_tsw (off := 68) (pc2 := 85) d193_17 (by rw [c]; decide) rfl ?_
        refine x_iload_n d193_85 rfl ?_
        refine x_iconst d193_86 rfl ?_
        refine x_if2 (pc2 := 98) d193_87 rfl (fun c => ?_) (fun c => ?_)
        · replace c : v1 = (-1) := c
          rw [if_pos c] at k
          refine x_bipush d193_98 rfl ?_
          refine x_goto (pc2 := 108) d193_100 rfl ?_
          exact x_iret d193_108 gR_193 ⟨_, _, rfl, rfl, k⟩
        · replace c : ¬ (v1 = (-1)) := c
          rw [if_neg c] at k
          refine x_aload_n d193_90 rfl ?_
          refine x_iload_n d193_91 rfl ?_
          refine y_invI (as := [.inl v1]) (t := []) (o := 137) gY_179 d193_92 gY_193.2.2.2 gM_12_303 rfl (sh_137 hW) rfl k (fun v6 I7 k => ?_)
          refine x_if1 (pc2 := 103) d193_95 rfl (fun c => ?_) (fun c => ?_)
          · replace c : v6 = 0 := c
            rw [if_pos c] at k
            refine x_aload_n d193_103 rfl ?_
            refine x_iload_n d193_104 rfl ?_
            refine y_invI (as := [.inl v1]) (t := []) (o := 137) gY_180 d193_105 gY_193.2.2.2 gM_12_306 rfl (sh_137 hW) rfl k (fun v8 I9 k => ?_)
            exact x_iret d193_108 gR_193 ⟨_, _, rfl, rfl, k⟩
          · replace c : ¬ (v6 = 0) := c
            rw [if_neg c] at k
            refine x_bipush d193_98 rfl ?_
            refine x_goto (pc2 := 108) d193_100 rfl ?_
            exact x_iret d193_108 gR_193 ⟨_, _, rfl, rfl, k⟩
      rw [if_neg c] at k
      have c4 := c
      clear c
      refine x_tsw (off := 92) (pc2 := 109) d193_17 (zts_dflt [0, 1, 2, 3, 4] (by decide) (by intro v hv; simp at hv; omega)) rfl ?_
      refine x_iconst d193_109 rfl ?_
      exact x_iret d193_110 gR_193 ⟨_, _, rfl, rfl, k⟩
set_option maxHeartbeats 4000000 in
theorem b_M_at_0 {d n : Nat} {sh : ZS} {R : ZR} {I : ZI} {Q : Int → ZI → Prop} (hW : Wf sh R) {x1 : Int}
    (k : (if x1 < 0 then Q (-1) I else (if I 137 1 ≤ x1 then Q (-1) I else (0 ≤ x1 ∧ x1 < 32) ∧ Q (I 142 (x1).toNat) I))) : XI d 194 [.inr 137, .inl x1] n sh R I Q := by
  refine XI.of (ls := [some (.inr 137), some (.inl x1)]) (zloc_eq gY_194.2.2.1) ?_
  unfold XIs
  refine x_iload_n d194_0 rfl ?_
  refine x_if1 (pc2 := 21) d194_1 rfl (fun c => ?_) (fun c => ?_)
  · replace c : x1 < 0 := c
    rw [if_pos c] at k
    refine x_iconst d194_21 rfl ?_
    exact x_iret d194_22 gR_194 ⟨_, _, rfl, rfl, k⟩
  · replace c : ¬ (x1 < 0) := c
    rw [if_neg c] at k
    refine x_iload_n d194_4 rfl ?_
    refine x_aload_n d194_5 rfl ?_
    refine x_getI d194_6 gY_194.2.2.2 gF_12_162 rfl (sh_137 hW) ?_
    refine x_if2 (pc2 := 21) d194_9 rfl (fun c => ?_) (fun c => ?_)
    · replace c : I 137 1 ≤ x1 := c
      rw [if_pos c] at k
      refine x_iconst d194_21 rfl ?_
      exact x_iret d194_22 gR_194 ⟨_, _, rfl, rfl, k⟩
    · replace c : ¬ (I 137 1 ≤ x1) := c
      rw [if_neg c] at k
      refine x_aload_n d194_12 rfl ?_
      refine x_getR (r := 142) d194_13 gY_194.2.2.2 gF_12_22 rfl (sh_137 hW) (rf_137_10 hW) (by decide) ?_
      refine x_iload_n d194_16 rfl ?_
      have e1 := k.1
      replace k := k.2
      refine x_iald d194_17 (sh_142 hW) e1.1 e1.2 ?_
      refine x_goto (pc2 := 22) d194_18 rfl ?_
      exact x_iret d194_22 gR_194 ⟨_, _, rfl, rfl, k⟩
set_option maxHeartbeats 4000000 in
theorem b_M_goes_0 {d n : Nat} {sh : ZS} {R : ZR} {I : ZI} {Q : Int → ZI → Prop} (hW : Wf sh R) {x1 : Int}
    (k : (if x1 < 1 then Q (-1) I else (if 12 < x1 then Q (-1) I else (zr (I 137 2 + x1)) ∧ (if 12 < (I 137 2 + x1) then Q (-1) I else XV (d + 6) 187 [.inr 137, .inl x1] n sh R I (fun I3 => Q (I3 137 36) I3))))) : XI (d + 7) 195 [.inr 137, .inl x1] n sh R I Q := by
  refine XI.of (ls := [some (.inr 137), some (.inl x1)]) (zloc_eq gY_195.2.2.1) ?_
  unfold XIs
  refine x_aload_n d195_0 rfl ?_
  refine x_iload_n d195_1 rfl ?_
  refine y_inv (as := [.inl x1]) (t := []) (o := 137) (ls2 := [some (.inr 137), some (.inl x1)]) gY_188 d195_2 gY_195.2.2.2 gM_12_352 rfl (sh_137 hW) rfl rfl ?_
  refine x_iload_n d188_0 rfl ?_
  refine x_iconst d188_1 rfl ?_
  refine x_bipush d188_2 rfl ?_
  refine y_ins (as := [.inl x1, .inl 1, .inl 12]) (t := []) (ls2 := [some (.inl x1), some (.inl 1), some (.inl 12)]) gY_140 d188_4 gY_188.2.2.2 gM_12_169 rfl rfl rfl ?_
  refine x_iload_n d140_0 rfl ?_
  refine x_iload_n d140_1 rfl ?_
  refine x_if2 (pc2 := 14) d140_2 rfl (fun c => ?_) (fun c => ?_)
  · replace c : x1 < 1 := c
    rw [if_pos c] at k
    refine x_iconst d140_14 rfl ?_
    refine x_zret d140_15 gR_140 (by decide) ?_
    show Ex (d + 6) 188 7 [some (.inr 137), some (.inl x1)] [.inl 0] (0, 0, n, sh, R, I) _
    refine x_if1 (pc2 := 25) d188_7 rfl (fun _ => ?_) (fun c => absurd (show (0 : Int) = 0 by decide) c)
    refine x_iconst d188_25 rfl ?_
    refine x_zret d188_26 gR_188 (by decide) ?_
    show Ex (d + 7) 195 5 [some (.inr 137), some (.inl x1)] [.inl 0] (0, 0, n, sh, R, I) _
    refine x_if1 (pc2 := 10) d195_5 rfl (fun c => absurd (show ¬ (0 : Int) = 0 from c) (by decide)) (fun _ => ?_)
    refine x_iconst d195_8 rfl ?_
    exact x_iret d195_9 gR_195 ⟨_, _, rfl, rfl, k⟩
  · replace c : ¬ (x1 < 1) := c
    rw [if_neg c] at k
    refine x_iload_n d140_5 rfl ?_
    refine x_iload_n d140_6 rfl ?_
    refine x_if2 (pc2 := 14) d140_7 rfl (fun c => ?_) (fun c => ?_)
    · replace c : 12 < x1 := c
      rw [if_pos c] at k
      refine x_iconst d140_14 rfl ?_
      refine x_zret d140_15 gR_140 (by decide) ?_
      show Ex (d + 6) 188 7 [some (.inr 137), some (.inl x1)] [.inl 0] (0, 0, n, sh, R, I) _
      refine x_if1 (pc2 := 25) d188_7 rfl (fun _ => ?_) (fun c => absurd (show (0 : Int) = 0 by decide) c)
      refine x_iconst d188_25 rfl ?_
      refine x_zret d188_26 gR_188 (by decide) ?_
      show Ex (d + 7) 195 5 [some (.inr 137), some (.inl x1)] [.inl 0] (0, 0, n, sh, R, I) _
      refine x_if1 (pc2 := 10) d195_5 rfl (fun c => absurd (show ¬ (0 : Int) = 0 from c) (by decide)) (fun _ => ?_)
      refine x_iconst d195_8 rfl ?_
      exact x_iret d195_9 gR_195 ⟨_, _, rfl, rfl, k⟩
    · replace c : ¬ (12 < x1) := c
      rw [if_neg c] at k
      refine x_iconst d140_10 rfl ?_
      refine x_goto (pc2 := 15) d140_11 rfl ?_
      refine x_zret d140_15 gR_140 (by decide) ?_
      show Ex (d + 6) 188 7 [some (.inr 137), some (.inl x1)] [.inl 1] (0, 0, n, sh, R, I) _
      refine x_if1 (pc2 := 25) d188_7 rfl (fun c => absurd (show (1 : Int) = 0 from c) (by decide)) (fun _ => ?_)
      refine x_aload_n d188_10 rfl ?_
      refine x_getI d188_11 gY_188.2.2.2 gF_12_173 rfl (sh_137 hW) ?_
      refine x_iload_n d188_14 rfl ?_
      have e1 := k.1
      replace k := k.2
      refine x_iadd d188_15 e1 ?_
      refine x_bipush d188_16 rfl ?_
      refine x_if2 (pc2 := 25) d188_18 rfl (fun c => ?_) (fun c => ?_)
      · replace c : 12 < (I 137 2 + x1) := c
        rw [if_pos c] at k
        refine x_iconst d188_25 rfl ?_
        refine x_zret d188_26 gR_188 (by decide) ?_
        show Ex (d + 7) 195 5 [some (.inr 137), some (.inl x1)] [.inl 0] (0, 0, n, sh, R, I) _
        refine x_if1 (pc2 := 10) d195_5 rfl (fun c => absurd (show ¬ (0 : Int) = 0 from c) (by decide)) (fun _ => ?_)
        refine x_iconst d195_8 rfl ?_
        exact x_iret d195_9 gR_195 ⟨_, _, rfl, rfl, k⟩
      · replace c : ¬ (12 < (I 137 2 + x1)) := c
        rw [if_neg c] at k
        refine x_iconst d188_21 rfl ?_
        refine x_goto (pc2 := 26) d188_22 rfl ?_
        refine x_zret d188_26 gR_188 (by decide) ?_
        show Ex (d + 7) 195 5 [some (.inr 137), some (.inl x1)] [.inl 1] (0, 0, n, sh, R, I) _
        refine x_if1 (pc2 := 10) d195_5 rfl (fun _ => ?_) (fun c => absurd (show ¬ (1 : Int) = 0 by decide) c)
        refine x_aload_n d195_10 rfl ?_
        refine x_iload_n d195_11 rfl ?_
        refine y_invV (as := [.inl x1]) (t := []) (o := 137) gY_187 d195_12 gY_195.2.2.2 gM_12_355 rfl (sh_137 hW) rfl k (fun I3 k => ?_)
        refine x_aload_n d195_15 rfl ?_
        refine x_getI d195_16 gY_195.2.2.2 gF_12_309 rfl (sh_137 hW) ?_
        exact x_iret d195_19 gR_195 ⟨_, _, rfl, rfl, k⟩
set_option maxHeartbeats 4000000 in
theorem b_M_outOf_0 {d n : Nat} {sh : ZS} {R : ZR} {I : ZI} {Q : Int → ZI → Prop} (hW : Wf sh R) 
    (k : XIs (d + 1) 196 2 [some (.inr 137), some (.inl 1)] [] n sh R I Q) : XI (d + 1) 196 [.inr 137] n sh R I Q := by
  refine XI.of (ls := [some (.inr 137), none]) (zloc_eq gY_196.2.2.1) ?_
  unfold XIs
  refine x_iconst d196_0 rfl ?_
  refine x_istore_n (ls2 := [some (.inr 137), some (.inl 1)]) d196_1 rfl rfl ?_
  exact k
set_option maxHeartbeats 4000000 in
theorem b_M_outOf_2 {d n : Nat} {sh : ZS} {R : ZR} {I : ZI} {Q : Int → ZI → Prop} (hW : Wf sh R) {x1 : Int}
    (k : (if I 137 1 ≤ x1 then Q (-1) I else (0 ≤ x1 ∧ x1 < 32) ∧ (0 ≤ I 142 (x1).toNat ∧ I 142 (x1).toNat < 32) ∧ (0 ≤ I 138 (I 142 (x1).toNat).toNat ∧ I 138 (I 142 (x1).toNat).toNat < 20) ∧ (zr (x1 - 1)) ∧ (0 ≤ (x1 - 1) ∧ (x1 - 1) < 32) ∧ (0 ≤ I 142 (x1 - 1).toNat ∧ I 142 (x1 - 1).toNat < 32) ∧ (0 ≤ I 138 (I 142 (x1 - 1).toNat).toNat ∧ I 138 (I 142 (x1 - 1).toNat).toNat < 20) ∧ (if I 143 (I 138 (I 142 (x1 - 1).toNat).toNat).toNat ≤ I 143 (I 138 (I 142 (x1).toNat).toNat).toNat then (zr (x1 + 1)) ∧ XIs (d + 1) 196 2 [some (.inr 137), some (.inl (x1 + 1))] [] n sh R I Q else Q x1 I))) : XIs (d + 1) 196 2 [some (.inr 137), some (.inl x1)] [] n sh R I Q := by
  unfold XIs
  refine x_iload_n d196_2 rfl ?_
  refine x_aload_n d196_3 rfl ?_
  refine x_getI d196_4 gY_196.2.2.2 gF_12_162 rfl (sh_137 hW) ?_
  refine x_if2 (pc2 := 43) d196_7 rfl (fun c => ?_) (fun c => ?_)
  · replace c : I 137 1 ≤ x1 := c
    rw [if_pos c] at k
    refine x_iconst d196_43 rfl ?_
    exact x_iret d196_44 gR_196 ⟨_, _, rfl, rfl, k⟩
  · replace c : ¬ (I 137 1 ≤ x1) := c
    rw [if_neg c] at k
    refine x_aload_n d196_10 rfl ?_
    refine x_aload_n d196_11 rfl ?_
    refine x_getR (r := 142) d196_12 gY_196.2.2.2 gF_12_22 rfl (sh_137 hW) (rf_137_10 hW) (by decide) ?_
    refine x_iload_n d196_15 rfl ?_
    have e1 := k.1
    replace k := k.2
    refine x_iald d196_16 (sh_142 hW) e1.1 e1.2 ?_
    refine y_inv (as := [.inl (I 142 (x1).toNat)]) (t := []) (o := 137) (ls2 := [some (.inr 137), some (.inl (I 142 (x1).toNat))]) gY_146 d196_17 gY_196.2.2.2 gM_12_291 rfl (sh_137 hW) rfl rfl ?_
    refine x_aload_n d146_0 rfl ?_
    refine x_getR (r := 143) d146_1 gY_146.2.2.2 gF_12_25 rfl (sh_137 hW) (rf_137_11 hW) (by decide) ?_
    refine x_aload_n d146_4 rfl ?_
    refine x_getR (r := 138) d146_5 gY_146.2.2.2 gF_12_7 rfl (sh_137 hW) (rf_137_6 hW) (by decide) ?_
    refine x_iload_n d146_8 rfl ?_
    have e2 := k.1
    replace k := k.2
    refine x_iald d146_9 (sh_138 hW) e2.1 e2.2 ?_
    have e3 := k.1
    replace k := k.2
    refine x_iald d146_10 (sh_143 hW) e3.1 e3.2 ?_
    refine x_iret d146_11 gR_146 ?_
    show Ex (d + 1) 196 20 [some (.inr 137), some (.inl x1)] [.inl (I 143 (I 138 (I 142 (x1).toNat).toNat).toNat)] (0, 0, n, sh, R, I) _
    refine x_aload_n d196_20 rfl ?_
    refine x_aload_n d196_21 rfl ?_
    refine x_getR (r := 142) d196_22 gY_196.2.2.2 gF_12_22 rfl (sh_137 hW) (rf_137_10 hW) (by decide) ?_
    refine x_iload_n d196_25 rfl ?_
    refine x_iconst d196_26 rfl ?_
    have e4 := k.1
    replace k := k.2
    refine x_isub d196_27 e4 ?_
    have e5 := k.1
    replace k := k.2
    refine x_iald d196_28 (sh_142 hW) e5.1 e5.2 ?_
    refine y_inv (as := [.inl (I 142 (x1 - 1).toNat)]) (t := [.inl (I 143 (I 138 (I 142 (x1).toNat).toNat).toNat)]) (o := 137) (ls2 := [some (.inr 137), some (.inl (I 142 (x1 - 1).toNat))]) gY_146 d196_29 gY_196.2.2.2 gM_12_291 rfl (sh_137 hW) rfl rfl ?_
    refine x_aload_n d146_0 rfl ?_
    refine x_getR (r := 143) d146_1 gY_146.2.2.2 gF_12_25 rfl (sh_137 hW) (rf_137_11 hW) (by decide) ?_
    refine x_aload_n d146_4 rfl ?_
    refine x_getR (r := 138) d146_5 gY_146.2.2.2 gF_12_7 rfl (sh_137 hW) (rf_137_6 hW) (by decide) ?_
    refine x_iload_n d146_8 rfl ?_
    have e6 := k.1
    replace k := k.2
    refine x_iald d146_9 (sh_138 hW) e6.1 e6.2 ?_
    have e7 := k.1
    replace k := k.2
    refine x_iald d146_10 (sh_143 hW) e7.1 e7.2 ?_
    refine x_iret d146_11 gR_146 ?_
    show Ex (d + 1) 196 32 [some (.inr 137), some (.inl x1)] [.inl (I 143 (I 138 (I 142 (x1 - 1).toNat).toNat).toNat), .inl (I 143 (I 138 (I 142 (x1).toNat).toNat).toNat)] (0, 0, n, sh, R, I) _
    refine x_if2 (pc2 := 37) d196_32 rfl (fun c => ?_) (fun c => ?_)
    · replace c : I 143 (I 138 (I 142 (x1 - 1).toNat).toNat).toNat ≤ I 143 (I 138 (I 142 (x1).toNat).toNat).toNat := c
      rw [if_pos c] at k
      have e8 := k.1
      replace k := k.2
      refine x_iinc (ls2 := [some (.inr 137), some (.inl (x1 + 1))]) d196_37 rfl e8 rfl ?_
      refine x_goto (pc2 := 2) d196_40 rfl ?_
      exact k
    · replace c : ¬ (I 143 (I 138 (I 142 (x1 - 1).toNat).toNat).toNat ≤ I 143 (I 138 (I 142 (x1).toNat).toNat).toNat) := c
      rw [if_neg c] at k
      refine x_iload_n d196_35 rfl ?_
      exact x_iret d196_36 gR_196 ⟨_, _, rfl, rfl, k⟩
set_option maxHeartbeats 4000000 in
theorem b_M_out_0 {d n : Nat} {sh : ZS} {R : ZR} {I : ZI} {Q : Int → ZI → Prop} (hW : Wf sh R) 
    (k : XI (d + 1) 196 [.inr 137] n sh R I (fun v1 I2 => Q v1 I2)) : XI (d + 2) 197 [.inr 137] n sh R I Q := by
  refine XI.of (ls := [some (.inr 137)]) (zloc_eq gY_197.2.2.1) ?_
  unfold XIs
  refine x_aload_n d197_0 rfl ?_
  refine y_invI (as := []) (t := []) (o := 137) gY_196 d197_1 gY_197.2.2.2 gM_12_358 rfl (sh_137 hW) rfl k (fun v1 I2 k => ?_)
  exact x_iret d197_4 gR_197 ⟨_, _, rfl, rfl, k⟩
set_option maxHeartbeats 4000000 in
theorem b_M_tried_0 {d n : Nat} {sh : ZS} {R : ZR} {I : ZI} {Q : Int → ZI → Prop} (hW : Wf sh R) {x1 : Int} {x2 : Int}
    (k : (if x1 < 1 then Q (-1) I else (if 12 < x1 then Q (-1) I else (zr (I 137 2 + x1)) ∧ (if 12 < (I 137 2 + x1) then Q (-1) I else (if x2 < 0 then (if x2 < 10 then Q (-1) I else (if 41 < x2 then Q (-1) I else XV (d + 6) 190 [.inr 137] n sh R I (fun I3 => XV (d + 6) 187 [.inr 137, .inl x1] n sh R I3 (fun I5 => (if ¬ x2 = 0 then (if ¬ x2 = 1 then (if ¬ x2 = 2 then (if ¬ x2 = 3 then (zr (x2 - 10)) ∧ (if I5 137 1 ≤ (x2 - 10) then XV (d + 6) 191 [.inr 137] n sh R I5 (fun I8 => Q (-2) I8) else (0 ≤ (x2 - 10) ∧ (x2 - 10) < 32) ∧ XV (d + 6) 191 [.inr 137] n sh R I5 (fun I11 => Q (I5 142 (x2 - 10).toNat) I11)) else XI (d + 6) 196 [.inr 137] n sh R I5 (fun v12 I13 => XV (d + 6) 191 [.inr 137] n sh R I13 (fun I15 => Q v12 I15))) else XV (d + 6) 191 [.inr 137] n sh R I5 (fun I17 => Q (I5 137 38) I17)) else XV (d + 6) 191 [.inr 137] n sh R I5 (fun I19 => Q (I5 137 37) I19)) else XV (d + 6) 191 [.inr 137] n sh R I5 (fun I21 => Q (I5 137 36) I21)))))) else (if 3 < x2 then (if x2 < 10 then Q (-1) I else (if 41 < x2 then Q (-1) I else XV (d + 6) 190 [.inr 137] n sh R I (fun I23 => XV (d + 6) 187 [.inr 137, .inl x1] n sh R I23 (fun I25 => (if ¬ x2 = 0 then (if ¬ x2 = 1 then (if ¬ x2 = 2 then (if ¬ x2 = 3 then (zr (x2 - 10)) ∧ (if I25 137 1 ≤ (x2 - 10) then XV (d + 6) 191 [.inr 137] n sh R I25 (fun I28 => Q (-2) I28) else (0 ≤ (x2 - 10) ∧ (x2 - 10) < 32) ∧ XV (d + 6) 191 [.inr 137] n sh R I25 (fun I31 => Q (I25 142 (x2 - 10).toNat) I31)) else XI (d + 6) 196 [.inr 137] n sh R I25 (fun v32 I33 => XV (d + 6) 191 [.inr 137] n sh R I33 (fun I35 => Q v32 I35))) else XV (d + 6) 191 [.inr 137] n sh R I25 (fun I37 => Q (I25 137 38) I37)) else XV (d + 6) 191 [.inr 137] n sh R I25 (fun I39 => Q (I25 137 37) I39)) else XV (d + 6) 191 [.inr 137] n sh R I25 (fun I41 => Q (I25 137 36) I41)))))) else XV (d + 6) 190 [.inr 137] n sh R I (fun I43 => XV (d + 6) 187 [.inr 137, .inl x1] n sh R I43 (fun I45 => (if ¬ x2 = 0 then (if ¬ x2 = 1 then (if ¬ x2 = 2 then (if ¬ x2 = 3 then (zr (x2 - 10)) ∧ (if I45 137 1 ≤ (x2 - 10) then XV (d + 6) 191 [.inr 137] n sh R I45 (fun I48 => Q (-2) I48) else (0 ≤ (x2 - 10) ∧ (x2 - 10) < 32) ∧ XV (d + 6) 191 [.inr 137] n sh R I45 (fun I51 => Q (I45 142 (x2 - 10).toNat) I51)) else XI (d + 6) 196 [.inr 137] n sh R I45 (fun v52 I53 => XV (d + 6) 191 [.inr 137] n sh R I53 (fun I55 => Q v52 I55))) else XV (d + 6) 191 [.inr 137] n sh R I45 (fun I57 => Q (I45 137 38) I57)) else XV (d + 6) 191 [.inr 137] n sh R I45 (fun I59 => Q (I45 137 37) I59)) else XV (d + 6) 191 [.inr 137] n sh R I45 (fun I61 => Q (I45 137 36) I61)))))))))) : XI (d + 7) 198 [.inr 137, .inl x1, .inl x2] n sh R I Q := by
  refine XI.of (ls := [some (.inr 137), some (.inl x1), some (.inl x2), none]) (zloc_eq gY_198.2.2.1) ?_
  unfold XIs
  refine x_aload_n d198_0 rfl ?_
  refine x_iload_n d198_1 rfl ?_
  refine y_inv (as := [.inl x1]) (t := []) (o := 137) (ls2 := [some (.inr 137), some (.inl x1)]) gY_188 d198_2 gY_198.2.2.2 gM_12_352 rfl (sh_137 hW) rfl rfl ?_
  refine x_iload_n d188_0 rfl ?_
  refine x_iconst d188_1 rfl ?_
  refine x_bipush d188_2 rfl ?_
  refine y_ins (as := [.inl x1, .inl 1, .inl 12]) (t := []) (ls2 := [some (.inl x1), some (.inl 1), some (.inl 12)]) gY_140 d188_4 gY_188.2.2.2 gM_12_169 rfl rfl rfl ?_
  refine x_iload_n d140_0 rfl ?_
  refine x_iload_n d140_1 rfl ?_
  refine x_if2 (pc2 := 14) d140_2 rfl (fun c => ?_) (fun c => ?_)
  · replace c : x1 < 1 := c
    rw [if_pos c] at k
    refine x_iconst d140_14 rfl ?_
    refine x_zret d140_15 gR_140 (by decide) ?_
    show Ex (d + 6) 188 7 [some (.inr 137), some (.inl x1)] [.inl 0] (0, 0, n, sh, R, I) _
    refine x_if1 (pc2 := 25) d188_7 rfl (fun _ => ?_) (fun c => absurd (show (0 : Int) = 0 by decide) c)
    refine x_iconst d188_25 rfl ?_
    refine x_zret d188_26 gR_188 (by decide) ?_
    show Ex (d + 7) 198 5 [some (.inr 137), some (.inl x1), some (.inl x2), none] [.inl 0] (0, 0, n, sh, R, I) _
    refine x_if1 (pc2 := 28) d198_5 rfl (fun _ => ?_) (fun c => absurd (show (0 : Int) = 0 by decide) c)
    refine x_iconst d198_28 rfl ?_
    exact x_iret d198_29 gR_198 ⟨_, _, rfl, rfl, k⟩
  · replace c : ¬ (x1 < 1) := c
    rw [if_neg c] at k
    refine x_iload_n d140_5 rfl ?_
    refine x_iload_n d140_6 rfl ?_
    refine x_if2 (pc2 := 14) d140_7 rfl (fun c => ?_) (fun c => ?_)
    · replace c : 12 < x1 := c
      rw [if_pos c] at k
      refine x_iconst d140_14 rfl ?_
      refine x_zret d140_15 gR_140 (by decide) ?_
      show Ex (d + 6) 188 7 [some (.inr 137), some (.inl x1)] [.inl 0] (0, 0, n, sh, R, I) _
      refine x_if1 (pc2 := 25) d188_7 rfl (fun _ => ?_) (fun c => absurd (show (0 : Int) = 0 by decide) c)
      refine x_iconst d188_25 rfl ?_
      refine x_zret d188_26 gR_188 (by decide) ?_
      show Ex (d + 7) 198 5 [some (.inr 137), some (.inl x1), some (.inl x2), none] [.inl 0] (0, 0, n, sh, R, I) _
      refine x_if1 (pc2 := 28) d198_5 rfl (fun _ => ?_) (fun c => absurd (show (0 : Int) = 0 by decide) c)
      refine x_iconst d198_28 rfl ?_
      exact x_iret d198_29 gR_198 ⟨_, _, rfl, rfl, k⟩
    · replace c : ¬ (12 < x1) := c
      rw [if_neg c] at k
      refine x_iconst d140_10 rfl ?_
      refine x_goto (pc2 := 15) d140_11 rfl ?_
      refine x_zret d140_15 gR_140 (by decide) ?_
      show Ex (d + 6) 188 7 [some (.inr 137), some (.inl x1)] [.inl 1] (0, 0, n, sh, R, I) _
      refine x_if1 (pc2 := 25) d188_7 rfl (fun c => absurd (show (1 : Int) = 0 from c) (by decide)) (fun _ => ?_)
      refine x_aload_n d188_10 rfl ?_
      refine x_getI d188_11 gY_188.2.2.2 gF_12_173 rfl (sh_137 hW) ?_
      refine x_iload_n d188_14 rfl ?_
      have e1 := k.1
      replace k := k.2
      refine x_iadd d188_15 e1 ?_
      refine x_bipush d188_16 rfl ?_
      refine x_if2 (pc2 := 25) d188_18 rfl (fun c => ?_) (fun c => ?_)
      · replace c : 12 < (I 137 2 + x1) := c
        rw [if_pos c] at k
        refine x_iconst d188_25 rfl ?_
        refine x_zret d188_26 gR_188 (by decide) ?_
        show Ex (d + 7) 198 5 [some (.inr 137), some (.inl x1), some (.inl x2), none] [.inl 0] (0, 0, n, sh, R, I) _
        refine x_if1 (pc2 := 28) d198_5 rfl (fun _ => ?_) (fun c => absurd (show (0 : Int) = 0 by decide) c)
        refine x_iconst d198_28 rfl ?_
        exact x_iret d198_29 gR_198 ⟨_, _, rfl, rfl, k⟩
      · replace c : ¬ (12 < (I 137 2 + x1)) := c
        rw [if_neg c] at k
        refine x_iconst d188_21 rfl ?_
        refine x_goto (pc2 := 26) d188_22 rfl ?_
        refine x_zret d188_26 gR_188 (by decide) ?_
        show Ex (d + 7) 198 5 [some (.inr 137), some (.inl x1), some (.inl x2), none] [.inl 1] (0, 0, n, sh, R, I) _
        refine x_if1 (pc2 := 28) d198_5 rfl (fun c => absurd (show (1 : Int) = 0 from c) (by decide)) (fun _ => ?_)
        refine x_iload_n d198_8 rfl ?_
        refine x_iconst d198_9 rfl ?_
        refine x_iconst d198_10 rfl ?_
        refine y_ins (as := [.inl x2, .inl 0, .inl 3]) (t := []) (ls2 := [some (.inl x2), some (.inl 0), some (.inl 3)]) gY_140 d198_11 gY_198.2.2.2 gM_12_169 rfl rfl rfl ?_
        refine x_iload_n d140_0 rfl ?_
        refine x_iload_n d140_1 rfl ?_
        refine x_if2 (pc2 := 14) d140_2 rfl (fun c => ?_) (fun c => ?_)
        · replace c : x2 < 0 := c
          rw [if_pos c] at k
          refine x_iconst d140_14 rfl ?_
          refine x_zret d140_15 gR_140 (by decide) ?_
          show Ex (d + 7) 198 14 [some (.inr 137), some (.inl x1), some (.inl x2), none] [.inl 0] (0, 0, n, sh, R, I) _
          refine x_if1 (pc2 := 30) d198_14 rfl (fun c => absurd (show ¬ (0 : Int) = 0 from c) (by decide)) (fun _ => ?_)
          refine x_iload_n d198_17 rfl ?_
          refine x_bipush d198_18 rfl ?_
          refine x_bipush d198_20 rfl ?_
          refine y_ins (as := [.inl x2, .inl 10, .inl 41]) (t := []) (ls2 := [some (.inl x2), some (.inl 10), some (.inl 41)]) gY_140 d198_22 gY_198.2.2.2 gM_12_169 rfl rfl rfl ?_
          refine x_iload_n d140_0 rfl ?_
          refine x_iload_n d140_1 rfl ?_
          refine x_if2 (pc2 := 14) d140_2 rfl (fun c => ?_) (fun c => ?_)
          · replace c : x2 < 10 := c
            rw [if_pos c] at k
            refine x_iconst d140_14 rfl ?_
            refine x_zret d140_15 gR_140 (by decide) ?_
            show Ex (d + 7) 198 25 [some (.inr 137), some (.inl x1), some (.inl x2), none] [.inl 0] (0, 0, n, sh, R, I) _
            refine x_if1 (pc2 := 30) d198_25 rfl (fun c => absurd (show ¬ (0 : Int) = 0 from c) (by decide)) (fun _ => ?_)
            refine x_iconst d198_28 rfl ?_
            exact x_iret d198_29 gR_198 ⟨_, _, rfl, rfl, k⟩
          · replace c : ¬ (x2 < 10) := c
            rw [if_neg c] at k
            refine x_iload_n d140_5 rfl ?_
            refine x_iload_n d140_6 rfl ?_
            refine x_if2 (pc2 := 14) d140_7 rfl (fun c => ?_) (fun c => ?_)
            · replace c : 41 < x2 := c
              rw [if_pos c] at k
              refine x_iconst d140_14 rfl ?_
              refine x_zret d140_15 gR_140 (by decide) ?_
              show Ex (d + 7) 198 25 [some (.inr 137), some (.inl x1), some (.inl x2), none] [.inl 0] (0, 0, n, sh, R, I) _
              refine x_if1 (pc2 := 30) d198_25 rfl (fun c => absurd (show ¬ (0 : Int) = 0 from c) (by decide)) (fun _ => ?_)
              refine x_iconst d198_28 rfl ?_
              exact x_iret d198_29 gR_198 ⟨_, _, rfl, rfl, k⟩
            · replace c : ¬ (41 < x2) := c
              rw [if_neg c] at k
              refine x_iconst d140_10 rfl ?_
              refine x_goto (pc2 := 15) d140_11 rfl ?_
              refine x_zret d140_15 gR_140 (by decide) ?_
              show Ex (d + 7) 198 25 [some (.inr 137), some (.inl x1), some (.inl x2), none] [.inl 1] (0, 0, n, sh, R, I) _
              refine x_if1 (pc2 := 30) d198_25 rfl (fun _ => ?_) (fun c => absurd (show ¬ (1 : Int) = 0 by decide) c)
              refine x_aload_n d198_30 rfl ?_
              refine y_invV (as := []) (t := []) (o := 137) gY_190 d198_31 gY_198.2.2.2 gM_12_361 rfl (sh_137 hW) rfl k (fun I3 k => ?_)
              refine x_aload_n d198_34 rfl ?_
              refine x_iload_n d198_35 rfl ?_
              refine y_invV (as := [.inl x1]) (t := []) (o := 137) gY_187 d198_36 gY_198.2.2.2 gM_12_355 rfl (sh_137 hW) rfl k (fun I5 k => ?_)
              refine x_iload_n d198_39 rfl ?_
              refine x_if1 (pc2 := 50) d198_40 rfl (fun c => ?_) (fun c => ?_)
              · replace c : ¬ x2 = 0 := c
                rw [if_pos c] at k
                refine x_iload_n d198_50 rfl ?_
                refine x_iconst d198_51 rfl ?_
                refine x_if2 (pc2 := 62) d198_52 rfl (fun c => ?_) (fun c => ?_)
                · replace c : ¬ x2 = 1 := c
                  rw [if_pos c] at k
                  refine x_iload_n d198_62 rfl ?_
                  refine x_iconst d198_63 rfl ?_
                  refine x_if2 (pc2 := 74) d198_64 rfl (fun c => ?_) (fun c => ?_)
                  · replace c : ¬ x2 = 2 := c
                    rw [if_pos c] at k
                    refine x_iload_n d198_74 rfl ?_
                    refine x_iconst d198_75 rfl ?_
                    refine x_if2 (pc2 := 86) d198_76 rfl (fun c => ?_) (fun c => ?_)
                    · replace c : ¬ x2 = 3 := c
                      rw [if_pos c] at k
                      refine x_iload_n d198_86 rfl ?_
                      refine x_bipush d198_87 rfl ?_
                      have e6 := k.1
                      replace k := k.2
                      refine x_isub d198_89 e6 ?_
                      refine x_aload_n d198_90 rfl ?_
                      refine x_getI d198_91 gY_198.2.2.2 gF_12_162 rfl (sh_137 hW) ?_
                      refine x_if2 (pc2 := 109) d198_94 rfl (fun c => ?_) (fun c => ?_)
                      · replace c : I5 137 1 ≤ (x2 - 10) := c
                        rw [if_pos c] at k
                        refine x_bipush d198_109 rfl ?_
                        refine x_istore_n (ls2 := [some (.inr 137), some (.inl x1), some (.inl x2), some (.inl (-2))]) d198_111 rfl rfl ?_
                        refine x_aload_n d198_112 rfl ?_
                        refine y_invV (as := []) (t := []) (o := 137) gY_191 d198_113 gY_198.2.2.2 gM_12_364 rfl (sh_137 hW) rfl k (fun I8 k => ?_)
                        refine x_iload_n d198_116 rfl ?_
                        exact x_iret d198_117 gR_198 ⟨_, _, rfl, rfl, k⟩
                      · replace c : ¬ (I5 137 1 ≤ (x2 - 10)) := c
                        rw [if_neg c] at k
                        refine x_aload_n d198_97 rfl ?_
                        refine x_getR (r := 142) d198_98 gY_198.2.2.2 gF_12_22 rfl (sh_137 hW) (rf_137_10 hW) (by decide) ?_
                        refine x_iload_n d198_101 rfl ?_
                        refine x_bipush d198_102 rfl ?_
                        refine x_isub d198_104 e6 ?_
                        have e9 := k.1
                        replace k := k.2
                        refine x_iald d198_105 (sh_142 hW) e9.1 e9.2 ?_
                        refine x_goto (pc2 := 111) d198_106 rfl ?_
                        refine x_istore_n (ls2 := [some (.inr 137), some (.inl x1), some (.inl x2), some (.inl (I5 142 (x2 - 10).toNat))]) d198_111 rfl rfl ?_
                        refine x_aload_n d198_112 rfl ?_
                        refine y_invV (as := []) (t := []) (o := 137) gY_191 d198_113 gY_198.2.2.2 gM_12_364 rfl (sh_137 hW) rfl k (fun I11 k => ?_)
                        refine x_iload_n d198_116 rfl ?_
                        exact x_iret d198_117 gR_198 ⟨_, _, rfl, rfl, k⟩
                    · replace c : ¬ (¬ x2 = 3) := c
                      rw [if_neg c] at k
                      refine x_aload_n d198_79 rfl ?_
                      refine y_invI (as := []) (t := []) (o := 137) gY_196 d198_80 gY_198.2.2.2 gM_12_358 rfl (sh_137 hW) rfl k (fun v12 I13 k => ?_)
                      refine x_goto (pc2 := 111) d198_83 rfl ?_
                      refine x_istore_n (ls2 := [some (.inr 137), some (.inl x1), some (.inl x2), some (.inl v12)]) d198_111 rfl rfl ?_
                      refine x_aload_n d198_112 rfl ?_
                      refine y_invV (as := []) (t := []) (o := 137) gY_191 d198_113 gY_198.2.2.2 gM_12_364 rfl (sh_137 hW) rfl k (fun I15 k => ?_)
                      refine x_iload_n d198_116 rfl ?_
                      exact x_iret d198_117 gR_198 ⟨_, _, rfl, rfl, k⟩
                  · replace c : ¬ (¬ x2 = 2) := c
                    rw [if_neg c] at k
                    refine x_aload_n d198_67 rfl ?_
                    refine x_getI d198_68 gY_198.2.2.2 gF_12_318 rfl (sh_137 hW) ?_
                    refine x_goto (pc2 := 111) d198_71 rfl ?_
                    refine x_istore_n (ls2 := [some (.inr 137), some (.inl x1), some (.inl x2), some (.inl (I5 137 38))]) d198_111 rfl rfl ?_
                    refine x_aload_n d198_112 rfl ?_
                    refine y_invV (as := []) (t := []) (o := 137) gY_191 d198_113 gY_198.2.2.2 gM_12_364 rfl (sh_137 hW) rfl k (fun I17 k => ?_)
                    refine x_iload_n d198_116 rfl ?_
                    exact x_iret d198_117 gR_198 ⟨_, _, rfl, rfl, k⟩
                · replace c : ¬ (¬ x2 = 1) := c
                  rw [if_neg c] at k
                  refine x_aload_n d198_55 rfl ?_
                  refine x_getI d198_56 gY_198.2.2.2 gF_12_315 rfl (sh_137 hW) ?_
                  refine x_goto (pc2 := 111) d198_59 rfl ?_
                  refine x_istore_n (ls2 := [some (.inr 137), some (.inl x1), some (.inl x2), some (.inl (I5 137 37))]) d198_111 rfl rfl ?_
                  refine x_aload_n d198_112 rfl ?_
                  refine y_invV (as := []) (t := []) (o := 137) gY_191 d198_113 gY_198.2.2.2 gM_12_364 rfl (sh_137 hW) rfl k (fun I19 k => ?_)
                  refine x_iload_n d198_116 rfl ?_
                  exact x_iret d198_117 gR_198 ⟨_, _, rfl, rfl, k⟩
              · replace c : ¬ (¬ x2 = 0) := c
                rw [if_neg c] at k
                refine x_aload_n d198_43 rfl ?_
                refine x_getI d198_44 gY_198.2.2.2 gF_12_309 rfl (sh_137 hW) ?_
                refine x_goto (pc2 := 111) d198_47 rfl ?_
                refine x_istore_n (ls2 := [some (.inr 137), some (.inl x1), some (.inl x2), some (.inl (I5 137 36))]) d198_111 rfl rfl ?_
                refine x_aload_n d198_112 rfl ?_
                refine y_invV (as := []) (t := []) (o := 137) gY_191 d198_113 gY_198.2.2.2 gM_12_364 rfl (sh_137 hW) rfl k (fun I21 k => ?_)
                refine x_iload_n d198_116 rfl ?_
                exact x_iret d198_117 gR_198 ⟨_, _, rfl, rfl, k⟩
        · replace c : ¬ (x2 < 0) := c
          rw [if_neg c] at k
          refine x_iload_n d140_5 rfl ?_
          refine x_iload_n d140_6 rfl ?_
          refine x_if2 (pc2 := 14) d140_7 rfl (fun c => ?_) (fun c => ?_)
          · replace c : 3 < x2 := c
            rw [if_pos c] at k
            refine x_iconst d140_14 rfl ?_
            refine x_zret d140_15 gR_140 (by decide) ?_
            show Ex (d + 7) 198 14 [some (.inr 137), some (.inl x1), some (.inl x2), none] [.inl 0] (0, 0, n, sh, R, I) _
            refine x_if1 (pc2 := 30) d198_14 rfl (fun c => absurd (show ¬ (0 : Int) = 0 from c) (by decide)) (fun _ => ?_)
            refine x_iload_n d198_17 rfl ?_
            refine x_bipush d198_18 rfl ?_
            refine x_bipush d198_20 rfl ?_
            refine y_ins (as := [.inl x2, .inl 10, .inl 41]) (t := []) (ls2 := [some (.inl x2), some (.inl 10), some (.inl 41)]) gY_140 d198_22 gY_198.2.2.2 gM_12_169 rfl rfl rfl ?_
            refine x_iload_n d140_0 rfl ?_
            refine x_iload_n d140_1 rfl ?_
            refine x_if2 (pc2 := 14) d140_2 rfl (fun c => ?_) (fun c => ?_)
            · replace c : x2 < 10 := c
              rw [if_pos c] at k
              refine x_iconst d140_14 rfl ?_
              refine x_zret d140_15 gR_140 (by decide) ?_
              show Ex (d + 7) 198 25 [some (.inr 137), some (.inl x1), some (.inl x2), none] [.inl 0] (0, 0, n, sh, R, I) _
              refine x_if1 (pc2 := 30) d198_25 rfl (fun c => absurd (show ¬ (0 : Int) = 0 from c) (by decide)) (fun _ => ?_)
              refine x_iconst d198_28 rfl ?_
              exact x_iret d198_29 gR_198 ⟨_, _, rfl, rfl, k⟩
            · replace c : ¬ (x2 < 10) := c
              rw [if_neg c] at k
              refine x_iload_n d140_5 rfl ?_
              refine x_iload_n d140_6 rfl ?_
              refine x_if2 (pc2 := 14) d140_7 rfl (fun c => ?_) (fun c => ?_)
              · replace c : 41 < x2 := c
                rw [if_pos c] at k
                refine x_iconst d140_14 rfl ?_
                refine x_zret d140_15 gR_140 (by decide) ?_
                show Ex (d + 7) 198 25 [some (.inr 137), some (.inl x1), some (.inl x2), none] [.inl 0] (0, 0, n, sh, R, I) _
                refine x_if1 (pc2 := 30) d198_25 rfl (fun c => absurd (show ¬ (0 : Int) = 0 from c) (by decide)) (fun _ => ?_)
                refine x_iconst d198_28 rfl ?_
                exact x_iret d198_29 gR_198 ⟨_, _, rfl, rfl, k⟩
              · replace c : ¬ (41 < x2) := c
                rw [if_neg c] at k
                refine x_iconst d140_10 rfl ?_
                refine x_goto (pc2 := 15) d140_11 rfl ?_
                refine x_zret d140_15 gR_140 (by decide) ?_
                show Ex (d + 7) 198 25 [some (.inr 137), some (.inl x1), some (.inl x2), none] [.inl 1] (0, 0, n, sh, R, I) _
                refine x_if1 (pc2 := 30) d198_25 rfl (fun _ => ?_) (fun c => absurd (show ¬ (1 : Int) = 0 by decide) c)
                refine x_aload_n d198_30 rfl ?_
                refine y_invV (as := []) (t := []) (o := 137) gY_190 d198_31 gY_198.2.2.2 gM_12_361 rfl (sh_137 hW) rfl k (fun I23 k => ?_)
                refine x_aload_n d198_34 rfl ?_
                refine x_iload_n d198_35 rfl ?_
                refine y_invV (as := [.inl x1]) (t := []) (o := 137) gY_187 d198_36 gY_198.2.2.2 gM_12_355 rfl (sh_137 hW) rfl k (fun I25 k => ?_)
                refine x_iload_n d198_39 rfl ?_
                refine x_if1 (pc2 := 50) d198_40 rfl (fun c => ?_) (fun c => ?_)
                · replace c : ¬ x2 = 0 := c
                  rw [if_pos c] at k
                  refine x_iload_n d198_50 rfl ?_
                  refine x_iconst d198_51 rfl ?_
                  refine x_if2 (pc2 := 62) d198_52 rfl (fun c => ?_) (fun c => ?_)
                  · replace c : ¬ x2 = 1 := c
                    rw [if_pos c] at k
                    refine x_iload_n d198_62 rfl ?_
                    refine x_iconst d198_63 rfl ?_
                    refine x_if2 (pc2 := 74) d198_64 rfl (fun c => ?_) (fun c => ?_)
                    · replace c : ¬ x2 = 2 := c
                      rw [if_pos c] at k
                      refine x_iload_n d198_74 rfl ?_
                      refine x_iconst d198_75 rfl ?_
                      refine x_if2 (pc2 := 86) d198_76 rfl (fun c => ?_) (fun c => ?_)
                      · replace c : ¬ x2 = 3 := c
                        rw [if_pos c] at k
                        refine x_iload_n d198_86 rfl ?_
                        refine x_bipush d198_87 rfl ?_
                        have e26 := k.1
                        replace k := k.2
                        refine x_isub d198_89 e26 ?_
                        refine x_aload_n d198_90 rfl ?_
                        refine x_getI d198_91 gY_198.2.2.2 gF_12_162 rfl (sh_137 hW) ?_
                        refine x_if2 (pc2 := 109) d198_94 rfl (fun c => ?_) (fun c => ?_)
                        · replace c : I25 137 1 ≤ (x2 - 10) := c
                          rw [if_pos c] at k
                          refine x_bipush d198_109 rfl ?_
                          refine x_istore_n (ls2 := [some (.inr 137), some (.inl x1), some (.inl x2), some (.inl (-2))]) d198_111 rfl rfl ?_
                          refine x_aload_n d198_112 rfl ?_
                          refine y_invV (as := []) (t := []) (o := 137) gY_191 d198_113 gY_198.2.2.2 gM_12_364 rfl (sh_137 hW) rfl k (fun I28 k => ?_)
                          refine x_iload_n d198_116 rfl ?_
                          exact x_iret d198_117 gR_198 ⟨_, _, rfl, rfl, k⟩
                        · replace c : ¬ (I25 137 1 ≤ (x2 - 10)) := c
                          rw [if_neg c] at k
                          refine x_aload_n d198_97 rfl ?_
                          refine x_getR (r := 142) d198_98 gY_198.2.2.2 gF_12_22 rfl (sh_137 hW) (rf_137_10 hW) (by decide) ?_
                          refine x_iload_n d198_101 rfl ?_
                          refine x_bipush d198_102 rfl ?_
                          refine x_isub d198_104 e26 ?_
                          have e29 := k.1
                          replace k := k.2
                          refine x_iald d198_105 (sh_142 hW) e29.1 e29.2 ?_
                          refine x_goto (pc2 := 111) d198_106 rfl ?_
                          refine x_istore_n (ls2 := [some (.inr 137), some (.inl x1), some (.inl x2), some (.inl (I25 142 (x2 - 10).toNat))]) d198_111 rfl rfl ?_
                          refine x_aload_n d198_112 rfl ?_
                          refine y_invV (as := []) (t := []) (o := 137) gY_191 d198_113 gY_198.2.2.2 gM_12_364 rfl (sh_137 hW) rfl k (fun I31 k => ?_)
                          refine x_iload_n d198_116 rfl ?_
                          exact x_iret d198_117 gR_198 ⟨_, _, rfl, rfl, k⟩
                      · replace c : ¬ (¬ x2 = 3) := c
                        rw [if_neg c] at k
                        refine x_aload_n d198_79 rfl ?_
                        refine y_invI (as := []) (t := []) (o := 137) gY_196 d198_80 gY_198.2.2.2 gM_12_358 rfl (sh_137 hW) rfl k (fun v32 I33 k => ?_)
                        refine x_goto (pc2 := 111) d198_83 rfl ?_
                        refine x_istore_n (ls2 := [some (.inr 137), some (.inl x1), some (.inl x2), some (.inl v32)]) d198_111 rfl rfl ?_
                        refine x_aload_n d198_112 rfl ?_
                        refine y_invV (as := []) (t := []) (o := 137) gY_191 d198_113 gY_198.2.2.2 gM_12_364 rfl (sh_137 hW) rfl k (fun I35 k => ?_)
                        refine x_iload_n d198_116 rfl ?_
                        exact x_iret d198_117 gR_198 ⟨_, _, rfl, rfl, k⟩
                    · replace c : ¬ (¬ x2 = 2) := c
                      rw [if_neg c] at k
                      refine x_aload_n d198_67 rfl ?_
                      refine x_getI d198_68 gY_198.2.2.2 gF_12_318 rfl (sh_137 hW) ?_
                      refine x_goto (pc2 := 111) d198_71 rfl ?_
                      refine x_istore_n (ls2 := [some (.inr 137), some (.inl x1), some (.inl x2), some (.inl (I25 137 38))]) d198_111 rfl rfl ?_
                      refine x_aload_n d198_112 rfl ?_
                      refine y_invV (as := []) (t := []) (o := 137) gY_191 d198_113 gY_198.2.2.2 gM_12_364 rfl (sh_137 hW) rfl k (fun I37 k => ?_)
                      refine x_iload_n d198_116 rfl ?_
                      exact x_iret d198_117 gR_198 ⟨_, _, rfl, rfl, k⟩
                  · replace c : ¬ (¬ x2 = 1) := c
                    rw [if_neg c] at k
                    refine x_aload_n d198_55 rfl ?_
                    refine x_getI d198_56 gY_198.2.2.2 gF_12_315 rfl (sh_137 hW) ?_
                    refine x_goto (pc2 := 111) d198_59 rfl ?_
                    refine x_istore_n (ls2 := [some (.inr 137), some (.inl x1), some (.inl x2), some (.inl (I25 137 37))]) d198_111 rfl rfl ?_
                    refine x_aload_n d198_112 rfl ?_
                    refine y_invV (as := []) (t := []) (o := 137) gY_191 d198_113 gY_198.2.2.2 gM_12_364 rfl (sh_137 hW) rfl k (fun I39 k => ?_)
                    refine x_iload_n d198_116 rfl ?_
                    exact x_iret d198_117 gR_198 ⟨_, _, rfl, rfl, k⟩
                · replace c : ¬ (¬ x2 = 0) := c
                  rw [if_neg c] at k
                  refine x_aload_n d198_43 rfl ?_
                  refine x_getI d198_44 gY_198.2.2.2 gF_12_309 rfl (sh_137 hW) ?_
                  refine x_goto (pc2 := 111) d198_47 rfl ?_
                  refine x_istore_n (ls2 := [some (.inr 137), some (.inl x1), some (.inl x2), some (.inl (I25 137 36))]) d198_111 rfl rfl ?_
                  refine x_aload_n d198_112 rfl ?_
                  refine y_invV (as := []) (t := []) (o := 137) gY_191 d198_113 gY_198.2.2.2 gM_12_364 rfl (sh_137 hW) rfl k (fun I41 k => ?_)
                  refine x_iload_n d198_116 rfl ?_
                  exact x_iret d198_117 gR_198 ⟨_, _, rfl, rfl, k⟩
          · replace c : ¬ (3 < x2) := c
            rw [if_neg c] at k
            refine x_iconst d140_10 rfl ?_
            refine x_goto (pc2 := 15) d140_11 rfl ?_
            refine x_zret d140_15 gR_140 (by decide) ?_
            show Ex (d + 7) 198 14 [some (.inr 137), some (.inl x1), some (.inl x2), none] [.inl 1] (0, 0, n, sh, R, I) _
            refine x_if1 (pc2 := 30) d198_14 rfl (fun _ => ?_) (fun c => absurd (show ¬ (1 : Int) = 0 by decide) c)
            refine x_aload_n d198_30 rfl ?_
            refine y_invV (as := []) (t := []) (o := 137) gY_190 d198_31 gY_198.2.2.2 gM_12_361 rfl (sh_137 hW) rfl k (fun I43 k => ?_)
            refine x_aload_n d198_34 rfl ?_
            refine x_iload_n d198_35 rfl ?_
            refine y_invV (as := [.inl x1]) (t := []) (o := 137) gY_187 d198_36 gY_198.2.2.2 gM_12_355 rfl (sh_137 hW) rfl k (fun I45 k => ?_)
            refine x_iload_n d198_39 rfl ?_
            refine x_if1 (pc2 := 50) d198_40 rfl (fun c => ?_) (fun c => ?_)
            · replace c : ¬ x2 = 0 := c
              rw [if_pos c] at k
              refine x_iload_n d198_50 rfl ?_
              refine x_iconst d198_51 rfl ?_
              refine x_if2 (pc2 := 62) d198_52 rfl (fun c => ?_) (fun c => ?_)
              · replace c : ¬ x2 = 1 := c
                rw [if_pos c] at k
                refine x_iload_n d198_62 rfl ?_
                refine x_iconst d198_63 rfl ?_
                refine x_if2 (pc2 := 74) d198_64 rfl (fun c => ?_) (fun c => ?_)
                · replace c : ¬ x2 = 2 := c
                  rw [if_pos c] at k
                  refine x_iload_n d198_74 rfl ?_
                  refine x_iconst d198_75 rfl ?_
                  refine x_if2 (pc2 := 86) d198_76 rfl (fun c => ?_) (fun c => ?_)
                  · replace c : ¬ x2 = 3 := c
                    rw [if_pos c] at k
                    refine x_iload_n d198_86 rfl ?_
                    refine x_bipush d198_87 rfl ?_
                    have e46 := k.1
                    replace k := k.2
                    refine x_isub d198_89 e46 ?_
                    refine x_aload_n d198_90 rfl ?_
                    refine x_getI d198_91 gY_198.2.2.2 gF_12_162 rfl (sh_137 hW) ?_
                    refine x_if2 (pc2 := 109) d198_94 rfl (fun c => ?_) (fun c => ?_)
                    · replace c : I45 137 1 ≤ (x2 - 10) := c
                      rw [if_pos c] at k
                      refine x_bipush d198_109 rfl ?_
                      refine x_istore_n (ls2 := [some (.inr 137), some (.inl x1), some (.inl x2), some (.inl (-2))]) d198_111 rfl rfl ?_
                      refine x_aload_n d198_112 rfl ?_
                      refine y_invV (as := []) (t := []) (o := 137) gY_191 d198_113 gY_198.2.2.2 gM_12_364 rfl (sh_137 hW) rfl k (fun I48 k => ?_)
                      refine x_iload_n d198_116 rfl ?_
                      exact x_iret d198_117 gR_198 ⟨_, _, rfl, rfl, k⟩
                    · replace c : ¬ (I45 137 1 ≤ (x2 - 10)) := c
                      rw [if_neg c] at k
                      refine x_aload_n d198_97 rfl ?_
                      refine x_getR (r := 142) d198_98 gY_198.2.2.2 gF_12_22 rfl (sh_137 hW) (rf_137_10 hW) (by decide) ?_
                      refine x_iload_n d198_101 rfl ?_
                      refine x_bipush d198_102 rfl ?_
                      refine x_isub d198_104 e46 ?_
                      have e49 := k.1
                      replace k := k.2
                      refine x_iald d198_105 (sh_142 hW) e49.1 e49.2 ?_
                      refine x_goto (pc2 := 111) d198_106 rfl ?_
                      refine x_istore_n (ls2 := [some (.inr 137), some (.inl x1), some (.inl x2), some (.inl (I45 142 (x2 - 10).toNat))]) d198_111 rfl rfl ?_
                      refine x_aload_n d198_112 rfl ?_
                      refine y_invV (as := []) (t := []) (o := 137) gY_191 d198_113 gY_198.2.2.2 gM_12_364 rfl (sh_137 hW) rfl k (fun I51 k => ?_)
                      refine x_iload_n d198_116 rfl ?_
                      exact x_iret d198_117 gR_198 ⟨_, _, rfl, rfl, k⟩
                  · replace c : ¬ (¬ x2 = 3) := c
                    rw [if_neg c] at k
                    refine x_aload_n d198_79 rfl ?_
                    refine y_invI (as := []) (t := []) (o := 137) gY_196 d198_80 gY_198.2.2.2 gM_12_358 rfl (sh_137 hW) rfl k (fun v52 I53 k => ?_)
                    refine x_goto (pc2 := 111) d198_83 rfl ?_
                    refine x_istore_n (ls2 := [some (.inr 137), some (.inl x1), some (.inl x2), some (.inl v52)]) d198_111 rfl rfl ?_
                    refine x_aload_n d198_112 rfl ?_
                    refine y_invV (as := []) (t := []) (o := 137) gY_191 d198_113 gY_198.2.2.2 gM_12_364 rfl (sh_137 hW) rfl k (fun I55 k => ?_)
                    refine x_iload_n d198_116 rfl ?_
                    exact x_iret d198_117 gR_198 ⟨_, _, rfl, rfl, k⟩
                · replace c : ¬ (¬ x2 = 2) := c
                  rw [if_neg c] at k
                  refine x_aload_n d198_67 rfl ?_
                  refine x_getI d198_68 gY_198.2.2.2 gF_12_318 rfl (sh_137 hW) ?_
                  refine x_goto (pc2 := 111) d198_71 rfl ?_
                  refine x_istore_n (ls2 := [some (.inr 137), some (.inl x1), some (.inl x2), some (.inl (I45 137 38))]) d198_111 rfl rfl ?_
                  refine x_aload_n d198_112 rfl ?_
                  refine y_invV (as := []) (t := []) (o := 137) gY_191 d198_113 gY_198.2.2.2 gM_12_364 rfl (sh_137 hW) rfl k (fun I57 k => ?_)
                  refine x_iload_n d198_116 rfl ?_
                  exact x_iret d198_117 gR_198 ⟨_, _, rfl, rfl, k⟩
              · replace c : ¬ (¬ x2 = 1) := c
                rw [if_neg c] at k
                refine x_aload_n d198_55 rfl ?_
                refine x_getI d198_56 gY_198.2.2.2 gF_12_315 rfl (sh_137 hW) ?_
                refine x_goto (pc2 := 111) d198_59 rfl ?_
                refine x_istore_n (ls2 := [some (.inr 137), some (.inl x1), some (.inl x2), some (.inl (I45 137 37))]) d198_111 rfl rfl ?_
                refine x_aload_n d198_112 rfl ?_
                refine y_invV (as := []) (t := []) (o := 137) gY_191 d198_113 gY_198.2.2.2 gM_12_364 rfl (sh_137 hW) rfl k (fun I59 k => ?_)
                refine x_iload_n d198_116 rfl ?_
                exact x_iret d198_117 gR_198 ⟨_, _, rfl, rfl, k⟩
            · replace c : ¬ (¬ x2 = 0) := c
              rw [if_neg c] at k
              refine x_aload_n d198_43 rfl ?_
              refine x_getI d198_44 gY_198.2.2.2 gF_12_309 rfl (sh_137 hW) ?_
              refine x_goto (pc2 := 111) d198_47 rfl ?_
              refine x_istore_n (ls2 := [some (.inr 137), some (.inl x1), some (.inl x2), some (.inl (I45 137 36))]) d198_111 rfl rfl ?_
              refine x_aload_n d198_112 rfl ?_
              refine y_invV (as := []) (t := []) (o := 137) gY_191 d198_113 gY_198.2.2.2 gM_12_364 rfl (sh_137 hW) rfl k (fun I61 k => ?_)
              refine x_iload_n d198_116 rfl ?_
              exact x_iret d198_117 gR_198 ⟨_, _, rfl, rfl, k⟩
set_option maxHeartbeats 4000000 in
theorem b_M_forAny_0 {d n : Nat} {sh : ZS} {R : ZR} {I : ZI} {Q : Int → ZI → Prop} (hW : Wf sh R) {x1 : Int} {x2 : Int}
    (k : (if x1 < 1 then Q (-1) I else (if 10000 < x1 then Q (-1) I else (if x2 < 1 then Q (-1) I else (if 9 < x2 then Q (-1) I else (if ¬ x2 = 1 then XIs (d + 1) 199 45 [some (.inr 137), some (.inl x1), some (.inl x2), some (.inl 0), some (.inl 1)] [] n sh R I Q else (if ¬ x1 = 1 then Q (-2) I else Q 0 I))))))) : XI (d + 1) 199 [.inr 137, .inl x1, .inl x2] n sh R I Q := by
  refine XI.of (ls := [some (.inr 137), some (.inl x1), some (.inl x2), none, none]) (zloc_eq gY_199.2.2.1) ?_
  unfold XIs
  refine x_iload_n d199_0 rfl ?_
  refine x_iconst d199_1 rfl ?_
  refine x_sipush d199_2 rfl ?_
  refine y_ins (as := [.inl x1, .inl 1, .inl 10000]) (t := []) (ls2 := [some (.inl x1), some (.inl 1), some (.inl 10000)]) gY_140 d199_5 gY_199.2.2.2 gM_12_169 rfl rfl rfl ?_
  refine x_iload_n d140_0 rfl ?_
  refine x_iload_n d140_1 rfl ?_
  refine x_if2 (pc2 := 14) d140_2 rfl (fun c => ?_) (fun c => ?_)
  · replace c : x1 < 1 := c
    rw [if_pos c] at k
    refine x_iconst d140_14 rfl ?_
    refine x_zret d140_15 gR_140 (by decide) ?_
    show Ex (d + 1) 199 8 [some (.inr 137), some (.inl x1), some (.inl x2), none, none] [.inl 0] (0, 0, n, sh, R, I) _
    refine x_if1 (pc2 := 21) d199_8 rfl (fun _ => ?_) (fun c => absurd (show (0 : Int) = 0 by decide) c)
    refine x_iconst d199_21 rfl ?_
    exact x_iret d199_22 gR_199 ⟨_, _, rfl, rfl, k⟩
  · replace c : ¬ (x1 < 1) := c
    rw [if_neg c] at k
    refine x_iload_n d140_5 rfl ?_
    refine x_iload_n d140_6 rfl ?_
    refine x_if2 (pc2 := 14) d140_7 rfl (fun c => ?_) (fun c => ?_)
    · replace c : 10000 < x1 := c
      rw [if_pos c] at k
      refine x_iconst d140_14 rfl ?_
      refine x_zret d140_15 gR_140 (by decide) ?_
      show Ex (d + 1) 199 8 [some (.inr 137), some (.inl x1), some (.inl x2), none, none] [.inl 0] (0, 0, n, sh, R, I) _
      refine x_if1 (pc2 := 21) d199_8 rfl (fun _ => ?_) (fun c => absurd (show (0 : Int) = 0 by decide) c)
      refine x_iconst d199_21 rfl ?_
      exact x_iret d199_22 gR_199 ⟨_, _, rfl, rfl, k⟩
    · replace c : ¬ (10000 < x1) := c
      rw [if_neg c] at k
      refine x_iconst d140_10 rfl ?_
      refine x_goto (pc2 := 15) d140_11 rfl ?_
      refine x_zret d140_15 gR_140 (by decide) ?_
      show Ex (d + 1) 199 8 [some (.inr 137), some (.inl x1), some (.inl x2), none, none] [.inl 1] (0, 0, n, sh, R, I) _
      refine x_if1 (pc2 := 21) d199_8 rfl (fun c => absurd (show (1 : Int) = 0 from c) (by decide)) (fun _ => ?_)
      refine x_iload_n d199_11 rfl ?_
      refine x_iconst d199_12 rfl ?_
      refine x_bipush d199_13 rfl ?_
      refine y_ins (as := [.inl x2, .inl 1, .inl 9]) (t := []) (ls2 := [some (.inl x2), some (.inl 1), some (.inl 9)]) gY_140 d199_15 gY_199.2.2.2 gM_12_169 rfl rfl rfl ?_
      refine x_iload_n d140_0 rfl ?_
      refine x_iload_n d140_1 rfl ?_
      refine x_if2 (pc2 := 14) d140_2 rfl (fun c => ?_) (fun c => ?_)
      · replace c : x2 < 1 := c
        rw [if_pos c] at k
        refine x_iconst d140_14 rfl ?_
        refine x_zret d140_15 gR_140 (by decide) ?_
        show Ex (d + 1) 199 18 [some (.inr 137), some (.inl x1), some (.inl x2), none, none] [.inl 0] (0, 0, n, sh, R, I) _
        refine x_if1 (pc2 := 23) d199_18 rfl (fun c => absurd (show ¬ (0 : Int) = 0 from c) (by decide)) (fun _ => ?_)
        refine x_iconst d199_21 rfl ?_
        exact x_iret d199_22 gR_199 ⟨_, _, rfl, rfl, k⟩
      · replace c : ¬ (x2 < 1) := c
        rw [if_neg c] at k
        refine x_iload_n d140_5 rfl ?_
        refine x_iload_n d140_6 rfl ?_
        refine x_if2 (pc2 := 14) d140_7 rfl (fun c => ?_) (fun c => ?_)
        · replace c : 9 < x2 := c
          rw [if_pos c] at k
          refine x_iconst d140_14 rfl ?_
          refine x_zret d140_15 gR_140 (by decide) ?_
          show Ex (d + 1) 199 18 [some (.inr 137), some (.inl x1), some (.inl x2), none, none] [.inl 0] (0, 0, n, sh, R, I) _
          refine x_if1 (pc2 := 23) d199_18 rfl (fun c => absurd (show ¬ (0 : Int) = 0 from c) (by decide)) (fun _ => ?_)
          refine x_iconst d199_21 rfl ?_
          exact x_iret d199_22 gR_199 ⟨_, _, rfl, rfl, k⟩
        · replace c : ¬ (9 < x2) := c
          rw [if_neg c] at k
          refine x_iconst d140_10 rfl ?_
          refine x_goto (pc2 := 15) d140_11 rfl ?_
          refine x_zret d140_15 gR_140 (by decide) ?_
          show Ex (d + 1) 199 18 [some (.inr 137), some (.inl x1), some (.inl x2), none, none] [.inl 1] (0, 0, n, sh, R, I) _
          refine x_if1 (pc2 := 23) d199_18 rfl (fun _ => ?_) (fun c => absurd (show ¬ (1 : Int) = 0 by decide) c)
          refine x_iload_n d199_23 rfl ?_
          refine x_iconst d199_24 rfl ?_
          refine x_if2 (pc2 := 40) d199_25 rfl (fun c => ?_) (fun c => ?_)
          · replace c : ¬ x2 = 1 := c
            rw [if_pos c] at k
            refine x_iconst d199_40 rfl ?_
            refine x_istore_n (ls2 := [some (.inr 137), some (.inl x1), some (.inl x2), some (.inl 0), none]) d199_41 rfl rfl ?_
            refine x_iconst d199_42 rfl ?_
            refine x_istore (ls2 := [some (.inr 137), some (.inl x1), some (.inl x2), some (.inl 0), some (.inl 1)]) d199_43 rfl rfl ?_
            exact k
          · replace c : ¬ (¬ x2 = 1) := c
            rw [if_neg c] at k
            refine x_iload_n d199_28 rfl ?_
            refine x_iconst d199_29 rfl ?_
            refine x_if2 (pc2 := 37) d199_30 rfl (fun c => ?_) (fun c => ?_)
            · replace c : ¬ x1 = 1 := c
              rw [if_pos c] at k
              refine x_bipush d199_37 rfl ?_
              exact x_iret d199_39 gR_199 ⟨_, _, rfl, rfl, k⟩
            · replace c : ¬ (¬ x1 = 1) := c
              rw [if_neg c] at k
              refine x_iconst d199_33 rfl ?_
              refine x_goto (pc2 := 39) d199_34 rfl ?_
              exact x_iret d199_39 gR_199 ⟨_, _, rfl, rfl, k⟩
set_option maxHeartbeats 4000000 in
theorem b_M_forAny_45 {d n : Nat} {sh : ZS} {R : ZR} {I : ZI} {Q : Int → ZI → Prop} (hW : Wf sh R) {u0 : Option AV} {x1 : Int} {x2 : Int} {x3 : Int} {x4 : Int}
    (k : (if x1 ≤ x4 then Q x3 I else (zr (x3 + 1)) ∧ (zr (x4 * x2)) ∧ XIs (d + 1) 199 45 [u0, some (.inl x1), some (.inl x2), some (.inl (x3 + 1)), some (.inl (x4 * x2))] [] n sh R I Q)) : XIs (d + 1) 199 45 [u0, some (.inl x1), some (.inl x2), some (.inl x3), some (.inl x4)] [] n sh R I Q := by
  unfold XIs
  refine x_iload d199_45 rfl ?_
  refine x_iload_n d199_47 rfl ?_
  refine x_if2 (pc2 := 64) d199_48 rfl (fun c => ?_) (fun c => ?_)
  · replace c : x1 ≤ x4 := c
    rw [if_pos c] at k
    refine x_iload_n d199_64 rfl ?_
    exact x_iret d199_65 gR_199 ⟨_, _, rfl, rfl, k⟩
  · replace c : ¬ (x1 ≤ x4) := c
    rw [if_neg c] at k
    refine x_iload_n d199_51 rfl ?_
    refine x_iconst d199_52 rfl ?_
    have e1 := k.1
    replace k := k.2
    refine x_iadd d199_53 e1 ?_
    refine x_istore_n (ls2 := [u0, some (.inl x1), some (.inl x2), some (.inl (x3 + 1)), some (.inl x4)]) d199_54 rfl rfl ?_
    refine x_iload d199_55 rfl ?_
    refine x_iload_n d199_57 rfl ?_
    have e2 := k.1
    replace k := k.2
    refine x_imul d199_58 e2 ?_
    refine x_istore (ls2 := [u0, some (.inl x1), some (.inl x2), some (.inl (x3 + 1)), some (.inl (x4 * x2))]) d199_59 rfl rfl ?_
    refine x_goto (pc2 := 45) d199_61 rfl ?_
    exact k
set_option maxHeartbeats 4000000 in
theorem b_M_laysRanks_0 {d n : Nat} {sh : ZS} {R : ZR} {I : ZI} {Q : ZI → Prop} (hW : Wf sh R) 
    (k : XVs (d + 1) 200 7 [some (.inr 137), some (.inl 0), none, none, none] [] n sh R (zup I 137 45 0) Q) : XV (d + 1) 200 [.inr 137] n sh R I Q := by
  refine XV.of (ls := [some (.inr 137), none, none, none, none]) (zloc_eq gY_200.2.2.1) ?_
  unfold XVs
  refine x_aload_n d200_0 rfl ?_
  refine x_iconst d200_1 rfl ?_
  refine x_putI d200_2 gY_200.2.2.2 gF_12_367 rfl rfl (sh_137 hW) ?_
  refine x_iconst d200_5 rfl ?_
  refine x_istore_n (ls2 := [some (.inr 137), some (.inl 0), none, none, none]) d200_6 rfl rfl ?_
  exact k
set_option maxHeartbeats 4000000 in
theorem b_M_laysRanks_7 {d n : Nat} {sh : ZS} {R : ZR} {I : ZI} {Q : ZI → Prop} (hW : Wf sh R) {x1 : Int} {u2 : Option AV} {u3 : Option AV} {u4 : Option AV}
    (k : (if 20 ≤ x1 then Q I else XVs (d + 1) 200 20 [some (.inr 137), some (.inl x1), some (.inl (-1)), some (.inl (-1)), some (.inl 0)] [] n sh R I Q)) : XVs (d + 1) 200 7 [some (.inr 137), some (.inl x1), u2, u3, u4] [] n sh R I Q := by
  unfold XVs
  refine x_iload_n d200_7 rfl ?_
  refine x_bipush d200_8 rfl ?_
  refine x_if2 (pc2 := 122) d200_10 rfl (fun c => ?_) (fun c => ?_)
  · replace c : 20 ≤ x1 := c
    rw [if_pos c] at k
    exact x_vret d200_122 gR_200 ⟨_, rfl, rfl, k⟩
  · replace c : ¬ (20 ≤ x1) := c
    rw [if_neg c] at k
    refine x_iconst d200_13 rfl ?_
    refine x_istore_n (ls2 := [some (.inr 137), some (.inl x1), some (.inl (-1)), u3, u4]) d200_14 rfl rfl ?_
    refine x_iconst d200_15 rfl ?_
    refine x_istore_n (ls2 := [some (.inr 137), some (.inl x1), some (.inl (-1)), some (.inl (-1)), u4]) d200_16 rfl rfl ?_
    refine x_iconst d200_17 rfl ?_
    refine x_istore (ls2 := [some (.inr 137), some (.inl x1), some (.inl (-1)), some (.inl (-1)), some (.inl 0)]) d200_18 rfl rfl ?_
    exact k
set_option maxHeartbeats 4000000 in
theorem b_M_laysRanks_20 {d n : Nat} {sh : ZS} {R : ZR} {I : ZI} {Q : ZI → Prop} (hW : Wf sh R) {x1 : Int} {x2 : Int} {x3 : Int} {x4 : Int}
    (k : (if I 137 1 ≤ x4 then (if ¬ x2 = (-1) then (0 ≤ I 137 45 ∧ I 137 45 < 20) ∧ (zr (I 137 45 + 1)) ∧ (zr (x1 + 1)) ∧ XVs (d + 1) 200 7 [some (.inr 137), some (.inl (x1 + 1)), some (.inl x2), some (.inl x3), some (.inl x4)] [] n sh R (zup (zup (zup (zup I 162 (I 137 45).toNat x1) 163 (I 137 45).toNat x2) 164 (I 137 45).toNat x3) 137 45 (I 137 45 + 1)) Q else (zr (x1 + 1)) ∧ XVs (d + 1) 200 7 [some (.inr 137), some (.inl (x1 + 1)), some (.inl x2), some (.inl x3), some (.inl x4)] [] n sh R I Q) else (0 ≤ x4 ∧ x4 < 32) ∧ (0 ≤ I 142 (x4).toNat ∧ I 142 (x4).toNat < 32) ∧ (0 ≤ I 138 (I 142 (x4).toNat).toNat ∧ I 138 (I 142 (x4).toNat).toNat < 20) ∧ (if I 143 (I 138 (I 142 (x4).toNat).toNat).toNat = x1 then (if ¬ x2 = (-1) then (zr (x4 + 1)) ∧ XVs (d + 1) 200 20 [some (.inr 137), some (.inl x1), some (.inl x2), some (.inl x4), some (.inl (x4 + 1))] [] n sh R I Q else (zr (x4 + 1)) ∧ XVs (d + 1) 200 20 [some (.inr 137), some (.inl x1), some (.inl x4), some (.inl x4), some (.inl (x4 + 1))] [] n sh R I Q) else (zr (x4 + 1)) ∧ XVs (d + 1) 200 20 [some (.inr 137), some (.inl x1), some (.inl x2), some (.inl x3), some (.inl (x4 + 1))] [] n sh R I Q))) : XVs (d + 1) 200 20 [some (.inr 137), some (.inl x1), some (.inl x2), some (.inl x3), some (.inl x4)] [] n sh R I Q := by
  unfold XVs
  refine x_iload d200_20 rfl ?_
  refine x_aload_n d200_22 rfl ?_
  refine x_getI d200_23 gY_200.2.2.2 gF_12_162 rfl (sh_137 hW) ?_
  refine x_if2 (pc2 := 68) d200_26 rfl (fun c => ?_) (fun c => ?_)
  · replace c : I 137 1 ≤ x4 := c
    rw [if_pos c] at k
    refine x_iload_n d200_68 rfl ?_
    refine x_iconst d200_69 rfl ?_
    refine x_if2 (pc2 := 76) d200_70 rfl (fun c => ?_) (fun c => ?_)
    · replace c : ¬ x2 = (-1) := c
      rw [if_pos c] at k
      refine x_aload_n d200_76 rfl ?_
      refine x_getR (r := 162) d200_77 gY_200.2.2.2 gF_12_83 rfl (sh_137 hW) (rf_137_46 hW) (by decide) ?_
      refine x_aload_n d200_80 rfl ?_
      refine x_getI d200_81 gY_200.2.2.2 gF_12_367 rfl (sh_137 hW) ?_
      refine x_iload_n d200_84 rfl ?_
      have e1 := k.1
      replace k := k.2
      refine x_iast d200_85 (sh_162 hW) e1.1 e1.2 ?_
      refine x_aload_n d200_86 rfl ?_
      refine x_getR (r := 163) d200_87 gY_200.2.2.2 gF_12_86 rfl (sh_137 hW) (rf_137_47 hW) (by decide) ?_
      refine x_aload_n d200_90 rfl ?_
      refine x_getI d200_91 gY_200.2.2.2 gF_12_367 rfl (sh_137 hW) ?_
      refine x_iload_n d200_94 rfl ?_
      refine x_iast d200_95 (sh_163 hW) e1.1 e1.2 ?_
      refine x_aload_n d200_96 rfl ?_
      refine x_getR (r := 164) d200_97 gY_200.2.2.2 gF_12_89 rfl (sh_137 hW) (rf_137_48 hW) (by decide) ?_
      refine x_aload_n d200_100 rfl ?_
      refine x_getI d200_101 gY_200.2.2.2 gF_12_367 rfl (sh_137 hW) ?_
      refine x_iload_n d200_104 rfl ?_
      refine x_iast d200_105 (sh_164 hW) e1.1 e1.2 ?_
      refine x_aload_n d200_106 rfl ?_
      refine x_aload_n d200_107 rfl ?_
      refine x_getI d200_108 gY_200.2.2.2 gF_12_367 rfl (sh_137 hW) ?_
      refine x_iconst d200_111 rfl ?_
      have e2 := k.1
      replace k := k.2
      refine x_iadd d200_112 e2 ?_
      refine x_putI d200_113 gY_200.2.2.2 gF_12_367 rfl rfl (sh_137 hW) ?_
      have e3 := k.1
      replace k := k.2
      refine x_iinc (ls2 := [some (.inr 137), some (.inl (x1 + 1)), some (.inl x2), some (.inl x3), some (.inl x4)]) d200_116 rfl e3 rfl ?_
      refine x_goto (pc2 := 7) d200_119 rfl ?_
      exact k
    · replace c : ¬ (¬ x2 = (-1)) := c
      rw [if_neg c] at k
      refine x_goto (pc2 := 116) d200_73 rfl ?_
      have e4 := k.1
      replace k := k.2
      refine x_iinc (ls2 := [some (.inr 137), some (.inl (x1 + 1)), some (.inl x2), some (.inl x3), some (.inl x4)]) d200_116 rfl e4 rfl ?_
      refine x_goto (pc2 := 7) d200_119 rfl ?_
      exact k
  · replace c : ¬ (I 137 1 ≤ x4) := c
    rw [if_neg c] at k
    refine x_aload_n d200_29 rfl ?_
    refine x_aload_n d200_30 rfl ?_
    refine x_getR (r := 142) d200_31 gY_200.2.2.2 gF_12_22 rfl (sh_137 hW) (rf_137_10 hW) (by decide) ?_
    refine x_iload d200_34 rfl ?_
    have e5 := k.1
    replace k := k.2
    refine x_iald d200_36 (sh_142 hW) e5.1 e5.2 ?_
    refine y_inv (as := [.inl (I 142 (x4).toNat)]) (t := []) (o := 137) (ls2 := [some (.inr 137), some (.inl (I 142 (x4).toNat))]) gY_146 d200_37 gY_200.2.2.2 gM_12_291 rfl (sh_137 hW) rfl rfl ?_
    refine x_aload_n d146_0 rfl ?_
    refine x_getR (r := 143) d146_1 gY_146.2.2.2 gF_12_25 rfl (sh_137 hW) (rf_137_11 hW) (by decide) ?_
    refine x_aload_n d146_4 rfl ?_
    refine x_getR (r := 138) d146_5 gY_146.2.2.2 gF_12_7 rfl (sh_137 hW) (rf_137_6 hW) (by decide) ?_
    refine x_iload_n d146_8 rfl ?_
    have e6 := k.1
    replace k := k.2
    refine x_iald d146_9 (sh_138 hW) e6.1 e6.2 ?_
    have e7 := k.1
    replace k := k.2
    refine x_iald d146_10 (sh_143 hW) e7.1 e7.2 ?_
    refine x_iret d146_11 gR_146 ?_
    show Ex (d + 1) 200 40 [some (.inr 137), some (.inl x1), some (.inl x2), some (.inl x3), some (.inl x4)] [.inl (I 143 (I 138 (I 142 (x4).toNat).toNat).toNat)] (0, 0, n, sh, R, I) _
    refine x_iload_n d200_40 rfl ?_
    refine x_if2 (pc2 := 47) d200_41 rfl (fun c => ?_) (fun c => ?_)
    · replace c : I 143 (I 138 (I 142 (x4).toNat).toNat).toNat = x1 := c
      rw [if_pos c] at k
      refine x_iload_n d200_47 rfl ?_
      refine x_iconst d200_48 rfl ?_
      refine x_if2 (pc2 := 57) d200_49 rfl (fun c => ?_) (fun c => ?_)
      · replace c : ¬ x2 = (-1) := c
        rw [if_pos c] at k
        refine x_iload_n d200_57 rfl ?_
        refine x_istore_n (ls2 := [some (.inr 137), some (.inl x1), some (.inl x2), some (.inl x3), some (.inl x4)]) d200_58 rfl rfl ?_
        refine x_iload d200_59 rfl ?_
        refine x_istore_n (ls2 := [some (.inr 137), some (.inl x1), some (.inl x2), some (.inl x4), some (.inl x4)]) d200_61 rfl rfl ?_
        have e8 := k.1
        replace k := k.2
        refine x_iinc (ls2 := [some (.inr 137), some (.inl x1), some (.inl x2), some (.inl x4), some (.inl (x4 + 1))]) d200_62 rfl e8 rfl ?_
        refine x_goto (pc2 := 20) d200_65 rfl ?_
        exact k
      · replace c : ¬ (¬ x2 = (-1)) := c
        rw [if_neg c] at k
        refine x_iload d200_52 rfl ?_
        refine x_goto (pc2 := 58) d200_54 rfl ?_
        refine x_istore_n (ls2 := [some (.inr 137), some (.inl x1), some (.inl x4), some (.inl x3), some (.inl x4)]) d200_58 rfl rfl ?_
        refine x_iload d200_59 rfl ?_
        refine x_istore_n (ls2 := [some (.inr 137), some (.inl x1), some (.inl x4), some (.inl x4), some (.inl x4)]) d200_61 rfl rfl ?_
        have e9 := k.1
        replace k := k.2
        refine x_iinc (ls2 := [some (.inr 137), some (.inl x1), some (.inl x4), some (.inl x4), some (.inl (x4 + 1))]) d200_62 rfl e9 rfl ?_
        refine x_goto (pc2 := 20) d200_65 rfl ?_
        exact k
    · replace c : ¬ (I 143 (I 138 (I 142 (x4).toNat).toNat).toNat = x1) := c
      rw [if_neg c] at k
      refine x_goto (pc2 := 62) d200_44 rfl ?_
      have e10 := k.1
      replace k := k.2
      refine x_iinc (ls2 := [some (.inr 137), some (.inl x1), some (.inl x2), some (.inl x3), some (.inl (x4 + 1))]) d200_62 rfl e10 rfl ?_
      refine x_goto (pc2 := 20) d200_65 rfl ?_
      exact k
set_option maxHeartbeats 4000000 in
theorem b_M_goTogether_0 {d n : Nat} {sh : ZS} {R : ZR} {I : ZI} {Q : Int → ZI → Prop} (hW : Wf sh R) {x1 : Int} {x2 : Int}
    (k : (if x2 = 0 then (0 ≤ x1 ∧ x1 < 20) ∧ (zr (x1 + 1)) ∧ (0 ≤ (x1 + 1) ∧ (x1 + 1) < 20) ∧ (if I 163 (x1 + 1).toNat ≤ I 164 (x1).toNat then Q 0 I else Q 1 I) else (0 ≤ x1 ∧ x1 < 20) ∧ (zr (x1 + 1)) ∧ (0 ≤ (x1 + 1) ∧ (x1 + 1) < 20) ∧ (if I 163 (x1).toNat ≤ I 164 (x1 + 1).toNat then Q 0 I else Q 1 I))) : XI d 201 [.inr 137, .inl x1, .inl x2] n sh R I Q := by
  refine XI.of (ls := [some (.inr 137), some (.inl x1), some (.inl x2)]) (zloc_eq gY_201.2.2.1) ?_
  unfold XIs
  refine x_iload_n d201_0 rfl ?_
  refine x_if1 (pc2 := 29) d201_1 rfl (fun c => ?_) (fun c => ?_)
  · replace c : x2 = 0 := c
    rw [if_pos c] at k
    refine x_aload_n d201_29 rfl ?_
    refine x_getR (r := 164) d201_30 gY_201.2.2.2 gF_12_89 rfl (sh_137 hW) (rf_137_48 hW) (by decide) ?_
    refine x_iload_n d201_33 rfl ?_
    have e1 := k.1
    replace k := k.2
    refine x_iald d201_34 (sh_164 hW) e1.1 e1.2 ?_
    refine x_aload_n d201_35 rfl ?_
    refine x_getR (r := 163) d201_36 gY_201.2.2.2 gF_12_86 rfl (sh_137 hW) (rf_137_47 hW) (by decide) ?_
    refine x_iload_n d201_39 rfl ?_
    refine x_iconst d201_40 rfl ?_
    have e2 := k.1
    replace k := k.2
    refine x_iadd d201_41 e2 ?_
    have e3 := k.1
    replace k := k.2
    refine x_iald d201_42 (sh_163 hW) e3.1 e3.2 ?_
    refine x_if2 (pc2 := 50) d201_43 rfl (fun c => ?_) (fun c => ?_)
    · replace c : I 163 (x1 + 1).toNat ≤ I 164 (x1).toNat := c
      rw [if_pos c] at k
      refine x_iconst d201_50 rfl ?_
      exact x_zret d201_51 gR_201 (by decide) ⟨_, _, rfl, rfl, k⟩
    · replace c : ¬ (I 163 (x1 + 1).toNat ≤ I 164 (x1).toNat) := c
      rw [if_neg c] at k
      refine x_iconst d201_46 rfl ?_
      refine x_goto (pc2 := 51) d201_47 rfl ?_
      exact x_zret d201_51 gR_201 (by decide) ⟨_, _, rfl, rfl, k⟩
  · replace c : ¬ (x2 = 0) := c
    rw [if_neg c] at k
    refine x_aload_n d201_4 rfl ?_
    refine x_getR (r := 163) d201_5 gY_201.2.2.2 gF_12_86 rfl (sh_137 hW) (rf_137_47 hW) (by decide) ?_
    refine x_iload_n d201_8 rfl ?_
    have e4 := k.1
    replace k := k.2
    refine x_iald d201_9 (sh_163 hW) e4.1 e4.2 ?_
    refine x_aload_n d201_10 rfl ?_
    refine x_getR (r := 164) d201_11 gY_201.2.2.2 gF_12_89 rfl (sh_137 hW) (rf_137_48 hW) (by decide) ?_
    refine x_iload_n d201_14 rfl ?_
    refine x_iconst d201_15 rfl ?_
    have e5 := k.1
    replace k := k.2
    refine x_iadd d201_16 e5 ?_
    have e6 := k.1
    replace k := k.2
    refine x_iald d201_17 (sh_164 hW) e6.1 e6.2 ?_
    refine x_if2 (pc2 := 25) d201_18 rfl (fun c => ?_) (fun c => ?_)
    · replace c : I 163 (x1).toNat ≤ I 164 (x1 + 1).toNat := c
      rw [if_pos c] at k
      refine x_iconst d201_25 rfl ?_
      refine x_goto (pc2 := 51) d201_26 rfl ?_
      exact x_zret d201_51 gR_201 (by decide) ⟨_, _, rfl, rfl, k⟩
    · replace c : ¬ (I 163 (x1).toNat ≤ I 164 (x1 + 1).toNat) := c
      rw [if_neg c] at k
      refine x_iconst d201_21 rfl ?_
      refine x_goto (pc2 := 51) d201_22 rfl ?_
      exact x_zret d201_51 gR_201 (by decide) ⟨_, _, rfl, rfl, k⟩
set_option maxHeartbeats 4000000 in
theorem b_M_runs_0 {d n : Nat} {sh : ZS} {R : ZR} {I : ZI} {Q : Int → ZI → Prop} (hW : Wf sh R) {x1 : Int}
    (k : (if x1 < 0 then Q (-1) I else (if 1 < x1 then Q (-1) I else XV (d + 1) 200 [.inr 137] n sh R I (fun I2 => (if I2 137 45 ≤ 0 then XIs (d + 2) 202 30 [some (.inr 137), some (.inl x1), some (.inl 0), some (.inl 0)] [] n sh R I2 Q else XIs (d + 2) 202 30 [some (.inr 137), some (.inl x1), some (.inl 1), some (.inl 0)] [] n sh R I2 Q))))) : XI (d + 2) 202 [.inr 137, .inl x1] n sh R I Q := by
  refine XI.of (ls := [some (.inr 137), some (.inl x1), none, none]) (zloc_eq gY_202.2.2.1) ?_
  unfold XIs
  refine x_iload_n d202_0 rfl ?_
  refine x_iconst d202_1 rfl ?_
  refine x_iconst d202_2 rfl ?_
  refine y_ins (as := [.inl x1, .inl 0, .inl 1]) (t := []) (ls2 := [some (.inl x1), some (.inl 0), some (.inl 1)]) gY_140 d202_3 gY_202.2.2.2 gM_12_169 rfl rfl rfl ?_
  refine x_iload_n d140_0 rfl ?_
  refine x_iload_n d140_1 rfl ?_
  refine x_if2 (pc2 := 14) d140_2 rfl (fun c => ?_) (fun c => ?_)
  · replace c : x1 < 0 := c
    rw [if_pos c] at k
    refine x_iconst d140_14 rfl ?_
    refine x_zret d140_15 gR_140 (by decide) ?_
    show Ex (d + 2) 202 6 [some (.inr 137), some (.inl x1), none, none] [.inl 0] (0, 0, n, sh, R, I) _
    refine x_if1 (pc2 := 11) d202_6 rfl (fun c => absurd (show ¬ (0 : Int) = 0 from c) (by decide)) (fun _ => ?_)
    refine x_iconst d202_9 rfl ?_
    exact x_iret d202_10 gR_202 ⟨_, _, rfl, rfl, k⟩
  · replace c : ¬ (x1 < 0) := c
    rw [if_neg c] at k
    refine x_iload_n d140_5 rfl ?_
    refine x_iload_n d140_6 rfl ?_
    refine x_if2 (pc2 := 14) d140_7 rfl (fun c => ?_) (fun c => ?_)
    · replace c : 1 < x1 := c
      rw [if_pos c] at k
      refine x_iconst d140_14 rfl ?_
      refine x_zret d140_15 gR_140 (by decide) ?_
      show Ex (d + 2) 202 6 [some (.inr 137), some (.inl x1), none, none] [.inl 0] (0, 0, n, sh, R, I) _
      refine x_if1 (pc2 := 11) d202_6 rfl (fun c => absurd (show ¬ (0 : Int) = 0 from c) (by decide)) (fun _ => ?_)
      refine x_iconst d202_9 rfl ?_
      exact x_iret d202_10 gR_202 ⟨_, _, rfl, rfl, k⟩
    · replace c : ¬ (1 < x1) := c
      rw [if_neg c] at k
      refine x_iconst d140_10 rfl ?_
      refine x_goto (pc2 := 15) d140_11 rfl ?_
      refine x_zret d140_15 gR_140 (by decide) ?_
      show Ex (d + 2) 202 6 [some (.inr 137), some (.inl x1), none, none] [.inl 1] (0, 0, n, sh, R, I) _
      refine x_if1 (pc2 := 11) d202_6 rfl (fun _ => ?_) (fun c => absurd (show ¬ (1 : Int) = 0 by decide) c)
      refine x_aload_n d202_11 rfl ?_
      refine y_invV (as := []) (t := []) (o := 137) gY_200 d202_12 gY_202.2.2.2 gM_12_370 rfl (sh_137 hW) rfl k (fun I2 k => ?_)
      refine x_aload_n d202_15 rfl ?_
      refine x_getI d202_16 gY_202.2.2.2 gF_12_367 rfl (sh_137 hW) ?_
      refine x_if1 (pc2 := 26) d202_19 rfl (fun c => ?_) (fun c => ?_)
      · replace c : I2 137 45 ≤ 0 := c
        rw [if_pos c] at k
        refine x_iconst d202_26 rfl ?_
        refine x_istore_n (ls2 := [some (.inr 137), some (.inl x1), some (.inl 0), none]) d202_27 rfl rfl ?_
        refine x_iconst d202_28 rfl ?_
        refine x_istore_n (ls2 := [some (.inr 137), some (.inl x1), some (.inl 0), some (.inl 0)]) d202_29 rfl rfl ?_
        exact k
      · replace c : ¬ (I2 137 45 ≤ 0) := c
        rw [if_neg c] at k
        refine x_iconst d202_22 rfl ?_
        refine x_goto (pc2 := 27) d202_23 rfl ?_
        refine x_istore_n (ls2 := [some (.inr 137), some (.inl x1), some (.inl 1), none]) d202_27 rfl rfl ?_
        refine x_iconst d202_28 rfl ?_
        refine x_istore_n (ls2 := [some (.inr 137), some (.inl x1), some (.inl 1), some (.inl 0)]) d202_29 rfl rfl ?_
        exact k
set_option maxHeartbeats 4000000 in
theorem b_M_runs_30 {d n : Nat} {sh : ZS} {R : ZR} {I : ZI} {Q : Int → ZI → Prop} (hW : Wf sh R) {x1 : Int} {x2 : Int} {x3 : Int}
    (k : (zr (x3 + 1)) ∧ (if I 137 45 ≤ (x3 + 1) then Q x2 I else (if ¬ x1 = 1 then XI (d + 1) 201 [.inr 137, .inl x3, .inl 0] n sh R I (fun v2 I3 => (if v2 = 0 then (zr (x2 + 1)) ∧ XIs (d + 2) 202 30 [some (.inr 137), some (.inl x1), some (.inl (x2 + 1)), some (.inl (x3 + 1))] [] n sh R I3 Q else (zr (x2 + 0)) ∧ XIs (d + 2) 202 30 [some (.inr 137), some (.inl x1), some (.inl (x2 + 0)), some (.inl (x3 + 1))] [] n sh R I3 Q)) else XI (d + 1) 201 [.inr 137, .inl x3, .inl 1] n sh R I (fun v6 I7 => (if v6 = 0 then (zr (x2 + 1)) ∧ XIs (d + 2) 202 30 [some (.inr 137), some (.inl x1), some (.inl (x2 + 1)), some (.inl (x3 + 1))] [] n sh R I7 Q else (zr (x2 + 0)) ∧ XIs (d + 2) 202 30 [some (.inr 137), some (.inl x1), some (.inl (x2 + 0)), some (.inl (x3 + 1))] [] n sh R I7 Q))))) : XIs (d + 2) 202 30 [some (.inr 137), some (.inl x1), some (.inl x2), some (.inl x3)] [] n sh R I Q := by
  unfold XIs
  refine x_iload_n d202_30 rfl ?_
  refine x_iconst d202_31 rfl ?_
  have e1 := k.1
  replace k := k.2
  refine x_iadd d202_32 e1 ?_
  refine x_aload_n d202_33 rfl ?_
  refine x_getI d202_34 gY_202.2.2.2 gF_12_367 rfl (sh_137 hW) ?_
  refine x_if2 (pc2 := 72) d202_37 rfl (fun c => ?_) (fun c => ?_)
  · replace c : I 137 45 ≤ (x3 + 1) := c
    rw [if_pos c] at k
    refine x_iload_n d202_72 rfl ?_
    exact x_iret d202_73 gR_202 ⟨_, _, rfl, rfl, k⟩
  · replace c : ¬ (I 137 45 ≤ (x3 + 1)) := c
    rw [if_neg c] at k
    refine x_iload_n d202_40 rfl ?_
    refine x_aload_n d202_41 rfl ?_
    refine x_iload_n d202_42 rfl ?_
    refine x_iload_n d202_43 rfl ?_
    refine x_iconst d202_44 rfl ?_
    refine x_if2 (pc2 := 52) d202_45 rfl (fun c => ?_) (fun c => ?_)
    · replace c : ¬ x1 = 1 := c
      rw [if_pos c] at k
      refine x_iconst d202_52 rfl ?_
      refine y_invI (as := [.inl x3, .inl 0]) (t := [.inl x2]) (o := 137) gY_201 d202_53 gY_202.2.2.2 gM_12_373 rfl (sh_137 hW) rfl k (fun v2 I3 k => ?_)
      refine x_if1 (pc2 := 63) d202_56 rfl (fun c => ?_) (fun c => ?_)
      · replace c : v2 = 0 := c
        rw [if_pos c] at k
        refine x_iconst d202_63 rfl ?_
        have e4 := k.1
        replace k := k.2
        refine x_iadd d202_64 e4 ?_
        refine x_istore_n (ls2 := [some (.inr 137), some (.inl x1), some (.inl (x2 + 1)), some (.inl x3)]) d202_65 rfl rfl ?_
        refine x_iinc (ls2 := [some (.inr 137), some (.inl x1), some (.inl (x2 + 1)), some (.inl (x3 + 1))]) d202_66 rfl e1 rfl ?_
        refine x_goto (pc2 := 30) d202_69 rfl ?_
        exact k
      · replace c : ¬ (v2 = 0) := c
        rw [if_neg c] at k
        refine x_iconst d202_59 rfl ?_
        refine x_goto (pc2 := 64) d202_60 rfl ?_
        have e5 := k.1
        replace k := k.2
        refine x_iadd d202_64 e5 ?_
        refine x_istore_n (ls2 := [some (.inr 137), some (.inl x1), some (.inl (x2 + 0)), some (.inl x3)]) d202_65 rfl rfl ?_
        refine x_iinc (ls2 := [some (.inr 137), some (.inl x1), some (.inl (x2 + 0)), some (.inl (x3 + 1))]) d202_66 rfl e1 rfl ?_
        refine x_goto (pc2 := 30) d202_69 rfl ?_
        exact k
    · replace c : ¬ (¬ x1 = 1) := c
      rw [if_neg c] at k
      refine x_iconst d202_48 rfl ?_
      refine x_goto (pc2 := 53) d202_49 rfl ?_
      refine y_invI (as := [.inl x3, .inl 1]) (t := [.inl x2]) (o := 137) gY_201 d202_53 gY_202.2.2.2 gM_12_373 rfl (sh_137 hW) rfl k (fun v6 I7 k => ?_)
      refine x_if1 (pc2 := 63) d202_56 rfl (fun c => ?_) (fun c => ?_)
      · replace c : v6 = 0 := c
        rw [if_pos c] at k
        refine x_iconst d202_63 rfl ?_
        have e8 := k.1
        replace k := k.2
        refine x_iadd d202_64 e8 ?_
        refine x_istore_n (ls2 := [some (.inr 137), some (.inl x1), some (.inl (x2 + 1)), some (.inl x3)]) d202_65 rfl rfl ?_
        refine x_iinc (ls2 := [some (.inr 137), some (.inl x1), some (.inl (x2 + 1)), some (.inl (x3 + 1))]) d202_66 rfl e1 rfl ?_
        refine x_goto (pc2 := 30) d202_69 rfl ?_
        exact k
      · replace c : ¬ (v6 = 0) := c
        rw [if_neg c] at k
        refine x_iconst d202_59 rfl ?_
        refine x_goto (pc2 := 64) d202_60 rfl ?_
        have e9 := k.1
        replace k := k.2
        refine x_iadd d202_64 e9 ?_
        refine x_istore_n (ls2 := [some (.inr 137), some (.inl x1), some (.inl (x2 + 0)), some (.inl x3)]) d202_65 rfl rfl ?_
        refine x_iinc (ls2 := [some (.inr 137), some (.inl x1), some (.inl (x2 + 0)), some (.inl (x3 + 1))]) d202_66 rfl e1 rfl ?_
        refine x_goto (pc2 := 30) d202_69 rfl ?_
        exact k
set_option maxHeartbeats 4000000 in
theorem b_M_readsWay_0 {d n : Nat} {sh : ZS} {R : ZR} {I : ZI} {Q : Int → ZI → Prop} (hW : Wf sh R) {x1 : Int} {x2 : Int}
    (k : XIs (d + 1) 203 11 [some (.inr 137), some (.inl x1), some (.inl x2), some (.inl x2), some (.inl 1), some (.inl 0), some (.inl 1)] [] n sh R I Q) : XI (d + 1) 203 [.inr 137, .inl x1, .inl x2] n sh R I Q := by
  refine XI.of (ls := [some (.inr 137), some (.inl x1), some (.inl x2), none, none, none, none]) (zloc_eq gY_203.2.2.1) ?_
  unfold XIs
  refine x_iload_n d203_0 rfl ?_
  refine x_istore_n (ls2 := [some (.inr 137), some (.inl x1), some (.inl x2), some (.inl x2), none, none, none]) d203_1 rfl rfl ?_
  refine x_iconst d203_2 rfl ?_
  refine x_istore (ls2 := [some (.inr 137), some (.inl x1), some (.inl x2), some (.inl x2), some (.inl 1), none, none]) d203_3 rfl rfl ?_
  refine x_iconst d203_5 rfl ?_
  refine x_istore (ls2 := [some (.inr 137), some (.inl x1), some (.inl x2), some (.inl x2), some (.inl 1), some (.inl 0), none]) d203_6 rfl rfl ?_
  refine x_iconst d203_8 rfl ?_
  refine x_istore (ls2 := [some (.inr 137), some (.inl x1), some (.inl x2), some (.inl x2), some (.inl 1), some (.inl 0), some (.inl 1)]) d203_9 rfl rfl ?_
  exact k
set_option maxHeartbeats 4000000 in
theorem b_M_readsWay_11 {d n : Nat} {sh : ZS} {R : ZR} {I : ZI} {Q : Int → ZI → Prop} (hW : Wf sh R) {x1 : Int} {u2 : Option AV} {x3 : Int} {x4 : Int} {x5 : Int} {x6 : Int}
    (k : (if x1 ≤ x6 then (zr (x1 - 1)) ∧ XIs (d + 1) 203 37 [some (.inr 137), some (.inl x1), u2, some (.inl x3), some (.inl x4), some (.inl x5), some (.inl (x1 - 1))] [] n sh R I Q else (zr (x4 * I 137 3)) ∧ (zr (x6 + 1)) ∧ XIs (d + 1) 203 11 [some (.inr 137), some (.inl x1), u2, some (.inl x3), some (.inl (x4 * I 137 3)), some (.inl x5), some (.inl (x6 + 1))] [] n sh R I Q)) : XIs (d + 1) 203 11 [some (.inr 137), some (.inl x1), u2, some (.inl x3), some (.inl x4), some (.inl x5), some (.inl x6)] [] n sh R I Q := by
  unfold XIs
  refine x_iload d203_11 rfl ?_
  refine x_iload_n d203_13 rfl ?_
  refine x_if2 (pc2 := 32) d203_14 rfl (fun c => ?_) (fun c => ?_)
  · replace c : x1 ≤ x6 := c
    rw [if_pos c] at k
    refine x_iload_n d203_32 rfl ?_
    refine x_iconst d203_33 rfl ?_
    have e1 := k.1
    replace k := k.2
    refine x_isub d203_34 e1 ?_
    refine x_istore (ls2 := [some (.inr 137), some (.inl x1), u2, some (.inl x3), some (.inl x4), some (.inl x5), some (.inl (x1 - 1))]) d203_35 rfl rfl ?_
    exact k
  · replace c : ¬ (x1 ≤ x6) := c
    rw [if_neg c] at k
    refine x_iload d203_17 rfl ?_
    refine x_aload_n d203_19 rfl ?_
    refine x_getI d203_20 gY_203.2.2.2 gF_12_156 rfl (sh_137 hW) ?_
    have e2 := k.1
    replace k := k.2
    refine x_imul d203_23 e2 ?_
    refine x_istore (ls2 := [some (.inr 137), some (.inl x1), u2, some (.inl x3), some (.inl (x4 * I 137 3)), some (.inl x5), some (.inl x6)]) d203_24 rfl rfl ?_
    have e3 := k.1
    replace k := k.2
    refine x_iinc (ls2 := [some (.inr 137), some (.inl x1), u2, some (.inl x3), some (.inl (x4 * I 137 3)), some (.inl x5), some (.inl (x6 + 1))]) d203_26 rfl e3 rfl ?_
    refine x_goto (pc2 := 11) d203_29 rfl ?_
    exact k
set_option maxHeartbeats 4000000 in
theorem b_M_readsWay_37 {d n : Nat} {sh : ZS} {R : ZR} {I : ZI} {Q : Int → ZI → Prop} (hW : Wf sh R) {u1 : Option AV} {u2 : Option AV} {x3 : Int} {x4 : Int} {x5 : Int} {x6 : Int}
    (k : (if x6 < 0 then (x5 = 0 ∨ x5 = 1) ∧ Q x5 I else (0 ≤ x3 ∧ x3 < 2147483648) ∧ (0 < x4) ∧ (0 ≤ x6 ∧ x6 < 5) ∧ (0 ≤ x3) ∧ (if ¬ (zand (zshr (I 137 4) ((zup I 165 (x6).toNat (x3 / x4)) 165 (x6).toNat)) 1) = 1 then (0 ≤ x4 ∧ x4 < 2147483648) ∧ (0 < I 137 3) ∧ (zr (x6 + (-1))) ∧ XIs (d + 1) 203 37 [some (.inr 137), u1, u2, some (.inl (x3 % x4)), some (.inl (x4 / I 137 3)), some (.inl x5), some (.inl (x6 + (-1)))] [] n sh R (zup I 165 (x6).toNat (x3 / x4)) Q else (zr (x4 - 1)) ∧ (zr ((x4 - 1) - (x3 % x4))) ∧ (if ¬ x5 = 0 then (0 ≤ x4 ∧ x4 < 2147483648) ∧ (0 < I 137 3) ∧ (zr (x6 + (-1))) ∧ XIs (d + 1) 203 37 [some (.inr 137), u1, u2, some (.inl ((x4 - 1) - (x3 % x4))), some (.inl (x4 / I 137 3)), some (.inl 0), some (.inl (x6 + (-1)))] [] n sh R (zup I 165 (x6).toNat (x3 / x4)) Q else (0 ≤ x4 ∧ x4 < 2147483648) ∧ (0 < I 137 3) ∧ (zr (x6 + (-1))) ∧ XIs (d + 1) 203 37 [some (.inr 137), u1, u2, some (.inl ((x4 - 1) - (x3 % x4))), some (.inl (x4 / I 137 3)), some (.inl 1), some (.inl (x6 + (-1)))] [] n sh R (zup I 165 (x6).toNat (x3 / x4)) Q)))) : XIs (d + 1) 203 37 [some (.inr 137), u1, u2, some (.inl x3), some (.inl x4), some (.inl x5), some (.inl x6)] [] n sh R I Q := by
  unfold XIs
  refine x_iload d203_37 rfl ?_
  refine x_if1 (pc2 := 109) d203_39 rfl (fun c => ?_) (fun c => ?_)
  · replace c : x6 < 0 := c
    rw [if_pos c] at k
    refine x_iload d203_109 rfl ?_
    have e1 := k.1
    replace k := k.2
    exact x_zret d203_111 gR_203 e1 ⟨_, _, rfl, rfl, k⟩
  · replace c : ¬ (x6 < 0) := c
    rw [if_neg c] at k
    refine x_aload_n d203_42 rfl ?_
    refine x_getR (r := 165) d203_43 gY_203.2.2.2 gF_12_92 rfl (sh_137 hW) (rf_137_50 hW) (by decide) ?_
    refine x_iload d203_46 rfl ?_
    refine x_iload_n d203_48 rfl ?_
    refine x_iload d203_49 rfl ?_
    have e2 := k.1
    replace k := k.2
    have e3 := k.1
    replace k := k.2
    refine x_idiv d203_51 e2 e3 ?_
    have e4 := k.1
    replace k := k.2
    refine x_iast d203_52 (sh_165 hW) e4.1 e4.2 ?_
    refine x_iload_n d203_53 rfl ?_
    refine x_iload d203_54 rfl ?_
    have e5 := k.1
    replace k := k.2
    refine x_irem d203_56 e5 e3 ?_
    refine x_istore_n (ls2 := [some (.inr 137), u1, u2, some (.inl (x3 % x4)), some (.inl x4), some (.inl x5), some (.inl x6)]) d203_57 rfl rfl ?_
    refine x_aload_n d203_58 rfl ?_
    refine x_getI d203_59 gY_203.2.2.2 gF_12_180 rfl (sh_137 hW) ?_
    refine x_aload_n d203_62 rfl ?_
    refine x_getR (r := 165) d203_63 gY_203.2.2.2 gF_12_92 rfl (sh_137 hW) (rf_137_50 hW) (by decide) ?_
    refine x_iload d203_66 rfl ?_
    refine x_iald d203_68 (sh_165 hW) e4.1 e4.2 ?_
    refine y_ins (as := [.inl (I 137 4), .inl ((zup I 165 (x6).toNat (x3 / x4)) 165 (x6).toNat)]) (t := []) (ls2 := [some (.inl (I 137 4)), some (.inl ((zup I 165 (x6).toNat (x3 / x4)) 165 (x6).toNat))]) gY_143 d203_69 gY_203.2.2.2 gM_12_300 rfl rfl rfl ?_
    refine x_iload_n d143_0 rfl ?_
    refine x_iload_n d143_1 rfl ?_
    refine x_ishr d143_2 ?_
    refine x_iconst d143_3 rfl ?_
    refine x_iand d143_4 ?_
    refine x_iconst d143_5 rfl ?_
    refine x_if2 (pc2 := 13) d143_6 rfl (fun c => ?_) (fun c => ?_)
    · replace c : ¬ (zand (zshr (I 137 4) ((zup I 165 (x6).toNat (x3 / x4)) 165 (x6).toNat)) 1) = 1 := c
      rw [if_pos c] at k
      refine x_iconst d143_13 rfl ?_
      refine x_zret d143_14 gR_143 (by decide) ?_
      show Ex (d + 1) 203 72 [some (.inr 137), u1, u2, some (.inl (x3 % x4)), some (.inl x4), some (.inl x5), some (.inl x6)] [.inl 0] (0, 0, n, sh, R, (zup I 165 (x6).toNat (x3 / x4))) _
      refine x_if1 (pc2 := 94) d203_72 rfl (fun _ => ?_) (fun c => absurd (show (0 : Int) = 0 by decide) c)
      refine x_iload d203_94 rfl ?_
      refine x_aload_n d203_96 rfl ?_
      refine x_getI d203_97 gY_203.2.2.2 gF_12_156 rfl (sh_137 hW) ?_
      have e6 := k.1
      replace k := k.2
      have e7 := k.1
      replace k := k.2
      refine x_idiv d203_100 e6 e7 ?_
      refine x_istore (ls2 := [some (.inr 137), u1, u2, some (.inl (x3 % x4)), some (.inl (x4 / I 137 3)), some (.inl x5), some (.inl x6)]) d203_101 rfl rfl ?_
      have e8 := k.1
      replace k := k.2
      refine x_iinc (ls2 := [some (.inr 137), u1, u2, some (.inl (x3 % x4)), some (.inl (x4 / I 137 3)), some (.inl x5), some (.inl (x6 + (-1)))]) d203_103 rfl e8 rfl ?_
      refine x_goto (pc2 := 37) d203_106 rfl ?_
      exact k
    · replace c : ¬ (¬ (zand (zshr (I 137 4) ((zup I 165 (x6).toNat (x3 / x4)) 165 (x6).toNat)) 1) = 1) := c
      rw [if_neg c] at k
      refine x_iconst d143_9 rfl ?_
      refine x_goto (pc2 := 14) d143_10 rfl ?_
      refine x_zret d143_14 gR_143 (by decide) ?_
      show Ex (d + 1) 203 72 [some (.inr 137), u1, u2, some (.inl (x3 % x4)), some (.inl x4), some (.inl x5), some (.inl x6)] [.inl 1] (0, 0, n, sh, R, (zup I 165 (x6).toNat (x3 / x4))) _
      refine x_if1 (pc2 := 94) d203_72 rfl (fun c => absurd (show (1 : Int) = 0 from c) (by decide)) (fun _ => ?_)
      refine x_iload d203_75 rfl ?_
      refine x_iconst d203_77 rfl ?_
      have e9 := k.1
      replace k := k.2
      refine x_isub d203_78 e9 ?_
      refine x_iload_n d203_79 rfl ?_
      have e10 := k.1
      replace k := k.2
      refine x_isub d203_80 e10 ?_
      refine x_istore_n (ls2 := [some (.inr 137), u1, u2, some (.inl ((x4 - 1) - (x3 % x4))), some (.inl x4), some (.inl x5), some (.inl x6)]) d203_81 rfl rfl ?_
      refine x_iload d203_82 rfl ?_
      refine x_if1 (pc2 := 91) d203_84 rfl (fun c => ?_) (fun c => ?_)
      · replace c : ¬ x5 = 0 := c
        rw [if_pos c] at k
        refine x_iconst d203_91 rfl ?_
        refine x_istore (ls2 := [some (.inr 137), u1, u2, some (.inl ((x4 - 1) - (x3 % x4))), some (.inl x4), some (.inl 0), some (.inl x6)]) d203_92 rfl rfl ?_
        refine x_iload d203_94 rfl ?_
        refine x_aload_n d203_96 rfl ?_
        refine x_getI d203_97 gY_203.2.2.2 gF_12_156 rfl (sh_137 hW) ?_
        have e11 := k.1
        replace k := k.2
        have e12 := k.1
        replace k := k.2
        refine x_idiv d203_100 e11 e12 ?_
        refine x_istore (ls2 := [some (.inr 137), u1, u2, some (.inl ((x4 - 1) - (x3 % x4))), some (.inl (x4 / I 137 3)), some (.inl 0), some (.inl x6)]) d203_101 rfl rfl ?_
        have e13 := k.1
        replace k := k.2
        refine x_iinc (ls2 := [some (.inr 137), u1, u2, some (.inl ((x4 - 1) - (x3 % x4))), some (.inl (x4 / I 137 3)), some (.inl 0), some (.inl (x6 + (-1)))]) d203_103 rfl e13 rfl ?_
        refine x_goto (pc2 := 37) d203_106 rfl ?_
        exact k
      · replace c : ¬ (¬ x5 = 0) := c
        rw [if_neg c] at k
        refine x_iconst d203_87 rfl ?_
        refine x_goto (pc2 := 92) d203_88 rfl ?_
        refine x_istore (ls2 := [some (.inr 137), u1, u2, some (.inl ((x4 - 1) - (x3 % x4))), some (.inl x4), some (.inl 1), some (.inl x6)]) d203_92 rfl rfl ?_
        refine x_iload d203_94 rfl ?_
        refine x_aload_n d203_96 rfl ?_
        refine x_getI d203_97 gY_203.2.2.2 gF_12_156 rfl (sh_137 hW) ?_
        have e14 := k.1
        replace k := k.2
        have e15 := k.1
        replace k := k.2
        refine x_idiv d203_100 e14 e15 ?_
        refine x_istore (ls2 := [some (.inr 137), u1, u2, some (.inl ((x4 - 1) - (x3 % x4))), some (.inl (x4 / I 137 3)), some (.inl 1), some (.inl x6)]) d203_101 rfl rfl ?_
        have e16 := k.1
        replace k := k.2
        refine x_iinc (ls2 := [some (.inr 137), u1, u2, some (.inl ((x4 - 1) - (x3 % x4))), some (.inl (x4 / I 137 3)), some (.inl 1), some (.inl (x6 + (-1)))]) d203_103 rfl e16 rfl ?_
        refine x_goto (pc2 := 37) d203_106 rfl ?_
        exact k
set_option maxHeartbeats 4000000 in
theorem b_M_plansBy_0 {d n : Nat} {sh : ZS} {R : ZR} {I : ZI} {Q : Int → ZI → Prop} (hW : Wf sh R) {x1 : Int}
    (k : XIs (d + 2) 204 4 [some (.inr 137), some (.inl x1), some (.inl 1), some (.inl 0), none, none, none, none] [] n sh R I Q) : XI (d + 2) 204 [.inr 137, .inl x1] n sh R I Q := by
  refine XI.of (ls := [some (.inr 137), some (.inl x1), none, none, none, none, none, none]) (zloc_eq gY_204.2.2.1) ?_
  unfold XIs
  refine x_iconst d204_0 rfl ?_
  refine x_istore_n (ls2 := [some (.inr 137), some (.inl x1), some (.inl 1), none, none, none, none, none]) d204_1 rfl rfl ?_
  refine x_iconst d204_2 rfl ?_
  refine x_istore_n (ls2 := [some (.inr 137), some (.inl x1), some (.inl 1), some (.inl 0), none, none, none, none]) d204_3 rfl rfl ?_
  exact k
set_option maxHeartbeats 4000000 in
theorem b_M_plansBy_4 {d n : Nat} {sh : ZS} {R : ZR} {I : ZI} {Q : Int → ZI → Prop} (hW : Wf sh R) {x1 : Int} {x2 : Int} {x3 : Int} {u4 : Option AV} {u5 : Option AV} {u6 : Option AV} {u7 : Option AV}
    (k : (if x1 ≤ x3 then XIs (d + 2) 204 27 [some (.inr 137), some (.inl x1), some (.inl x2), some (.inl 0), some (.inl 0), u5, u6, u7] [] n sh R I Q else (zr (x2 * I 137 3)) ∧ (zr (x3 + 1)) ∧ XIs (d + 2) 204 4 [some (.inr 137), some (.inl x1), some (.inl (x2 * I 137 3)), some (.inl (x3 + 1)), u4, u5, u6, u7] [] n sh R I Q)) : XIs (d + 2) 204 4 [some (.inr 137), some (.inl x1), some (.inl x2), some (.inl x3), u4, u5, u6, u7] [] n sh R I Q := by
  unfold XIs
  refine x_iload_n d204_4 rfl ?_
  refine x_iload_n d204_5 rfl ?_
  refine x_if2 (pc2 := 22) d204_6 rfl (fun c => ?_) (fun c => ?_)
  · replace c : x1 ≤ x3 := c
    rw [if_pos c] at k
    refine x_iconst d204_22 rfl ?_
    refine x_istore_n (ls2 := [some (.inr 137), some (.inl x1), some (.inl x2), some (.inl 0), u4, u5, u6, u7]) d204_23 rfl rfl ?_
    refine x_iconst d204_24 rfl ?_
    refine x_istore (ls2 := [some (.inr 137), some (.inl x1), some (.inl x2), some (.inl 0), some (.inl 0), u5, u6, u7]) d204_25 rfl rfl ?_
    exact k
  · replace c : ¬ (x1 ≤ x3) := c
    rw [if_neg c] at k
    refine x_iload_n d204_9 rfl ?_
    refine x_aload_n d204_10 rfl ?_
    refine x_getI d204_11 gY_204.2.2.2 gF_12_156 rfl (sh_137 hW) ?_
    have e1 := k.1
    replace k := k.2
    refine x_imul d204_14 e1 ?_
    refine x_istore_n (ls2 := [some (.inr 137), some (.inl x1), some (.inl (x2 * I 137 3)), some (.inl x3), u4, u5, u6, u7]) d204_15 rfl rfl ?_
    have e2 := k.1
    replace k := k.2
    refine x_iinc (ls2 := [some (.inr 137), some (.inl x1), some (.inl (x2 * I 137 3)), some (.inl (x3 + 1)), u4, u5, u6, u7]) d204_16 rfl e2 rfl ?_
    refine x_goto (pc2 := 4) d204_19 rfl ?_
    exact k
set_option maxHeartbeats 4000000 in
theorem b_M_plansBy_27 {d n : Nat} {sh : ZS} {R : ZR} {I : ZI} {Q : Int → ZI → Prop} (hW : Wf sh R) {x1 : Int} {x2 : Int} {x3 : Int} {x4 : Int} {u5 : Option AV} {u6 : Option AV} {u7 : Option AV}
    (k : (if x2 ≤ x4 then (if ¬ x3 = I 137 45 then Q 0 I else Q 1 I) else (if I 137 45 ≤ x3 then (if ¬ x3 = I 137 45 then Q 0 I else Q 1 I) else XI (d + 1) 203 [.inr 137, .inl x1, .inl x4] n sh R I (fun v1 I2 => XIs (d + 2) 204 53 [some (.inr 137), some (.inl x1), some (.inl x2), some (.inl x3), some (.inl x4), some (.inl v1), some (.inl 1), u7] [] n sh R I2 Q)))) : XIs (d + 2) 204 27 [some (.inr 137), some (.inl x1), some (.inl x2), some (.inl x3), some (.inl x4), u5, u6, u7] [] n sh R I Q := by
  unfold XIs
  refine x_iload d204_27 rfl ?_
  refine x_iload_n d204_29 rfl ?_
  refine x_if2 (pc2 := 139) d204_30 rfl (fun c => ?_) (fun c => ?_)
  · replace c : x2 ≤ x4 := c
    rw [if_pos c] at k
    refine x_iload_n d204_139 rfl ?_
    refine x_aload_n d204_140 rfl ?_
    refine x_getI d204_141 gY_204.2.2.2 gF_12_367 rfl (sh_137 hW) ?_
    refine x_if2 (pc2 := 151) d204_144 rfl (fun c => ?_) (fun c => ?_)
    · replace c : ¬ x3 = I 137 45 := c
      rw [if_pos c] at k
      refine x_iconst d204_151 rfl ?_
      exact x_zret d204_152 gR_204 (by decide) ⟨_, _, rfl, rfl, k⟩
    · replace c : ¬ (¬ x3 = I 137 45) := c
      rw [if_neg c] at k
      refine x_iconst d204_147 rfl ?_
      refine x_goto (pc2 := 152) d204_148 rfl ?_
      exact x_zret d204_152 gR_204 (by decide) ⟨_, _, rfl, rfl, k⟩
  · replace c : ¬ (x2 ≤ x4) := c
    rw [if_neg c] at k
    refine x_iload_n d204_33 rfl ?_
    refine x_aload_n d204_34 rfl ?_
    refine x_getI d204_35 gY_204.2.2.2 gF_12_367 rfl (sh_137 hW) ?_
    refine x_if2 (pc2 := 139) d204_38 rfl (fun c => ?_) (fun c => ?_)
    · replace c : I 137 45 ≤ x3 := c
      rw [if_pos c] at k
      refine x_iload_n d204_139 rfl ?_
      refine x_aload_n d204_140 rfl ?_
      refine x_getI d204_141 gY_204.2.2.2 gF_12_367 rfl (sh_137 hW) ?_
      refine x_if2 (pc2 := 151) d204_144 rfl (fun c => ?_) (fun c => ?_)
      · replace c : ¬ x3 = I 137 45 := c
        rw [if_pos c] at k
        refine x_iconst d204_151 rfl ?_
        exact x_zret d204_152 gR_204 (by decide) ⟨_, _, rfl, rfl, k⟩
      · replace c : ¬ (¬ x3 = I 137 45) := c
        rw [if_neg c] at k
        refine x_iconst d204_147 rfl ?_
        refine x_goto (pc2 := 152) d204_148 rfl ?_
        exact x_zret d204_152 gR_204 (by decide) ⟨_, _, rfl, rfl, k⟩
    · replace c : ¬ (I 137 45 ≤ x3) := c
      rw [if_neg c] at k
      refine x_aload_n d204_41 rfl ?_
      refine x_iload_n d204_42 rfl ?_
      refine x_iload d204_43 rfl ?_
      refine y_invI (as := [.inl x1, .inl x4]) (t := []) (o := 137) gY_203 d204_45 gY_204.2.2.2 gM_12_377 rfl (sh_137 hW) rfl k (fun v1 I2 k => ?_)
      refine x_istore (ls2 := [some (.inr 137), some (.inl x1), some (.inl x2), some (.inl x3), some (.inl x4), some (.inl v1), u6, u7]) d204_48 rfl rfl ?_
      refine x_iconst d204_50 rfl ?_
      refine x_istore (ls2 := [some (.inr 137), some (.inl x1), some (.inl x2), some (.inl x3), some (.inl x4), some (.inl v1), some (.inl 1), u7]) d204_51 rfl rfl ?_
      exact k
set_option maxHeartbeats 4000000 in
theorem b_M_plansBy_53 {d n : Nat} {sh : ZS} {R : ZR} {I : ZI} {Q : Int → ZI → Prop} (hW : Wf sh R) {x1 : Int} {x2 : Int} {x3 : Int} {x4 : Int} {x5 : Int} {x6 : Int} {u7 : Option AV}
    (k : (if x6 = 0 then (zr (x4 + 1)) ∧ XIs (d + 2) 204 27 [some (.inr 137), some (.inl x1), some (.inl x2), some (.inl x3), some (.inl (x4 + 1)), some (.inl x5), some (.inl x6), u7] [] n sh R I Q else (if I 137 45 ≤ x3 then (zr (x4 + 1)) ∧ XIs (d + 2) 204 27 [some (.inr 137), some (.inl x1), some (.inl x2), some (.inl x3), some (.inl (x4 + 1)), some (.inl x5), some (.inl x6), u7] [] n sh R I Q else XIs (d + 2) 204 69 [some (.inr 137), some (.inl x1), some (.inl x2), some (.inl x3), some (.inl x4), some (.inl x5), some (.inl x6), some (.inl 0)] [] n sh R I Q))) : XIs (d + 2) 204 53 [some (.inr 137), some (.inl x1), some (.inl x2), some (.inl x3), some (.inl x4), some (.inl x5), some (.inl x6), u7] [] n sh R I Q := by
  unfold XIs
  refine x_iload d204_53 rfl ?_
  refine x_if1 (pc2 := 133) d204_55 rfl (fun c => ?_) (fun c => ?_)
  · replace c : x6 = 0 := c
    rw [if_pos c] at k
    have e1 := k.1
    replace k := k.2
    refine x_iinc (ls2 := [some (.inr 137), some (.inl x1), some (.inl x2), some (.inl x3), some (.inl (x4 + 1)), some (.inl x5), some (.inl x6), u7]) d204_133 rfl e1 rfl ?_
    refine x_goto (pc2 := 27) d204_136 rfl ?_
    exact k
  · replace c : ¬ (x6 = 0) := c
    rw [if_neg c] at k
    refine x_iload_n d204_58 rfl ?_
    refine x_aload_n d204_59 rfl ?_
    refine x_getI d204_60 gY_204.2.2.2 gF_12_367 rfl (sh_137 hW) ?_
    refine x_if2 (pc2 := 133) d204_63 rfl (fun c => ?_) (fun c => ?_)
    · replace c : I 137 45 ≤ x3 := c
      rw [if_pos c] at k
      have e2 := k.1
      replace k := k.2
      refine x_iinc (ls2 := [some (.inr 137), some (.inl x1), some (.inl x2), some (.inl x3), some (.inl (x4 + 1)), some (.inl x5), some (.inl x6), u7]) d204_133 rfl e2 rfl ?_
      refine x_goto (pc2 := 27) d204_136 rfl ?_
      exact k
    · replace c : ¬ (I 137 45 ≤ x3) := c
      rw [if_neg c] at k
      refine x_iconst d204_66 rfl ?_
      refine x_istore (ls2 := [some (.inr 137), some (.inl x1), some (.inl x2), some (.inl x3), some (.inl x4), some (.inl x5), some (.inl x6), some (.inl 0)]) d204_67 rfl rfl ?_
      exact k
set_option maxHeartbeats 4000000 in
theorem b_M_plansBy_69 {d n : Nat} {sh : ZS} {R : ZR} {I : ZI} {Q : Int → ZI → Prop} (hW : Wf sh R) {x1 : Int} {x2 : Int} {x3 : Int} {x4 : Int} {x5 : Int} {u6 : Option AV} {x7 : Int}
    (k : (if x1 ≤ x7 then (zr (x3 + 1)) ∧ (if I 137 45 ≤ (x3 + 1) then XIs (d + 2) 204 53 [some (.inr 137), some (.inl x1), some (.inl x2), some (.inl (x3 + 1)), some (.inl x4), some (.inl x5), some (.inl 0), some (.inl x7)] [] n sh R I Q else XI (d + 1) 201 [.inr 137, .inl x3, .inl x5] n sh R I (fun v2 I3 => (if v2 = 0 then XIs (d + 2) 204 53 [some (.inr 137), some (.inl x1), some (.inl x2), some (.inl (x3 + 1)), some (.inl x4), some (.inl x5), some (.inl 0), some (.inl x7)] [] n sh R I3 Q else XIs (d + 2) 204 53 [some (.inr 137), some (.inl x1), some (.inl x2), some (.inl (x3 + 1)), some (.inl x4), some (.inl x5), some (.inl 1), some (.inl x7)] [] n sh R I3 Q))) else (zr (5 * x3)) ∧ (zr ((5 * x3) + x7)) ∧ (0 ≤ x7 ∧ x7 < 5) ∧ (0 ≤ ((5 * x3) + x7) ∧ ((5 * x3) + x7) < 100) ∧ (zr (x7 + 1)) ∧ XIs (d + 2) 204 69 [some (.inr 137), some (.inl x1), some (.inl x2), some (.inl x3), some (.inl x4), some (.inl x5), u6, some (.inl (x7 + 1))] [] n sh R (zup I 166 ((5 * x3) + x7).toNat (I 165 (x7).toNat)) Q)) : XIs (d + 2) 204 69 [some (.inr 137), some (.inl x1), some (.inl x2), some (.inl x3), some (.inl x4), some (.inl x5), u6, some (.inl x7)] [] n sh R I Q := by
  unfold XIs
  refine x_iload d204_69 rfl ?_
  refine x_iload_n d204_71 rfl ?_
  refine x_if2 (pc2 := 99) d204_72 rfl (fun c => ?_) (fun c => ?_)
  · replace c : x1 ≤ x7 := c
    rw [if_pos c] at k
    refine x_iload_n d204_99 rfl ?_
    refine x_iconst d204_100 rfl ?_
    have e1 := k.1
    replace k := k.2
    refine x_iadd d204_101 e1 ?_
    refine x_aload_n d204_102 rfl ?_
    refine x_getI d204_103 gY_204.2.2.2 gF_12_367 rfl (sh_137 hW) ?_
    refine x_if2 (pc2 := 123) d204_106 rfl (fun c => ?_) (fun c => ?_)
    · replace c : I 137 45 ≤ (x3 + 1) := c
      rw [if_pos c] at k
      refine x_iconst d204_123 rfl ?_
      refine x_istore (ls2 := [some (.inr 137), some (.inl x1), some (.inl x2), some (.inl x3), some (.inl x4), some (.inl x5), some (.inl 0), some (.inl x7)]) d204_124 rfl rfl ?_
      refine x_iload_n d204_126 rfl ?_
      refine x_iconst d204_127 rfl ?_
      refine x_iadd d204_128 e1 ?_
      refine x_istore_n (ls2 := [some (.inr 137), some (.inl x1), some (.inl x2), some (.inl (x3 + 1)), some (.inl x4), some (.inl x5), some (.inl 0), some (.inl x7)]) d204_129 rfl rfl ?_
      refine x_goto (pc2 := 53) d204_130 rfl ?_
      exact k
    · replace c : ¬ (I 137 45 ≤ (x3 + 1)) := c
      rw [if_neg c] at k
      refine x_aload_n d204_109 rfl ?_
      refine x_iload_n d204_110 rfl ?_
      refine x_iload d204_111 rfl ?_
      refine y_invI (as := [.inl x3, .inl x5]) (t := []) (o := 137) gY_201 d204_113 gY_204.2.2.2 gM_12_373 rfl (sh_137 hW) rfl k (fun v2 I3 k => ?_)
      refine x_if1 (pc2 := 123) d204_116 rfl (fun c => ?_) (fun c => ?_)
      · replace c : v2 = 0 := c
        rw [if_pos c] at k
        refine x_iconst d204_123 rfl ?_
        refine x_istore (ls2 := [some (.inr 137), some (.inl x1), some (.inl x2), some (.inl x3), some (.inl x4), some (.inl x5), some (.inl 0), some (.inl x7)]) d204_124 rfl rfl ?_
        refine x_iload_n d204_126 rfl ?_
        refine x_iconst d204_127 rfl ?_
        refine x_iadd d204_128 e1 ?_
        refine x_istore_n (ls2 := [some (.inr 137), some (.inl x1), some (.inl x2), some (.inl (x3 + 1)), some (.inl x4), some (.inl x5), some (.inl 0), some (.inl x7)]) d204_129 rfl rfl ?_
        refine x_goto (pc2 := 53) d204_130 rfl ?_
        exact k
      · replace c : ¬ (v2 = 0) := c
        rw [if_neg c] at k
        refine x_iconst d204_119 rfl ?_
        refine x_goto (pc2 := 124) d204_120 rfl ?_
        refine x_istore (ls2 := [some (.inr 137), some (.inl x1), some (.inl x2), some (.inl x3), some (.inl x4), some (.inl x5), some (.inl 1), some (.inl x7)]) d204_124 rfl rfl ?_
        refine x_iload_n d204_126 rfl ?_
        refine x_iconst d204_127 rfl ?_
        refine x_iadd d204_128 e1 ?_
        refine x_istore_n (ls2 := [some (.inr 137), some (.inl x1), some (.inl x2), some (.inl (x3 + 1)), some (.inl x4), some (.inl x5), some (.inl 1), some (.inl x7)]) d204_129 rfl rfl ?_
        refine x_goto (pc2 := 53) d204_130 rfl ?_
        exact k
  · replace c : ¬ (x1 ≤ x7) := c
    rw [if_neg c] at k
    refine x_aload_n d204_75 rfl ?_
    refine x_getR (r := 166) d204_76 gY_204.2.2.2 gF_12_95 rfl (sh_137 hW) (rf_137_51 hW) (by decide) ?_
    refine x_iconst d204_79 rfl ?_
    refine x_iload_n d204_80 rfl ?_
    have e4 := k.1
    replace k := k.2
    refine x_imul d204_81 e4 ?_
    refine x_iload d204_82 rfl ?_
    have e5 := k.1
    replace k := k.2
    refine x_iadd d204_84 e5 ?_
    refine x_aload_n d204_85 rfl ?_
    refine x_getR (r := 165) d204_86 gY_204.2.2.2 gF_12_92 rfl (sh_137 hW) (rf_137_50 hW) (by decide) ?_
    refine x_iload d204_89 rfl ?_
    have e6 := k.1
    replace k := k.2
    refine x_iald d204_91 (sh_165 hW) e6.1 e6.2 ?_
    have e7 := k.1
    replace k := k.2
    refine x_iast d204_92 (sh_166 hW) e7.1 e7.2 ?_
    have e8 := k.1
    replace k := k.2
    refine x_iinc (ls2 := [some (.inr 137), some (.inl x1), some (.inl x2), some (.inl x3), some (.inl x4), some (.inl x5), u6, some (.inl (x7 + 1))]) d204_93 rfl e8 rfl ?_
    refine x_goto (pc2 := 69) d204_96 rfl ?_
    exact k
set_option maxHeartbeats 4000000 in
theorem b_M_laysPlan_0 {d n : Nat} {sh : ZS} {R : ZR} {I : ZI} {Q : ZI → Prop} (hW : Wf sh R) 
    (k : XV (d + 2) 200 [.inr 137] n sh R I (fun I2 => XVs (d + 3) 205 11 [some (.inr 137), some (.inl 0)] [] n sh R (zup I2 137 49 (-1)) Q)) : XV (d + 3) 205 [.inr 137] n sh R I Q := by
  refine XV.of (ls := [some (.inr 137), none]) (zloc_eq gY_205.2.2.1) ?_
  unfold XVs
  refine x_aload_n d205_0 rfl ?_
  refine y_invV (as := []) (t := []) (o := 137) gY_200 d205_1 gY_205.2.2.2 gM_12_370 rfl (sh_137 hW) rfl k (fun I2 k => ?_)
  refine x_aload_n d205_4 rfl ?_
  refine x_iconst d205_5 rfl ?_
  refine x_putI d205_6 gY_205.2.2.2 gF_12_380 rfl rfl (sh_137 hW) ?_
  refine x_iconst d205_9 rfl ?_
  refine x_istore_n (ls2 := [some (.inr 137), some (.inl 0)]) d205_10 rfl rfl ?_
  exact k
set_option maxHeartbeats 4000000 in
theorem b_M_laysPlan_11 {d n : Nat} {sh : ZS} {R : ZR} {I : ZI} {Q : ZI → Prop} (hW : Wf sh R) {x1 : Int}
    (k : (if 5 < x1 then Q I else (if ¬ I 137 49 = (-1) then Q I else XI (d + 2) 204 [.inr 137, .inl x1] n sh R I (fun v1 I2 => (if v1 = 0 then (zr (x1 + 1)) ∧ XVs (d + 3) 205 11 [some (.inr 137), some (.inl (x1 + 1))] [] n sh R I2 Q else (zr (x1 + 1)) ∧ XVs (d + 3) 205 11 [some (.inr 137), some (.inl (x1 + 1))] [] n sh R (zup I2 137 49 x1) Q))))) : XVs (d + 3) 205 11 [some (.inr 137), some (.inl x1)] [] n sh R I Q := by
  unfold XVs
  refine x_iload_n d205_11 rfl ?_
  refine x_iconst d205_12 rfl ?_
  refine x_if2 (pc2 := 43) d205_13 rfl (fun c => ?_) (fun c => ?_)
  · replace c : 5 < x1 := c
    rw [if_pos c] at k
    exact x_vret d205_43 gR_205 ⟨_, rfl, rfl, k⟩
  · replace c : ¬ (5 < x1) := c
    rw [if_neg c] at k
    refine x_aload_n d205_16 rfl ?_
    refine x_getI d205_17 gY_205.2.2.2 gF_12_380 rfl (sh_137 hW) ?_
    refine x_iconst d205_20 rfl ?_
    refine x_if2 (pc2 := 43) d205_21 rfl (fun c => ?_) (fun c => ?_)
    · replace c : ¬ I 137 49 = (-1) := c
      rw [if_pos c] at k
      exact x_vret d205_43 gR_205 ⟨_, rfl, rfl, k⟩
    · replace c : ¬ (¬ I 137 49 = (-1)) := c
      rw [if_neg c] at k
      refine x_aload_n d205_24 rfl ?_
      refine x_iload_n d205_25 rfl ?_
      refine y_invI (as := [.inl x1]) (t := []) (o := 137) gY_204 d205_26 gY_205.2.2.2 gM_12_383 rfl (sh_137 hW) rfl k (fun v1 I2 k => ?_)
      refine x_if1 (pc2 := 37) d205_29 rfl (fun c => ?_) (fun c => ?_)
      · replace c : v1 = 0 := c
        rw [if_pos c] at k
        have e3 := k.1
        replace k := k.2
        refine x_iinc (ls2 := [some (.inr 137), some (.inl (x1 + 1))]) d205_37 rfl e3 rfl ?_
        refine x_goto (pc2 := 11) d205_40 rfl ?_
        exact k
      · replace c : ¬ (v1 = 0) := c
        rw [if_neg c] at k
        refine x_aload_n d205_32 rfl ?_
        refine x_iload_n d205_33 rfl ?_
        refine x_putI d205_34 gY_205.2.2.2 gF_12_380 rfl rfl (sh_137 hW) ?_
        have e4 := k.1
        replace k := k.2
        refine x_iinc (ls2 := [some (.inr 137), some (.inl (x1 + 1))]) d205_37 rfl e4 rfl ?_
        refine x_goto (pc2 := 11) d205_40 rfl ?_
        exact k
set_option maxHeartbeats 4000000 in
theorem b_M_plan_0 {d n : Nat} {sh : ZS} {R : ZR} {I : ZI} {Q : Int → ZI → Prop} (hW : Wf sh R) 
    (k : XV (d + 3) 205 [.inr 137] n sh R I (fun I2 => (if ¬ I2 137 49 = (-1) then Q (I2 137 49) I2 else Q (-2) I2))) : XI (d + 4) 206 [.inr 137] n sh R I Q := by
  refine XI.of (ls := [some (.inr 137)]) (zloc_eq gY_206.2.2.1) ?_
  unfold XIs
  refine x_aload_n d206_0 rfl ?_
  refine y_invV (as := []) (t := []) (o := 137) gY_205 d206_1 gY_206.2.2.2 gM_12_386 rfl (sh_137 hW) rfl k (fun I2 k => ?_)
  refine x_aload_n d206_4 rfl ?_
  refine x_getI d206_5 gY_206.2.2.2 gF_12_380 rfl (sh_137 hW) ?_
  refine x_iconst d206_8 rfl ?_
  refine x_if2 (pc2 := 17) d206_9 rfl (fun c => ?_) (fun c => ?_)
  · replace c : ¬ I2 137 49 = (-1) := c
    rw [if_pos c] at k
    refine x_aload_n d206_17 rfl ?_
    refine x_getI d206_18 gY_206.2.2.2 gF_12_380 rfl (sh_137 hW) ?_
    exact x_iret d206_21 gR_206 ⟨_, _, rfl, rfl, k⟩
  · replace c : ¬ (¬ I2 137 49 = (-1)) := c
    rw [if_neg c] at k
    refine x_bipush d206_12 rfl ?_
    refine x_goto (pc2 := 21) d206_14 rfl ?_
    exact x_iret d206_21 gR_206 ⟨_, _, rfl, rfl, k⟩
set_option maxHeartbeats 4000000 in
theorem b_M_rankNumber_0 {d n : Nat} {sh : ZS} {R : ZR} {I : ZI} {Q : Int → ZI → Prop} (hW : Wf sh R) {x1 : Int}
    (k : XIs (d + 1) 207 2 [some (.inr 137), some (.inl x1), some (.inl 0)] [] n sh R I Q) : XI (d + 1) 207 [.inr 137, .inl x1] n sh R I Q := by
  refine XI.of (ls := [some (.inr 137), some (.inl x1), none]) (zloc_eq gY_207.2.2.1) ?_
  unfold XIs
  refine x_iconst d207_0 rfl ?_
  refine x_istore_n (ls2 := [some (.inr 137), some (.inl x1), some (.inl 0)]) d207_1 rfl rfl ?_
  exact k
set_option maxHeartbeats 4000000 in
theorem b_M_rankNumber_2 {d n : Nat} {sh : ZS} {R : ZR} {I : ZI} {Q : Int → ZI → Prop} (hW : Wf sh R) {x1 : Int} {x2 : Int}
    (k : (0 ≤ x2 ∧ x2 < 20) ∧ (0 ≤ x1 ∧ x1 < 32) ∧ (0 ≤ I 138 (x1).toNat ∧ I 138 (x1).toNat < 20) ∧ (if I 162 (x2).toNat = I 143 (I 138 (x1).toNat).toNat then Q x2 I else (zr (x2 + 1)) ∧ XIs (d + 1) 207 2 [some (.inr 137), some (.inl x1), some (.inl (x2 + 1))] [] n sh R I Q)) : XIs (d + 1) 207 2 [some (.inr 137), some (.inl x1), some (.inl x2)] [] n sh R I Q := by
  unfold XIs
  refine x_aload_n d207_2 rfl ?_
  refine x_getR (r := 162) d207_3 gY_207.2.2.2 gF_12_83 rfl (sh_137 hW) (rf_137_46 hW) (by decide) ?_
  refine x_iload_n d207_6 rfl ?_
  have e1 := k.1
  replace k := k.2
  refine x_iald d207_7 (sh_162 hW) e1.1 e1.2 ?_
  refine x_aload_n d207_8 rfl ?_
  refine x_iload_n d207_9 rfl ?_
  refine y_inv (as := [.inl x1]) (t := [.inl (I 162 (x2).toNat)]) (o := 137) (ls2 := [some (.inr 137), some (.inl x1)]) gY_146 d207_10 gY_207.2.2.2 gM_12_291 rfl (sh_137 hW) rfl rfl ?_
  refine x_aload_n d146_0 rfl ?_
  refine x_getR (r := 143) d146_1 gY_146.2.2.2 gF_12_25 rfl (sh_137 hW) (rf_137_11 hW) (by decide) ?_
  refine x_aload_n d146_4 rfl ?_
  refine x_getR (r := 138) d146_5 gY_146.2.2.2 gF_12_7 rfl (sh_137 hW) (rf_137_6 hW) (by decide) ?_
  refine x_iload_n d146_8 rfl ?_
  have e2 := k.1
  replace k := k.2
  refine x_iald d146_9 (sh_138 hW) e2.1 e2.2 ?_
  have e3 := k.1
  replace k := k.2
  refine x_iald d146_10 (sh_143 hW) e3.1 e3.2 ?_
  refine x_iret d146_11 gR_146 ?_
  show Ex (d + 1) 207 13 [some (.inr 137), some (.inl x1), some (.inl x2)] [.inl (I 143 (I 138 (x1).toNat).toNat), .inl (I 162 (x2).toNat)] (0, 0, n, sh, R, I) _
  refine x_if2 (pc2 := 23) d207_13 rfl (fun c => ?_) (fun c => ?_)
  · replace c : I 162 (x2).toNat = I 143 (I 138 (x1).toNat).toNat := c
    rw [if_pos c] at k
    refine x_iload_n d207_23 rfl ?_
    exact x_iret d207_24 gR_207 ⟨_, _, rfl, rfl, k⟩
  · replace c : ¬ (I 162 (x2).toNat = I 143 (I 138 (x1).toNat).toNat) := c
    rw [if_neg c] at k
    refine x_iload_n d207_16 rfl ?_
    refine x_iconst d207_17 rfl ?_
    have e4 := k.1
    replace k := k.2
    refine x_iadd d207_18 e4 ?_
    refine x_istore_n (ls2 := [some (.inr 137), some (.inl x1), some (.inl (x2 + 1))]) d207_19 rfl rfl ?_
    refine x_goto (pc2 := 2) d207_20 rfl ?_
    exact k
set_option maxHeartbeats 4000000 in
theorem b_M_planned_0 {d n : Nat} {sh : ZS} {R : ZR} {I : ZI} {Q : Int → ZI → Prop} (hW : Wf sh R) {x1 : Int} {x2 : Int}
    (k : (if x1 < 0 then Q (-1) I else (if I 137 0 ≤ x1 then Q (-1) I else XV (d + 3) 205 [.inr 137] n sh R I (fun I2 => XI (d + 3) 151 [.inr 137, .inl x1] n sh R I2 (fun v3 I4 => (if v3 = (-1) then Q (-2) I4 else (if I4 137 49 = (-1) then Q (-2) I4 else (if x2 < 0 then Q (-2) I4 else (if x2 < I4 137 49 then XI (d + 3) 207 [.inr 137, .inl x1] n sh R I4 (fun v5 I6 => (zr (5 * v5)) ∧ (zr ((5 * v5) + x2)) ∧ (0 ≤ ((5 * v5) + x2) ∧ ((5 * v5) + x2) < 100) ∧ Q (I6 166 ((5 * v5) + x2).toNat) I6) else Q (-2) I4))))))))) : XI (d + 4) 208 [.inr 137, .inl x1, .inl x2] n sh R I Q := by
  refine XI.of (ls := [some (.inr 137), some (.inl x1), some (.inl x2)]) (zloc_eq gY_208.2.2.1) ?_
  unfold XIs
  refine x_aload_n d208_0 rfl ?_
  refine x_iload_n d208_1 rfl ?_
  refine y_inv (as := [.inl x1]) (t := []) (o := 137) (ls2 := [some (.inr 137), some (.inl x1)]) gY_144 d208_2 gY_208.2.2.2 gM_12_346 rfl (sh_137 hW) rfl rfl ?_
  refine x_iload_n d144_0 rfl ?_
  refine x_if1 (pc2 := 16) d144_1 rfl (fun c => ?_) (fun c => ?_)
  · replace c : x1 < 0 := c
    rw [if_pos c] at k
    refine x_iconst d144_16 rfl ?_
    refine x_zret d144_17 gR_144 (by decide) ?_
    show Ex (d + 4) 208 5 [some (.inr 137), some (.inl x1), some (.inl x2)] [.inl 0] (0, 0, n, sh, R, I) _
    refine x_if1 (pc2 := 10) d208_5 rfl (fun c => absurd (show ¬ (0 : Int) = 0 from c) (by decide)) (fun _ => ?_)
    refine x_iconst d208_8 rfl ?_
    exact x_iret d208_9 gR_208 ⟨_, _, rfl, rfl, k⟩
  · replace c : ¬ (x1 < 0) := c
    rw [if_neg c] at k
    refine x_iload_n d144_4 rfl ?_
    refine x_aload_n d144_5 rfl ?_
    refine x_getI d144_6 gY_144.2.2.2 gF_12_159 rfl (sh_137 hW) ?_
    refine x_if2 (pc2 := 16) d144_9 rfl (fun c => ?_) (fun c => ?_)
    · replace c : I 137 0 ≤ x1 := c
      rw [if_pos c] at k
      refine x_iconst d144_16 rfl ?_
      refine x_zret d144_17 gR_144 (by decide) ?_
      show Ex (d + 4) 208 5 [some (.inr 137), some (.inl x1), some (.inl x2)] [.inl 0] (0, 0, n, sh, R, I) _
      refine x_if1 (pc2 := 10) d208_5 rfl (fun c => absurd (show ¬ (0 : Int) = 0 from c) (by decide)) (fun _ => ?_)
      refine x_iconst d208_8 rfl ?_
      exact x_iret d208_9 gR_208 ⟨_, _, rfl, rfl, k⟩
    · replace c : ¬ (I 137 0 ≤ x1) := c
      rw [if_neg c] at k
      refine x_iconst d144_12 rfl ?_
      refine x_goto (pc2 := 17) d144_13 rfl ?_
      refine x_zret d144_17 gR_144 (by decide) ?_
      show Ex (d + 4) 208 5 [some (.inr 137), some (.inl x1), some (.inl x2)] [.inl 1] (0, 0, n, sh, R, I) _
      refine x_if1 (pc2 := 10) d208_5 rfl (fun _ => ?_) (fun c => absurd (show ¬ (1 : Int) = 0 by decide) c)
      refine x_aload_n d208_10 rfl ?_
      refine y_invV (as := []) (t := []) (o := 137) gY_205 d208_11 gY_208.2.2.2 gM_12_386 rfl (sh_137 hW) rfl k (fun I2 k => ?_)
      refine x_aload_n d208_14 rfl ?_
      refine x_iload_n d208_15 rfl ?_
      refine y_invI (as := [.inl x1]) (t := []) (o := 137) gY_151 d208_16 gY_208.2.2.2 gM_12_349 rfl (sh_137 hW) rfl k (fun v3 I4 k => ?_)
      refine x_iconst d208_19 rfl ?_
      refine x_if2 (pc2 := 43) d208_20 rfl (fun c => ?_) (fun c => ?_)
      · replace c : v3 = (-1) := c
        rw [if_pos c] at k
        refine x_bipush d208_43 rfl ?_
        exact x_iret d208_45 gR_208 ⟨_, _, rfl, rfl, k⟩
      · replace c : ¬ (v3 = (-1)) := c
        rw [if_neg c] at k
        refine x_aload_n d208_23 rfl ?_
        refine x_getI d208_24 gY_208.2.2.2 gF_12_380 rfl (sh_137 hW) ?_
        refine x_iconst d208_27 rfl ?_
        refine x_if2 (pc2 := 43) d208_28 rfl (fun c => ?_) (fun c => ?_)
        · replace c : I4 137 49 = (-1) := c
          rw [if_pos c] at k
          refine x_bipush d208_43 rfl ?_
          exact x_iret d208_45 gR_208 ⟨_, _, rfl, rfl, k⟩
        · replace c : ¬ (I4 137 49 = (-1)) := c
          rw [if_neg c] at k
          refine x_iload_n d208_31 rfl ?_
          refine x_if1 (pc2 := 43) d208_32 rfl (fun c => ?_) (fun c => ?_)
          · replace c : x2 < 0 := c
            rw [if_pos c] at k
            refine x_bipush d208_43 rfl ?_
            exact x_iret d208_45 gR_208 ⟨_, _, rfl, rfl, k⟩
          · replace c : ¬ (x2 < 0) := c
            rw [if_neg c] at k
            refine x_iload_n d208_35 rfl ?_
            refine x_aload_n d208_36 rfl ?_
            refine x_getI d208_37 gY_208.2.2.2 gF_12_380 rfl (sh_137 hW) ?_
            refine x_if2 (pc2 := 46) d208_40 rfl (fun c => ?_) (fun c => ?_)
            · replace c : x2 < I4 137 49 := c
              rw [if_pos c] at k
              refine x_aload_n d208_46 rfl ?_
              refine x_getR (r := 166) d208_47 gY_208.2.2.2 gF_12_95 rfl (sh_137 hW) (rf_137_51 hW) (by decide) ?_
              refine x_iconst d208_50 rfl ?_
              refine x_aload_n d208_51 rfl ?_
              refine x_iload_n d208_52 rfl ?_
              refine y_invI (as := [.inl x1]) (t := [.inl 5, .inr 166]) (o := 137) gY_207 d208_53 gY_208.2.2.2 gM_12_389 rfl (sh_137 hW) rfl k (fun v5 I6 k => ?_)
              have e7 := k.1
              replace k := k.2
              refine x_imul d208_56 e7 ?_
              refine x_iload_n d208_57 rfl ?_
              have e8 := k.1
              replace k := k.2
              refine x_iadd d208_58 e8 ?_
              have e9 := k.1
              replace k := k.2
              refine x_iald d208_59 (sh_166 hW) e9.1 e9.2 ?_
              exact x_iret d208_60 gR_208 ⟨_, _, rfl, rfl, k⟩
            · replace c : ¬ (x2 < I4 137 49) := c
              rw [if_neg c] at k
              refine x_bipush d208_43 rfl ?_
              exact x_iret d208_45 gR_208 ⟨_, _, rfl, rfl, k⟩
set_option maxHeartbeats 4000000 in
theorem b_M_planDone_0 {d n : Nat} {sh : ZS} {R : ZR} {I : ZI} {Q : Int → ZI → Prop} (hW : Wf sh R) 
    (k : XV (d + 3) 205 [.inr 137] n sh R I (fun I2 => (if ¬ I2 137 49 = (-1) then XIs (d + 4) 209 17 [some (.inr 137), some (.inl 0), none] [] n sh R I2 Q else Q (-2) I2))) : XI (d + 4) 209 [.inr 137] n sh R I Q := by
  refine XI.of (ls := [some (.inr 137), none, none]) (zloc_eq gY_209.2.2.1) ?_
  unfold XIs
  refine x_aload_n d209_0 rfl ?_
  refine y_invV (as := []) (t := []) (o := 137) gY_205 d209_1 gY_209.2.2.2 gM_12_386 rfl (sh_137 hW) rfl k (fun I2 k => ?_)
  refine x_aload_n d209_4 rfl ?_
  refine x_getI d209_5 gY_209.2.2.2 gF_12_380 rfl (sh_137 hW) ?_
  refine x_iconst d209_8 rfl ?_
  refine x_if2 (pc2 := 15) d209_9 rfl (fun c => ?_) (fun c => ?_)
  · replace c : ¬ I2 137 49 = (-1) := c
    rw [if_pos c] at k
    refine x_iconst d209_15 rfl ?_
    refine x_istore_n (ls2 := [some (.inr 137), some (.inl 0), none]) d209_16 rfl rfl ?_
    exact k
  · replace c : ¬ (¬ I2 137 49 = (-1)) := c
    rw [if_neg c] at k
    refine x_bipush d209_12 rfl ?_
    exact x_iret d209_14 gR_209 ⟨_, _, rfl, rfl, k⟩
set_option maxHeartbeats 4000000 in
theorem b_M_planDone_17 {d n : Nat} {sh : ZS} {R : ZR} {I : ZI} {Q : Int → ZI → Prop} (hW : Wf sh R) {x1 : Int} {u2 : Option AV}
    (k : (if I 137 49 ≤ x1 then Q (I 137 49) I else XIs (d + 4) 209 27 [some (.inr 137), some (.inl x1), some (.inl 0)] [] n sh R I Q)) : XIs (d + 4) 209 17 [some (.inr 137), some (.inl x1), u2] [] n sh R I Q := by
  unfold XIs
  refine x_iload_n d209_17 rfl ?_
  refine x_aload_n d209_18 rfl ?_
  refine x_getI d209_19 gY_209.2.2.2 gF_12_380 rfl (sh_137 hW) ?_
  refine x_if2 (pc2 := 76) d209_22 rfl (fun c => ?_) (fun c => ?_)
  · replace c : I 137 49 ≤ x1 := c
    rw [if_pos c] at k
    refine x_aload_n d209_76 rfl ?_
    refine x_getI d209_77 gY_209.2.2.2 gF_12_380 rfl (sh_137 hW) ?_
    exact x_iret d209_80 gR_209 ⟨_, _, rfl, rfl, k⟩
  · replace c : ¬ (I 137 49 ≤ x1) := c
    rw [if_neg c] at k
    refine x_iconst d209_25 rfl ?_
    refine x_istore_n (ls2 := [some (.inr 137), some (.inl x1), some (.inl 0)]) d209_26 rfl rfl ?_
    exact k
set_option maxHeartbeats 4000000 in
theorem b_M_planDone_27 {d n : Nat} {sh : ZS} {R : ZR} {I : ZI} {Q : Int → ZI → Prop} (hW : Wf sh R) {x1 : Int} {x2 : Int}
    (k : (if I 137 1 ≤ x2 then XV (d + 3) 183 [.inr 137] n sh R I (fun I2 => (zr (x1 + 1)) ∧ XIs (d + 4) 209 17 [some (.inr 137), some (.inl (x1 + 1)), some (.inl x2)] [] n sh R I2 Q) else (0 ≤ x2 ∧ x2 < 32) ∧ XI (d + 3) 207 [.inr 137, .inl (I 142 (x2).toNat)] n sh R I (fun v5 I6 => (zr (5 * v5)) ∧ (zr ((5 * v5) + x1)) ∧ (0 ≤ ((5 * v5) + x1) ∧ ((5 * v5) + x1) < 100) ∧ (zr (x2 + 1)) ∧ XIs (d + 4) 209 27 [some (.inr 137), some (.inl x1), some (.inl (x2 + 1))] [] n sh R (zup I6 158 (x2).toNat (I6 166 ((5 * v5) + x1).toNat)) Q))) : XIs (d + 4) 209 27 [some (.inr 137), some (.inl x1), some (.inl x2)] [] n sh R I Q := by
  unfold XIs
  refine x_iload_n d209_27 rfl ?_
  refine x_aload_n d209_28 rfl ?_
  refine x_getI d209_29 gY_209.2.2.2 gF_12_162 rfl (sh_137 hW) ?_
  refine x_if2 (pc2 := 66) d209_32 rfl (fun c => ?_) (fun c => ?_)
  · replace c : I 137 1 ≤ x2 := c
    rw [if_pos c] at k
    refine x_aload_n d209_66 rfl ?_
    refine y_invV (as := []) (t := []) (o := 137) gY_183 d209_67 gY_209.2.2.2 gM_12_321 rfl (sh_137 hW) rfl k (fun I2 k => ?_)
    have e3 := k.1
    replace k := k.2
    refine x_iinc (ls2 := [some (.inr 137), some (.inl (x1 + 1)), some (.inl x2)]) d209_70 rfl e3 rfl ?_
    refine x_goto (pc2 := 17) d209_73 rfl ?_
    exact k
  · replace c : ¬ (I 137 1 ≤ x2) := c
    rw [if_neg c] at k
    refine x_aload_n d209_35 rfl ?_
    refine x_getR (r := 158) d209_36 gY_209.2.2.2 gF_12_71 rfl (sh_137 hW) (rf_137_39 hW) (by decide) ?_
    refine x_iload_n d209_39 rfl ?_
    refine x_aload_n d209_40 rfl ?_
    refine x_getR (r := 166) d209_41 gY_209.2.2.2 gF_12_95 rfl (sh_137 hW) (rf_137_51 hW) (by decide) ?_
    refine x_iconst d209_44 rfl ?_
    refine x_aload_n d209_45 rfl ?_
    refine x_aload_n d209_46 rfl ?_
    refine x_getR (r := 142) d209_47 gY_209.2.2.2 gF_12_22 rfl (sh_137 hW) (rf_137_10 hW) (by decide) ?_
    refine x_iload_n d209_50 rfl ?_
    have e4 := k.1
    replace k := k.2
    refine x_iald d209_51 (sh_142 hW) e4.1 e4.2 ?_
    refine y_invI (as := [.inl (I 142 (x2).toNat)]) (t := [.inl 5, .inr 166, .inl x2, .inr 158]) (o := 137) gY_207 d209_52 gY_209.2.2.2 gM_12_389 rfl (sh_137 hW) rfl k (fun v5 I6 k => ?_)
    have e7 := k.1
    replace k := k.2
    refine x_imul d209_55 e7 ?_
    refine x_iload_n d209_56 rfl ?_
    have e8 := k.1
    replace k := k.2
    refine x_iadd d209_57 e8 ?_
    have e9 := k.1
    replace k := k.2
    refine x_iald d209_58 (sh_166 hW) e9.1 e9.2 ?_
    refine x_iast d209_59 (sh_158 hW) e4.1 e4.2 ?_
    have e10 := k.1
    replace k := k.2
    refine x_iinc (ls2 := [some (.inr 137), some (.inl x1), some (.inl (x2 + 1))]) d209_60 rfl e10 rfl ?_
    refine x_goto (pc2 := 27) d209_63 rfl ?_
    exact k
set_option maxHeartbeats 4000000 in
theorem b_M_laysStreets_0 {d n : Nat} {sh : ZS} {R : ZR} {I : ZI} {Q : ZI → Prop} (hW : Wf sh R) 
    (k : XVs d 211 2 [some (.inr 137), some (.inl 0)] [] n sh R I Q) : XV d 211 [.inr 137] n sh R I Q := by
  refine XV.of (ls := [some (.inr 137), none]) (zloc_eq gY_211.2.2.1) ?_
  unfold XVs
  refine x_iconst d211_0 rfl ?_
  refine x_istore_n (ls2 := [some (.inr 137), some (.inl 0)]) d211_1 rfl rfl ?_
  exact k
set_option maxHeartbeats 4000000 in
theorem b_M_laysStreets_2 {d n : Nat} {sh : ZS} {R : ZR} {I : ZI} {Q : ZI → Prop} (hW : Wf sh R) {x1 : Int}
    (k : (if 20 ≤ x1 then XVs d 211 23 [some (.inr 137), some (.inl 0)] [] n sh R I Q else (0 ≤ x1 ∧ x1 < 20) ∧ (zr (x1 + 1)) ∧ XVs d 211 2 [some (.inr 137), some (.inl (x1 + 1))] [] n sh R (zup I 167 (x1).toNat 0) Q)) : XVs d 211 2 [some (.inr 137), some (.inl x1)] [] n sh R I Q := by
  unfold XVs
  refine x_iload_n d211_2 rfl ?_
  refine x_bipush d211_3 rfl ?_
  refine x_if2 (pc2 := 21) d211_5 rfl (fun c => ?_) (fun c => ?_)
  · replace c : 20 ≤ x1 := c
    rw [if_pos c] at k
    refine x_iconst d211_21 rfl ?_
    refine x_istore_n (ls2 := [some (.inr 137), some (.inl 0)]) d211_22 rfl rfl ?_
    exact k
  · replace c : ¬ (20 ≤ x1) := c
    rw [if_neg c] at k
    refine x_aload_n d211_8 rfl ?_
    refine x_getR (r := 167) d211_9 gY_211.2.2.2 gF_12_98 rfl (sh_137 hW) (rf_137_52 hW) (by decide) ?_
    refine x_iload_n d211_12 rfl ?_
    refine x_iconst d211_13 rfl ?_
    have e1 := k.1
    replace k := k.2
    refine x_iast d211_14 (sh_167 hW) e1.1 e1.2 ?_
    have e2 := k.1
    replace k := k.2
    refine x_iinc (ls2 := [some (.inr 137), some (.inl (x1 + 1))]) d211_15 rfl e2 rfl ?_
    refine x_goto (pc2 := 2) d211_18 rfl ?_
    exact k
set_option maxHeartbeats 4000000 in
theorem b_M_laysStreets_23 {d n : Nat} {sh : ZS} {R : ZR} {I : ZI} {Q : ZI → Prop} (hW : Wf sh R) {x1 : Int}
    (k : (if I 137 1 ≤ x1 then Q I else (0 ≤ x1 ∧ x1 < 32) ∧ (0 ≤ I 142 (x1).toNat ∧ I 142 (x1).toNat < 32) ∧ (0 ≤ I 138 (I 142 (x1).toNat).toNat ∧ I 138 (I 142 (x1).toNat).toNat < 20) ∧ (zr (I 167 (I 138 (I 142 (x1).toNat).toNat).toNat + 1)) ∧ (zr (x1 + 1)) ∧ XVs d 211 23 [some (.inr 137), some (.inl (x1 + 1))] [] n sh R (zup I 167 (I 138 (I 142 (x1).toNat).toNat).toNat (I 167 (I 138 (I 142 (x1).toNat).toNat).toNat + 1)) Q)) : XVs d 211 23 [some (.inr 137), some (.inl x1)] [] n sh R I Q := by
  unfold XVs
  refine x_iload_n d211_23 rfl ?_
  refine x_aload_n d211_24 rfl ?_
  refine x_getI d211_25 gY_211.2.2.2 gF_12_162 rfl (sh_137 hW) ?_
  refine x_if2 (pc2 := 71) d211_28 rfl (fun c => ?_) (fun c => ?_)
  · replace c : I 137 1 ≤ x1 := c
    rw [if_pos c] at k
    exact x_vret d211_71 gR_211 ⟨_, rfl, rfl, k⟩
  · replace c : ¬ (I 137 1 ≤ x1) := c
    rw [if_neg c] at k
    refine x_aload_n d211_31 rfl ?_
    refine x_getR (r := 167) d211_32 gY_211.2.2.2 gF_12_98 rfl (sh_137 hW) (rf_137_52 hW) (by decide) ?_
    refine x_aload_n d211_35 rfl ?_
    refine x_getR (r := 138) d211_36 gY_211.2.2.2 gF_12_7 rfl (sh_137 hW) (rf_137_6 hW) (by decide) ?_
    refine x_aload_n d211_39 rfl ?_
    refine x_getR (r := 142) d211_40 gY_211.2.2.2 gF_12_22 rfl (sh_137 hW) (rf_137_10 hW) (by decide) ?_
    refine x_iload_n d211_43 rfl ?_
    have e1 := k.1
    replace k := k.2
    refine x_iald d211_44 (sh_142 hW) e1.1 e1.2 ?_
    have e2 := k.1
    replace k := k.2
    refine x_iald d211_45 (sh_138 hW) e2.1 e2.2 ?_
    refine x_aload_n d211_46 rfl ?_
    refine x_getR (r := 167) d211_47 gY_211.2.2.2 gF_12_98 rfl (sh_137 hW) (rf_137_52 hW) (by decide) ?_
    refine x_aload_n d211_50 rfl ?_
    refine x_getR (r := 138) d211_51 gY_211.2.2.2 gF_12_7 rfl (sh_137 hW) (rf_137_6 hW) (by decide) ?_
    refine x_aload_n d211_54 rfl ?_
    refine x_getR (r := 142) d211_55 gY_211.2.2.2 gF_12_22 rfl (sh_137 hW) (rf_137_10 hW) (by decide) ?_
    refine x_iload_n d211_58 rfl ?_
    refine x_iald d211_59 (sh_142 hW) e1.1 e1.2 ?_
    refine x_iald d211_60 (sh_138 hW) e2.1 e2.2 ?_
    have e3 := k.1
    replace k := k.2
    refine x_iald d211_61 (sh_167 hW) e3.1 e3.2 ?_
    refine x_iconst d211_62 rfl ?_
    have e4 := k.1
    replace k := k.2
    refine x_iadd d211_63 e4 ?_
    refine x_iast d211_64 (sh_167 hW) e3.1 e3.2 ?_
    have e5 := k.1
    replace k := k.2
    refine x_iinc (ls2 := [some (.inr 137), some (.inl (x1 + 1))]) d211_65 rfl e5 rfl ?_
    refine x_goto (pc2 := 23) d211_68 rfl ?_
    exact k
set_option maxHeartbeats 4000000 in
theorem b_M_lettersIn_0 {d n : Nat} {sh : ZS} {R : ZR} {I : ZI} {Q : Int → ZI → Prop} (hW : Wf sh R) {x1 : Int} {x2 : Int}
    (k : XIs d 212 5 [some (.inr 137), some (.inl x1), some (.inl x2), some (.inl 0), some (.inl x1)] [] n sh R I Q) : XI d 212 [.inr 137, .inl x1, .inl x2] n sh R I Q := by
  refine XI.of (ls := [some (.inr 137), some (.inl x1), some (.inl x2), none, none]) (zloc_eq gY_212.2.2.1) ?_
  unfold XIs
  refine x_iconst d212_0 rfl ?_
  refine x_istore_n (ls2 := [some (.inr 137), some (.inl x1), some (.inl x2), some (.inl 0), none]) d212_1 rfl rfl ?_
  refine x_iload_n d212_2 rfl ?_
  refine x_istore (ls2 := [some (.inr 137), some (.inl x1), some (.inl x2), some (.inl 0), some (.inl x1)]) d212_3 rfl rfl ?_
  exact k
set_option maxHeartbeats 4000000 in
theorem b_M_lettersIn_5 {d n : Nat} {sh : ZS} {R : ZR} {I : ZI} {Q : Int → ZI → Prop} (hW : Wf sh R) {u1 : Option AV} {x2 : Int} {x3 : Int} {x4 : Int}
    (k : (if x2 < x4 then Q x3 I else (0 ≤ x4 ∧ x4 < 20) ∧ (zr (x3 + I 167 (x4).toNat)) ∧ (zr (x4 + 1)) ∧ XIs d 212 5 [some (.inr 137), u1, some (.inl x2), some (.inl (x3 + I 167 (x4).toNat)), some (.inl (x4 + 1))] [] n sh R I Q)) : XIs d 212 5 [some (.inr 137), u1, some (.inl x2), some (.inl x3), some (.inl x4)] [] n sh R I Q := by
  unfold XIs
  refine x_iload d212_5 rfl ?_
  refine x_iload_n d212_7 rfl ?_
  refine x_if2 (pc2 := 27) d212_8 rfl (fun c => ?_) (fun c => ?_)
  · replace c : x2 < x4 := c
    rw [if_pos c] at k
    refine x_iload_n d212_27 rfl ?_
    exact x_iret d212_28 gR_212 ⟨_, _, rfl, rfl, k⟩
  · replace c : ¬ (x2 < x4) := c
    rw [if_neg c] at k
    refine x_iload_n d212_11 rfl ?_
    refine x_aload_n d212_12 rfl ?_
    refine x_getR (r := 167) d212_13 gY_212.2.2.2 gF_12_98 rfl (sh_137 hW) (rf_137_52 hW) (by decide) ?_
    refine x_iload d212_16 rfl ?_
    have e1 := k.1
    replace k := k.2
    refine x_iald d212_18 (sh_167 hW) e1.1 e1.2 ?_
    have e2 := k.1
    replace k := k.2
    refine x_iadd d212_19 e2 ?_
    refine x_istore_n (ls2 := [some (.inr 137), u1, some (.inl x2), some (.inl (x3 + I 167 (x4).toNat)), some (.inl x4)]) d212_20 rfl rfl ?_
    have e3 := k.1
    replace k := k.2
    refine x_iinc (ls2 := [some (.inr 137), u1, some (.inl x2), some (.inl (x3 + I 167 (x4).toNat)), some (.inl (x4 + 1))]) d212_21 rfl e3 rfl ?_
    refine x_goto (pc2 := 5) d212_24 rfl ?_
    exact k
set_option maxHeartbeats 4000000 in
theorem b_M_isSingle_0 {d n : Nat} {sh : ZS} {R : ZR} {I : ZI} {Q : Int → ZI → Prop} (hW : Wf sh R) {x1 : Int} {x2 : Int}
    (k : XIs d 213 5 [some (.inr 137), some (.inl x1), some (.inl x2), some (.inl 0), some (.inl x1)] [] n sh R I Q) : XI d 213 [.inr 137, .inl x1, .inl x2] n sh R I Q := by
  refine XI.of (ls := [some (.inr 137), some (.inl x1), some (.inl x2), none, none]) (zloc_eq gY_213.2.2.1) ?_
  unfold XIs
  refine x_iconst d213_0 rfl ?_
  refine x_istore_n (ls2 := [some (.inr 137), some (.inl x1), some (.inl x2), some (.inl 0), none]) d213_1 rfl rfl ?_
  refine x_iload_n d213_2 rfl ?_
  refine x_istore (ls2 := [some (.inr 137), some (.inl x1), some (.inl x2), some (.inl 0), some (.inl x1)]) d213_3 rfl rfl ?_
  exact k
set_option maxHeartbeats 4000000 in
theorem b_M_isSingle_5 {d n : Nat} {sh : ZS} {R : ZR} {I : ZI} {Q : Int → ZI → Prop} (hW : Wf sh R) {u1 : Option AV} {x2 : Int} {x3 : Int} {x4 : Int}
    (k : (if x2 < x4 then (if 2 ≤ x3 then Q 0 I else Q 1 I) else (0 ≤ x4 ∧ x4 < 20) ∧ (if I 167 (x4).toNat ≤ 0 then (zr (x3 + 0)) ∧ (zr (x4 + 1)) ∧ XIs d 213 5 [some (.inr 137), u1, some (.inl x2), some (.inl (x3 + 0)), some (.inl (x4 + 1))] [] n sh R I Q else (zr (x3 + 1)) ∧ (zr (x4 + 1)) ∧ XIs d 213 5 [some (.inr 137), u1, some (.inl x2), some (.inl (x3 + 1)), some (.inl (x4 + 1))] [] n sh R I Q))) : XIs d 213 5 [some (.inr 137), u1, some (.inl x2), some (.inl x3), some (.inl x4)] [] n sh R I Q := by
  unfold XIs
  refine x_iload d213_5 rfl ?_
  refine x_iload_n d213_7 rfl ?_
  refine x_if2 (pc2 := 35) d213_8 rfl (fun c => ?_) (fun c => ?_)
  · replace c : x2 < x4 := c
    rw [if_pos c] at k
    refine x_iload_n d213_35 rfl ?_
    refine x_iconst d213_36 rfl ?_
    refine x_if2 (pc2 := 44) d213_37 rfl (fun c => ?_) (fun c => ?_)
    · replace c : 2 ≤ x3 := c
      rw [if_pos c] at k
      refine x_iconst d213_44 rfl ?_
      exact x_zret d213_45 gR_213 (by decide) ⟨_, _, rfl, rfl, k⟩
    · replace c : ¬ (2 ≤ x3) := c
      rw [if_neg c] at k
      refine x_iconst d213_40 rfl ?_
      refine x_goto (pc2 := 45) d213_41 rfl ?_
      exact x_zret d213_45 gR_213 (by decide) ⟨_, _, rfl, rfl, k⟩
  · replace c : ¬ (x2 < x4) := c
    rw [if_neg c] at k
    refine x_iload_n d213_11 rfl ?_
    refine x_aload_n d213_12 rfl ?_
    refine x_getR (r := 167) d213_13 gY_213.2.2.2 gF_12_98 rfl (sh_137 hW) (rf_137_52 hW) (by decide) ?_
    refine x_iload d213_16 rfl ?_
    have e1 := k.1
    replace k := k.2
    refine x_iald d213_18 (sh_167 hW) e1.1 e1.2 ?_
    refine x_if1 (pc2 := 26) d213_19 rfl (fun c => ?_) (fun c => ?_)
    · replace c : I 167 (x4).toNat ≤ 0 := c
      rw [if_pos c] at k
      refine x_iconst d213_26 rfl ?_
      have e2 := k.1
      replace k := k.2
      refine x_iadd d213_27 e2 ?_
      refine x_istore_n (ls2 := [some (.inr 137), u1, some (.inl x2), some (.inl (x3 + 0)), some (.inl x4)]) d213_28 rfl rfl ?_
      have e3 := k.1
      replace k := k.2
      refine x_iinc (ls2 := [some (.inr 137), u1, some (.inl x2), some (.inl (x3 + 0)), some (.inl (x4 + 1))]) d213_29 rfl e3 rfl ?_
      refine x_goto (pc2 := 5) d213_32 rfl ?_
      exact k
    · replace c : ¬ (I 167 (x4).toNat ≤ 0) := c
      rw [if_neg c] at k
      refine x_iconst d213_22 rfl ?_
      refine x_goto (pc2 := 27) d213_23 rfl ?_
      have e4 := k.1
      replace k := k.2
      refine x_iadd d213_27 e4 ?_
      refine x_istore_n (ls2 := [some (.inr 137), u1, some (.inl x2), some (.inl (x3 + 1)), some (.inl x4)]) d213_28 rfl rfl ?_
      have e5 := k.1
      replace k := k.2
      refine x_iinc (ls2 := [some (.inr 137), u1, some (.inl x2), some (.inl (x3 + 1)), some (.inl (x4 + 1))]) d213_29 rfl e5 rfl ?_
      refine x_goto (pc2 := 5) d213_32 rfl ?_
      exact k
set_option maxHeartbeats 4000000 in
theorem b_M_laysCover_0 {d n : Nat} {sh : ZS} {R : ZR} {I : ZI} {Q : ZI → Prop} (hW : Wf sh R) {x1 : Int} {x2 : Int}
    (k : XVs (d + 1) 215 2 [some (.inr 137), some (.inl x1), some (.inl x2), some (.inl 0), none, none, none] [] n sh R I Q) : XV (d + 1) 215 [.inr 137, .inl x1, .inl x2] n sh R I Q := by
  refine XV.of (ls := [some (.inr 137), some (.inl x1), some (.inl x2), none, none, none, none]) (zloc_eq gY_215.2.2.1) ?_
  unfold XVs
  refine x_iconst d215_0 rfl ?_
  refine x_istore_n (ls2 := [some (.inr 137), some (.inl x1), some (.inl x2), some (.inl 0), none, none, none]) d215_1 rfl rfl ?_
  exact k
set_option maxHeartbeats 4000000 in
theorem b_M_laysCover_2 {d n : Nat} {sh : ZS} {R : ZR} {I : ZI} {Q : ZI → Prop} (hW : Wf sh R) {x1 : Int} {x2 : Int} {x3 : Int} {u4 : Option AV} {u5 : Option AV} {u6 : Option AV}
    (k : (if I 137 3 < x3 then Q I else XVs (d + 1) 215 13 [some (.inr 137), some (.inl x1), some (.inl x2), some (.inl x3), some (.inl 0), u5, u6] [] n sh R I Q)) : XVs (d + 1) 215 2 [some (.inr 137), some (.inl x1), some (.inl x2), some (.inl x3), u4, u5, u6] [] n sh R I Q := by
  unfold XVs
  refine x_iload_n d215_2 rfl ?_
  refine x_aload_n d215_3 rfl ?_
  refine x_getI d215_4 gY_215.2.2.2 gF_12_156 rfl (sh_137 hW) ?_
  refine x_if2 (pc2 := 122) d215_7 rfl (fun c => ?_) (fun c => ?_)
  · replace c : I 137 3 < x3 := c
    rw [if_pos c] at k
    exact x_vret d215_122 gR_215 ⟨_, rfl, rfl, k⟩
  · replace c : ¬ (I 137 3 < x3) := c
    rw [if_neg c] at k
    refine x_iconst d215_10 rfl ?_
    refine x_istore (ls2 := [some (.inr 137), some (.inl x1), some (.inl x2), some (.inl x3), some (.inl 0), u5, u6]) d215_11 rfl rfl ?_
    exact k
set_option maxHeartbeats 4000000 in
theorem b_M_laysCover_13 {d n : Nat} {sh : ZS} {R : ZR} {I : ZI} {Q : ZI → Prop} (hW : Wf sh R) {x1 : Int} {x2 : Int} {x3 : Int} {x4 : Int} {u5 : Option AV} {u6 : Option AV}
    (k : (zr (x2 + 1)) ∧ (if (x2 + 1) < x4 then (zr (x3 + 1)) ∧ XVs (d + 1) 215 2 [some (.inr 137), some (.inl x1), some (.inl x2), some (.inl (x3 + 1)), some (.inl x4), u5, u6] [] n sh R I Q else (if x4 ≤ x2 then XVs (d + 1) 215 40 [some (.inr 137), some (.inl x1), some (.inl x2), some (.inl x3), some (.inl x4), some (.inl 1000000000), some (.inl x4)] [] n sh R I Q else XVs (d + 1) 215 40 [some (.inr 137), some (.inl x1), some (.inl x2), some (.inl x3), some (.inl x4), some (.inl 0), some (.inl x4)] [] n sh R I Q))) : XVs (d + 1) 215 13 [some (.inr 137), some (.inl x1), some (.inl x2), some (.inl x3), some (.inl x4), u5, u6] [] n sh R I Q := by
  unfold XVs
  refine x_iload d215_13 rfl ?_
  refine x_iload_n d215_15 rfl ?_
  refine x_iconst d215_16 rfl ?_
  have e1 := k.1
  replace k := k.2
  refine x_iadd d215_17 e1 ?_
  refine x_if2 (pc2 := 116) d215_18 rfl (fun c => ?_) (fun c => ?_)
  · replace c : (x2 + 1) < x4 := c
    rw [if_pos c] at k
    have e2 := k.1
    replace k := k.2
    refine x_iinc (ls2 := [some (.inr 137), some (.inl x1), some (.inl x2), some (.inl (x3 + 1)), some (.inl x4), u5, u6]) d215_116 rfl e2 rfl ?_
    refine x_goto (pc2 := 2) d215_119 rfl ?_
    exact k
  · replace c : ¬ ((x2 + 1) < x4) := c
    rw [if_neg c] at k
    refine x_iload d215_21 rfl ?_
    refine x_iload_n d215_23 rfl ?_
    refine x_if2 (pc2 := 31) d215_24 rfl (fun c => ?_) (fun c => ?_)
    · replace c : x4 ≤ x2 := c
      rw [if_pos c] at k
      refine x_ldcw d215_31 gY_215.2.2.2 gK_12_392 rfl ?_
      refine x_istore (ls2 := [some (.inr 137), some (.inl x1), some (.inl x2), some (.inl x3), some (.inl x4), some (.inl 1000000000), u6]) d215_34 rfl rfl ?_
      refine x_iload d215_36 rfl ?_
      refine x_istore (ls2 := [some (.inr 137), some (.inl x1), some (.inl x2), some (.inl x3), some (.inl x4), some (.inl 1000000000), some (.inl x4)]) d215_38 rfl rfl ?_
      exact k
    · replace c : ¬ (x4 ≤ x2) := c
      rw [if_neg c] at k
      refine x_iconst d215_27 rfl ?_
      refine x_goto (pc2 := 34) d215_28 rfl ?_
      refine x_istore (ls2 := [some (.inr 137), some (.inl x1), some (.inl x2), some (.inl x3), some (.inl x4), some (.inl 0), u6]) d215_34 rfl rfl ?_
      refine x_iload d215_36 rfl ?_
      refine x_istore (ls2 := [some (.inr 137), some (.inl x1), some (.inl x2), some (.inl x3), some (.inl x4), some (.inl 0), some (.inl x4)]) d215_38 rfl rfl ?_
      exact k
set_option maxHeartbeats 4000000 in
theorem b_M_laysCover_40 {d n : Nat} {sh : ZS} {R : ZR} {I : ZI} {Q : ZI → Prop} (hW : Wf sh R) {x1 : Int} {x2 : Int} {x3 : Int} {x4 : Int} {x5 : Int} {x6 : Int}
    (k : (if x2 < x6 then (zr (21 * x3)) ∧ (zr ((21 * x3) + x4)) ∧ (0 ≤ ((21 * x3) + x4) ∧ ((21 * x3) + x4) < 210) ∧ (zr (x4 + 1)) ∧ XVs (d + 1) 215 13 [some (.inr 137), some (.inl x1), some (.inl x2), some (.inl x3), some (.inl (x4 + 1)), some (.inl x5), some (.inl x6)] [] n sh R (zup I 169 ((21 * x3) + x4).toNat x5) Q else (if x3 ≤ 0 then (zr (21 * x3)) ∧ (zr ((21 * x3) + x4)) ∧ (0 ≤ ((21 * x3) + x4) ∧ ((21 * x3) + x4) < 210) ∧ (zr (x4 + 1)) ∧ XVs (d + 1) 215 13 [some (.inr 137), some (.inl x1), some (.inl x2), some (.inl x3), some (.inl (x4 + 1)), some (.inl x5), some (.inl x6)] [] n sh R (zup I 169 ((21 * x3) + x4).toNat x5) Q else (zr (400 * x1)) ∧ (zr (20 * x4)) ∧ (zr ((400 * x1) + (20 * x4))) ∧ (zr (((400 * x1) + (20 * x4)) + x6)) ∧ (0 ≤ (((400 * x1) + (20 * x4)) + x6) ∧ (((400 * x1) + (20 * x4)) + x6) < 5200) ∧ (zr (x3 - 1)) ∧ (zr (21 * (x3 - 1))) ∧ (zr ((21 * (x3 - 1)) + x6)) ∧ (zr (((21 * (x3 - 1)) + x6) + 1)) ∧ (0 ≤ (((21 * (x3 - 1)) + x6) + 1) ∧ (((21 * (x3 - 1)) + x6) + 1) < 210) ∧ (if 1000000000 ≤ I 168 (((400 * x1) + (20 * x4)) + x6).toNat then (if 1000000000 ≤ x5 then (zr (x6 + 1)) ∧ XVs (d + 1) 215 40 [some (.inr 137), some (.inl x1), some (.inl x2), some (.inl x3), some (.inl x4), some (.inl 1000000000), some (.inl (x6 + 1))] [] n sh R I Q else (zr (x6 + 1)) ∧ XVs (d + 1) 215 40 [some (.inr 137), some (.inl x1), some (.inl x2), some (.inl x3), some (.inl x4), some (.inl x5), some (.inl (x6 + 1))] [] n sh R I Q) else (if I 169 (((21 * (x3 - 1)) + x6) + 1).toNat < 1000000000 then (zr (I 168 (((400 * x1) + (20 * x4)) + x6).toNat + I 169 (((21 * (x3 - 1)) + x6) + 1).toNat)) ∧ (if (I 168 (((400 * x1) + (20 * x4)) + x6).toNat + I 169 (((21 * (x3 - 1)) + x6) + 1).toNat) ≤ x5 then (zr (x6 + 1)) ∧ XVs (d + 1) 215 40 [some (.inr 137), some (.inl x1), some (.inl x2), some (.inl x3), some (.inl x4), some (.inl (I 168 (((400 * x1) + (20 * x4)) + x6).toNat + I 169 (((21 * (x3 - 1)) + x6) + 1).toNat)), some (.inl (x6 + 1))] [] n sh R I Q else (zr (x6 + 1)) ∧ XVs (d + 1) 215 40 [some (.inr 137), some (.inl x1), some (.inl x2), some (.inl x3), some (.inl x4), some (.inl x5), some (.inl (x6 + 1))] [] n sh R I Q) else (if 1000000000 ≤ x5 then (zr (x6 + 1)) ∧ XVs (d + 1) 215 40 [some (.inr 137), some (.inl x1), some (.inl x2), some (.inl x3), some (.inl x4), some (.inl 1000000000), some (.inl (x6 + 1))] [] n sh R I Q else (zr (x6 + 1)) ∧ XVs (d + 1) 215 40 [some (.inr 137), some (.inl x1), some (.inl x2), some (.inl x3), some (.inl x4), some (.inl x5), some (.inl (x6 + 1))] [] n sh R I Q)))))) : XVs (d + 1) 215 40 [some (.inr 137), some (.inl x1), some (.inl x2), some (.inl x3), some (.inl x4), some (.inl x5), some (.inl x6)] [] n sh R I Q := by
  unfold XVs
  refine x_iload d215_40 rfl ?_
  refine x_iload_n d215_42 rfl ?_
  refine x_if2 (pc2 := 96) d215_43 rfl (fun c => ?_) (fun c => ?_)
  · replace c : x2 < x6 := c
    rw [if_pos c] at k
    refine x_aload_n d215_96 rfl ?_
    refine x_getR (r := 169) d215_97 gY_215.2.2.2 gF_12_104 rfl (sh_137 hW) (rf_137_54 hW) (by decide) ?_
    refine x_bipush d215_100 rfl ?_
    refine x_iload_n d215_102 rfl ?_
    have e1 := k.1
    replace k := k.2
    refine x_imul d215_103 e1 ?_
    refine x_iload d215_104 rfl ?_
    have e2 := k.1
    replace k := k.2
    refine x_iadd d215_106 e2 ?_
    refine x_iload d215_107 rfl ?_
    have e3 := k.1
    replace k := k.2
    refine x_iast d215_109 (sh_169 hW) e3.1 e3.2 ?_
    have e4 := k.1
    replace k := k.2
    refine x_iinc (ls2 := [some (.inr 137), some (.inl x1), some (.inl x2), some (.inl x3), some (.inl (x4 + 1)), some (.inl x5), some (.inl x6)]) d215_110 rfl e4 rfl ?_
    refine x_goto (pc2 := 13) d215_113 rfl ?_
    exact k
  · replace c : ¬ (x2 < x6) := c
    rw [if_neg c] at k
    refine x_iload_n d215_46 rfl ?_
    refine x_if1 (pc2 := 96) d215_47 rfl (fun c => ?_) (fun c => ?_)
    · replace c : x3 ≤ 0 := c
      rw [if_pos c] at k
      refine x_aload_n d215_96 rfl ?_
      refine x_getR (r := 169) d215_97 gY_215.2.2.2 gF_12_104 rfl (sh_137 hW) (rf_137_54 hW) (by decide) ?_
      refine x_bipush d215_100 rfl ?_
      refine x_iload_n d215_102 rfl ?_
      have e5 := k.1
      replace k := k.2
      refine x_imul d215_103 e5 ?_
      refine x_iload d215_104 rfl ?_
      have e6 := k.1
      replace k := k.2
      refine x_iadd d215_106 e6 ?_
      refine x_iload d215_107 rfl ?_
      have e7 := k.1
      replace k := k.2
      refine x_iast d215_109 (sh_169 hW) e7.1 e7.2 ?_
      have e8 := k.1
      replace k := k.2
      refine x_iinc (ls2 := [some (.inr 137), some (.inl x1), some (.inl x2), some (.inl x3), some (.inl (x4 + 1)), some (.inl x5), some (.inl x6)]) d215_110 rfl e8 rfl ?_
      refine x_goto (pc2 := 13) d215_113 rfl ?_
      exact k
    · replace c : ¬ (x3 ≤ 0) := c
      rw [if_neg c] at k
      refine x_iload d215_50 rfl ?_
      refine x_aload_n d215_52 rfl ?_
      refine x_getR (r := 168) d215_53 gY_215.2.2.2 gF_12_101 rfl (sh_137 hW) (rf_137_53 hW) (by decide) ?_
      refine x_aload_n d215_56 rfl ?_
      refine x_iload_n d215_57 rfl ?_
      refine x_iload d215_58 rfl ?_
      refine x_iload d215_60 rfl ?_
      refine y_inv (as := [.inl x1, .inl x4, .inl x6]) (t := [.inr 168, .inl x5]) (o := 137) (ls2 := [some (.inr 137), some (.inl x1), some (.inl x4), some (.inl x6)]) gY_210 d215_62 gY_215.2.2.2 gM_12_393 rfl (sh_137 hW) rfl rfl ?_
      refine x_sipush d210_0 rfl ?_
      refine x_iload_n d210_3 rfl ?_
      have e9 := k.1
      replace k := k.2
      refine x_imul d210_4 e9 ?_
      refine x_bipush d210_5 rfl ?_
      refine x_iload_n d210_7 rfl ?_
      have e10 := k.1
      replace k := k.2
      refine x_imul d210_8 e10 ?_
      have e11 := k.1
      replace k := k.2
      refine x_iadd d210_9 e11 ?_
      refine x_iload_n d210_10 rfl ?_
      have e12 := k.1
      replace k := k.2
      refine x_iadd d210_11 e12 ?_
      refine x_iret d210_12 gR_210 ?_
      show Ex (d + 1) 215 65 [some (.inr 137), some (.inl x1), some (.inl x2), some (.inl x3), some (.inl x4), some (.inl x5), some (.inl x6)] [.inl (((400 * x1) + (20 * x4)) + x6), .inr 168, .inl x5] (0, 0, n, sh, R, I) _
      have e13 := k.1
      replace k := k.2
      refine x_iald d215_65 (sh_168 hW) e13.1 e13.2 ?_
      refine x_aload_n d215_66 rfl ?_
      refine x_getR (r := 169) d215_67 gY_215.2.2.2 gF_12_104 rfl (sh_137 hW) (rf_137_54 hW) (by decide) ?_
      refine x_bipush d215_70 rfl ?_
      refine x_iload_n d215_72 rfl ?_
      refine x_iconst d215_73 rfl ?_
      have e14 := k.1
      replace k := k.2
      refine x_isub d215_74 e14 ?_
      have e15 := k.1
      replace k := k.2
      refine x_imul d215_75 e15 ?_
      refine x_iload d215_76 rfl ?_
      have e16 := k.1
      replace k := k.2
      refine x_iadd d215_78 e16 ?_
      refine x_iconst d215_79 rfl ?_
      have e17 := k.1
      replace k := k.2
      refine x_iadd d215_80 e17 ?_
      have e18 := k.1
      replace k := k.2
      refine x_iald d215_81 (sh_169 hW) e18.1 e18.2 ?_
      refine y_ins (as := [.inl (I 168 (((400 * x1) + (20 * x4)) + x6).toNat), .inl (I 169 (((21 * (x3 - 1)) + x6) + 1).toNat)]) (t := [.inl x5]) (ls2 := [some (.inl (I 168 (((400 * x1) + (20 * x4)) + x6).toNat)), some (.inl (I 169 (((21 * (x3 - 1)) + x6) + 1).toNat))]) gY_214 d215_82 gY_215.2.2.2 gM_12_396 rfl rfl rfl ?_
      refine x_iload_n d214_0 rfl ?_
      refine x_ldcw d214_1 gY_214.2.2.2 gK_12_392 rfl ?_
      refine x_if2 (pc2 := 14) d214_4 rfl (fun c => ?_) (fun c => ?_)
      · replace c : 1000000000 ≤ I 168 (((400 * x1) + (20 * x4)) + x6).toNat := c
        rw [if_pos c] at k
        refine x_ldcw d214_14 gY_214.2.2.2 gK_12_392 rfl ?_
        refine x_goto (pc2 := 23) d214_17 rfl ?_
        refine x_iret d214_23 gR_214 ?_
        show Ex (d + 1) 215 85 [some (.inr 137), some (.inl x1), some (.inl x2), some (.inl x3), some (.inl x4), some (.inl x5), some (.inl x6)] [.inl 1000000000, .inl x5] (0, 0, n, sh, R, I) _
        refine y_ins (as := [.inl x5, .inl 1000000000]) (t := []) (ls2 := [some (.inl x5), some (.inl 1000000000)]) gY_141 d215_85 gY_215.2.2.2 gM_12_399 rfl rfl rfl ?_
        refine x_iload_n d141_0 rfl ?_
        refine x_iload_n d141_1 rfl ?_
        refine x_if2 (pc2 := 9) d141_2 rfl (fun c => ?_) (fun c => ?_)
        · replace c : 1000000000 ≤ x5 := c
          rw [if_pos c] at k
          refine x_iload_n d141_9 rfl ?_
          refine x_iret d141_10 gR_141 ?_
          show Ex (d + 1) 215 88 [some (.inr 137), some (.inl x1), some (.inl x2), some (.inl x3), some (.inl x4), some (.inl x5), some (.inl x6)] [.inl 1000000000] (0, 0, n, sh, R, I) _
          refine x_istore (ls2 := [some (.inr 137), some (.inl x1), some (.inl x2), some (.inl x3), some (.inl x4), some (.inl 1000000000), some (.inl x6)]) d215_88 rfl rfl ?_
          have e19 := k.1
          replace k := k.2
          refine x_iinc (ls2 := [some (.inr 137), some (.inl x1), some (.inl x2), some (.inl x3), some (.inl x4), some (.inl 1000000000), some (.inl (x6 + 1))]) d215_90 rfl e19 rfl ?_
          refine x_goto (pc2 := 40) d215_93 rfl ?_
          exact k
        · replace c : ¬ (1000000000 ≤ x5) := c
          rw [if_neg c] at k
          refine x_iload_n d141_5 rfl ?_
          refine x_goto (pc2 := 10) d141_6 rfl ?_
          refine x_iret d141_10 gR_141 ?_
          show Ex (d + 1) 215 88 [some (.inr 137), some (.inl x1), some (.inl x2), some (.inl x3), some (.inl x4), some (.inl x5), some (.inl x6)] [.inl x5] (0, 0, n, sh, R, I) _
          refine x_istore (ls2 := [some (.inr 137), some (.inl x1), some (.inl x2), some (.inl x3), some (.inl x4), some (.inl x5), some (.inl x6)]) d215_88 rfl rfl ?_
          have e20 := k.1
          replace k := k.2
          refine x_iinc (ls2 := [some (.inr 137), some (.inl x1), some (.inl x2), some (.inl x3), some (.inl x4), some (.inl x5), some (.inl (x6 + 1))]) d215_90 rfl e20 rfl ?_
          refine x_goto (pc2 := 40) d215_93 rfl ?_
          exact k
      · replace c : ¬ (1000000000 ≤ I 168 (((400 * x1) + (20 * x4)) + x6).toNat) := c
        rw [if_neg c] at k
        refine x_iload_n d214_7 rfl ?_
        refine x_ldcw d214_8 gY_214.2.2.2 gK_12_392 rfl ?_
        refine x_if2 (pc2 := 20) d214_11 rfl (fun c => ?_) (fun c => ?_)
        · replace c : I 169 (((21 * (x3 - 1)) + x6) + 1).toNat < 1000000000 := c
          rw [if_pos c] at k
          refine x_iload_n d214_20 rfl ?_
          refine x_iload_n d214_21 rfl ?_
          have e21 := k.1
          replace k := k.2
          refine x_iadd d214_22 e21 ?_
          refine x_iret d214_23 gR_214 ?_
          show Ex (d + 1) 215 85 [some (.inr 137), some (.inl x1), some (.inl x2), some (.inl x3), some (.inl x4), some (.inl x5), some (.inl x6)] [.inl (I 168 (((400 * x1) + (20 * x4)) + x6).toNat + I 169 (((21 * (x3 - 1)) + x6) + 1).toNat), .inl x5] (0, 0, n, sh, R, I) _
          refine y_ins (as := [.inl x5, .inl (I 168 (((400 * x1) + (20 * x4)) + x6).toNat + I 169 (((21 * (x3 - 1)) + x6) + 1).toNat)]) (t := []) (ls2 := [some (.inl x5), some (.inl (I 168 (((400 * x1) + (20 * x4)) + x6).toNat + I 169 (((21 * (x3 - 1)) + x6) + 1).toNat))]) gY_141 d215_85 gY_215.2.2.2 gM_12_399 rfl rfl rfl ?_
          refine x_iload_n d141_0 rfl ?_
          refine x_iload_n d141_1 rfl ?_
          refine x_if2 (pc2 := 9) d141_2 rfl (fun c => ?_) (fun c => ?_)
          · replace c : (I 168 (((400 * x1) + (20 * x4)) + x6).toNat + I 169 (((21 * (x3 - 1)) + x6) + 1).toNat) ≤ x5 := c
            rw [if_pos c] at k
            refine x_iload_n d141_9 rfl ?_
            refine x_iret d141_10 gR_141 ?_
            show Ex (d + 1) 215 88 [some (.inr 137), some (.inl x1), some (.inl x2), some (.inl x3), some (.inl x4), some (.inl x5), some (.inl x6)] [.inl (I 168 (((400 * x1) + (20 * x4)) + x6).toNat + I 169 (((21 * (x3 - 1)) + x6) + 1).toNat)] (0, 0, n, sh, R, I) _
            refine x_istore (ls2 := [some (.inr 137), some (.inl x1), some (.inl x2), some (.inl x3), some (.inl x4), some (.inl (I 168 (((400 * x1) + (20 * x4)) + x6).toNat + I 169 (((21 * (x3 - 1)) + x6) + 1).toNat)), some (.inl x6)]) d215_88 rfl rfl ?_
            have e22 := k.1
            replace k := k.2
            refine x_iinc (ls2 := [some (.inr 137), some (.inl x1), some (.inl x2), some (.inl x3), some (.inl x4), some (.inl (I 168 (((400 * x1) + (20 * x4)) + x6).toNat + I 169 (((21 * (x3 - 1)) + x6) + 1).toNat)), some (.inl (x6 + 1))]) d215_90 rfl e22 rfl ?_
            refine x_goto (pc2 := 40) d215_93 rfl ?_
            exact k
          · replace c : ¬ ((I 168 (((400 * x1) + (20 * x4)) + x6).toNat + I 169 (((21 * (x3 - 1)) + x6) + 1).toNat) ≤ x5) := c
            rw [if_neg c] at k
            refine x_iload_n d141_5 rfl ?_
            refine x_goto (pc2 := 10) d141_6 rfl ?_
            refine x_iret d141_10 gR_141 ?_
            show Ex (d + 1) 215 88 [some (.inr 137), some (.inl x1), some (.inl x2), some (.inl x3), some (.inl x4), some (.inl x5), some (.inl x6)] [.inl x5] (0, 0, n, sh, R, I) _
            refine x_istore (ls2 := [some (.inr 137), some (.inl x1), some (.inl x2), some (.inl x3), some (.inl x4), some (.inl x5), some (.inl x6)]) d215_88 rfl rfl ?_
            have e23 := k.1
            replace k := k.2
            refine x_iinc (ls2 := [some (.inr 137), some (.inl x1), some (.inl x2), some (.inl x3), some (.inl x4), some (.inl x5), some (.inl (x6 + 1))]) d215_90 rfl e23 rfl ?_
            refine x_goto (pc2 := 40) d215_93 rfl ?_
            exact k
        · replace c : ¬ (I 169 (((21 * (x3 - 1)) + x6) + 1).toNat < 1000000000) := c
          rw [if_neg c] at k
          refine x_ldcw d214_14 gY_214.2.2.2 gK_12_392 rfl ?_
          refine x_goto (pc2 := 23) d214_17 rfl ?_
          refine x_iret d214_23 gR_214 ?_
          show Ex (d + 1) 215 85 [some (.inr 137), some (.inl x1), some (.inl x2), some (.inl x3), some (.inl x4), some (.inl x5), some (.inl x6)] [.inl 1000000000, .inl x5] (0, 0, n, sh, R, I) _
          refine y_ins (as := [.inl x5, .inl 1000000000]) (t := []) (ls2 := [some (.inl x5), some (.inl 1000000000)]) gY_141 d215_85 gY_215.2.2.2 gM_12_399 rfl rfl rfl ?_
          refine x_iload_n d141_0 rfl ?_
          refine x_iload_n d141_1 rfl ?_
          refine x_if2 (pc2 := 9) d141_2 rfl (fun c => ?_) (fun c => ?_)
          · replace c : 1000000000 ≤ x5 := c
            rw [if_pos c] at k
            refine x_iload_n d141_9 rfl ?_
            refine x_iret d141_10 gR_141 ?_
            show Ex (d + 1) 215 88 [some (.inr 137), some (.inl x1), some (.inl x2), some (.inl x3), some (.inl x4), some (.inl x5), some (.inl x6)] [.inl 1000000000] (0, 0, n, sh, R, I) _
            refine x_istore (ls2 := [some (.inr 137), some (.inl x1), some (.inl x2), some (.inl x3), some (.inl x4), some (.inl 1000000000), some (.inl x6)]) d215_88 rfl rfl ?_
            have e24 := k.1
            replace k := k.2
            refine x_iinc (ls2 := [some (.inr 137), some (.inl x1), some (.inl x2), some (.inl x3), some (.inl x4), some (.inl 1000000000), some (.inl (x6 + 1))]) d215_90 rfl e24 rfl ?_
            refine x_goto (pc2 := 40) d215_93 rfl ?_
            exact k
          · replace c : ¬ (1000000000 ≤ x5) := c
            rw [if_neg c] at k
            refine x_iload_n d141_5 rfl ?_
            refine x_goto (pc2 := 10) d141_6 rfl ?_
            refine x_iret d141_10 gR_141 ?_
            show Ex (d + 1) 215 88 [some (.inr 137), some (.inl x1), some (.inl x2), some (.inl x3), some (.inl x4), some (.inl x5), some (.inl x6)] [.inl x5] (0, 0, n, sh, R, I) _
            refine x_istore (ls2 := [some (.inr 137), some (.inl x1), some (.inl x2), some (.inl x3), some (.inl x4), some (.inl x5), some (.inl x6)]) d215_88 rfl rfl ?_
            have e25 := k.1
            replace k := k.2
            refine x_iinc (ls2 := [some (.inr 137), some (.inl x1), some (.inl x2), some (.inl x3), some (.inl x4), some (.inl x5), some (.inl (x6 + 1))]) d215_90 rfl e25 rfl ?_
            refine x_goto (pc2 := 40) d215_93 rfl ?_
            exact k
set_option maxHeartbeats 4000000 in
theorem b_M_laysTables_0 {d n : Nat} {sh : ZS} {R : ZR} {I : ZI} {Q : ZI → Prop} (hW : Wf sh R) {x1 : Int}
    (k : XV (d + 1) 211 [.inr 137] n sh R I (fun I2 => XVs (d + 2) 216 6 [some (.inr 137), some (.inl x1), some (.inl 0), none, none] [] n sh R I2 Q)) : XV (d + 2) 216 [.inr 137, .inl x1] n sh R I Q := by
  refine XV.of (ls := [some (.inr 137), some (.inl x1), none, none, none]) (zloc_eq gY_216.2.2.1) ?_
  unfold XVs
  refine x_aload_n d216_0 rfl ?_
  refine y_invV (as := []) (t := []) (o := 137) gY_211 d216_1 gY_216.2.2.2 gM_12_402 rfl (sh_137 hW) rfl k (fun I2 k => ?_)
  refine x_iconst d216_4 rfl ?_
  refine x_istore_n (ls2 := [some (.inr 137), some (.inl x1), some (.inl 0), none, none]) d216_5 rfl rfl ?_
  exact k
set_option maxHeartbeats 4000000 in
theorem b_M_laysTables_6 {d n : Nat} {sh : ZS} {R : ZR} {I : ZI} {Q : ZI → Prop} (hW : Wf sh R) {x1 : Int} {x2 : Int} {u3 : Option AV} {u4 : Option AV}
    (k : (if x1 < x2 then Q I else XVs (d + 2) 216 13 [some (.inr 137), some (.inl x1), some (.inl x2), some (.inl 0), u4] [] n sh R I Q)) : XVs (d + 2) 216 6 [some (.inr 137), some (.inl x1), some (.inl x2), u3, u4] [] n sh R I Q := by
  unfold XVs
  refine x_iload_n d216_6 rfl ?_
  refine x_iload_n d216_7 rfl ?_
  refine x_if2 (pc2 := 120) d216_8 rfl (fun c => ?_) (fun c => ?_)
  · replace c : x1 < x2 := c
    rw [if_pos c] at k
    exact x_vret d216_120 gR_216 ⟨_, rfl, rfl, k⟩
  · replace c : ¬ (x1 < x2) := c
    rw [if_neg c] at k
    refine x_iconst d216_11 rfl ?_
    refine x_istore_n (ls2 := [some (.inr 137), some (.inl x1), some (.inl x2), some (.inl 0), u4]) d216_12 rfl rfl ?_
    exact k
set_option maxHeartbeats 4000000 in
theorem b_M_laysTables_13 {d n : Nat} {sh : ZS} {R : ZR} {I : ZI} {Q : ZI → Prop} (hW : Wf sh R) {x1 : Int} {x2 : Int} {x3 : Int} {u4 : Option AV}
    (k : (if 20 ≤ x3 then (zr (x2 + 1)) ∧ XVs (d + 2) 216 6 [some (.inr 137), some (.inl x1), some (.inl (x2 + 1)), some (.inl x3), u4] [] n sh R I Q else (if x2 ≤ 0 then XVs (d + 2) 216 34 [some (.inr 137), some (.inl x1), some (.inl x2), some (.inl x3), some (.inl 0)] [] n sh R I Q else (zr (x2 - 1)) ∧ XV (d + 1) 215 [.inr 137, .inl (x2 - 1), .inl x3] n sh R I (fun I4 => XVs (d + 2) 216 34 [some (.inr 137), some (.inl x1), some (.inl x2), some (.inl x3), some (.inl 0)] [] n sh R I4 Q)))) : XVs (d + 2) 216 13 [some (.inr 137), some (.inl x1), some (.inl x2), some (.inl x3), u4] [] n sh R I Q := by
  unfold XVs
  refine x_iload_n d216_13 rfl ?_
  refine x_bipush d216_14 rfl ?_
  refine x_if2 (pc2 := 114) d216_16 rfl (fun c => ?_) (fun c => ?_)
  · replace c : 20 ≤ x3 := c
    rw [if_pos c] at k
    have e1 := k.1
    replace k := k.2
    refine x_iinc (ls2 := [some (.inr 137), some (.inl x1), some (.inl (x2 + 1)), some (.inl x3), u4]) d216_114 rfl e1 rfl ?_
    refine x_goto (pc2 := 6) d216_117 rfl ?_
    exact k
  · replace c : ¬ (20 ≤ x3) := c
    rw [if_neg c] at k
    refine x_iload_n d216_19 rfl ?_
    refine x_if1 (pc2 := 31) d216_20 rfl (fun c => ?_) (fun c => ?_)
    · replace c : x2 ≤ 0 := c
      rw [if_pos c] at k
      refine x_iconst d216_31 rfl ?_
      refine x_istore (ls2 := [some (.inr 137), some (.inl x1), some (.inl x2), some (.inl x3), some (.inl 0)]) d216_32 rfl rfl ?_
      exact k
    · replace c : ¬ (x2 ≤ 0) := c
      rw [if_neg c] at k
      refine x_aload_n d216_23 rfl ?_
      refine x_iload_n d216_24 rfl ?_
      refine x_iconst d216_25 rfl ?_
      have e2 := k.1
      replace k := k.2
      refine x_isub d216_26 e2 ?_
      refine x_iload_n d216_27 rfl ?_
      refine y_invV (as := [.inl (x2 - 1), .inl x3]) (t := []) (o := 137) gY_215 d216_28 gY_216.2.2.2 gM_12_405 rfl (sh_137 hW) rfl k (fun I4 k => ?_)
      refine x_iconst d216_31 rfl ?_
      refine x_istore (ls2 := [some (.inr 137), some (.inl x1), some (.inl x2), some (.inl x3), some (.inl 0)]) d216_32 rfl rfl ?_
      exact k
set_option maxHeartbeats 4000000 in
theorem b_M_laysTables_34 {d n : Nat} {sh : ZS} {R : ZR} {I : ZI} {Q : ZI → Prop} (hW : Wf sh R) {x1 : Int} {x2 : Int} {x3 : Int} {x4 : Int}
    (k : (if x3 < x4 then (zr (x3 + 1)) ∧ XVs (d + 2) 216 13 [some (.inr 137), some (.inl x1), some (.inl x2), some (.inl (x3 + 1)), some (.inl x4)] [] n sh R I Q else (zr (400 * x2)) ∧ (zr (20 * x4)) ∧ (zr ((400 * x2) + (20 * x4))) ∧ (zr (((400 * x2) + (20 * x4)) + x3)) ∧ XI (d + 1) 213 [.inr 137, .inl x4, .inl x3] n sh R I (fun v6 I7 => (if v6 = 0 then (if ¬ x2 = 0 then XI (d + 1) 212 [.inr 137, .inl x4, .inl x3] n sh R I7 (fun v8 I9 => (zr (21 * I9 137 3)) ∧ (zr ((21 * I9 137 3) + x4)) ∧ (0 ≤ ((21 * I9 137 3) + x4) ∧ ((21 * I9 137 3) + x4) < 210) ∧ (if 1000000000 ≤ v8 then (0 ≤ (((400 * x2) + (20 * x4)) + x3) ∧ (((400 * x2) + (20 * x4)) + x3) < 5200) ∧ (zr (x4 + 1)) ∧ XVs (d + 2) 216 34 [some (.inr 137), some (.inl x1), some (.inl x2), some (.inl x3), some (.inl (x4 + 1))] [] n sh R (zup I9 168 (((400 * x2) + (20 * x4)) + x3).toNat 1000000000) Q else (if I9 169 ((21 * I9 137 3) + x4).toNat < 1000000000 then (zr (v8 + I9 169 ((21 * I9 137 3) + x4).toNat)) ∧ (0 ≤ (((400 * x2) + (20 * x4)) + x3) ∧ (((400 * x2) + (20 * x4)) + x3) < 5200) ∧ (zr (x4 + 1)) ∧ XVs (d + 2) 216 34 [some (.inr 137), some (.inl x1), some (.inl x2), some (.inl x3), some (.inl (x4 + 1))] [] n sh R (zup I9 168 (((400 * x2) + (20 * x4)) + x3).toNat (v8 + I9 169 ((21 * I9 137 3) + x4).toNat)) Q else (0 ≤ (((400 * x2) + (20 * x4)) + x3) ∧ (((400 * x2) + (20 * x4)) + x3) < 5200) ∧ (zr (x4 + 1)) ∧ XVs (d + 2) 216 34 [some (.inr 137), some (.inl x1), some (.inl x2), some (.inl x3), some (.inl (x4 + 1))] [] n sh R (zup I9 168 (((400 * x2) + (20 * x4)) + x3).toNat 1000000000) Q))) else (0 ≤ (((400 * x2) + (20 * x4)) + x3) ∧ (((400 * x2) + (20 * x4)) + x3) < 5200) ∧ (zr (x4 + 1)) ∧ XVs (d + 2) 216 34 [some (.inr 137), some (.inl x1), some (.inl x2), some (.inl x3), some (.inl (x4 + 1))] [] n sh R (zup I7 168 (((400 * x2) + (20 * x4)) + x3).toNat 1000000000) Q) else (0 ≤ (((400 * x2) + (20 * x4)) + x3) ∧ (((400 * x2) + (20 * x4)) + x3) < 5200) ∧ (zr (x4 + 1)) ∧ XVs (d + 2) 216 34 [some (.inr 137), some (.inl x1), some (.inl x2), some (.inl x3), some (.inl (x4 + 1))] [] n sh R (zup I7 168 (((400 * x2) + (20 * x4)) + x3).toNat 0) Q)))) : XVs (d + 2) 216 34 [some (.inr 137), some (.inl x1), some (.inl x2), some (.inl x3), some (.inl x4)] [] n sh R I Q := by
  unfold XVs
  refine x_iload d216_34 rfl ?_
  refine x_iload_n d216_36 rfl ?_
  refine x_if2 (pc2 := 108) d216_37 rfl (fun c => ?_) (fun c => ?_)
  · replace c : x3 < x4 := c
    rw [if_pos c] at k
    have e1 := k.1
    replace k := k.2
    refine x_iinc (ls2 := [some (.inr 137), some (.inl x1), some (.inl x2), some (.inl (x3 + 1)), some (.inl x4)]) d216_108 rfl e1 rfl ?_
    refine x_goto (pc2 := 13) d216_111 rfl ?_
    exact k
  · replace c : ¬ (x3 < x4) := c
    rw [if_neg c] at k
    refine x_aload_n d216_40 rfl ?_
    refine x_getR (r := 168) d216_41 gY_216.2.2.2 gF_12_101 rfl (sh_137 hW) (rf_137_53 hW) (by decide) ?_
    refine x_aload_n d216_44 rfl ?_
    refine x_iload_n d216_45 rfl ?_
    refine x_iload d216_46 rfl ?_
    refine x_iload_n d216_48 rfl ?_
    refine y_inv (as := [.inl x2, .inl x4, .inl x3]) (t := [.inr 168]) (o := 137) (ls2 := [some (.inr 137), some (.inl x2), some (.inl x4), some (.inl x3)]) gY_210 d216_49 gY_216.2.2.2 gM_12_393 rfl (sh_137 hW) rfl rfl ?_
    refine x_sipush d210_0 rfl ?_
    refine x_iload_n d210_3 rfl ?_
    have e2 := k.1
    replace k := k.2
    refine x_imul d210_4 e2 ?_
    refine x_bipush d210_5 rfl ?_
    refine x_iload_n d210_7 rfl ?_
    have e3 := k.1
    replace k := k.2
    refine x_imul d210_8 e3 ?_
    have e4 := k.1
    replace k := k.2
    refine x_iadd d210_9 e4 ?_
    refine x_iload_n d210_10 rfl ?_
    have e5 := k.1
    replace k := k.2
    refine x_iadd d210_11 e5 ?_
    refine x_iret d210_12 gR_210 ?_
    show Ex (d + 2) 216 52 [some (.inr 137), some (.inl x1), some (.inl x2), some (.inl x3), some (.inl x4)] [.inl (((400 * x2) + (20 * x4)) + x3), .inr 168] (0, 0, n, sh, R, I) _
    refine x_aload_n d216_52 rfl ?_
    refine x_iload d216_53 rfl ?_
    refine x_iload_n d216_55 rfl ?_
    refine y_invI (as := [.inl x4, .inl x3]) (t := [.inl (((400 * x2) + (20 * x4)) + x3), .inr 168]) (o := 137) gY_213 d216_56 gY_216.2.2.2 gM_12_408 rfl (sh_137 hW) rfl k (fun v6 I7 k => ?_)
    refine x_if1 (pc2 := 66) d216_59 rfl (fun c => ?_) (fun c => ?_)
    · replace c : v6 = 0 := c
      rw [if_pos c] at k
      refine x_iload_n d216_66 rfl ?_
      refine x_if1 (pc2 := 76) d216_67 rfl (fun c => ?_) (fun c => ?_)
      · replace c : ¬ x2 = 0 := c
        rw [if_pos c] at k
        refine x_aload_n d216_76 rfl ?_
        refine x_iload d216_77 rfl ?_
        refine x_iload_n d216_79 rfl ?_
        refine y_invI (as := [.inl x4, .inl x3]) (t := [.inl (((400 * x2) + (20 * x4)) + x3), .inr 168]) (o := 137) gY_212 d216_80 gY_216.2.2.2 gM_12_411 rfl (sh_137 hW) rfl k (fun v8 I9 k => ?_)
        refine x_aload_n d216_83 rfl ?_
        refine x_getR (r := 169) d216_84 gY_216.2.2.2 gF_12_104 rfl (sh_137 hW) (rf_137_54 hW) (by decide) ?_
        refine x_bipush d216_87 rfl ?_
        refine x_aload_n d216_89 rfl ?_
        refine x_getI d216_90 gY_216.2.2.2 gF_12_156 rfl (sh_137 hW) ?_
        have e10 := k.1
        replace k := k.2
        refine x_imul d216_93 e10 ?_
        refine x_iload d216_94 rfl ?_
        have e11 := k.1
        replace k := k.2
        refine x_iadd d216_96 e11 ?_
        have e12 := k.1
        replace k := k.2
        refine x_iald d216_97 (sh_169 hW) e12.1 e12.2 ?_
        refine y_ins (as := [.inl v8, .inl (I9 169 ((21 * I9 137 3) + x4).toNat)]) (t := [.inl (((400 * x2) + (20 * x4)) + x3), .inr 168]) (ls2 := [some (.inl v8), some (.inl (I9 169 ((21 * I9 137 3) + x4).toNat))]) gY_214 d216_98 gY_216.2.2.2 gM_12_396 rfl rfl rfl ?_
        refine x_iload_n d214_0 rfl ?_
        refine x_ldcw d214_1 gY_214.2.2.2 gK_12_392 rfl ?_
        refine x_if2 (pc2 := 14) d214_4 rfl (fun c => ?_) (fun c => ?_)
        · replace c : 1000000000 ≤ v8 := c
          rw [if_pos c] at k
          refine x_ldcw d214_14 gY_214.2.2.2 gK_12_392 rfl ?_
          refine x_goto (pc2 := 23) d214_17 rfl ?_
          refine x_iret d214_23 gR_214 ?_
          show Ex (d + 2) 216 101 [some (.inr 137), some (.inl x1), some (.inl x2), some (.inl x3), some (.inl x4)] [.inl 1000000000, .inl (((400 * x2) + (20 * x4)) + x3), .inr 168] (0, 0, n, sh, R, I9) _
          have e13 := k.1
          replace k := k.2
          refine x_iast d216_101 (sh_168 hW) e13.1 e13.2 ?_
          have e14 := k.1
          replace k := k.2
          refine x_iinc (ls2 := [some (.inr 137), some (.inl x1), some (.inl x2), some (.inl x3), some (.inl (x4 + 1))]) d216_102 rfl e14 rfl ?_
          refine x_goto (pc2 := 34) d216_105 rfl ?_
          exact k
        · replace c : ¬ (1000000000 ≤ v8) := c
          rw [if_neg c] at k
          refine x_iload_n d214_7 rfl ?_
          refine x_ldcw d214_8 gY_214.2.2.2 gK_12_392 rfl ?_
          refine x_if2 (pc2 := 20) d214_11 rfl (fun c => ?_) (fun c => ?_)
          · replace c : I9 169 ((21 * I9 137 3) + x4).toNat < 1000000000 := c
            rw [if_pos c] at k
            refine x_iload_n d214_20 rfl ?_
            refine x_iload_n d214_21 rfl ?_
            have e15 := k.1
            replace k := k.2
            refine x_iadd d214_22 e15 ?_
            refine x_iret d214_23 gR_214 ?_
            show Ex (d + 2) 216 101 [some (.inr 137), some (.inl x1), some (.inl x2), some (.inl x3), some (.inl x4)] [.inl (v8 + I9 169 ((21 * I9 137 3) + x4).toNat), .inl (((400 * x2) + (20 * x4)) + x3), .inr 168] (0, 0, n, sh, R, I9) _
            have e16 := k.1
            replace k := k.2
            refine x_iast d216_101 (sh_168 hW) e16.1 e16.2 ?_
            have e17 := k.1
            replace k := k.2
            refine x_iinc (ls2 := [some (.inr 137), some (.inl x1), some (.inl x2), some (.inl x3), some (.inl (x4 + 1))]) d216_102 rfl e17 rfl ?_
            refine x_goto (pc2 := 34) d216_105 rfl ?_
            exact k
          · replace c : ¬ (I9 169 ((21 * I9 137 3) + x4).toNat < 1000000000) := c
            rw [if_neg c] at k
            refine x_ldcw d214_14 gY_214.2.2.2 gK_12_392 rfl ?_
            refine x_goto (pc2 := 23) d214_17 rfl ?_
            refine x_iret d214_23 gR_214 ?_
            show Ex (d + 2) 216 101 [some (.inr 137), some (.inl x1), some (.inl x2), some (.inl x3), some (.inl x4)] [.inl 1000000000, .inl (((400 * x2) + (20 * x4)) + x3), .inr 168] (0, 0, n, sh, R, I9) _
            have e18 := k.1
            replace k := k.2
            refine x_iast d216_101 (sh_168 hW) e18.1 e18.2 ?_
            have e19 := k.1
            replace k := k.2
            refine x_iinc (ls2 := [some (.inr 137), some (.inl x1), some (.inl x2), some (.inl x3), some (.inl (x4 + 1))]) d216_102 rfl e19 rfl ?_
            refine x_goto (pc2 := 34) d216_105 rfl ?_
            exact k
      · replace c : ¬ (¬ x2 = 0) := c
        rw [if_neg c] at k
        refine x_ldcw d216_70 gY_216.2.2.2 gK_12_392 rfl ?_
        refine x_goto (pc2 := 101) d216_73 rfl ?_
        have e20 := k.1
        replace k := k.2
        refine x_iast d216_101 (sh_168 hW) e20.1 e20.2 ?_
        have e21 := k.1
        replace k := k.2
        refine x_iinc (ls2 := [some (.inr 137), some (.inl x1), some (.inl x2), some (.inl x3), some (.inl (x4 + 1))]) d216_102 rfl e21 rfl ?_
        refine x_goto (pc2 := 34) d216_105 rfl ?_
        exact k
    · replace c : ¬ (v6 = 0) := c
      rw [if_neg c] at k
      refine x_iconst d216_62 rfl ?_
      refine x_goto (pc2 := 101) d216_63 rfl ?_
      have e22 := k.1
      replace k := k.2
      refine x_iast d216_101 (sh_168 hW) e22.1 e22.2 ?_
      have e23 := k.1
      replace k := k.2
      refine x_iinc (ls2 := [some (.inr 137), some (.inl x1), some (.inl x2), some (.inl x3), some (.inl (x4 + 1))]) d216_102 rfl e23 rfl ?_
      refine x_goto (pc2 := 34) d216_105 rfl ?_
      exact k
set_option maxHeartbeats 4000000 in
theorem b_M_tables_0 {d n : Nat} {sh : ZS} {R : ZR} {I : ZI} {Q : Int → ZI → Prop} (hW : Wf sh R) {x1 : Int} {x2 : Int} {x3 : Int}
    (k : (if x1 < 0 then Q (-1) I else (if 20 ≤ x1 then Q (-1) I else (if x2 < x1 then Q (-1) I else (if 19 < x2 then Q (-1) I else (if x3 < 1 then Q (-1) I else (if 12 < x3 then Q (-1) I else XV (d + 2) 216 [.inr 137, .inl x3] n sh R I (fun I2 => (zr (400 * x3)) ∧ (zr (20 * x1)) ∧ (zr ((400 * x3) + (20 * x1))) ∧ (zr (((400 * x3) + (20 * x1)) + x2)) ∧ (0 ≤ (((400 * x3) + (20 * x1)) + x2) ∧ (((400 * x3) + (20 * x1)) + x2) < 5200) ∧ (if I2 168 (((400 * x3) + (20 * x1)) + x2).toNat < 1000000000 then Q (I2 168 (((400 * x3) + (20 * x1)) + x2).toNat) I2 else Q (-2) I2))))))))) : XI (d + 3) 218 [.inr 137, .inl x1, .inl x2, .inl x3] n sh R I Q := by
  refine XI.of (ls := [some (.inr 137), some (.inl x1), some (.inl x2), some (.inl x3), none]) (zloc_eq gY_218.2.2.1) ?_
  unfold XIs
  refine x_aload_n d218_0 rfl ?_
  refine x_iload_n d218_1 rfl ?_
  refine x_iload_n d218_2 rfl ?_
  refine x_iload_n d218_3 rfl ?_
  refine y_inv (as := [.inl x1, .inl x2, .inl x3]) (t := []) (o := 137) (ls2 := [some (.inr 137), some (.inl x1), some (.inl x2), some (.inl x3)]) gY_217 d218_4 gY_218.2.2.2 gM_12_414 rfl (sh_137 hW) rfl rfl ?_
  refine x_iload_n d217_0 rfl ?_
  refine y_ins (as := [.inl x1]) (t := []) (ls2 := [some (.inl x1)]) gY_145 d217_1 gY_217.2.2.2 gM_12_165 rfl rfl rfl ?_
  refine x_iload_n d145_0 rfl ?_
  refine x_if1 (pc2 := 14) d145_1 rfl (fun c => ?_) (fun c => ?_)
  · replace c : x1 < 0 := c
    rw [if_pos c] at k
    refine x_iconst d145_14 rfl ?_
    refine x_zret d145_15 gR_145 (by decide) ?_
    show Ex (d + 2) 217 4 [some (.inr 137), some (.inl x1), some (.inl x2), some (.inl x3)] [.inl 0] (0, 0, n, sh, R, I) _
    refine x_if1 (pc2 := 31) d217_4 rfl (fun _ => ?_) (fun c => absurd (show (0 : Int) = 0 by decide) c)
    refine x_iconst d217_31 rfl ?_
    refine x_zret d217_32 gR_217 (by decide) ?_
    show Ex (d + 3) 218 7 [some (.inr 137), some (.inl x1), some (.inl x2), some (.inl x3), none] [.inl 0] (0, 0, n, sh, R, I) _
    refine x_if1 (pc2 := 12) d218_7 rfl (fun c => absurd (show ¬ (0 : Int) = 0 from c) (by decide)) (fun _ => ?_)
    refine x_iconst d218_10 rfl ?_
    exact x_iret d218_11 gR_218 ⟨_, _, rfl, rfl, k⟩
  · replace c : ¬ (x1 < 0) := c
    rw [if_neg c] at k
    refine x_iload_n d145_4 rfl ?_
    refine x_bipush d145_5 rfl ?_
    refine x_if2 (pc2 := 14) d145_7 rfl (fun c => ?_) (fun c => ?_)
    · replace c : 20 ≤ x1 := c
      rw [if_pos c] at k
      refine x_iconst d145_14 rfl ?_
      refine x_zret d145_15 gR_145 (by decide) ?_
      show Ex (d + 2) 217 4 [some (.inr 137), some (.inl x1), some (.inl x2), some (.inl x3)] [.inl 0] (0, 0, n, sh, R, I) _
      refine x_if1 (pc2 := 31) d217_4 rfl (fun _ => ?_) (fun c => absurd (show (0 : Int) = 0 by decide) c)
      refine x_iconst d217_31 rfl ?_
      refine x_zret d217_32 gR_217 (by decide) ?_
      show Ex (d + 3) 218 7 [some (.inr 137), some (.inl x1), some (.inl x2), some (.inl x3), none] [.inl 0] (0, 0, n, sh, R, I) _
      refine x_if1 (pc2 := 12) d218_7 rfl (fun c => absurd (show ¬ (0 : Int) = 0 from c) (by decide)) (fun _ => ?_)
      refine x_iconst d218_10 rfl ?_
      exact x_iret d218_11 gR_218 ⟨_, _, rfl, rfl, k⟩
    · replace c : ¬ (20 ≤ x1) := c
      rw [if_neg c] at k
      refine x_iconst d145_10 rfl ?_
      refine x_goto (pc2 := 15) d145_11 rfl ?_
      refine x_zret d145_15 gR_145 (by decide) ?_
      show Ex (d + 2) 217 4 [some (.inr 137), some (.inl x1), some (.inl x2), some (.inl x3)] [.inl 1] (0, 0, n, sh, R, I) _
      refine x_if1 (pc2 := 31) d217_4 rfl (fun c => absurd (show (1 : Int) = 0 from c) (by decide)) (fun _ => ?_)
      refine x_iload_n d217_7 rfl ?_
      refine x_iload_n d217_8 rfl ?_
      refine x_bipush d217_9 rfl ?_
      refine y_ins (as := [.inl x2, .inl x1, .inl 19]) (t := []) (ls2 := [some (.inl x2), some (.inl x1), some (.inl 19)]) gY_140 d217_11 gY_217.2.2.2 gM_12_169 rfl rfl rfl ?_
      refine x_iload_n d140_0 rfl ?_
      refine x_iload_n d140_1 rfl ?_
      refine x_if2 (pc2 := 14) d140_2 rfl (fun c => ?_) (fun c => ?_)
      · replace c : x2 < x1 := c
        rw [if_pos c] at k
        refine x_iconst d140_14 rfl ?_
        refine x_zret d140_15 gR_140 (by decide) ?_
        show Ex (d + 2) 217 14 [some (.inr 137), some (.inl x1), some (.inl x2), some (.inl x3)] [.inl 0] (0, 0, n, sh, R, I) _
        refine x_if1 (pc2 := 31) d217_14 rfl (fun _ => ?_) (fun c => absurd (show (0 : Int) = 0 by decide) c)
        refine x_iconst d217_31 rfl ?_
        refine x_zret d217_32 gR_217 (by decide) ?_
        show Ex (d + 3) 218 7 [some (.inr 137), some (.inl x1), some (.inl x2), some (.inl x3), none] [.inl 0] (0, 0, n, sh, R, I) _
        refine x_if1 (pc2 := 12) d218_7 rfl (fun c => absurd (show ¬ (0 : Int) = 0 from c) (by decide)) (fun _ => ?_)
        refine x_iconst d218_10 rfl ?_
        exact x_iret d218_11 gR_218 ⟨_, _, rfl, rfl, k⟩
      · replace c : ¬ (x2 < x1) := c
        rw [if_neg c] at k
        refine x_iload_n d140_5 rfl ?_
        refine x_iload_n d140_6 rfl ?_
        refine x_if2 (pc2 := 14) d140_7 rfl (fun c => ?_) (fun c => ?_)
        · replace c : 19 < x2 := c
          rw [if_pos c] at k
          refine x_iconst d140_14 rfl ?_
          refine x_zret d140_15 gR_140 (by decide) ?_
          show Ex (d + 2) 217 14 [some (.inr 137), some (.inl x1), some (.inl x2), some (.inl x3)] [.inl 0] (0, 0, n, sh, R, I) _
          refine x_if1 (pc2 := 31) d217_14 rfl (fun _ => ?_) (fun c => absurd (show (0 : Int) = 0 by decide) c)
          refine x_iconst d217_31 rfl ?_
          refine x_zret d217_32 gR_217 (by decide) ?_
          show Ex (d + 3) 218 7 [some (.inr 137), some (.inl x1), some (.inl x2), some (.inl x3), none] [.inl 0] (0, 0, n, sh, R, I) _
          refine x_if1 (pc2 := 12) d218_7 rfl (fun c => absurd (show ¬ (0 : Int) = 0 from c) (by decide)) (fun _ => ?_)
          refine x_iconst d218_10 rfl ?_
          exact x_iret d218_11 gR_218 ⟨_, _, rfl, rfl, k⟩
        · replace c : ¬ (19 < x2) := c
          rw [if_neg c] at k
          refine x_iconst d140_10 rfl ?_
          refine x_goto (pc2 := 15) d140_11 rfl ?_
          refine x_zret d140_15 gR_140 (by decide) ?_
          show Ex (d + 2) 217 14 [some (.inr 137), some (.inl x1), some (.inl x2), some (.inl x3)] [.inl 1] (0, 0, n, sh, R, I) _
          refine x_if1 (pc2 := 31) d217_14 rfl (fun c => absurd (show (1 : Int) = 0 from c) (by decide)) (fun _ => ?_)
          refine x_iload_n d217_17 rfl ?_
          refine x_iconst d217_18 rfl ?_
          refine x_bipush d217_19 rfl ?_
          refine y_ins (as := [.inl x3, .inl 1, .inl 12]) (t := []) (ls2 := [some (.inl x3), some (.inl 1), some (.inl 12)]) gY_140 d217_21 gY_217.2.2.2 gM_12_169 rfl rfl rfl ?_
          refine x_iload_n d140_0 rfl ?_
          refine x_iload_n d140_1 rfl ?_
          refine x_if2 (pc2 := 14) d140_2 rfl (fun c => ?_) (fun c => ?_)
          · replace c : x3 < 1 := c
            rw [if_pos c] at k
            refine x_iconst d140_14 rfl ?_
            refine x_zret d140_15 gR_140 (by decide) ?_
            show Ex (d + 2) 217 24 [some (.inr 137), some (.inl x1), some (.inl x2), some (.inl x3)] [.inl 0] (0, 0, n, sh, R, I) _
            refine x_if1 (pc2 := 31) d217_24 rfl (fun _ => ?_) (fun c => absurd (show (0 : Int) = 0 by decide) c)
            refine x_iconst d217_31 rfl ?_
            refine x_zret d217_32 gR_217 (by decide) ?_
            show Ex (d + 3) 218 7 [some (.inr 137), some (.inl x1), some (.inl x2), some (.inl x3), none] [.inl 0] (0, 0, n, sh, R, I) _
            refine x_if1 (pc2 := 12) d218_7 rfl (fun c => absurd (show ¬ (0 : Int) = 0 from c) (by decide)) (fun _ => ?_)
            refine x_iconst d218_10 rfl ?_
            exact x_iret d218_11 gR_218 ⟨_, _, rfl, rfl, k⟩
          · replace c : ¬ (x3 < 1) := c
            rw [if_neg c] at k
            refine x_iload_n d140_5 rfl ?_
            refine x_iload_n d140_6 rfl ?_
            refine x_if2 (pc2 := 14) d140_7 rfl (fun c => ?_) (fun c => ?_)
            · replace c : 12 < x3 := c
              rw [if_pos c] at k
              refine x_iconst d140_14 rfl ?_
              refine x_zret d140_15 gR_140 (by decide) ?_
              show Ex (d + 2) 217 24 [some (.inr 137), some (.inl x1), some (.inl x2), some (.inl x3)] [.inl 0] (0, 0, n, sh, R, I) _
              refine x_if1 (pc2 := 31) d217_24 rfl (fun _ => ?_) (fun c => absurd (show (0 : Int) = 0 by decide) c)
              refine x_iconst d217_31 rfl ?_
              refine x_zret d217_32 gR_217 (by decide) ?_
              show Ex (d + 3) 218 7 [some (.inr 137), some (.inl x1), some (.inl x2), some (.inl x3), none] [.inl 0] (0, 0, n, sh, R, I) _
              refine x_if1 (pc2 := 12) d218_7 rfl (fun c => absurd (show ¬ (0 : Int) = 0 from c) (by decide)) (fun _ => ?_)
              refine x_iconst d218_10 rfl ?_
              exact x_iret d218_11 gR_218 ⟨_, _, rfl, rfl, k⟩
            · replace c : ¬ (12 < x3) := c
              rw [if_neg c] at k
              refine x_iconst d140_10 rfl ?_
              refine x_goto (pc2 := 15) d140_11 rfl ?_
              refine x_zret d140_15 gR_140 (by decide) ?_
              show Ex (d + 2) 217 24 [some (.inr 137), some (.inl x1), some (.inl x2), some (.inl x3)] [.inl 1] (0, 0, n, sh, R, I) _
              refine x_if1 (pc2 := 31) d217_24 rfl (fun c => absurd (show (1 : Int) = 0 from c) (by decide)) (fun _ => ?_)
              refine x_iconst d217_27 rfl ?_
              refine x_goto (pc2 := 32) d217_28 rfl ?_
              refine x_zret d217_32 gR_217 (by decide) ?_
              show Ex (d + 3) 218 7 [some (.inr 137), some (.inl x1), some (.inl x2), some (.inl x3), none] [.inl 1] (0, 0, n, sh, R, I) _
              refine x_if1 (pc2 := 12) d218_7 rfl (fun _ => ?_) (fun c => absurd (show ¬ (1 : Int) = 0 by decide) c)
              refine x_aload_n d218_12 rfl ?_
              refine x_iload_n d218_13 rfl ?_
              refine y_invV (as := [.inl x3]) (t := []) (o := 137) gY_216 d218_14 gY_218.2.2.2 gM_12_417 rfl (sh_137 hW) rfl k (fun I2 k => ?_)
              refine x_aload_n d218_17 rfl ?_
              refine x_getR (r := 168) d218_18 gY_218.2.2.2 gF_12_101 rfl (sh_137 hW) (rf_137_53 hW) (by decide) ?_
              refine x_aload_n d218_21 rfl ?_
              refine x_iload_n d218_22 rfl ?_
              refine x_iload_n d218_23 rfl ?_
              refine x_iload_n d218_24 rfl ?_
              refine y_inv (as := [.inl x3, .inl x1, .inl x2]) (t := [.inr 168]) (o := 137) (ls2 := [some (.inr 137), some (.inl x3), some (.inl x1), some (.inl x2)]) gY_210 d218_25 gY_218.2.2.2 gM_12_393 rfl (sh_137 hW) rfl rfl ?_
              refine x_sipush d210_0 rfl ?_
              refine x_iload_n d210_3 rfl ?_
              have e3 := k.1
              replace k := k.2
              refine x_imul d210_4 e3 ?_
              refine x_bipush d210_5 rfl ?_
              refine x_iload_n d210_7 rfl ?_
              have e4 := k.1
              replace k := k.2
              refine x_imul d210_8 e4 ?_
              have e5 := k.1
              replace k := k.2
              refine x_iadd d210_9 e5 ?_
              refine x_iload_n d210_10 rfl ?_
              have e6 := k.1
              replace k := k.2
              refine x_iadd d210_11 e6 ?_
              refine x_iret d210_12 gR_210 ?_
              show Ex (d + 3) 218 28 [some (.inr 137), some (.inl x1), some (.inl x2), some (.inl x3), none] [.inl (((400 * x3) + (20 * x1)) + x2), .inr 168] (0, 0, n, sh, R, I2) _
              have e7 := k.1
              replace k := k.2
              refine x_iald d218_28 (sh_168 hW) e7.1 e7.2 ?_
              refine x_istore (ls2 := [some (.inr 137), some (.inl x1), some (.inl x2), some (.inl x3), some (.inl (I2 168 (((400 * x3) + (20 * x1)) + x2).toNat))]) d218_29 rfl rfl ?_
              refine x_iload d218_31 rfl ?_
              refine x_ldcw d218_33 gY_218.2.2.2 gK_12_392 rfl ?_
              refine x_if2 (pc2 := 44) d218_36 rfl (fun c => ?_) (fun c => ?_)
              · replace c : I2 168 (((400 * x3) + (20 * x1)) + x2).toNat < 1000000000 := c
                rw [if_pos c] at k
                refine x_iload d218_44 rfl ?_
                exact x_iret d218_46 gR_218 ⟨_, _, rfl, rfl, k⟩
              · replace c : ¬ (I2 168 (((400 * x3) + (20 * x1)) + x2).toNat < 1000000000) := c
                rw [if_neg c] at k
                refine x_bipush d218_39 rfl ?_
                refine x_goto (pc2 := 46) d218_41 rfl ?_
                exact x_iret d218_46 gR_218 ⟨_, _, rfl, rfl, k⟩
set_option maxHeartbeats 4000000 in
theorem b_M_table_0 {d n : Nat} {sh : ZS} {R : ZR} {I : ZI} {Q : Int → ZI → Prop} (hW : Wf sh R) {x1 : Int} {x2 : Int} {x3 : Int} {x4 : Int}
    (k : (if x1 < 0 then Q (-1) I else (if 20 ≤ x1 then Q (-1) I else (if x2 < x1 then Q (-1) I else (if 19 < x2 then Q (-1) I else (if x3 < 1 then Q (-1) I else (if 12 < x3 then Q (-1) I else (if x4 < 0 then Q (-1) I else (if 8 < x4 then Q (-1) I else XV (d + 2) 216 [.inr 137, .inl x3] n sh R I (fun I2 => (zr (400 * x3)) ∧ (zr (20 * x1)) ∧ (zr ((400 * x3) + (20 * x1))) ∧ (zr (((400 * x3) + (20 * x1)) + x2)) ∧ (0 ≤ (((400 * x3) + (20 * x1)) + x2) ∧ (((400 * x3) + (20 * x1)) + x2) < 5200) ∧ (if I2 168 (((400 * x3) + (20 * x1)) + x2).toNat < 1000000000 then XI (d + 2) 213 [.inr 137, .inl x1, .inl x2] n sh R I2 (fun v8 I9 => (if v8 = 0 then (zr (x3 - 1)) ∧ XV (d + 2) 215 [.inr 137, .inl (x3 - 1), .inl x2] n sh R I9 (fun I12 => XIs (d + 3) 219 71 [some (.inr 137), some (.inl x1), some (.inl x2), some (.inl x3), some (.inl x4), some (.inl 1), none, none, none, none] [] n sh R I12 Q) else Q (-2) I9)) else Q (-1) I2))))))))))) : XI (d + 3) 219 [.inr 137, .inl x1, .inl x2, .inl x3, .inl x4] n sh R I Q := by
  refine XI.of (ls := [some (.inr 137), some (.inl x1), some (.inl x2), some (.inl x3), some (.inl x4), none, none, none, none, none]) (zloc_eq gY_219.2.2.1) ?_
  unfold XIs
  refine x_aload_n d219_0 rfl ?_
  refine x_iload_n d219_1 rfl ?_
  refine x_iload_n d219_2 rfl ?_
  refine x_iload_n d219_3 rfl ?_
  refine y_inv (as := [.inl x1, .inl x2, .inl x3]) (t := []) (o := 137) (ls2 := [some (.inr 137), some (.inl x1), some (.inl x2), some (.inl x3)]) gY_217 d219_4 gY_219.2.2.2 gM_12_414 rfl (sh_137 hW) rfl rfl ?_
  refine x_iload_n d217_0 rfl ?_
  refine y_ins (as := [.inl x1]) (t := []) (ls2 := [some (.inl x1)]) gY_145 d217_1 gY_217.2.2.2 gM_12_165 rfl rfl rfl ?_
  refine x_iload_n d145_0 rfl ?_
  refine x_if1 (pc2 := 14) d145_1 rfl (fun c => ?_) (fun c => ?_)
  · replace c : x1 < 0 := c
    rw [if_pos c] at k
    refine x_iconst d145_14 rfl ?_
    refine x_zret d145_15 gR_145 (by decide) ?_
    show Ex (d + 2) 217 4 [some (.inr 137), some (.inl x1), some (.inl x2), some (.inl x3)] [.inl 0] (0, 0, n, sh, R, I) _
    refine x_if1 (pc2 := 31) d217_4 rfl (fun _ => ?_) (fun c => absurd (show (0 : Int) = 0 by decide) c)
    refine x_iconst d217_31 rfl ?_
    refine x_zret d217_32 gR_217 (by decide) ?_
    show Ex (d + 3) 219 7 [some (.inr 137), some (.inl x1), some (.inl x2), some (.inl x3), some (.inl x4), none, none, none, none, none] [.inl 0] (0, 0, n, sh, R, I) _
    refine x_if1 (pc2 := 21) d219_7 rfl (fun _ => ?_) (fun c => absurd (show (0 : Int) = 0 by decide) c)
    refine x_iconst d219_21 rfl ?_
    exact x_iret d219_22 gR_219 ⟨_, _, rfl, rfl, k⟩
  · replace c : ¬ (x1 < 0) := c
    rw [if_neg c] at k
    refine x_iload_n d145_4 rfl ?_
    refine x_bipush d145_5 rfl ?_
    refine x_if2 (pc2 := 14) d145_7 rfl (fun c => ?_) (fun c => ?_)
    · replace c : 20 ≤ x1 := c
      rw [if_pos c] at k
      refine x_iconst d145_14 rfl ?_
      refine x_zret d145_15 gR_145 (by decide) ?_
      show Ex (d + 2) 217 4 [some (.inr 137), some (.inl x1), some (.inl x2), some (.inl x3)] [.inl 0] (0, 0, n, sh, R, I) _
      refine x_if1 (pc2 := 31) d217_4 rfl (fun _ => ?_) (fun c => absurd (show (0 : Int) = 0 by decide) c)
      refine x_iconst d217_31 rfl ?_
      refine x_zret d217_32 gR_217 (by decide) ?_
      show Ex (d + 3) 219 7 [some (.inr 137), some (.inl x1), some (.inl x2), some (.inl x3), some (.inl x4), none, none, none, none, none] [.inl 0] (0, 0, n, sh, R, I) _
      refine x_if1 (pc2 := 21) d219_7 rfl (fun _ => ?_) (fun c => absurd (show (0 : Int) = 0 by decide) c)
      refine x_iconst d219_21 rfl ?_
      exact x_iret d219_22 gR_219 ⟨_, _, rfl, rfl, k⟩
    · replace c : ¬ (20 ≤ x1) := c
      rw [if_neg c] at k
      refine x_iconst d145_10 rfl ?_
      refine x_goto (pc2 := 15) d145_11 rfl ?_
      refine x_zret d145_15 gR_145 (by decide) ?_
      show Ex (d + 2) 217 4 [some (.inr 137), some (.inl x1), some (.inl x2), some (.inl x3)] [.inl 1] (0, 0, n, sh, R, I) _
      refine x_if1 (pc2 := 31) d217_4 rfl (fun c => absurd (show (1 : Int) = 0 from c) (by decide)) (fun _ => ?_)
      refine x_iload_n d217_7 rfl ?_
      refine x_iload_n d217_8 rfl ?_
      refine x_bipush d217_9 rfl ?_
      refine y_ins (as := [.inl x2, .inl x1, .inl 19]) (t := []) (ls2 := [some (.inl x2), some (.inl x1), some (.inl 19)]) gY_140 d217_11 gY_217.2.2.2 gM_12_169 rfl rfl rfl ?_
      refine x_iload_n d140_0 rfl ?_
      refine x_iload_n d140_1 rfl ?_
      refine x_if2 (pc2 := 14) d140_2 rfl (fun c => ?_) (fun c => ?_)
      · replace c : x2 < x1 := c
        rw [if_pos c] at k
        refine x_iconst d140_14 rfl ?_
        refine x_zret d140_15 gR_140 (by decide) ?_
        show Ex (d + 2) 217 14 [some (.inr 137), some (.inl x1), some (.inl x2), some (.inl x3)] [.inl 0] (0, 0, n, sh, R, I) _
        refine x_if1 (pc2 := 31) d217_14 rfl (fun _ => ?_) (fun c => absurd (show (0 : Int) = 0 by decide) c)
        refine x_iconst d217_31 rfl ?_
        refine x_zret d217_32 gR_217 (by decide) ?_
        show Ex (d + 3) 219 7 [some (.inr 137), some (.inl x1), some (.inl x2), some (.inl x3), some (.inl x4), none, none, none, none, none] [.inl 0] (0, 0, n, sh, R, I) _
        refine x_if1 (pc2 := 21) d219_7 rfl (fun _ => ?_) (fun c => absurd (show (0 : Int) = 0 by decide) c)
        refine x_iconst d219_21 rfl ?_
        exact x_iret d219_22 gR_219 ⟨_, _, rfl, rfl, k⟩
      · replace c : ¬ (x2 < x1) := c
        rw [if_neg c] at k
        refine x_iload_n d140_5 rfl ?_
        refine x_iload_n d140_6 rfl ?_
        refine x_if2 (pc2 := 14) d140_7 rfl (fun c => ?_) (fun c => ?_)
        · replace c : 19 < x2 := c
          rw [if_pos c] at k
          refine x_iconst d140_14 rfl ?_
          refine x_zret d140_15 gR_140 (by decide) ?_
          show Ex (d + 2) 217 14 [some (.inr 137), some (.inl x1), some (.inl x2), some (.inl x3)] [.inl 0] (0, 0, n, sh, R, I) _
          refine x_if1 (pc2 := 31) d217_14 rfl (fun _ => ?_) (fun c => absurd (show (0 : Int) = 0 by decide) c)
          refine x_iconst d217_31 rfl ?_
          refine x_zret d217_32 gR_217 (by decide) ?_
          show Ex (d + 3) 219 7 [some (.inr 137), some (.inl x1), some (.inl x2), some (.inl x3), some (.inl x4), none, none, none, none, none] [.inl 0] (0, 0, n, sh, R, I) _
          refine x_if1 (pc2 := 21) d219_7 rfl (fun _ => ?_) (fun c => absurd (show (0 : Int) = 0 by decide) c)
          refine x_iconst d219_21 rfl ?_
          exact x_iret d219_22 gR_219 ⟨_, _, rfl, rfl, k⟩
        · replace c : ¬ (19 < x2) := c
          rw [if_neg c] at k
          refine x_iconst d140_10 rfl ?_
          refine x_goto (pc2 := 15) d140_11 rfl ?_
          refine x_zret d140_15 gR_140 (by decide) ?_
          show Ex (d + 2) 217 14 [some (.inr 137), some (.inl x1), some (.inl x2), some (.inl x3)] [.inl 1] (0, 0, n, sh, R, I) _
          refine x_if1 (pc2 := 31) d217_14 rfl (fun c => absurd (show (1 : Int) = 0 from c) (by decide)) (fun _ => ?_)
          refine x_iload_n d217_17 rfl ?_
          refine x_iconst d217_18 rfl ?_
          refine x_bipush d217_19 rfl ?_
          refine y_ins (as := [.inl x3, .inl 1, .inl 12]) (t := []) (ls2 := [some (.inl x3), some (.inl 1), some (.inl 12)]) gY_140 d217_21 gY_217.2.2.2 gM_12_169 rfl rfl rfl ?_
          refine x_iload_n d140_0 rfl ?_
          refine x_iload_n d140_1 rfl ?_
          refine x_if2 (pc2 := 14) d140_2 rfl (fun c => ?_) (fun c => ?_)
          · replace c : x3 < 1 := c
            rw [if_pos c] at k
            refine x_iconst d140_14 rfl ?_
            refine x_zret d140_15 gR_140 (by decide) ?_
            show Ex (d + 2) 217 24 [some (.inr 137), some (.inl x1), some (.inl x2), some (.inl x3)] [.inl 0] (0, 0, n, sh, R, I) _
            refine x_if1 (pc2 := 31) d217_24 rfl (fun _ => ?_) (fun c => absurd (show (0 : Int) = 0 by decide) c)
            refine x_iconst d217_31 rfl ?_
            refine x_zret d217_32 gR_217 (by decide) ?_
            show Ex (d + 3) 219 7 [some (.inr 137), some (.inl x1), some (.inl x2), some (.inl x3), some (.inl x4), none, none, none, none, none] [.inl 0] (0, 0, n, sh, R, I) _
            refine x_if1 (pc2 := 21) d219_7 rfl (fun _ => ?_) (fun c => absurd (show (0 : Int) = 0 by decide) c)
            refine x_iconst d219_21 rfl ?_
            exact x_iret d219_22 gR_219 ⟨_, _, rfl, rfl, k⟩
          · replace c : ¬ (x3 < 1) := c
            rw [if_neg c] at k
            refine x_iload_n d140_5 rfl ?_
            refine x_iload_n d140_6 rfl ?_
            refine x_if2 (pc2 := 14) d140_7 rfl (fun c => ?_) (fun c => ?_)
            · replace c : 12 < x3 := c
              rw [if_pos c] at k
              refine x_iconst d140_14 rfl ?_
              refine x_zret d140_15 gR_140 (by decide) ?_
              show Ex (d + 2) 217 24 [some (.inr 137), some (.inl x1), some (.inl x2), some (.inl x3)] [.inl 0] (0, 0, n, sh, R, I) _
              refine x_if1 (pc2 := 31) d217_24 rfl (fun _ => ?_) (fun c => absurd (show (0 : Int) = 0 by decide) c)
              refine x_iconst d217_31 rfl ?_
              refine x_zret d217_32 gR_217 (by decide) ?_
              show Ex (d + 3) 219 7 [some (.inr 137), some (.inl x1), some (.inl x2), some (.inl x3), some (.inl x4), none, none, none, none, none] [.inl 0] (0, 0, n, sh, R, I) _
              refine x_if1 (pc2 := 21) d219_7 rfl (fun _ => ?_) (fun c => absurd (show (0 : Int) = 0 by decide) c)
              refine x_iconst d219_21 rfl ?_
              exact x_iret d219_22 gR_219 ⟨_, _, rfl, rfl, k⟩
            · replace c : ¬ (12 < x3) := c
              rw [if_neg c] at k
              refine x_iconst d140_10 rfl ?_
              refine x_goto (pc2 := 15) d140_11 rfl ?_
              refine x_zret d140_15 gR_140 (by decide) ?_
              show Ex (d + 2) 217 24 [some (.inr 137), some (.inl x1), some (.inl x2), some (.inl x3)] [.inl 1] (0, 0, n, sh, R, I) _
              refine x_if1 (pc2 := 31) d217_24 rfl (fun c => absurd (show (1 : Int) = 0 from c) (by decide)) (fun _ => ?_)
              refine x_iconst d217_27 rfl ?_
              refine x_goto (pc2 := 32) d217_28 rfl ?_
              refine x_zret d217_32 gR_217 (by decide) ?_
              show Ex (d + 3) 219 7 [some (.inr 137), some (.inl x1), some (.inl x2), some (.inl x3), some (.inl x4), none, none, none, none, none] [.inl 1] (0, 0, n, sh, R, I) _
              refine x_if1 (pc2 := 21) d219_7 rfl (fun c => absurd (show (1 : Int) = 0 from c) (by decide)) (fun _ => ?_)
              refine x_iload d219_10 rfl ?_
              refine x_iconst d219_12 rfl ?_
              refine x_bipush d219_13 rfl ?_
              refine y_ins (as := [.inl x4, .inl 0, .inl 8]) (t := []) (ls2 := [some (.inl x4), some (.inl 0), some (.inl 8)]) gY_140 d219_15 gY_219.2.2.2 gM_12_169 rfl rfl rfl ?_
              refine x_iload_n d140_0 rfl ?_
              refine x_iload_n d140_1 rfl ?_
              refine x_if2 (pc2 := 14) d140_2 rfl (fun c => ?_) (fun c => ?_)
              · replace c : x4 < 0 := c
                rw [if_pos c] at k
                refine x_iconst d140_14 rfl ?_
                refine x_zret d140_15 gR_140 (by decide) ?_
                show Ex (d + 3) 219 18 [some (.inr 137), some (.inl x1), some (.inl x2), some (.inl x3), some (.inl x4), none, none, none, none, none] [.inl 0] (0, 0, n, sh, R, I) _
                refine x_if1 (pc2 := 23) d219_18 rfl (fun c => absurd (show ¬ (0 : Int) = 0 from c) (by decide)) (fun _ => ?_)
                refine x_iconst d219_21 rfl ?_
                exact x_iret d219_22 gR_219 ⟨_, _, rfl, rfl, k⟩
              · replace c : ¬ (x4 < 0) := c
                rw [if_neg c] at k
                refine x_iload_n d140_5 rfl ?_
                refine x_iload_n d140_6 rfl ?_
                refine x_if2 (pc2 := 14) d140_7 rfl (fun c => ?_) (fun c => ?_)
                · replace c : 8 < x4 := c
                  rw [if_pos c] at k
                  refine x_iconst d140_14 rfl ?_
                  refine x_zret d140_15 gR_140 (by decide) ?_
                  show Ex (d + 3) 219 18 [some (.inr 137), some (.inl x1), some (.inl x2), some (.inl x3), some (.inl x4), none, none, none, none, none] [.inl 0] (0, 0, n, sh, R, I) _
                  refine x_if1 (pc2 := 23) d219_18 rfl (fun c => absurd (show ¬ (0 : Int) = 0 from c) (by decide)) (fun _ => ?_)
                  refine x_iconst d219_21 rfl ?_
                  exact x_iret d219_22 gR_219 ⟨_, _, rfl, rfl, k⟩
                · replace c : ¬ (8 < x4) := c
                  rw [if_neg c] at k
                  refine x_iconst d140_10 rfl ?_
                  refine x_goto (pc2 := 15) d140_11 rfl ?_
                  refine x_zret d140_15 gR_140 (by decide) ?_
                  show Ex (d + 3) 219 18 [some (.inr 137), some (.inl x1), some (.inl x2), some (.inl x3), some (.inl x4), none, none, none, none, none] [.inl 1] (0, 0, n, sh, R, I) _
                  refine x_if1 (pc2 := 23) d219_18 rfl (fun _ => ?_) (fun c => absurd (show ¬ (1 : Int) = 0 by decide) c)
                  refine x_aload_n d219_23 rfl ?_
                  refine x_iload_n d219_24 rfl ?_
                  refine y_invV (as := [.inl x3]) (t := []) (o := 137) gY_216 d219_25 gY_219.2.2.2 gM_12_417 rfl (sh_137 hW) rfl k (fun I2 k => ?_)
                  refine x_aload_n d219_28 rfl ?_
                  refine x_getR (r := 168) d219_29 gY_219.2.2.2 gF_12_101 rfl (sh_137 hW) (rf_137_53 hW) (by decide) ?_
                  refine x_aload_n d219_32 rfl ?_
                  refine x_iload_n d219_33 rfl ?_
                  refine x_iload_n d219_34 rfl ?_
                  refine x_iload_n d219_35 rfl ?_
                  refine y_inv (as := [.inl x3, .inl x1, .inl x2]) (t := [.inr 168]) (o := 137) (ls2 := [some (.inr 137), some (.inl x3), some (.inl x1), some (.inl x2)]) gY_210 d219_36 gY_219.2.2.2 gM_12_393 rfl (sh_137 hW) rfl rfl ?_
                  refine x_sipush d210_0 rfl ?_
                  refine x_iload_n d210_3 rfl ?_
                  have e3 := k.1
                  replace k := k.2
                  refine x_imul d210_4 e3 ?_
                  refine x_bipush d210_5 rfl ?_
                  refine x_iload_n d210_7 rfl ?_
                  have e4 := k.1
                  replace k := k.2
                  refine x_imul d210_8 e4 ?_
                  have e5 := k.1
                  replace k := k.2
                  refine x_iadd d210_9 e5 ?_
                  refine x_iload_n d210_10 rfl ?_
                  have e6 := k.1
                  replace k := k.2
                  refine x_iadd d210_11 e6 ?_
                  refine x_iret d210_12 gR_210 ?_
                  show Ex (d + 3) 219 39 [some (.inr 137), some (.inl x1), some (.inl x2), some (.inl x3), some (.inl x4), none, none, none, none, none] [.inl (((400 * x3) + (20 * x1)) + x2), .inr 168] (0, 0, n, sh, R, I2) _
                  have e7 := k.1
                  replace k := k.2
                  refine x_iald d219_39 (sh_168 hW) e7.1 e7.2 ?_
                  refine x_ldcw d219_40 gY_219.2.2.2 gK_12_392 rfl ?_
                  refine x_if2 (pc2 := 48) d219_43 rfl (fun c => ?_) (fun c => ?_)
                  · replace c : I2 168 (((400 * x3) + (20 * x1)) + x2).toNat < 1000000000 := c
                    rw [if_pos c] at k
                    refine x_aload_n d219_48 rfl ?_
                    refine x_iload_n d219_49 rfl ?_
                    refine x_iload_n d219_50 rfl ?_
                    refine y_invI (as := [.inl x1, .inl x2]) (t := []) (o := 137) gY_213 d219_51 gY_219.2.2.2 gM_12_408 rfl (sh_137 hW) rfl k (fun v8 I9 k => ?_)
                    refine x_if1 (pc2 := 60) d219_54 rfl (fun c => ?_) (fun c => ?_)
                    · replace c : v8 = 0 := c
                      rw [if_pos c] at k
                      refine x_aload_n d219_60 rfl ?_
                      refine x_iload_n d219_61 rfl ?_
                      refine x_iconst d219_62 rfl ?_
                      have e10 := k.1
                      replace k := k.2
                      refine x_isub d219_63 e10 ?_
                      refine x_iload_n d219_64 rfl ?_
                      refine y_invV (as := [.inl (x3 - 1), .inl x2]) (t := []) (o := 137) gY_215 d219_65 gY_219.2.2.2 gM_12_405 rfl (sh_137 hW) rfl k (fun I12 k => ?_)
                      refine x_iconst d219_68 rfl ?_
                      refine x_istore (ls2 := [some (.inr 137), some (.inl x1), some (.inl x2), some (.inl x3), some (.inl x4), some (.inl 1), none, none, none, none]) d219_69 rfl rfl ?_
                      exact k
                    · replace c : ¬ (v8 = 0) := c
                      rw [if_neg c] at k
                      refine x_bipush d219_57 rfl ?_
                      exact x_iret d219_59 gR_219 ⟨_, _, rfl, rfl, k⟩
                  · replace c : ¬ (I2 168 (((400 * x3) + (20 * x1)) + x2).toNat < 1000000000) := c
                    rw [if_neg c] at k
                    refine x_iconst d219_46 rfl ?_
                    exact x_iret d219_47 gR_219 ⟨_, _, rfl, rfl, k⟩
set_option maxHeartbeats 4000000 in
theorem b_M_table_71 {d n : Nat} {sh : ZS} {R : ZR} {I : ZI} {Q : Int → ZI → Prop} (hW : Wf sh R) {x1 : Int} {u2 : Option AV} {x3 : Int} {x4 : Int} {x5 : Int} {u6 : Option AV} {u7 : Option AV} {u8 : Option AV} {u9 : Option AV}
    (k : (zr (21 * x5)) ∧ (zr ((21 * x5) + x1)) ∧ (0 ≤ ((21 * x5) + x1) ∧ ((21 * x5) + x1) < 210) ∧ (zr (21 * I 137 3)) ∧ (zr ((21 * I 137 3) + x1)) ∧ (0 ≤ ((21 * I 137 3) + x1) ∧ ((21 * I 137 3) + x1) < 210) ∧ (if I 169 ((21 * x5) + x1).toNat = I 169 ((21 * I 137 3) + x1).toNat then (if x4 < x5 then XIs (d + 3) 219 125 [some (.inr 137), some (.inl x1), u2, some (.inl x3), some (.inl x4), some (.inl x5), some (.inl x1), some (.inl 0), u8, u9] [] n sh R I Q else Q (-2) I) else (zr (x5 + 1)) ∧ XIs (d + 3) 219 71 [some (.inr 137), some (.inl x1), u2, some (.inl x3), some (.inl x4), some (.inl (x5 + 1)), u6, u7, u8, u9] [] n sh R I Q)) : XIs (d + 3) 219 71 [some (.inr 137), some (.inl x1), u2, some (.inl x3), some (.inl x4), some (.inl x5), u6, u7, u8, u9] [] n sh R I Q := by
  unfold XIs
  refine x_aload_n d219_71 rfl ?_
  refine x_getR (r := 169) d219_72 gY_219.2.2.2 gF_12_104 rfl (sh_137 hW) (rf_137_54 hW) (by decide) ?_
  refine x_bipush d219_75 rfl ?_
  refine x_iload d219_77 rfl ?_
  have e1 := k.1
  replace k := k.2
  refine x_imul d219_79 e1 ?_
  refine x_iload_n d219_80 rfl ?_
  have e2 := k.1
  replace k := k.2
  refine x_iadd d219_81 e2 ?_
  have e3 := k.1
  replace k := k.2
  refine x_iald d219_82 (sh_169 hW) e3.1 e3.2 ?_
  refine x_aload_n d219_83 rfl ?_
  refine x_getR (r := 169) d219_84 gY_219.2.2.2 gF_12_104 rfl (sh_137 hW) (rf_137_54 hW) (by decide) ?_
  refine x_bipush d219_87 rfl ?_
  refine x_aload_n d219_89 rfl ?_
  refine x_getI d219_90 gY_219.2.2.2 gF_12_156 rfl (sh_137 hW) ?_
  have e4 := k.1
  replace k := k.2
  refine x_imul d219_93 e4 ?_
  refine x_iload_n d219_94 rfl ?_
  have e5 := k.1
  replace k := k.2
  refine x_iadd d219_95 e5 ?_
  have e6 := k.1
  replace k := k.2
  refine x_iald d219_96 (sh_169 hW) e6.1 e6.2 ?_
  refine x_if2 (pc2 := 109) d219_97 rfl (fun c => ?_) (fun c => ?_)
  · replace c : I 169 ((21 * x5) + x1).toNat = I 169 ((21 * I 137 3) + x1).toNat := c
    rw [if_pos c] at k
    refine x_iload d219_109 rfl ?_
    refine x_iload d219_111 rfl ?_
    refine x_if2 (pc2 := 119) d219_113 rfl (fun c => ?_) (fun c => ?_)
    · replace c : x4 < x5 := c
      rw [if_pos c] at k
      refine x_iload_n d219_119 rfl ?_
      refine x_istore (ls2 := [some (.inr 137), some (.inl x1), u2, some (.inl x3), some (.inl x4), some (.inl x5), some (.inl x1), u7, u8, u9]) d219_120 rfl rfl ?_
      refine x_iconst d219_122 rfl ?_
      refine x_istore (ls2 := [some (.inr 137), some (.inl x1), u2, some (.inl x3), some (.inl x4), some (.inl x5), some (.inl x1), some (.inl 0), u8, u9]) d219_123 rfl rfl ?_
      exact k
    · replace c : ¬ (x4 < x5) := c
      rw [if_neg c] at k
      refine x_bipush d219_116 rfl ?_
      exact x_iret d219_118 gR_219 ⟨_, _, rfl, rfl, k⟩
  · replace c : ¬ (I 169 ((21 * x5) + x1).toNat = I 169 ((21 * I 137 3) + x1).toNat) := c
    rw [if_neg c] at k
    refine x_iload d219_100 rfl ?_
    refine x_iconst d219_102 rfl ?_
    have e7 := k.1
    replace k := k.2
    refine x_iadd d219_103 e7 ?_
    refine x_istore (ls2 := [some (.inr 137), some (.inl x1), u2, some (.inl x3), some (.inl x4), some (.inl (x5 + 1)), u6, u7, u8, u9]) d219_104 rfl rfl ?_
    refine x_goto (pc2 := 71) d219_106 rfl ?_
    exact k
set_option maxHeartbeats 4000000 in
theorem b_M_table_125 {d n : Nat} {sh : ZS} {R : ZR} {I : ZI} {Q : Int → ZI → Prop} (hW : Wf sh R) {u1 : Option AV} {u2 : Option AV} {x3 : Int} {x4 : Int} {x5 : Int} {x6 : Int} {x7 : Int} {u8 : Option AV} {u9 : Option AV}
    (k : (if x4 ≤ x7 then Q x6 I else (zr (x5 - x7)) ∧ XIs (d + 3) 219 143 [some (.inr 137), u1, u2, some (.inl x3), some (.inl x4), some (.inl x5), some (.inl x6), some (.inl x7), some (.inl (x5 - x7)), some (.inl x6)] [] n sh R I Q)) : XIs (d + 3) 219 125 [some (.inr 137), u1, u2, some (.inl x3), some (.inl x4), some (.inl x5), some (.inl x6), some (.inl x7), u8, u9] [] n sh R I Q := by
  unfold XIs
  refine x_iload d219_125 rfl ?_
  refine x_iload d219_127 rfl ?_
  refine x_if2 (pc2 := 216) d219_129 rfl (fun c => ?_) (fun c => ?_)
  · replace c : x4 ≤ x7 := c
    rw [if_pos c] at k
    refine x_iload d219_216 rfl ?_
    exact x_iret d219_218 gR_219 ⟨_, _, rfl, rfl, k⟩
  · replace c : ¬ (x4 ≤ x7) := c
    rw [if_neg c] at k
    refine x_iload d219_132 rfl ?_
    refine x_iload d219_134 rfl ?_
    have e1 := k.1
    replace k := k.2
    refine x_isub d219_136 e1 ?_
    refine x_istore (ls2 := [some (.inr 137), u1, u2, some (.inl x3), some (.inl x4), some (.inl x5), some (.inl x6), some (.inl x7), some (.inl (x5 - x7)), u9]) d219_137 rfl rfl ?_
    refine x_iload d219_139 rfl ?_
    refine x_istore (ls2 := [some (.inr 137), u1, u2, some (.inl x3), some (.inl x4), some (.inl x5), some (.inl x6), some (.inl x7), some (.inl (x5 - x7)), some (.inl x6)]) d219_141 rfl rfl ?_
    exact k
set_option maxHeartbeats 4000000 in
theorem b_M_table_143 {d n : Nat} {sh : ZS} {R : ZR} {I : ZI} {Q : Int → ZI → Prop} (hW : Wf sh R) {u1 : Option AV} {u2 : Option AV} {x3 : Int} {x4 : Int} {x5 : Int} {x6 : Int} {x7 : Int} {x8 : Int} {x9 : Int}
    (k : (zr (x3 - 1)) ∧ (zr (400 * (x3 - 1))) ∧ (zr (20 * x6)) ∧ (zr ((400 * (x3 - 1)) + (20 * x6))) ∧ (zr (((400 * (x3 - 1)) + (20 * x6)) + x9)) ∧ (0 ≤ (((400 * (x3 - 1)) + (20 * x6)) + x9) ∧ (((400 * (x3 - 1)) + (20 * x6)) + x9) < 5200) ∧ (zr (x8 - 1)) ∧ (zr (21 * (x8 - 1))) ∧ (zr ((21 * (x8 - 1)) + x9)) ∧ (zr (((21 * (x8 - 1)) + x9) + 1)) ∧ (0 ≤ (((21 * (x8 - 1)) + x9) + 1) ∧ (((21 * (x8 - 1)) + x9) + 1) < 210) ∧ (if 1000000000 ≤ I 168 (((400 * (x3 - 1)) + (20 * x6)) + x9).toNat then (zr (21 * x8)) ∧ (zr ((21 * x8) + x6)) ∧ (0 ≤ ((21 * x8) + x6) ∧ ((21 * x8) + x6) < 210) ∧ (if 1000000000 = I 169 ((21 * x8) + x6).toNat then (zr (x9 + 1)) ∧ (zr (x7 + 1)) ∧ XIs (d + 3) 219 125 [some (.inr 137), u1, u2, some (.inl x3), some (.inl x4), some (.inl x5), some (.inl (x9 + 1)), some (.inl (x7 + 1)), some (.inl x8), some (.inl x9)] [] n sh R I Q else (zr (x9 + 1)) ∧ XIs (d + 3) 219 143 [some (.inr 137), u1, u2, some (.inl x3), some (.inl x4), some (.inl x5), some (.inl x6), some (.inl x7), some (.inl x8), some (.inl (x9 + 1))] [] n sh R I Q) else (if I 169 (((21 * (x8 - 1)) + x9) + 1).toNat < 1000000000 then (zr (I 168 (((400 * (x3 - 1)) + (20 * x6)) + x9).toNat + I 169 (((21 * (x8 - 1)) + x9) + 1).toNat)) ∧ (zr (21 * x8)) ∧ (zr ((21 * x8) + x6)) ∧ (0 ≤ ((21 * x8) + x6) ∧ ((21 * x8) + x6) < 210) ∧ (if (I 168 (((400 * (x3 - 1)) + (20 * x6)) + x9).toNat + I 169 (((21 * (x8 - 1)) + x9) + 1).toNat) = I 169 ((21 * x8) + x6).toNat then (zr (x9 + 1)) ∧ (zr (x7 + 1)) ∧ XIs (d + 3) 219 125 [some (.inr 137), u1, u2, some (.inl x3), some (.inl x4), some (.inl x5), some (.inl (x9 + 1)), some (.inl (x7 + 1)), some (.inl x8), some (.inl x9)] [] n sh R I Q else (zr (x9 + 1)) ∧ XIs (d + 3) 219 143 [some (.inr 137), u1, u2, some (.inl x3), some (.inl x4), some (.inl x5), some (.inl x6), some (.inl x7), some (.inl x8), some (.inl (x9 + 1))] [] n sh R I Q) else (zr (21 * x8)) ∧ (zr ((21 * x8) + x6)) ∧ (0 ≤ ((21 * x8) + x6) ∧ ((21 * x8) + x6) < 210) ∧ (if 1000000000 = I 169 ((21 * x8) + x6).toNat then (zr (x9 + 1)) ∧ (zr (x7 + 1)) ∧ XIs (d + 3) 219 125 [some (.inr 137), u1, u2, some (.inl x3), some (.inl x4), some (.inl x5), some (.inl (x9 + 1)), some (.inl (x7 + 1)), some (.inl x8), some (.inl x9)] [] n sh R I Q else (zr (x9 + 1)) ∧ XIs (d + 3) 219 143 [some (.inr 137), u1, u2, some (.inl x3), some (.inl x4), some (.inl x5), some (.inl x6), some (.inl x7), some (.inl x8), some (.inl (x9 + 1))] [] n sh R I Q)))) : XIs (d + 3) 219 143 [some (.inr 137), u1, u2, some (.inl x3), some (.inl x4), some (.inl x5), some (.inl x6), some (.inl x7), some (.inl x8), some (.inl x9)] [] n sh R I Q := by
  unfold XIs
  refine x_aload_n d219_143 rfl ?_
  refine x_getR (r := 168) d219_144 gY_219.2.2.2 gF_12_101 rfl (sh_137 hW) (rf_137_53 hW) (by decide) ?_
  refine x_aload_n d219_147 rfl ?_
  refine x_iload_n d219_148 rfl ?_
  refine x_iconst d219_149 rfl ?_
  have e1 := k.1
  replace k := k.2
  refine x_isub d219_150 e1 ?_
  refine x_iload d219_151 rfl ?_
  refine x_iload d219_153 rfl ?_
  refine y_inv (as := [.inl (x3 - 1), .inl x6, .inl x9]) (t := [.inr 168]) (o := 137) (ls2 := [some (.inr 137), some (.inl (x3 - 1)), some (.inl x6), some (.inl x9)]) gY_210 d219_155 gY_219.2.2.2 gM_12_393 rfl (sh_137 hW) rfl rfl ?_
  refine x_sipush d210_0 rfl ?_
  refine x_iload_n d210_3 rfl ?_
  have e2 := k.1
  replace k := k.2
  refine x_imul d210_4 e2 ?_
  refine x_bipush d210_5 rfl ?_
  refine x_iload_n d210_7 rfl ?_
  have e3 := k.1
  replace k := k.2
  refine x_imul d210_8 e3 ?_
  have e4 := k.1
  replace k := k.2
  refine x_iadd d210_9 e4 ?_
  refine x_iload_n d210_10 rfl ?_
  have e5 := k.1
  replace k := k.2
  refine x_iadd d210_11 e5 ?_
  refine x_iret d210_12 gR_210 ?_
  show Ex (d + 3) 219 158 [some (.inr 137), u1, u2, some (.inl x3), some (.inl x4), some (.inl x5), some (.inl x6), some (.inl x7), some (.inl x8), some (.inl x9)] [.inl (((400 * (x3 - 1)) + (20 * x6)) + x9), .inr 168] (0, 0, n, sh, R, I) _
  have e6 := k.1
  replace k := k.2
  refine x_iald d219_158 (sh_168 hW) e6.1 e6.2 ?_
  refine x_aload_n d219_159 rfl ?_
  refine x_getR (r := 169) d219_160 gY_219.2.2.2 gF_12_104 rfl (sh_137 hW) (rf_137_54 hW) (by decide) ?_
  refine x_bipush d219_163 rfl ?_
  refine x_iload d219_165 rfl ?_
  refine x_iconst d219_167 rfl ?_
  have e7 := k.1
  replace k := k.2
  refine x_isub d219_168 e7 ?_
  have e8 := k.1
  replace k := k.2
  refine x_imul d219_169 e8 ?_
  refine x_iload d219_170 rfl ?_
  have e9 := k.1
  replace k := k.2
  refine x_iadd d219_172 e9 ?_
  refine x_iconst d219_173 rfl ?_
  have e10 := k.1
  replace k := k.2
  refine x_iadd d219_174 e10 ?_
  have e11 := k.1
  replace k := k.2
  refine x_iald d219_175 (sh_169 hW) e11.1 e11.2 ?_
  refine y_ins (as := [.inl (I 168 (((400 * (x3 - 1)) + (20 * x6)) + x9).toNat), .inl (I 169 (((21 * (x8 - 1)) + x9) + 1).toNat)]) (t := []) (ls2 := [some (.inl (I 168 (((400 * (x3 - 1)) + (20 * x6)) + x9).toNat)), some (.inl (I 169 (((21 * (x8 - 1)) + x9) + 1).toNat))]) gY_214 d219_176 gY_219.2.2.2 gM_12_396 rfl rfl rfl ?_
  refine x_iload_n d214_0 rfl ?_
  refine x_ldcw d214_1 gY_214.2.2.2 gK_12_392 rfl ?_
  refine x_if2 (pc2 := 14) d214_4 rfl (fun c => ?_) (fun c => ?_)
  · replace c : 1000000000 ≤ I 168 (((400 * (x3 - 1)) + (20 * x6)) + x9).toNat := c
    rw [if_pos c] at k
    refine x_ldcw d214_14 gY_214.2.2.2 gK_12_392 rfl ?_
    refine x_goto (pc2 := 23) d214_17 rfl ?_
    refine x_iret d214_23 gR_214 ?_
    show Ex (d + 3) 219 179 [some (.inr 137), u1, u2, some (.inl x3), some (.inl x4), some (.inl x5), some (.inl x6), some (.inl x7), some (.inl x8), some (.inl x9)] [.inl 1000000000] (0, 0, n, sh, R, I) _
    refine x_aload_n d219_179 rfl ?_
    refine x_getR (r := 169) d219_180 gY_219.2.2.2 gF_12_104 rfl (sh_137 hW) (rf_137_54 hW) (by decide) ?_
    refine x_bipush d219_183 rfl ?_
    refine x_iload d219_185 rfl ?_
    have e12 := k.1
    replace k := k.2
    refine x_imul d219_187 e12 ?_
    refine x_iload d219_188 rfl ?_
    have e13 := k.1
    replace k := k.2
    refine x_iadd d219_190 e13 ?_
    have e14 := k.1
    replace k := k.2
    refine x_iald d219_191 (sh_169 hW) e14.1 e14.2 ?_
    refine x_if2 (pc2 := 204) d219_192 rfl (fun c => ?_) (fun c => ?_)
    · replace c : 1000000000 = I 169 ((21 * x8) + x6).toNat := c
      rw [if_pos c] at k
      refine x_iload d219_204 rfl ?_
      refine x_iconst d219_206 rfl ?_
      have e15 := k.1
      replace k := k.2
      refine x_iadd d219_207 e15 ?_
      refine x_istore (ls2 := [some (.inr 137), u1, u2, some (.inl x3), some (.inl x4), some (.inl x5), some (.inl (x9 + 1)), some (.inl x7), some (.inl x8), some (.inl x9)]) d219_208 rfl rfl ?_
      have e16 := k.1
      replace k := k.2
      refine x_iinc (ls2 := [some (.inr 137), u1, u2, some (.inl x3), some (.inl x4), some (.inl x5), some (.inl (x9 + 1)), some (.inl (x7 + 1)), some (.inl x8), some (.inl x9)]) d219_210 rfl e16 rfl ?_
      refine x_goto (pc2 := 125) d219_213 rfl ?_
      exact k
    · replace c : ¬ (1000000000 = I 169 ((21 * x8) + x6).toNat) := c
      rw [if_neg c] at k
      refine x_iload d219_195 rfl ?_
      refine x_iconst d219_197 rfl ?_
      have e17 := k.1
      replace k := k.2
      refine x_iadd d219_198 e17 ?_
      refine x_istore (ls2 := [some (.inr 137), u1, u2, some (.inl x3), some (.inl x4), some (.inl x5), some (.inl x6), some (.inl x7), some (.inl x8), some (.inl (x9 + 1))]) d219_199 rfl rfl ?_
      refine x_goto (pc2 := 143) d219_201 rfl ?_
      exact k
  · replace c : ¬ (1000000000 ≤ I 168 (((400 * (x3 - 1)) + (20 * x6)) + x9).toNat) := c
    rw [if_neg c] at k
    refine x_iload_n d214_7 rfl ?_
    refine x_ldcw d214_8 gY_214.2.2.2 gK_12_392 rfl ?_
    refine x_if2 (pc2 := 20) d214_11 rfl (fun c => ?_) (fun c => ?_)
    · replace c : I 169 (((21 * (x8 - 1)) + x9) + 1).toNat < 1000000000 := c
      rw [if_pos c] at k
      refine x_iload_n d214_20 rfl ?_
      refine x_iload_n d214_21 rfl ?_
      have e18 := k.1
      replace k := k.2
      refine x_iadd d214_22 e18 ?_
      refine x_iret d214_23 gR_214 ?_
      show Ex (d + 3) 219 179 [some (.inr 137), u1, u2, some (.inl x3), some (.inl x4), some (.inl x5), some (.inl x6), some (.inl x7), some (.inl x8), some (.inl x9)] [.inl (I 168 (((400 * (x3 - 1)) + (20 * x6)) + x9).toNat + I 169 (((21 * (x8 - 1)) + x9) + 1).toNat)] (0, 0, n, sh, R, I) _
      refine x_aload_n d219_179 rfl ?_
      refine x_getR (r := 169) d219_180 gY_219.2.2.2 gF_12_104 rfl (sh_137 hW) (rf_137_54 hW) (by decide) ?_
      refine x_bipush d219_183 rfl ?_
      refine x_iload d219_185 rfl ?_
      have e19 := k.1
      replace k := k.2
      refine x_imul d219_187 e19 ?_
      refine x_iload d219_188 rfl ?_
      have e20 := k.1
      replace k := k.2
      refine x_iadd d219_190 e20 ?_
      have e21 := k.1
      replace k := k.2
      refine x_iald d219_191 (sh_169 hW) e21.1 e21.2 ?_
      refine x_if2 (pc2 := 204) d219_192 rfl (fun c => ?_) (fun c => ?_)
      · replace c : (I 168 (((400 * (x3 - 1)) + (20 * x6)) + x9).toNat + I 169 (((21 * (x8 - 1)) + x9) + 1).toNat) = I 169 ((21 * x8) + x6).toNat := c
        rw [if_pos c] at k
        refine x_iload d219_204 rfl ?_
        refine x_iconst d219_206 rfl ?_
        have e22 := k.1
        replace k := k.2
        refine x_iadd d219_207 e22 ?_
        refine x_istore (ls2 := [some (.inr 137), u1, u2, some (.inl x3), some (.inl x4), some (.inl x5), some (.inl (x9 + 1)), some (.inl x7), some (.inl x8), some (.inl x9)]) d219_208 rfl rfl ?_
        have e23 := k.1
        replace k := k.2
        refine x_iinc (ls2 := [some (.inr 137), u1, u2, some (.inl x3), some (.inl x4), some (.inl x5), some (.inl (x9 + 1)), some (.inl (x7 + 1)), some (.inl x8), some (.inl x9)]) d219_210 rfl e23 rfl ?_
        refine x_goto (pc2 := 125) d219_213 rfl ?_
        exact k
      · replace c : ¬ ((I 168 (((400 * (x3 - 1)) + (20 * x6)) + x9).toNat + I 169 (((21 * (x8 - 1)) + x9) + 1).toNat) = I 169 ((21 * x8) + x6).toNat) := c
        rw [if_neg c] at k
        refine x_iload d219_195 rfl ?_
        refine x_iconst d219_197 rfl ?_
        have e24 := k.1
        replace k := k.2
        refine x_iadd d219_198 e24 ?_
        refine x_istore (ls2 := [some (.inr 137), u1, u2, some (.inl x3), some (.inl x4), some (.inl x5), some (.inl x6), some (.inl x7), some (.inl x8), some (.inl (x9 + 1))]) d219_199 rfl rfl ?_
        refine x_goto (pc2 := 143) d219_201 rfl ?_
        exact k
    · replace c : ¬ (I 169 (((21 * (x8 - 1)) + x9) + 1).toNat < 1000000000) := c
      rw [if_neg c] at k
      refine x_ldcw d214_14 gY_214.2.2.2 gK_12_392 rfl ?_
      refine x_goto (pc2 := 23) d214_17 rfl ?_
      refine x_iret d214_23 gR_214 ?_
      show Ex (d + 3) 219 179 [some (.inr 137), u1, u2, some (.inl x3), some (.inl x4), some (.inl x5), some (.inl x6), some (.inl x7), some (.inl x8), some (.inl x9)] [.inl 1000000000] (0, 0, n, sh, R, I) _
      refine x_aload_n d219_179 rfl ?_
      refine x_getR (r := 169) d219_180 gY_219.2.2.2 gF_12_104 rfl (sh_137 hW) (rf_137_54 hW) (by decide) ?_
      refine x_bipush d219_183 rfl ?_
      refine x_iload d219_185 rfl ?_
      have e25 := k.1
      replace k := k.2
      refine x_imul d219_187 e25 ?_
      refine x_iload d219_188 rfl ?_
      have e26 := k.1
      replace k := k.2
      refine x_iadd d219_190 e26 ?_
      have e27 := k.1
      replace k := k.2
      refine x_iald d219_191 (sh_169 hW) e27.1 e27.2 ?_
      refine x_if2 (pc2 := 204) d219_192 rfl (fun c => ?_) (fun c => ?_)
      · replace c : 1000000000 = I 169 ((21 * x8) + x6).toNat := c
        rw [if_pos c] at k
        refine x_iload d219_204 rfl ?_
        refine x_iconst d219_206 rfl ?_
        have e28 := k.1
        replace k := k.2
        refine x_iadd d219_207 e28 ?_
        refine x_istore (ls2 := [some (.inr 137), u1, u2, some (.inl x3), some (.inl x4), some (.inl x5), some (.inl (x9 + 1)), some (.inl x7), some (.inl x8), some (.inl x9)]) d219_208 rfl rfl ?_
        have e29 := k.1
        replace k := k.2
        refine x_iinc (ls2 := [some (.inr 137), u1, u2, some (.inl x3), some (.inl x4), some (.inl x5), some (.inl (x9 + 1)), some (.inl (x7 + 1)), some (.inl x8), some (.inl x9)]) d219_210 rfl e29 rfl ?_
        refine x_goto (pc2 := 125) d219_213 rfl ?_
        exact k
      · replace c : ¬ (1000000000 = I 169 ((21 * x8) + x6).toNat) := c
        rw [if_neg c] at k
        refine x_iload d219_195 rfl ?_
        refine x_iconst d219_197 rfl ?_
        have e30 := k.1
        replace k := k.2
        refine x_iadd d219_198 e30 ?_
        refine x_istore (ls2 := [some (.inr 137), u1, u2, some (.inl x3), some (.inl x4), some (.inl x5), some (.inl x6), some (.inl x7), some (.inl x8), some (.inl (x9 + 1))]) d219_199 rfl rfl ?_
        refine x_goto (pc2 := 143) d219_201 rfl ?_
        exact k
set_option maxHeartbeats 4000000 in
theorem b_M_longestRow_0 {d n : Nat} {sh : ZS} {R : ZR} {I : ZI} {Q : Int → ZI → Prop} (hW : Wf sh R) {x1 : Int}
    (k : XIs (d + 1) 220 4 [some (.inr 137), some (.inl x1), some (.inl 0), some (.inl 0), none, none] [] n sh R I Q) : XI (d + 1) 220 [.inr 137, .inl x1] n sh R I Q := by
  refine XI.of (ls := [some (.inr 137), some (.inl x1), none, none, none, none]) (zloc_eq gY_220.2.2.1) ?_
  unfold XIs
  refine x_iconst d220_0 rfl ?_
  refine x_istore_n (ls2 := [some (.inr 137), some (.inl x1), some (.inl 0), none, none, none]) d220_1 rfl rfl ?_
  refine x_iconst d220_2 rfl ?_
  refine x_istore_n (ls2 := [some (.inr 137), some (.inl x1), some (.inl 0), some (.inl 0), none, none]) d220_3 rfl rfl ?_
  exact k
set_option maxHeartbeats 4000000 in
theorem b_M_longestRow_4 {d n : Nat} {sh : ZS} {R : ZR} {I : ZI} {Q : Int → ZI → Prop} (hW : Wf sh R) {x1 : Int} {x2 : Int} {x3 : Int} {u4 : Option AV} {u5 : Option AV}
    (k : (if I 137 1 ≤ x3 then Q x2 I else (0 ≤ x3 ∧ x3 < 32) ∧ XIs (d + 1) 220 22 [some (.inr 137), some (.inl x1), some (.inl x2), some (.inl x3), some (.inl 0), u5] [] n sh R (zup I 170 (x3).toNat 1) Q)) : XIs (d + 1) 220 4 [some (.inr 137), some (.inl x1), some (.inl x2), some (.inl x3), u4, u5] [] n sh R I Q := by
  unfold XIs
  refine x_iload_n d220_4 rfl ?_
  refine x_aload_n d220_5 rfl ?_
  refine x_getI d220_6 gY_220.2.2.2 gF_12_162 rfl (sh_137 hW) ?_
  refine x_if2 (pc2 := 116) d220_9 rfl (fun c => ?_) (fun c => ?_)
  · replace c : I 137 1 ≤ x3 := c
    rw [if_pos c] at k
    refine x_iload_n d220_116 rfl ?_
    exact x_iret d220_117 gR_220 ⟨_, _, rfl, rfl, k⟩
  · replace c : ¬ (I 137 1 ≤ x3) := c
    rw [if_neg c] at k
    refine x_aload_n d220_12 rfl ?_
    refine x_getR (r := 170) d220_13 gY_220.2.2.2 gF_12_107 rfl (sh_137 hW) (rf_137_55 hW) (by decide) ?_
    refine x_iload_n d220_16 rfl ?_
    refine x_iconst d220_17 rfl ?_
    have e1 := k.1
    replace k := k.2
    refine x_iast d220_18 (sh_170 hW) e1.1 e1.2 ?_
    refine x_iconst d220_19 rfl ?_
    refine x_istore (ls2 := [some (.inr 137), some (.inl x1), some (.inl x2), some (.inl x3), some (.inl 0), u5]) d220_20 rfl rfl ?_
    exact k
set_option maxHeartbeats 4000000 in
theorem b_M_longestRow_22 {d n : Nat} {sh : ZS} {R : ZR} {I : ZI} {Q : Int → ZI → Prop} (hW : Wf sh R) {x1 : Int} {x2 : Int} {x3 : Int} {x4 : Int} {u5 : Option AV}
    (k : (if x3 ≤ x4 then (0 ≤ x3 ∧ x3 < 32) ∧ (if x2 ≤ I 170 (x3).toNat then (zr (x3 + 1)) ∧ XIs (d + 1) 220 4 [some (.inr 137), some (.inl x1), some (.inl (I 170 (x3).toNat)), some (.inl (x3 + 1)), some (.inl x4), u5] [] n sh R I Q else (zr (x3 + 1)) ∧ XIs (d + 1) 220 4 [some (.inr 137), some (.inl x1), some (.inl x2), some (.inl (x3 + 1)), some (.inl x4), u5] [] n sh R I Q) else (0 ≤ x3 ∧ x3 < 32) ∧ (0 ≤ I 142 (x3).toNat ∧ I 142 (x3).toNat < 32) ∧ (0 ≤ I 138 (I 142 (x3).toNat).toNat ∧ I 138 (I 142 (x3).toNat).toNat < 20) ∧ (0 ≤ x4 ∧ x4 < 32) ∧ (0 ≤ I 142 (x4).toNat ∧ I 142 (x4).toNat < 32) ∧ (0 ≤ I 138 (I 142 (x4).toNat).toNat ∧ I 138 (I 142 (x4).toNat).toNat < 20) ∧ (zr (I 143 (I 138 (I 142 (x3).toNat).toNat).toNat - I 143 (I 138 (I 142 (x4).toNat).toNat).toNat)) ∧ (if x1 = 0 then (if 0 ≤ (I 143 (I 138 (I 142 (x3).toNat).toNat).toNat - I 143 (I 138 (I 142 (x4).toNat).toNat).toNat) then (zr (x4 + 1)) ∧ XIs (d + 1) 220 22 [some (.inr 137), some (.inl x1), some (.inl x2), some (.inl x3), some (.inl (x4 + 1)), some (.inl (I 143 (I 138 (I 142 (x3).toNat).toNat).toNat - I 143 (I 138 (I 142 (x4).toNat).toNat).toNat))] [] n sh R I Q else (zr (I 170 (x4).toNat + 1)) ∧ (if I 170 (x3).toNat ≤ (I 170 (x4).toNat + 1) then (zr (x4 + 1)) ∧ XIs (d + 1) 220 22 [some (.inr 137), some (.inl x1), some (.inl x2), some (.inl x3), some (.inl (x4 + 1)), some (.inl (I 143 (I 138 (I 142 (x3).toNat).toNat).toNat - I 143 (I 138 (I 142 (x4).toNat).toNat).toNat))] [] n sh R (zup I 170 (x3).toNat (I 170 (x4).toNat + 1)) Q else (zr (x4 + 1)) ∧ XIs (d + 1) 220 22 [some (.inr 137), some (.inl x1), some (.inl x2), some (.inl x3), some (.inl (x4 + 1)), some (.inl (I 143 (I 138 (I 142 (x3).toNat).toNat).toNat - I 143 (I 138 (I 142 (x4).toNat).toNat).toNat))] [] n sh R (zup I 170 (x3).toNat (I 170 (x3).toNat)) Q)) else (if (I 143 (I 138 (I 142 (x3).toNat).toNat).toNat - I 143 (I 138 (I 142 (x4).toNat).toNat).toNat) ≤ 0 then (zr (x4 + 1)) ∧ XIs (d + 1) 220 22 [some (.inr 137), some (.inl x1), some (.inl x2), some (.inl x3), some (.inl (x4 + 1)), some (.inl (I 143 (I 138 (I 142 (x3).toNat).toNat).toNat - I 143 (I 138 (I 142 (x4).toNat).toNat).toNat))] [] n sh R I Q else (zr (I 170 (x4).toNat + 1)) ∧ (if I 170 (x3).toNat ≤ (I 170 (x4).toNat + 1) then (zr (x4 + 1)) ∧ XIs (d + 1) 220 22 [some (.inr 137), some (.inl x1), some (.inl x2), some (.inl x3), some (.inl (x4 + 1)), some (.inl (I 143 (I 138 (I 142 (x3).toNat).toNat).toNat - I 143 (I 138 (I 142 (x4).toNat).toNat).toNat))] [] n sh R (zup I 170 (x3).toNat (I 170 (x4).toNat + 1)) Q else (zr (x4 + 1)) ∧ XIs (d + 1) 220 22 [some (.inr 137), some (.inl x1), some (.inl x2), some (.inl x3), some (.inl (x4 + 1)), some (.inl (I 143 (I 138 (I 142 (x3).toNat).toNat).toNat - I 143 (I 138 (I 142 (x4).toNat).toNat).toNat))] [] n sh R (zup I 170 (x3).toNat (I 170 (x3).toNat)) Q))))) : XIs (d + 1) 220 22 [some (.inr 137), some (.inl x1), some (.inl x2), some (.inl x3), some (.inl x4), u5] [] n sh R I Q := by
  unfold XIs
  refine x_iload d220_22 rfl ?_
  refine x_iload_n d220_24 rfl ?_
  refine x_if2 (pc2 := 99) d220_25 rfl (fun c => ?_) (fun c => ?_)
  · replace c : x3 ≤ x4 := c
    rw [if_pos c] at k
    refine x_iload_n d220_99 rfl ?_
    refine x_aload_n d220_100 rfl ?_
    refine x_getR (r := 170) d220_101 gY_220.2.2.2 gF_12_107 rfl (sh_137 hW) (rf_137_55 hW) (by decide) ?_
    refine x_iload_n d220_104 rfl ?_
    have e1 := k.1
    replace k := k.2
    refine x_iald d220_105 (sh_170 hW) e1.1 e1.2 ?_
    refine y_ins (as := [.inl x2, .inl (I 170 (x3).toNat)]) (t := []) (ls2 := [some (.inl x2), some (.inl (I 170 (x3).toNat))]) gY_142 d220_106 gY_220.2.2.2 gM_12_420 rfl rfl rfl ?_
    refine x_iload_n d142_0 rfl ?_
    refine x_iload_n d142_1 rfl ?_
    refine x_if2 (pc2 := 9) d142_2 rfl (fun c => ?_) (fun c => ?_)
    · replace c : x2 ≤ I 170 (x3).toNat := c
      rw [if_pos c] at k
      refine x_iload_n d142_9 rfl ?_
      refine x_iret d142_10 gR_142 ?_
      show Ex (d + 1) 220 109 [some (.inr 137), some (.inl x1), some (.inl x2), some (.inl x3), some (.inl x4), u5] [.inl (I 170 (x3).toNat)] (0, 0, n, sh, R, I) _
      refine x_istore_n (ls2 := [some (.inr 137), some (.inl x1), some (.inl (I 170 (x3).toNat)), some (.inl x3), some (.inl x4), u5]) d220_109 rfl rfl ?_
      have e2 := k.1
      replace k := k.2
      refine x_iinc (ls2 := [some (.inr 137), some (.inl x1), some (.inl (I 170 (x3).toNat)), some (.inl (x3 + 1)), some (.inl x4), u5]) d220_110 rfl e2 rfl ?_
      refine x_goto (pc2 := 4) d220_113 rfl ?_
      exact k
    · replace c : ¬ (x2 ≤ I 170 (x3).toNat) := c
      rw [if_neg c] at k
      refine x_iload_n d142_5 rfl ?_
      refine x_goto (pc2 := 10) d142_6 rfl ?_
      refine x_iret d142_10 gR_142 ?_
      show Ex (d + 1) 220 109 [some (.inr 137), some (.inl x1), some (.inl x2), some (.inl x3), some (.inl x4), u5] [.inl x2] (0, 0, n, sh, R, I) _
      refine x_istore_n (ls2 := [some (.inr 137), some (.inl x1), some (.inl x2), some (.inl x3), some (.inl x4), u5]) d220_109 rfl rfl ?_
      have e3 := k.1
      replace k := k.2
      refine x_iinc (ls2 := [some (.inr 137), some (.inl x1), some (.inl x2), some (.inl (x3 + 1)), some (.inl x4), u5]) d220_110 rfl e3 rfl ?_
      refine x_goto (pc2 := 4) d220_113 rfl ?_
      exact k
  · replace c : ¬ (x3 ≤ x4) := c
    rw [if_neg c] at k
    refine x_aload_n d220_28 rfl ?_
    refine x_aload_n d220_29 rfl ?_
    refine x_getR (r := 142) d220_30 gY_220.2.2.2 gF_12_22 rfl (sh_137 hW) (rf_137_10 hW) (by decide) ?_
    refine x_iload_n d220_33 rfl ?_
    have e4 := k.1
    replace k := k.2
    refine x_iald d220_34 (sh_142 hW) e4.1 e4.2 ?_
    refine y_inv (as := [.inl (I 142 (x3).toNat)]) (t := []) (o := 137) (ls2 := [some (.inr 137), some (.inl (I 142 (x3).toNat))]) gY_146 d220_35 gY_220.2.2.2 gM_12_291 rfl (sh_137 hW) rfl rfl ?_
    refine x_aload_n d146_0 rfl ?_
    refine x_getR (r := 143) d146_1 gY_146.2.2.2 gF_12_25 rfl (sh_137 hW) (rf_137_11 hW) (by decide) ?_
    refine x_aload_n d146_4 rfl ?_
    refine x_getR (r := 138) d146_5 gY_146.2.2.2 gF_12_7 rfl (sh_137 hW) (rf_137_6 hW) (by decide) ?_
    refine x_iload_n d146_8 rfl ?_
    have e5 := k.1
    replace k := k.2
    refine x_iald d146_9 (sh_138 hW) e5.1 e5.2 ?_
    have e6 := k.1
    replace k := k.2
    refine x_iald d146_10 (sh_143 hW) e6.1 e6.2 ?_
    refine x_iret d146_11 gR_146 ?_
    show Ex (d + 1) 220 38 [some (.inr 137), some (.inl x1), some (.inl x2), some (.inl x3), some (.inl x4), u5] [.inl (I 143 (I 138 (I 142 (x3).toNat).toNat).toNat)] (0, 0, n, sh, R, I) _
    refine x_aload_n d220_38 rfl ?_
    refine x_aload_n d220_39 rfl ?_
    refine x_getR (r := 142) d220_40 gY_220.2.2.2 gF_12_22 rfl (sh_137 hW) (rf_137_10 hW) (by decide) ?_
    refine x_iload d220_43 rfl ?_
    have e7 := k.1
    replace k := k.2
    refine x_iald d220_45 (sh_142 hW) e7.1 e7.2 ?_
    refine y_inv (as := [.inl (I 142 (x4).toNat)]) (t := [.inl (I 143 (I 138 (I 142 (x3).toNat).toNat).toNat)]) (o := 137) (ls2 := [some (.inr 137), some (.inl (I 142 (x4).toNat))]) gY_146 d220_46 gY_220.2.2.2 gM_12_291 rfl (sh_137 hW) rfl rfl ?_
    refine x_aload_n d146_0 rfl ?_
    refine x_getR (r := 143) d146_1 gY_146.2.2.2 gF_12_25 rfl (sh_137 hW) (rf_137_11 hW) (by decide) ?_
    refine x_aload_n d146_4 rfl ?_
    refine x_getR (r := 138) d146_5 gY_146.2.2.2 gF_12_7 rfl (sh_137 hW) (rf_137_6 hW) (by decide) ?_
    refine x_iload_n d146_8 rfl ?_
    have e8 := k.1
    replace k := k.2
    refine x_iald d146_9 (sh_138 hW) e8.1 e8.2 ?_
    have e9 := k.1
    replace k := k.2
    refine x_iald d146_10 (sh_143 hW) e9.1 e9.2 ?_
    refine x_iret d146_11 gR_146 ?_
    show Ex (d + 1) 220 49 [some (.inr 137), some (.inl x1), some (.inl x2), some (.inl x3), some (.inl x4), u5] [.inl (I 143 (I 138 (I 142 (x4).toNat).toNat).toNat), .inl (I 143 (I 138 (I 142 (x3).toNat).toNat).toNat)] (0, 0, n, sh, R, I) _
    have e10 := k.1
    replace k := k.2
    refine x_isub d220_49 e10 ?_
    refine x_istore (ls2 := [some (.inr 137), some (.inl x1), some (.inl x2), some (.inl x3), some (.inl x4), some (.inl (I 143 (I 138 (I 142 (x3).toNat).toNat).toNat - I 143 (I 138 (I 142 (x4).toNat).toNat).toNat))]) d220_50 rfl rfl ?_
    refine x_iload_n d220_52 rfl ?_
    refine x_if1 (pc2 := 64) d220_53 rfl (fun c => ?_) (fun c => ?_)
    · replace c : x1 = 0 := c
      rw [if_pos c] at k
      refine x_iload d220_64 rfl ?_
      refine x_if1 (pc2 := 93) d220_66 rfl (fun c => ?_) (fun c => ?_)
      · replace c : 0 ≤ (I 143 (I 138 (I 142 (x3).toNat).toNat).toNat - I 143 (I 138 (I 142 (x4).toNat).toNat).toNat) := c
        rw [if_pos c] at k
        have e11 := k.1
        replace k := k.2
        refine x_iinc (ls2 := [some (.inr 137), some (.inl x1), some (.inl x2), some (.inl x3), some (.inl (x4 + 1)), some (.inl (I 143 (I 138 (I 142 (x3).toNat).toNat).toNat - I 143 (I 138 (I 142 (x4).toNat).toNat).toNat))]) d220_93 rfl e11 rfl ?_
        refine x_goto (pc2 := 22) d220_96 rfl ?_
        exact k
      · replace c : ¬ (0 ≤ (I 143 (I 138 (I 142 (x3).toNat).toNat).toNat - I 143 (I 138 (I 142 (x4).toNat).toNat).toNat)) := c
        rw [if_neg c] at k
        refine x_aload_n d220_69 rfl ?_
        refine x_getR (r := 170) d220_70 gY_220.2.2.2 gF_12_107 rfl (sh_137 hW) (rf_137_55 hW) (by decide) ?_
        refine x_iload_n d220_73 rfl ?_
        refine x_aload_n d220_74 rfl ?_
        refine x_getR (r := 170) d220_75 gY_220.2.2.2 gF_12_107 rfl (sh_137 hW) (rf_137_55 hW) (by decide) ?_
        refine x_iload_n d220_78 rfl ?_
        refine x_iald d220_79 (sh_170 hW) e4.1 e4.2 ?_
        refine x_aload_n d220_80 rfl ?_
        refine x_getR (r := 170) d220_81 gY_220.2.2.2 gF_12_107 rfl (sh_137 hW) (rf_137_55 hW) (by decide) ?_
        refine x_iload d220_84 rfl ?_
        refine x_iald d220_86 (sh_170 hW) e7.1 e7.2 ?_
        refine x_iconst d220_87 rfl ?_
        have e12 := k.1
        replace k := k.2
        refine x_iadd d220_88 e12 ?_
        refine y_ins (as := [.inl (I 170 (x3).toNat), .inl (I 170 (x4).toNat + 1)]) (t := [.inl x3, .inr 170]) (ls2 := [some (.inl (I 170 (x3).toNat)), some (.inl (I 170 (x4).toNat + 1))]) gY_142 d220_89 gY_220.2.2.2 gM_12_420 rfl rfl rfl ?_
        refine x_iload_n d142_0 rfl ?_
        refine x_iload_n d142_1 rfl ?_
        refine x_if2 (pc2 := 9) d142_2 rfl (fun c => ?_) (fun c => ?_)
        · replace c : I 170 (x3).toNat ≤ (I 170 (x4).toNat + 1) := c
          rw [if_pos c] at k
          refine x_iload_n d142_9 rfl ?_
          refine x_iret d142_10 gR_142 ?_
          show Ex (d + 1) 220 92 [some (.inr 137), some (.inl x1), some (.inl x2), some (.inl x3), some (.inl x4), some (.inl (I 143 (I 138 (I 142 (x3).toNat).toNat).toNat - I 143 (I 138 (I 142 (x4).toNat).toNat).toNat))] [.inl (I 170 (x4).toNat + 1), .inl x3, .inr 170] (0, 0, n, sh, R, I) _
          refine x_iast d220_92 (sh_170 hW) e4.1 e4.2 ?_
          have e13 := k.1
          replace k := k.2
          refine x_iinc (ls2 := [some (.inr 137), some (.inl x1), some (.inl x2), some (.inl x3), some (.inl (x4 + 1)), some (.inl (I 143 (I 138 (I 142 (x3).toNat).toNat).toNat - I 143 (I 138 (I 142 (x4).toNat).toNat).toNat))]) d220_93 rfl e13 rfl ?_
          refine x_goto (pc2 := 22) d220_96 rfl ?_
          exact k
        · replace c : ¬ (I 170 (x3).toNat ≤ (I 170 (x4).toNat + 1)) := c
          rw [if_neg c] at k
          refine x_iload_n d142_5 rfl ?_
          refine x_goto (pc2 := 10) d142_6 rfl ?_
          refine x_iret d142_10 gR_142 ?_
          show Ex (d + 1) 220 92 [some (.inr 137), some (.inl x1), some (.inl x2), some (.inl x3), some (.inl x4), some (.inl (I 143 (I 138 (I 142 (x3).toNat).toNat).toNat - I 143 (I 138 (I 142 (x4).toNat).toNat).toNat))] [.inl (I 170 (x3).toNat), .inl x3, .inr 170] (0, 0, n, sh, R, I) _
          refine x_iast d220_92 (sh_170 hW) e4.1 e4.2 ?_
          have e14 := k.1
          replace k := k.2
          refine x_iinc (ls2 := [some (.inr 137), some (.inl x1), some (.inl x2), some (.inl x3), some (.inl (x4 + 1)), some (.inl (I 143 (I 138 (I 142 (x3).toNat).toNat).toNat - I 143 (I 138 (I 142 (x4).toNat).toNat).toNat))]) d220_93 rfl e14 rfl ?_
          refine x_goto (pc2 := 22) d220_96 rfl ?_
          exact k
    · replace c : ¬ (x1 = 0) := c
      rw [if_neg c] at k
      refine x_iload d220_56 rfl ?_
      refine x_if1 (pc2 := 93) d220_58 rfl (fun c => ?_) (fun c => ?_)
      · replace c : (I 143 (I 138 (I 142 (x3).toNat).toNat).toNat - I 143 (I 138 (I 142 (x4).toNat).toNat).toNat) ≤ 0 := c
        rw [if_pos c] at k
        have e15 := k.1
        replace k := k.2
        refine x_iinc (ls2 := [some (.inr 137), some (.inl x1), some (.inl x2), some (.inl x3), some (.inl (x4 + 1)), some (.inl (I 143 (I 138 (I 142 (x3).toNat).toNat).toNat - I 143 (I 138 (I 142 (x4).toNat).toNat).toNat))]) d220_93 rfl e15 rfl ?_
        refine x_goto (pc2 := 22) d220_96 rfl ?_
        exact k
      · replace c : ¬ ((I 143 (I 138 (I 142 (x3).toNat).toNat).toNat - I 143 (I 138 (I 142 (x4).toNat).toNat).toNat) ≤ 0) := c
        rw [if_neg c] at k
        refine x_goto (pc2 := 69) d220_61 rfl ?_
        refine x_aload_n d220_69 rfl ?_
        refine x_getR (r := 170) d220_70 gY_220.2.2.2 gF_12_107 rfl (sh_137 hW) (rf_137_55 hW) (by decide) ?_
        refine x_iload_n d220_73 rfl ?_
        refine x_aload_n d220_74 rfl ?_
        refine x_getR (r := 170) d220_75 gY_220.2.2.2 gF_12_107 rfl (sh_137 hW) (rf_137_55 hW) (by decide) ?_
        refine x_iload_n d220_78 rfl ?_
        refine x_iald d220_79 (sh_170 hW) e4.1 e4.2 ?_
        refine x_aload_n d220_80 rfl ?_
        refine x_getR (r := 170) d220_81 gY_220.2.2.2 gF_12_107 rfl (sh_137 hW) (rf_137_55 hW) (by decide) ?_
        refine x_iload d220_84 rfl ?_
        refine x_iald d220_86 (sh_170 hW) e7.1 e7.2 ?_
        refine x_iconst d220_87 rfl ?_
        have e16 := k.1
        replace k := k.2
        refine x_iadd d220_88 e16 ?_
        refine y_ins (as := [.inl (I 170 (x3).toNat), .inl (I 170 (x4).toNat + 1)]) (t := [.inl x3, .inr 170]) (ls2 := [some (.inl (I 170 (x3).toNat)), some (.inl (I 170 (x4).toNat + 1))]) gY_142 d220_89 gY_220.2.2.2 gM_12_420 rfl rfl rfl ?_
        refine x_iload_n d142_0 rfl ?_
        refine x_iload_n d142_1 rfl ?_
        refine x_if2 (pc2 := 9) d142_2 rfl (fun c => ?_) (fun c => ?_)
        · replace c : I 170 (x3).toNat ≤ (I 170 (x4).toNat + 1) := c
          rw [if_pos c] at k
          refine x_iload_n d142_9 rfl ?_
          refine x_iret d142_10 gR_142 ?_
          show Ex (d + 1) 220 92 [some (.inr 137), some (.inl x1), some (.inl x2), some (.inl x3), some (.inl x4), some (.inl (I 143 (I 138 (I 142 (x3).toNat).toNat).toNat - I 143 (I 138 (I 142 (x4).toNat).toNat).toNat))] [.inl (I 170 (x4).toNat + 1), .inl x3, .inr 170] (0, 0, n, sh, R, I) _
          refine x_iast d220_92 (sh_170 hW) e4.1 e4.2 ?_
          have e17 := k.1
          replace k := k.2
          refine x_iinc (ls2 := [some (.inr 137), some (.inl x1), some (.inl x2), some (.inl x3), some (.inl (x4 + 1)), some (.inl (I 143 (I 138 (I 142 (x3).toNat).toNat).toNat - I 143 (I 138 (I 142 (x4).toNat).toNat).toNat))]) d220_93 rfl e17 rfl ?_
          refine x_goto (pc2 := 22) d220_96 rfl ?_
          exact k
        · replace c : ¬ (I 170 (x3).toNat ≤ (I 170 (x4).toNat + 1)) := c
          rw [if_neg c] at k
          refine x_iload_n d142_5 rfl ?_
          refine x_goto (pc2 := 10) d142_6 rfl ?_
          refine x_iret d142_10 gR_142 ?_
          show Ex (d + 1) 220 92 [some (.inr 137), some (.inl x1), some (.inl x2), some (.inl x3), some (.inl x4), some (.inl (I 143 (I 138 (I 142 (x3).toNat).toNat).toNat - I 143 (I 138 (I 142 (x4).toNat).toNat).toNat))] [.inl (I 170 (x3).toNat), .inl x3, .inr 170] (0, 0, n, sh, R, I) _
          refine x_iast d220_92 (sh_170 hW) e4.1 e4.2 ?_
          have e18 := k.1
          replace k := k.2
          refine x_iinc (ls2 := [some (.inr 137), some (.inl x1), some (.inl x2), some (.inl x3), some (.inl (x4 + 1)), some (.inl (I 143 (I 138 (I 142 (x3).toNat).toNat).toNat - I 143 (I 138 (I 142 (x4).toNat).toNat).toNat))]) d220_93 rfl e18 rfl ?_
          refine x_goto (pc2 := 22) d220_96 rfl ?_
          exact k
set_option maxHeartbeats 4000000 in
theorem b_M_yardQueues_0 {d n : Nat} {sh : ZS} {R : ZR} {I : ZI} {Q : Int → ZI → Prop} (hW : Wf sh R) 
    (k : XI (d + 1) 220 [.inr 137, .inl 0] n sh R I (fun v1 I2 => Q v1 I2)) : XI (d + 2) 221 [.inr 137] n sh R I Q := by
  refine XI.of (ls := [some (.inr 137)]) (zloc_eq gY_221.2.2.1) ?_
  unfold XIs
  refine x_aload_n d221_0 rfl ?_
  refine x_iconst d221_1 rfl ?_
  refine y_invI (as := [.inl 0]) (t := []) (o := 137) gY_220 d221_2 gY_221.2.2.2 gM_12_423 rfl (sh_137 hW) rfl k (fun v1 I2 k => ?_)
  exact x_iret d221_5 gR_221 ⟨_, _, rfl, rfl, k⟩
set_option maxHeartbeats 4000000 in
theorem b_M_yardPipes_0 {d n : Nat} {sh : ZS} {R : ZR} {I : ZI} {Q : Int → ZI → Prop} (hW : Wf sh R) 
    (k : XI (d + 1) 220 [.inr 137, .inl 1] n sh R I (fun v1 I2 => Q v1 I2)) : XI (d + 2) 222 [.inr 137] n sh R I Q := by
  refine XI.of (ls := [some (.inr 137)]) (zloc_eq gY_222.2.2.1) ?_
  unfold XIs
  refine x_aload_n d222_0 rfl ?_
  refine x_iconst d222_1 rfl ?_
  refine y_invI (as := [.inl 1]) (t := []) (o := 137) gY_220 d222_2 gY_222.2.2.2 gM_12_423 rfl (sh_137 hW) rfl k (fun v1 I2 k => ?_)
  exact x_iret d222_5 gR_222 ⟨_, _, rfl, rfl, k⟩
set_option maxHeartbeats 4000000 in
theorem b_M_nextHole_0 {d n : Nat} {sh : ZS} {R : ZR} {I : ZI} {Q : Int → ZI → Prop} (hW : Wf sh R) {x1 : Int} {x2 : Int}
    (k : (0 ≤ x1 ∧ x1 < 32) ∧ (0 ≤ I 142 (x1).toNat ∧ I 142 (x1).toNat < 32) ∧ (0 ≤ I 138 (I 142 (x1).toNat).toNat ∧ I 138 (I 142 (x1).toNat).toNat < 20) ∧ XIs (d + 2) 224 14 [some (.inr 137), some (.inl x1), some (.inl x2), some (.inl (I 143 (I 138 (I 142 (x1).toNat).toNat).toNat)), some (.inl x2), none, none, none] [] n sh R I Q) : XI (d + 2) 224 [.inr 137, .inl x1, .inl x2] n sh R I Q := by
  refine XI.of (ls := [some (.inr 137), some (.inl x1), some (.inl x2), none, none, none, none, none]) (zloc_eq gY_224.2.2.1) ?_
  unfold XIs
  refine x_aload_n d224_0 rfl ?_
  refine x_aload_n d224_1 rfl ?_
  refine x_getR (r := 142) d224_2 gY_224.2.2.2 gF_12_22 rfl (sh_137 hW) (rf_137_10 hW) (by decide) ?_
  refine x_iload_n d224_5 rfl ?_
  have e1 := k.1
  replace k := k.2
  refine x_iald d224_6 (sh_142 hW) e1.1 e1.2 ?_
  refine y_inv (as := [.inl (I 142 (x1).toNat)]) (t := []) (o := 137) (ls2 := [some (.inr 137), some (.inl (I 142 (x1).toNat))]) gY_146 d224_7 gY_224.2.2.2 gM_12_291 rfl (sh_137 hW) rfl rfl ?_
  refine x_aload_n d146_0 rfl ?_
  refine x_getR (r := 143) d146_1 gY_146.2.2.2 gF_12_25 rfl (sh_137 hW) (rf_137_11 hW) (by decide) ?_
  refine x_aload_n d146_4 rfl ?_
  refine x_getR (r := 138) d146_5 gY_146.2.2.2 gF_12_7 rfl (sh_137 hW) (rf_137_6 hW) (by decide) ?_
  refine x_iload_n d146_8 rfl ?_
  have e2 := k.1
  replace k := k.2
  refine x_iald d146_9 (sh_138 hW) e2.1 e2.2 ?_
  have e3 := k.1
  replace k := k.2
  refine x_iald d146_10 (sh_143 hW) e3.1 e3.2 ?_
  refine x_iret d146_11 gR_146 ?_
  show Ex (d + 2) 224 10 [some (.inr 137), some (.inl x1), some (.inl x2), none, none, none, none, none] [.inl (I 143 (I 138 (I 142 (x1).toNat).toNat).toNat)] (0, 0, n, sh, R, I) _
  refine x_istore_n (ls2 := [some (.inr 137), some (.inl x1), some (.inl x2), some (.inl (I 143 (I 138 (I 142 (x1).toNat).toNat).toNat)), none, none, none, none]) d224_10 rfl rfl ?_
  refine x_iload_n d224_11 rfl ?_
  refine x_istore (ls2 := [some (.inr 137), some (.inl x1), some (.inl x2), some (.inl (I 143 (I 138 (I 142 (x1).toNat).toNat).toNat)), some (.inl x2), none, none, none]) d224_12 rfl rfl ?_
  exact k
set_option maxHeartbeats 4000000 in
theorem b_M_nextHole_14 {d n : Nat} {sh : ZS} {R : ZR} {I : ZI} {Q : Int → ZI → Prop} (hW : Wf sh R) {x1 : Int} {u2 : Option AV} {x3 : Int} {x4 : Int} {u5 : Option AV} {u6 : Option AV} {u7 : Option AV}
    (k : (if I 137 3 ≤ x4 then Q (-1) I else (zr (10 * x1)) ∧ (zr ((10 * x1) + x4)) ∧ (0 ≤ ((10 * x1) + x4) ∧ ((10 * x1) + x4) < 110) ∧ (if I 172 ((10 * x1) + x4).toNat = (-1) then XIs (d + 2) 224 58 [some (.inr 137), some (.inl x1), u2, some (.inl x3), some (.inl x4), some (.inl (I 172 ((10 * x1) + x4).toNat)), some (.inl 0), some (.inl 0)] [] n sh R I Q else (if ¬ (zand (zshr (I 137 4) x4) 1) = 1 then (if x3 < I 172 ((10 * x1) + x4).toNat then (zr (x4 + 1)) ∧ XIs (d + 2) 224 14 [some (.inr 137), some (.inl x1), u2, some (.inl x3), some (.inl (x4 + 1)), some (.inl (I 172 ((10 * x1) + x4).toNat)), u6, u7] [] n sh R I Q else XIs (d + 2) 224 58 [some (.inr 137), some (.inl x1), u2, some (.inl x3), some (.inl x4), some (.inl (I 172 ((10 * x1) + x4).toNat)), some (.inl 0), some (.inl 0)] [] n sh R I Q) else (if I 172 ((10 * x1) + x4).toNat < x3 then (zr (x4 + 1)) ∧ XIs (d + 2) 224 14 [some (.inr 137), some (.inl x1), u2, some (.inl x3), some (.inl (x4 + 1)), some (.inl (I 172 ((10 * x1) + x4).toNat)), u6, u7] [] n sh R I Q else XIs (d + 2) 224 58 [some (.inr 137), some (.inl x1), u2, some (.inl x3), some (.inl x4), some (.inl (I 172 ((10 * x1) + x4).toNat)), some (.inl 0), some (.inl 0)] [] n sh R I Q))))) : XIs (d + 2) 224 14 [some (.inr 137), some (.inl x1), u2, some (.inl x3), some (.inl x4), u5, u6, u7] [] n sh R I Q := by
  unfold XIs
  refine x_iload d224_14 rfl ?_
  refine x_aload_n d224_16 rfl ?_
  refine x_getI d224_17 gY_224.2.2.2 gF_12_156 rfl (sh_137 hW) ?_
  refine x_if2 (pc2 := 140) d224_20 rfl (fun c => ?_) (fun c => ?_)
  · replace c : I 137 3 ≤ x4 := c
    rw [if_pos c] at k
    refine x_iconst d224_140 rfl ?_
    exact x_iret d224_141 gR_224 ⟨_, _, rfl, rfl, k⟩
  · replace c : ¬ (I 137 3 ≤ x4) := c
    rw [if_neg c] at k
    refine x_aload_n d224_23 rfl ?_
    refine x_getR (r := 172) d224_24 gY_224.2.2.2 gF_12_113 rfl (sh_137 hW) (rf_137_57 hW) (by decide) ?_
    refine x_bipush d224_27 rfl ?_
    refine x_iload_n d224_29 rfl ?_
    have e1 := k.1
    replace k := k.2
    refine x_imul d224_30 e1 ?_
    refine x_iload d224_31 rfl ?_
    have e2 := k.1
    replace k := k.2
    refine x_iadd d224_33 e2 ?_
    have e3 := k.1
    replace k := k.2
    refine x_iald d224_34 (sh_172 hW) e3.1 e3.2 ?_
    refine x_istore (ls2 := [some (.inr 137), some (.inl x1), u2, some (.inl x3), some (.inl x4), some (.inl (I 172 ((10 * x1) + x4).toNat)), u6, u7]) d224_35 rfl rfl ?_
    refine x_aload_n d224_37 rfl ?_
    refine x_iload d224_38 rfl ?_
    refine x_iload d224_40 rfl ?_
    refine x_iload_n d224_42 rfl ?_
    refine y_inv (as := [.inl x4, .inl (I 172 ((10 * x1) + x4).toNat), .inl x3]) (t := []) (o := 137) (ls2 := [some (.inr 137), some (.inl x4), some (.inl (I 172 ((10 * x1) + x4).toNat)), some (.inl x3)]) gY_223 d224_43 gY_224.2.2.2 gM_12_427 rfl (sh_137 hW) rfl rfl ?_
    refine x_iload_n d223_0 rfl ?_
    refine x_iconst d223_1 rfl ?_
    refine x_if2 (pc2 := 29) d223_2 rfl (fun c => ?_) (fun c => ?_)
    · replace c : I 172 ((10 * x1) + x4).toNat = (-1) := c
      rw [if_pos c] at k
      refine x_iconst d223_29 rfl ?_
      refine x_goto (pc2 := 34) d223_30 rfl ?_
      refine x_zret d223_34 gR_223 (by decide) ?_
      show Ex (d + 2) 224 46 [some (.inr 137), some (.inl x1), u2, some (.inl x3), some (.inl x4), some (.inl (I 172 ((10 * x1) + x4).toNat)), u6, u7] [.inl 1] (0, 0, n, sh, R, I) _
      refine x_if1 (pc2 := 52) d224_46 rfl (fun _ => ?_) (fun c => absurd (show ¬ (1 : Int) = 0 by decide) c)
      refine x_iconst d224_52 rfl ?_
      refine x_istore (ls2 := [some (.inr 137), some (.inl x1), u2, some (.inl x3), some (.inl x4), some (.inl (I 172 ((10 * x1) + x4).toNat)), some (.inl 0), u7]) d224_53 rfl rfl ?_
      refine x_iconst d224_55 rfl ?_
      refine x_istore (ls2 := [some (.inr 137), some (.inl x1), u2, some (.inl x3), some (.inl x4), some (.inl (I 172 ((10 * x1) + x4).toNat)), some (.inl 0), some (.inl 0)]) d224_56 rfl rfl ?_
      exact k
    · replace c : ¬ (I 172 ((10 * x1) + x4).toNat = (-1)) := c
      rw [if_neg c] at k
      refine x_aload_n d223_5 rfl ?_
      refine x_getI d223_6 gY_223.2.2.2 gF_12_180 rfl (sh_137 hW) ?_
      refine x_iload_n d223_9 rfl ?_
      refine y_ins (as := [.inl (I 137 4), .inl x4]) (t := []) (ls2 := [some (.inl (I 137 4)), some (.inl x4)]) gY_143 d223_10 gY_223.2.2.2 gM_12_300 rfl rfl rfl ?_
      refine x_iload_n d143_0 rfl ?_
      refine x_iload_n d143_1 rfl ?_
      refine x_ishr d143_2 ?_
      refine x_iconst d143_3 rfl ?_
      refine x_iand d143_4 ?_
      refine x_iconst d143_5 rfl ?_
      refine x_if2 (pc2 := 13) d143_6 rfl (fun c => ?_) (fun c => ?_)
      · replace c : ¬ (zand (zshr (I 137 4) x4) 1) = 1 := c
        rw [if_pos c] at k
        refine x_iconst d143_13 rfl ?_
        refine x_zret d143_14 gR_143 (by decide) ?_
        show Ex (d + 1) 223 13 [some (.inr 137), some (.inl x4), some (.inl (I 172 ((10 * x1) + x4).toNat)), some (.inl x3)] [.inl 0] (0, 0, n, sh, R, I) _
        refine x_if1 (pc2 := 24) d223_13 rfl (fun _ => ?_) (fun c => absurd (show (0 : Int) = 0 by decide) c)
        refine x_iload_n d223_24 rfl ?_
        refine x_iload_n d223_25 rfl ?_
        refine x_if2 (pc2 := 33) d223_26 rfl (fun c => ?_) (fun c => ?_)
        · replace c : x3 < I 172 ((10 * x1) + x4).toNat := c
          rw [if_pos c] at k
          refine x_iconst d223_33 rfl ?_
          refine x_zret d223_34 gR_223 (by decide) ?_
          show Ex (d + 2) 224 46 [some (.inr 137), some (.inl x1), u2, some (.inl x3), some (.inl x4), some (.inl (I 172 ((10 * x1) + x4).toNat)), u6, u7] [.inl 0] (0, 0, n, sh, R, I) _
          refine x_if1 (pc2 := 52) d224_46 rfl (fun c => absurd (show ¬ (0 : Int) = 0 from c) (by decide)) (fun _ => ?_)
          refine x_goto (pc2 := 134) d224_49 rfl ?_
          have e4 := k.1
          replace k := k.2
          refine x_iinc (ls2 := [some (.inr 137), some (.inl x1), u2, some (.inl x3), some (.inl (x4 + 1)), some (.inl (I 172 ((10 * x1) + x4).toNat)), u6, u7]) d224_134 rfl e4 rfl ?_
          refine x_goto (pc2 := 14) d224_137 rfl ?_
          exact k
        · replace c : ¬ (x3 < I 172 ((10 * x1) + x4).toNat) := c
          rw [if_neg c] at k
          refine x_iconst d223_29 rfl ?_
          refine x_goto (pc2 := 34) d223_30 rfl ?_
          refine x_zret d223_34 gR_223 (by decide) ?_
          show Ex (d + 2) 224 46 [some (.inr 137), some (.inl x1), u2, some (.inl x3), some (.inl x4), some (.inl (I 172 ((10 * x1) + x4).toNat)), u6, u7] [.inl 1] (0, 0, n, sh, R, I) _
          refine x_if1 (pc2 := 52) d224_46 rfl (fun _ => ?_) (fun c => absurd (show ¬ (1 : Int) = 0 by decide) c)
          refine x_iconst d224_52 rfl ?_
          refine x_istore (ls2 := [some (.inr 137), some (.inl x1), u2, some (.inl x3), some (.inl x4), some (.inl (I 172 ((10 * x1) + x4).toNat)), some (.inl 0), u7]) d224_53 rfl rfl ?_
          refine x_iconst d224_55 rfl ?_
          refine x_istore (ls2 := [some (.inr 137), some (.inl x1), u2, some (.inl x3), some (.inl x4), some (.inl (I 172 ((10 * x1) + x4).toNat)), some (.inl 0), some (.inl 0)]) d224_56 rfl rfl ?_
          exact k
      · replace c : ¬ (¬ (zand (zshr (I 137 4) x4) 1) = 1) := c
        rw [if_neg c] at k
        refine x_iconst d143_9 rfl ?_
        refine x_goto (pc2 := 14) d143_10 rfl ?_
        refine x_zret d143_14 gR_143 (by decide) ?_
        show Ex (d + 1) 223 13 [some (.inr 137), some (.inl x4), some (.inl (I 172 ((10 * x1) + x4).toNat)), some (.inl x3)] [.inl 1] (0, 0, n, sh, R, I) _
        refine x_if1 (pc2 := 24) d223_13 rfl (fun c => absurd (show (1 : Int) = 0 from c) (by decide)) (fun _ => ?_)
        refine x_iload_n d223_16 rfl ?_
        refine x_iload_n d223_17 rfl ?_
        refine x_if2 (pc2 := 33) d223_18 rfl (fun c => ?_) (fun c => ?_)
        · replace c : I 172 ((10 * x1) + x4).toNat < x3 := c
          rw [if_pos c] at k
          refine x_iconst d223_33 rfl ?_
          refine x_zret d223_34 gR_223 (by decide) ?_
          show Ex (d + 2) 224 46 [some (.inr 137), some (.inl x1), u2, some (.inl x3), some (.inl x4), some (.inl (I 172 ((10 * x1) + x4).toNat)), u6, u7] [.inl 0] (0, 0, n, sh, R, I) _
          refine x_if1 (pc2 := 52) d224_46 rfl (fun c => absurd (show ¬ (0 : Int) = 0 from c) (by decide)) (fun _ => ?_)
          refine x_goto (pc2 := 134) d224_49 rfl ?_
          have e5 := k.1
          replace k := k.2
          refine x_iinc (ls2 := [some (.inr 137), some (.inl x1), u2, some (.inl x3), some (.inl (x4 + 1)), some (.inl (I 172 ((10 * x1) + x4).toNat)), u6, u7]) d224_134 rfl e5 rfl ?_
          refine x_goto (pc2 := 14) d224_137 rfl ?_
          exact k
        · replace c : ¬ (I 172 ((10 * x1) + x4).toNat < x3) := c
          rw [if_neg c] at k
          refine x_goto (pc2 := 29) d223_21 rfl ?_
          refine x_iconst d223_29 rfl ?_
          refine x_goto (pc2 := 34) d223_30 rfl ?_
          refine x_zret d223_34 gR_223 (by decide) ?_
          show Ex (d + 2) 224 46 [some (.inr 137), some (.inl x1), u2, some (.inl x3), some (.inl x4), some (.inl (I 172 ((10 * x1) + x4).toNat)), u6, u7] [.inl 1] (0, 0, n, sh, R, I) _
          refine x_if1 (pc2 := 52) d224_46 rfl (fun _ => ?_) (fun c => absurd (show ¬ (1 : Int) = 0 by decide) c)
          refine x_iconst d224_52 rfl ?_
          refine x_istore (ls2 := [some (.inr 137), some (.inl x1), u2, some (.inl x3), some (.inl x4), some (.inl (I 172 ((10 * x1) + x4).toNat)), some (.inl 0), u7]) d224_53 rfl rfl ?_
          refine x_iconst d224_55 rfl ?_
          refine x_istore (ls2 := [some (.inr 137), some (.inl x1), u2, some (.inl x3), some (.inl x4), some (.inl (I 172 ((10 * x1) + x4).toNat)), some (.inl 0), some (.inl 0)]) d224_56 rfl rfl ?_
          exact k
set_option maxHeartbeats 4000000 in
theorem b_M_nextHole_58 {d n : Nat} {sh : ZS} {R : ZR} {I : ZI} {Q : Int → ZI → Prop} (hW : Wf sh R) {x1 : Int} {u2 : Option AV} {x3 : Int} {x4 : Int} {x5 : Int} {x6 : Int} {x7 : Int}
    (k : (if x4 ≤ x7 then (if ¬ x6 = 0 then (zr (x4 + 1)) ∧ XIs (d + 2) 224 14 [some (.inr 137), some (.inl x1), u2, some (.inl x3), some (.inl (x4 + 1)), some (.inl x5), some (.inl x6), some (.inl x7)] [] n sh R I Q else Q x4 I) else (if ¬ x5 = (-1) then (if ¬ x6 = 0 then (zr (x4 + 1)) ∧ XIs (d + 2) 224 14 [some (.inr 137), some (.inl x1), u2, some (.inl x3), some (.inl (x4 + 1)), some (.inl x5), some (.inl x6), some (.inl x7)] [] n sh R I Q else Q x4 I) else (if ¬ x6 = 0 then (zr (x7 + 1)) ∧ XIs (d + 2) 224 58 [some (.inr 137), some (.inl x1), u2, some (.inl x3), some (.inl x4), some (.inl x5), some (.inl 1), some (.inl (x7 + 1))] [] n sh R I Q else (zr (10 * x1)) ∧ (zr ((10 * x1) + x7)) ∧ (0 ≤ ((10 * x1) + x7) ∧ ((10 * x1) + x7) < 110) ∧ (if ¬ I 172 ((10 * x1) + x7).toNat = (-1) then (zr (x7 + 1)) ∧ XIs (d + 2) 224 58 [some (.inr 137), some (.inl x1), u2, some (.inl x3), some (.inl x4), some (.inl x5), some (.inl 0), some (.inl (x7 + 1))] [] n sh R I Q else (if ¬ (zand (zshr (I 137 4) x7) 1) = 1 then (if ¬ (zand (zshr (I 137 4) x4) 1) = 1 then (zr (x7 + 1)) ∧ XIs (d + 2) 224 58 [some (.inr 137), some (.inl x1), u2, some (.inl x3), some (.inl x4), some (.inl x5), some (.inl 1), some (.inl (x7 + 1))] [] n sh R I Q else (zr (x7 + 1)) ∧ XIs (d + 2) 224 58 [some (.inr 137), some (.inl x1), u2, some (.inl x3), some (.inl x4), some (.inl x5), some (.inl 0), some (.inl (x7 + 1))] [] n sh R I Q) else (if ¬ (zand (zshr (I 137 4) x4) 1) = 1 then (zr (x7 + 1)) ∧ XIs (d + 2) 224 58 [some (.inr 137), some (.inl x1), u2, some (.inl x3), some (.inl x4), some (.inl x5), some (.inl 0), some (.inl (x7 + 1))] [] n sh R I Q else (zr (x7 + 1)) ∧ XIs (d + 2) 224 58 [some (.inr 137), some (.inl x1), u2, some (.inl x3), some (.inl x4), some (.inl x5), some (.inl 1), some (.inl (x7 + 1))] [] n sh R I Q))))))) : XIs (d + 2) 224 58 [some (.inr 137), some (.inl x1), u2, some (.inl x3), some (.inl x4), some (.inl x5), some (.inl x6), some (.inl x7)] [] n sh R I Q := by
  unfold XIs
  refine x_iload d224_58 rfl ?_
  refine x_iload d224_60 rfl ?_
  refine x_if2 (pc2 := 126) d224_62 rfl (fun c => ?_) (fun c => ?_)
  · replace c : x4 ≤ x7 := c
    rw [if_pos c] at k
    refine x_iload d224_126 rfl ?_
    refine x_if1 (pc2 := 134) d224_128 rfl (fun c => ?_) (fun c => ?_)
    · replace c : ¬ x6 = 0 := c
      rw [if_pos c] at k
      have e1 := k.1
      replace k := k.2
      refine x_iinc (ls2 := [some (.inr 137), some (.inl x1), u2, some (.inl x3), some (.inl (x4 + 1)), some (.inl x5), some (.inl x6), some (.inl x7)]) d224_134 rfl e1 rfl ?_
      refine x_goto (pc2 := 14) d224_137 rfl ?_
      exact k
    · replace c : ¬ (¬ x6 = 0) := c
      rw [if_neg c] at k
      refine x_iload d224_131 rfl ?_
      exact x_iret d224_133 gR_224 ⟨_, _, rfl, rfl, k⟩
  · replace c : ¬ (x4 ≤ x7) := c
    rw [if_neg c] at k
    refine x_iload d224_65 rfl ?_
    refine x_iconst d224_67 rfl ?_
    refine x_if2 (pc2 := 126) d224_68 rfl (fun c => ?_) (fun c => ?_)
    · replace c : ¬ x5 = (-1) := c
      rw [if_pos c] at k
      refine x_iload d224_126 rfl ?_
      refine x_if1 (pc2 := 134) d224_128 rfl (fun c => ?_) (fun c => ?_)
      · replace c : ¬ x6 = 0 := c
        rw [if_pos c] at k
        have e2 := k.1
        replace k := k.2
        refine x_iinc (ls2 := [some (.inr 137), some (.inl x1), u2, some (.inl x3), some (.inl (x4 + 1)), some (.inl x5), some (.inl x6), some (.inl x7)]) d224_134 rfl e2 rfl ?_
        refine x_goto (pc2 := 14) d224_137 rfl ?_
        exact k
      · replace c : ¬ (¬ x6 = 0) := c
        rw [if_neg c] at k
        refine x_iload d224_131 rfl ?_
        exact x_iret d224_133 gR_224 ⟨_, _, rfl, rfl, k⟩
    · replace c : ¬ (¬ x5 = (-1)) := c
      rw [if_neg c] at k
      refine x_iload d224_71 rfl ?_
      refine x_if1 (pc2 := 113) d224_73 rfl (fun c => ?_) (fun c => ?_)
      · replace c : ¬ x6 = 0 := c
        rw [if_pos c] at k
        refine x_iconst d224_113 rfl ?_
        refine x_goto (pc2 := 118) d224_114 rfl ?_
        refine x_istore (ls2 := [some (.inr 137), some (.inl x1), u2, some (.inl x3), some (.inl x4), some (.inl x5), some (.inl 1), some (.inl x7)]) d224_118 rfl rfl ?_
        have e3 := k.1
        replace k := k.2
        refine x_iinc (ls2 := [some (.inr 137), some (.inl x1), u2, some (.inl x3), some (.inl x4), some (.inl x5), some (.inl 1), some (.inl (x7 + 1))]) d224_120 rfl e3 rfl ?_
        refine x_goto (pc2 := 58) d224_123 rfl ?_
        exact k
      · replace c : ¬ (¬ x6 = 0) := c
        rw [if_neg c] at k
        refine x_aload_n d224_76 rfl ?_
        refine x_getR (r := 172) d224_77 gY_224.2.2.2 gF_12_113 rfl (sh_137 hW) (rf_137_57 hW) (by decide) ?_
        refine x_bipush d224_80 rfl ?_
        refine x_iload_n d224_82 rfl ?_
        have e4 := k.1
        replace k := k.2
        refine x_imul d224_83 e4 ?_
        refine x_iload d224_84 rfl ?_
        have e5 := k.1
        replace k := k.2
        refine x_iadd d224_86 e5 ?_
        have e6 := k.1
        replace k := k.2
        refine x_iald d224_87 (sh_172 hW) e6.1 e6.2 ?_
        refine x_iconst d224_88 rfl ?_
        refine x_if2 (pc2 := 117) d224_89 rfl (fun c => ?_) (fun c => ?_)
        · replace c : ¬ I 172 ((10 * x1) + x7).toNat = (-1) := c
          rw [if_pos c] at k
          refine x_iconst d224_117 rfl ?_
          refine x_istore (ls2 := [some (.inr 137), some (.inl x1), u2, some (.inl x3), some (.inl x4), some (.inl x5), some (.inl 0), some (.inl x7)]) d224_118 rfl rfl ?_
          have e7 := k.1
          replace k := k.2
          refine x_iinc (ls2 := [some (.inr 137), some (.inl x1), u2, some (.inl x3), some (.inl x4), some (.inl x5), some (.inl 0), some (.inl (x7 + 1))]) d224_120 rfl e7 rfl ?_
          refine x_goto (pc2 := 58) d224_123 rfl ?_
          exact k
        · replace c : ¬ (¬ I 172 ((10 * x1) + x7).toNat = (-1)) := c
          rw [if_neg c] at k
          refine x_aload_n d224_92 rfl ?_
          refine x_getI d224_93 gY_224.2.2.2 gF_12_180 rfl (sh_137 hW) ?_
          refine x_iload d224_96 rfl ?_
          refine y_ins (as := [.inl (I 137 4), .inl x7]) (t := []) (ls2 := [some (.inl (I 137 4)), some (.inl x7)]) gY_143 d224_98 gY_224.2.2.2 gM_12_300 rfl rfl rfl ?_
          refine x_iload_n d143_0 rfl ?_
          refine x_iload_n d143_1 rfl ?_
          refine x_ishr d143_2 ?_
          refine x_iconst d143_3 rfl ?_
          refine x_iand d143_4 ?_
          refine x_iconst d143_5 rfl ?_
          refine x_if2 (pc2 := 13) d143_6 rfl (fun c => ?_) (fun c => ?_)
          · replace c : ¬ (zand (zshr (I 137 4) x7) 1) = 1 := c
            rw [if_pos c] at k
            refine x_iconst d143_13 rfl ?_
            refine x_zret d143_14 gR_143 (by decide) ?_
            show Ex (d + 2) 224 101 [some (.inr 137), some (.inl x1), u2, some (.inl x3), some (.inl x4), some (.inl x5), some (.inl x6), some (.inl x7)] [.inl 0] (0, 0, n, sh, R, I) _
            refine x_aload_n d224_101 rfl ?_
            refine x_getI d224_102 gY_224.2.2.2 gF_12_180 rfl (sh_137 hW) ?_
            refine x_iload d224_105 rfl ?_
            refine y_ins (as := [.inl (I 137 4), .inl x4]) (t := [.inl 0]) (ls2 := [some (.inl (I 137 4)), some (.inl x4)]) gY_143 d224_107 gY_224.2.2.2 gM_12_300 rfl rfl rfl ?_
            refine x_iload_n d143_0 rfl ?_
            refine x_iload_n d143_1 rfl ?_
            refine x_ishr d143_2 ?_
            refine x_iconst d143_3 rfl ?_
            refine x_iand d143_4 ?_
            refine x_iconst d143_5 rfl ?_
            refine x_if2 (pc2 := 13) d143_6 rfl (fun c => ?_) (fun c => ?_)
            · replace c : ¬ (zand (zshr (I 137 4) x4) 1) = 1 := c
              rw [if_pos c] at k
              refine x_iconst d143_13 rfl ?_
              refine x_zret d143_14 gR_143 (by decide) ?_
              show Ex (d + 2) 224 110 [some (.inr 137), some (.inl x1), u2, some (.inl x3), some (.inl x4), some (.inl x5), some (.inl x6), some (.inl x7)] [.inl 0, .inl 0] (0, 0, n, sh, R, I) _
              refine x_if2 (pc2 := 117) d224_110 rfl (fun c => absurd (show ¬ (0 : Int) = 0 from c) (by decide)) (fun _ => ?_)
              refine x_iconst d224_113 rfl ?_
              refine x_goto (pc2 := 118) d224_114 rfl ?_
              refine x_istore (ls2 := [some (.inr 137), some (.inl x1), u2, some (.inl x3), some (.inl x4), some (.inl x5), some (.inl 1), some (.inl x7)]) d224_118 rfl rfl ?_
              have e8 := k.1
              replace k := k.2
              refine x_iinc (ls2 := [some (.inr 137), some (.inl x1), u2, some (.inl x3), some (.inl x4), some (.inl x5), some (.inl 1), some (.inl (x7 + 1))]) d224_120 rfl e8 rfl ?_
              refine x_goto (pc2 := 58) d224_123 rfl ?_
              exact k
            · replace c : ¬ (¬ (zand (zshr (I 137 4) x4) 1) = 1) := c
              rw [if_neg c] at k
              refine x_iconst d143_9 rfl ?_
              refine x_goto (pc2 := 14) d143_10 rfl ?_
              refine x_zret d143_14 gR_143 (by decide) ?_
              show Ex (d + 2) 224 110 [some (.inr 137), some (.inl x1), u2, some (.inl x3), some (.inl x4), some (.inl x5), some (.inl x6), some (.inl x7)] [.inl 1, .inl 0] (0, 0, n, sh, R, I) _
              refine x_if2 (pc2 := 117) d224_110 rfl (fun _ => ?_) (fun c => absurd (show ¬ (0 : Int) = 1 by decide) c)
              refine x_iconst d224_117 rfl ?_
              refine x_istore (ls2 := [some (.inr 137), some (.inl x1), u2, some (.inl x3), some (.inl x4), some (.inl x5), some (.inl 0), some (.inl x7)]) d224_118 rfl rfl ?_
              have e9 := k.1
              replace k := k.2
              refine x_iinc (ls2 := [some (.inr 137), some (.inl x1), u2, some (.inl x3), some (.inl x4), some (.inl x5), some (.inl 0), some (.inl (x7 + 1))]) d224_120 rfl e9 rfl ?_
              refine x_goto (pc2 := 58) d224_123 rfl ?_
              exact k
          · replace c : ¬ (¬ (zand (zshr (I 137 4) x7) 1) = 1) := c
            rw [if_neg c] at k
            refine x_iconst d143_9 rfl ?_
            refine x_goto (pc2 := 14) d143_10 rfl ?_
            refine x_zret d143_14 gR_143 (by decide) ?_
            show Ex (d + 2) 224 101 [some (.inr 137), some (.inl x1), u2, some (.inl x3), some (.inl x4), some (.inl x5), some (.inl x6), some (.inl x7)] [.inl 1] (0, 0, n, sh, R, I) _
            refine x_aload_n d224_101 rfl ?_
            refine x_getI d224_102 gY_224.2.2.2 gF_12_180 rfl (sh_137 hW) ?_
            refine x_iload d224_105 rfl ?_
            refine y_ins (as := [.inl (I 137 4), .inl x4]) (t := [.inl 1]) (ls2 := [some (.inl (I 137 4)), some (.inl x4)]) gY_143 d224_107 gY_224.2.2.2 gM_12_300 rfl rfl rfl ?_
            refine x_iload_n d143_0 rfl ?_
            refine x_iload_n d143_1 rfl ?_
            refine x_ishr d143_2 ?_
            refine x_iconst d143_3 rfl ?_
            refine x_iand d143_4 ?_
            refine x_iconst d143_5 rfl ?_
            refine x_if2 (pc2 := 13) d143_6 rfl (fun c => ?_) (fun c => ?_)
            · replace c : ¬ (zand (zshr (I 137 4) x4) 1) = 1 := c
              rw [if_pos c] at k
              refine x_iconst d143_13 rfl ?_
              refine x_zret d143_14 gR_143 (by decide) ?_
              show Ex (d + 2) 224 110 [some (.inr 137), some (.inl x1), u2, some (.inl x3), some (.inl x4), some (.inl x5), some (.inl x6), some (.inl x7)] [.inl 0, .inl 1] (0, 0, n, sh, R, I) _
              refine x_if2 (pc2 := 117) d224_110 rfl (fun _ => ?_) (fun c => absurd (show ¬ (1 : Int) = 0 by decide) c)
              refine x_iconst d224_117 rfl ?_
              refine x_istore (ls2 := [some (.inr 137), some (.inl x1), u2, some (.inl x3), some (.inl x4), some (.inl x5), some (.inl 0), some (.inl x7)]) d224_118 rfl rfl ?_
              have e10 := k.1
              replace k := k.2
              refine x_iinc (ls2 := [some (.inr 137), some (.inl x1), u2, some (.inl x3), some (.inl x4), some (.inl x5), some (.inl 0), some (.inl (x7 + 1))]) d224_120 rfl e10 rfl ?_
              refine x_goto (pc2 := 58) d224_123 rfl ?_
              exact k
            · replace c : ¬ (¬ (zand (zshr (I 137 4) x4) 1) = 1) := c
              rw [if_neg c] at k
              refine x_iconst d143_9 rfl ?_
              refine x_goto (pc2 := 14) d143_10 rfl ?_
              refine x_zret d143_14 gR_143 (by decide) ?_
              show Ex (d + 2) 224 110 [some (.inr 137), some (.inl x1), u2, some (.inl x3), some (.inl x4), some (.inl x5), some (.inl x6), some (.inl x7)] [.inl 1, .inl 1] (0, 0, n, sh, R, I) _
              refine x_if2 (pc2 := 117) d224_110 rfl (fun c => absurd (show ¬ (1 : Int) = 1 from c) (by decide)) (fun _ => ?_)
              refine x_iconst d224_113 rfl ?_
              refine x_goto (pc2 := 118) d224_114 rfl ?_
              refine x_istore (ls2 := [some (.inr 137), some (.inl x1), u2, some (.inl x3), some (.inl x4), some (.inl x5), some (.inl 1), some (.inl x7)]) d224_118 rfl rfl ?_
              have e11 := k.1
              replace k := k.2
              refine x_iinc (ls2 := [some (.inr 137), some (.inl x1), u2, some (.inl x3), some (.inl x4), some (.inl x5), some (.inl 1), some (.inl (x7 + 1))]) d224_120 rfl e11 rfl ?_
              refine x_goto (pc2 := 58) d224_123 rfl ?_
              exact k
set_option maxHeartbeats 4000000 in
theorem b_M_canYard_0 {d n : Nat} {sh : ZS} {R : ZR} {I : ZI} {Q : Int → ZI → Prop} (hW : Wf sh R) {x1 : Int}
    (k : XIs (d + 3) 225 2 [some (.inr 137), some (.inl x1), some (.inl 0), none, none] [] n sh R I Q) : XI (d + 3) 225 [.inr 137, .inl x1] n sh R I Q := by
  refine XI.of (ls := [some (.inr 137), some (.inl x1), none, none, none]) (zloc_eq gY_225.2.2.1) ?_
  unfold XIs
  refine x_iconst d225_0 rfl ?_
  refine x_istore_n (ls2 := [some (.inr 137), some (.inl x1), some (.inl 0), none, none]) d225_1 rfl rfl ?_
  exact k
set_option maxHeartbeats 4000000 in
theorem b_M_canYard_2 {d n : Nat} {sh : ZS} {R : ZR} {I : ZI} {Q : Int → ZI → Prop} (hW : Wf sh R) {x1 : Int} {x2 : Int} {u3 : Option AV} {u4 : Option AV}
    (k : (if 10 ≤ x2 then XIs (d + 3) 225 30 [some (.inr 137), some (.inl x1), some (.inl 0), u3, u4] [] n sh R (zup I 171 0 (-1)) Q else (0 ≤ x2 ∧ x2 < 110) ∧ (zr (x2 + 1)) ∧ XIs (d + 3) 225 2 [some (.inr 137), some (.inl x1), some (.inl (x2 + 1)), u3, u4] [] n sh R (zup I 172 (x2).toNat (-1)) Q)) : XIs (d + 3) 225 2 [some (.inr 137), some (.inl x1), some (.inl x2), u3, u4] [] n sh R I Q := by
  unfold XIs
  refine x_iload_n d225_2 rfl ?_
  refine x_bipush d225_3 rfl ?_
  refine x_if2 (pc2 := 21) d225_5 rfl (fun c => ?_) (fun c => ?_)
  · replace c : 10 ≤ x2 := c
    rw [if_pos c] at k
    refine x_iconst d225_21 rfl ?_
    refine x_istore_n (ls2 := [some (.inr 137), some (.inl x1), some (.inl 0), u3, u4]) d225_22 rfl rfl ?_
    refine x_aload_n d225_23 rfl ?_
    refine x_getR (r := 171) d225_24 gY_225.2.2.2 gF_12_110 rfl (sh_137 hW) (rf_137_56 hW) (by decide) ?_
    refine x_iconst d225_27 rfl ?_
    refine x_iconst d225_28 rfl ?_
    refine x_iast d225_29 (sh_171 hW) (by decide) (by decide) ?_
    exact k
  · replace c : ¬ (10 ≤ x2) := c
    rw [if_neg c] at k
    refine x_aload_n d225_8 rfl ?_
    refine x_getR (r := 172) d225_9 gY_225.2.2.2 gF_12_113 rfl (sh_137 hW) (rf_137_57 hW) (by decide) ?_
    refine x_iload_n d225_12 rfl ?_
    refine x_iconst d225_13 rfl ?_
    have e1 := k.1
    replace k := k.2
    refine x_iast d225_14 (sh_172 hW) e1.1 e1.2 ?_
    have e2 := k.1
    replace k := k.2
    refine x_iinc (ls2 := [some (.inr 137), some (.inl x1), some (.inl (x2 + 1)), u3, u4]) d225_15 rfl e2 rfl ?_
    refine x_goto (pc2 := 2) d225_18 rfl ?_
    exact k
set_option maxHeartbeats 4000000 in
theorem b_M_canYard_30 {d n : Nat} {sh : ZS} {R : ZR} {I : ZI} {Q : Int → ZI → Prop} (hW : Wf sh R) {x1 : Int} {x2 : Int} {u3 : Option AV} {u4 : Option AV}
    (k : (if x2 < 0 then Q 0 I else (0 ≤ x2 ∧ x2 < 10) ∧ (zr (I 171 (x2).toNat + 1)) ∧ XI (d + 2) 224 [.inr 137, .inl x2, .inl (I 171 (x2).toNat + 1)] n sh R I (fun v3 I4 => (if ¬ v3 = (-1) then (zr (x2 + 1)) ∧ (if ¬ (x2 + 1) = x1 then XIs (d + 3) 225 79 [some (.inr 137), some (.inl x1), some (.inl x2), some (.inl v3), some (.inl 0)] [] n sh R (zup I4 171 (x2).toNat v3) Q else Q 1 (zup I4 171 (x2).toNat v3)) else (zr (x2 - 1)) ∧ XIs (d + 3) 225 30 [some (.inr 137), some (.inl x1), some (.inl (x2 - 1)), some (.inl v3), u4] [] n sh R I4 Q)))) : XIs (d + 3) 225 30 [some (.inr 137), some (.inl x1), some (.inl x2), u3, u4] [] n sh R I Q := by
  unfold XIs
  refine x_iload_n d225_30 rfl ?_
  refine x_if1 (pc2 := 157) d225_31 rfl (fun c => ?_) (fun c => ?_)
  · replace c : x2 < 0 := c
    rw [if_pos c] at k
    refine x_iconst d225_157 rfl ?_
    exact x_zret d225_158 gR_225 (by decide) ⟨_, _, rfl, rfl, k⟩
  · replace c : ¬ (x2 < 0) := c
    rw [if_neg c] at k
    refine x_aload_n d225_34 rfl ?_
    refine x_iload_n d225_35 rfl ?_
    refine x_aload_n d225_36 rfl ?_
    refine x_getR (r := 171) d225_37 gY_225.2.2.2 gF_12_110 rfl (sh_137 hW) (rf_137_56 hW) (by decide) ?_
    refine x_iload_n d225_40 rfl ?_
    have e1 := k.1
    replace k := k.2
    refine x_iald d225_41 (sh_171 hW) e1.1 e1.2 ?_
    refine x_iconst d225_42 rfl ?_
    have e2 := k.1
    replace k := k.2
    refine x_iadd d225_43 e2 ?_
    refine y_invI (as := [.inl x2, .inl (I 171 (x2).toNat + 1)]) (t := []) (o := 137) gY_224 d225_44 gY_225.2.2.2 gM_12_430 rfl (sh_137 hW) rfl k (fun v3 I4 k => ?_)
    refine x_istore_n (ls2 := [some (.inr 137), some (.inl x1), some (.inl x2), some (.inl v3), u4]) d225_47 rfl rfl ?_
    refine x_iload_n d225_48 rfl ?_
    refine x_iconst d225_49 rfl ?_
    refine x_if2 (pc2 := 60) d225_50 rfl (fun c => ?_) (fun c => ?_)
    · replace c : ¬ v3 = (-1) := c
      rw [if_pos c] at k
      refine x_aload_n d225_60 rfl ?_
      refine x_getR (r := 171) d225_61 gY_225.2.2.2 gF_12_110 rfl (sh_137 hW) (rf_137_56 hW) (by decide) ?_
      refine x_iload_n d225_64 rfl ?_
      refine x_iload_n d225_65 rfl ?_
      refine x_iast d225_66 (sh_171 hW) e1.1 e1.2 ?_
      refine x_iload_n d225_67 rfl ?_
      refine x_iconst d225_68 rfl ?_
      have e5 := k.1
      replace k := k.2
      refine x_iadd d225_69 e5 ?_
      refine x_iload_n d225_70 rfl ?_
      refine x_if2 (pc2 := 76) d225_71 rfl (fun c => ?_) (fun c => ?_)
      · replace c : ¬ (x2 + 1) = x1 := c
        rw [if_pos c] at k
        refine x_iconst d225_76 rfl ?_
        refine x_istore (ls2 := [some (.inr 137), some (.inl x1), some (.inl x2), some (.inl v3), some (.inl 0)]) d225_77 rfl rfl ?_
        exact k
      · replace c : ¬ (¬ (x2 + 1) = x1) := c
        rw [if_neg c] at k
        refine x_iconst d225_74 rfl ?_
        exact x_zret d225_75 gR_225 (by decide) ⟨_, _, rfl, rfl, k⟩
    · replace c : ¬ (¬ v3 = (-1)) := c
      rw [if_neg c] at k
      refine x_iload_n d225_53 rfl ?_
      refine x_iconst d225_54 rfl ?_
      have e6 := k.1
      replace k := k.2
      refine x_isub d225_55 e6 ?_
      refine x_istore_n (ls2 := [some (.inr 137), some (.inl x1), some (.inl (x2 - 1)), some (.inl v3), u4]) d225_56 rfl rfl ?_
      refine x_goto (pc2 := 30) d225_57 rfl ?_
      exact k
set_option maxHeartbeats 4000000 in
theorem b_M_canYard_79 {d n : Nat} {sh : ZS} {R : ZR} {I : ZI} {Q : Int → ZI → Prop} (hW : Wf sh R) {x1 : Int} {x2 : Int} {x3 : Int} {x4 : Int}
    (k : (if I 137 3 ≤ x4 then (zr (x2 + 1)) ∧ (zr (10 * (x2 + 1))) ∧ (zr ((10 * (x2 + 1)) + x3)) ∧ (0 ≤ x2 ∧ x2 < 32) ∧ (0 ≤ I 142 (x2).toNat ∧ I 142 (x2).toNat < 32) ∧ (0 ≤ I 138 (I 142 (x2).toNat).toNat ∧ I 138 (I 142 (x2).toNat).toNat < 20) ∧ (0 ≤ ((10 * (x2 + 1)) + x3) ∧ ((10 * (x2 + 1)) + x3) < 110) ∧ (0 ≤ (x2 + 1) ∧ (x2 + 1) < 10) ∧ XIs (d + 3) 225 30 [some (.inr 137), some (.inl x1), some (.inl (x2 + 1)), some (.inl x3), some (.inl x4)] [] n sh R (zup (zup I 172 ((10 * (x2 + 1)) + x3).toNat (I 143 (I 138 (I 142 (x2).toNat).toNat).toNat)) 171 (x2 + 1).toNat (-1)) Q else (zr (x2 + 1)) ∧ (zr (10 * (x2 + 1))) ∧ (zr ((10 * (x2 + 1)) + x4)) ∧ (zr (10 * x2)) ∧ (zr ((10 * x2) + x4)) ∧ (0 ≤ ((10 * x2) + x4) ∧ ((10 * x2) + x4) < 110) ∧ (0 ≤ ((10 * (x2 + 1)) + x4) ∧ ((10 * (x2 + 1)) + x4) < 110) ∧ (zr (x4 + 1)) ∧ XIs (d + 3) 225 79 [some (.inr 137), some (.inl x1), some (.inl x2), some (.inl x3), some (.inl (x4 + 1))] [] n sh R (zup I 172 ((10 * (x2 + 1)) + x4).toNat (I 172 ((10 * x2) + x4).toNat)) Q)) : XIs (d + 3) 225 79 [some (.inr 137), some (.inl x1), some (.inl x2), some (.inl x3), some (.inl x4)] [] n sh R I Q := by
  unfold XIs
  refine x_iload d225_79 rfl ?_
  refine x_aload_n d225_81 rfl ?_
  refine x_getI d225_82 gY_225.2.2.2 gF_12_156 rfl (sh_137 hW) ?_
  refine x_if2 (pc2 := 120) d225_85 rfl (fun c => ?_) (fun c => ?_)
  · replace c : I 137 3 ≤ x4 := c
    rw [if_pos c] at k
    refine x_aload_n d225_120 rfl ?_
    refine x_getR (r := 172) d225_121 gY_225.2.2.2 gF_12_113 rfl (sh_137 hW) (rf_137_57 hW) (by decide) ?_
    refine x_bipush d225_124 rfl ?_
    refine x_iload_n d225_126 rfl ?_
    refine x_iconst d225_127 rfl ?_
    have e1 := k.1
    replace k := k.2
    refine x_iadd d225_128 e1 ?_
    have e2 := k.1
    replace k := k.2
    refine x_imul d225_129 e2 ?_
    refine x_iload_n d225_130 rfl ?_
    have e3 := k.1
    replace k := k.2
    refine x_iadd d225_131 e3 ?_
    refine x_aload_n d225_132 rfl ?_
    refine x_aload_n d225_133 rfl ?_
    refine x_getR (r := 142) d225_134 gY_225.2.2.2 gF_12_22 rfl (sh_137 hW) (rf_137_10 hW) (by decide) ?_
    refine x_iload_n d225_137 rfl ?_
    have e4 := k.1
    replace k := k.2
    refine x_iald d225_138 (sh_142 hW) e4.1 e4.2 ?_
    refine y_inv (as := [.inl (I 142 (x2).toNat)]) (t := [.inl ((10 * (x2 + 1)) + x3), .inr 172]) (o := 137) (ls2 := [some (.inr 137), some (.inl (I 142 (x2).toNat))]) gY_146 d225_139 gY_225.2.2.2 gM_12_291 rfl (sh_137 hW) rfl rfl ?_
    refine x_aload_n d146_0 rfl ?_
    refine x_getR (r := 143) d146_1 gY_146.2.2.2 gF_12_25 rfl (sh_137 hW) (rf_137_11 hW) (by decide) ?_
    refine x_aload_n d146_4 rfl ?_
    refine x_getR (r := 138) d146_5 gY_146.2.2.2 gF_12_7 rfl (sh_137 hW) (rf_137_6 hW) (by decide) ?_
    refine x_iload_n d146_8 rfl ?_
    have e5 := k.1
    replace k := k.2
    refine x_iald d146_9 (sh_138 hW) e5.1 e5.2 ?_
    have e6 := k.1
    replace k := k.2
    refine x_iald d146_10 (sh_143 hW) e6.1 e6.2 ?_
    refine x_iret d146_11 gR_146 ?_
    show Ex (d + 3) 225 142 [some (.inr 137), some (.inl x1), some (.inl x2), some (.inl x3), some (.inl x4)] [.inl (I 143 (I 138 (I 142 (x2).toNat).toNat).toNat), .inl ((10 * (x2 + 1)) + x3), .inr 172] (0, 0, n, sh, R, I) _
    have e7 := k.1
    replace k := k.2
    refine x_iast d225_142 (sh_172 hW) e7.1 e7.2 ?_
    refine x_iload_n d225_143 rfl ?_
    refine x_iconst d225_144 rfl ?_
    refine x_iadd d225_145 e1 ?_
    refine x_istore_n (ls2 := [some (.inr 137), some (.inl x1), some (.inl (x2 + 1)), some (.inl x3), some (.inl x4)]) d225_146 rfl rfl ?_
    refine x_aload_n d225_147 rfl ?_
    refine x_getR (r := 171) d225_148 gY_225.2.2.2 gF_12_110 rfl (sh_137 hW) (rf_137_56 hW) (by decide) ?_
    refine x_iload_n d225_151 rfl ?_
    refine x_iconst d225_152 rfl ?_
    have e8 := k.1
    replace k := k.2
    refine x_iast d225_153 (sh_171 hW) e8.1 e8.2 ?_
    refine x_goto (pc2 := 30) d225_154 rfl ?_
    exact k
  · replace c : ¬ (I 137 3 ≤ x4) := c
    rw [if_neg c] at k
    refine x_aload_n d225_88 rfl ?_
    refine x_getR (r := 172) d225_89 gY_225.2.2.2 gF_12_113 rfl (sh_137 hW) (rf_137_57 hW) (by decide) ?_
    refine x_bipush d225_92 rfl ?_
    refine x_iload_n d225_94 rfl ?_
    refine x_iconst d225_95 rfl ?_
    have e9 := k.1
    replace k := k.2
    refine x_iadd d225_96 e9 ?_
    have e10 := k.1
    replace k := k.2
    refine x_imul d225_97 e10 ?_
    refine x_iload d225_98 rfl ?_
    have e11 := k.1
    replace k := k.2
    refine x_iadd d225_100 e11 ?_
    refine x_aload_n d225_101 rfl ?_
    refine x_getR (r := 172) d225_102 gY_225.2.2.2 gF_12_113 rfl (sh_137 hW) (rf_137_57 hW) (by decide) ?_
    refine x_bipush d225_105 rfl ?_
    refine x_iload_n d225_107 rfl ?_
    have e12 := k.1
    replace k := k.2
    refine x_imul d225_108 e12 ?_
    refine x_iload d225_109 rfl ?_
    have e13 := k.1
    replace k := k.2
    refine x_iadd d225_111 e13 ?_
    have e14 := k.1
    replace k := k.2
    refine x_iald d225_112 (sh_172 hW) e14.1 e14.2 ?_
    have e15 := k.1
    replace k := k.2
    refine x_iast d225_113 (sh_172 hW) e15.1 e15.2 ?_
    have e16 := k.1
    replace k := k.2
    refine x_iinc (ls2 := [some (.inr 137), some (.inl x1), some (.inl x2), some (.inl x3), some (.inl (x4 + 1))]) d225_114 rfl e16 rfl ?_
    refine x_goto (pc2 := 79) d225_117 rfl ?_
    exact k
set_option maxHeartbeats 4000000 in
theorem b_M_yard_0 {d n : Nat} {sh : ZS} {R : ZR} {I : ZI} {Q : Int → ZI → Prop} (hW : Wf sh R) {x1 : Int} {x2 : Int}
    (k : (if x1 < 1 then Q (-1) I else (if 10 < x1 then Q (-1) I else (if x1 ≤ I 137 1 then (if x2 < (-1) then Q (-3) I else (if x2 < x1 then XI (d + 3) 225 [.inr 137, .inl x1] n sh R I (fun v1 I2 => (if ¬ x2 = (-1) then (if v1 = 0 then Q (-2) I2 else (0 ≤ x2 ∧ x2 < 10) ∧ Q (I2 171 (x2).toNat) I2) else (if v1 = 0 then Q 0 I2 else Q 1 I2))) else Q (-3) I)) else Q (-1) I)))) : XI (d + 4) 226 [.inr 137, .inl x1, .inl x2] n sh R I Q := by
  refine XI.of (ls := [some (.inr 137), some (.inl x1), some (.inl x2), none]) (zloc_eq gY_226.2.2.1) ?_
  unfold XIs
  refine x_iload_n d226_0 rfl ?_
  refine x_iconst d226_1 rfl ?_
  refine x_bipush d226_2 rfl ?_
  refine y_ins (as := [.inl x1, .inl 1, .inl 10]) (t := []) (ls2 := [some (.inl x1), some (.inl 1), some (.inl 10)]) gY_140 d226_4 gY_226.2.2.2 gM_12_169 rfl rfl rfl ?_
  refine x_iload_n d140_0 rfl ?_
  refine x_iload_n d140_1 rfl ?_
  refine x_if2 (pc2 := 14) d140_2 rfl (fun c => ?_) (fun c => ?_)
  · replace c : x1 < 1 := c
    rw [if_pos c] at k
    refine x_iconst d140_14 rfl ?_
    refine x_zret d140_15 gR_140 (by decide) ?_
    show Ex (d + 4) 226 7 [some (.inr 137), some (.inl x1), some (.inl x2), none] [.inl 0] (0, 0, n, sh, R, I) _
    refine x_if1 (pc2 := 18) d226_7 rfl (fun _ => ?_) (fun c => absurd (show (0 : Int) = 0 by decide) c)
    refine x_iconst d226_18 rfl ?_
    exact x_iret d226_19 gR_226 ⟨_, _, rfl, rfl, k⟩
  · replace c : ¬ (x1 < 1) := c
    rw [if_neg c] at k
    refine x_iload_n d140_5 rfl ?_
    refine x_iload_n d140_6 rfl ?_
    refine x_if2 (pc2 := 14) d140_7 rfl (fun c => ?_) (fun c => ?_)
    · replace c : 10 < x1 := c
      rw [if_pos c] at k
      refine x_iconst d140_14 rfl ?_
      refine x_zret d140_15 gR_140 (by decide) ?_
      show Ex (d + 4) 226 7 [some (.inr 137), some (.inl x1), some (.inl x2), none] [.inl 0] (0, 0, n, sh, R, I) _
      refine x_if1 (pc2 := 18) d226_7 rfl (fun _ => ?_) (fun c => absurd (show (0 : Int) = 0 by decide) c)
      refine x_iconst d226_18 rfl ?_
      exact x_iret d226_19 gR_226 ⟨_, _, rfl, rfl, k⟩
    · replace c : ¬ (10 < x1) := c
      rw [if_neg c] at k
      refine x_iconst d140_10 rfl ?_
      refine x_goto (pc2 := 15) d140_11 rfl ?_
      refine x_zret d140_15 gR_140 (by decide) ?_
      show Ex (d + 4) 226 7 [some (.inr 137), some (.inl x1), some (.inl x2), none] [.inl 1] (0, 0, n, sh, R, I) _
      refine x_if1 (pc2 := 18) d226_7 rfl (fun c => absurd (show (1 : Int) = 0 from c) (by decide)) (fun _ => ?_)
      refine x_iload_n d226_10 rfl ?_
      refine x_aload_n d226_11 rfl ?_
      refine x_getI d226_12 gY_226.2.2.2 gF_12_162 rfl (sh_137 hW) ?_
      refine x_if2 (pc2 := 20) d226_15 rfl (fun c => ?_) (fun c => ?_)
      · replace c : x1 ≤ I 137 1 := c
        rw [if_pos c] at k
        refine x_iload_n d226_20 rfl ?_
        refine x_iconst d226_21 rfl ?_
        refine x_if2 (pc2 := 30) d226_22 rfl (fun c => ?_) (fun c => ?_)
        · replace c : x2 < (-1) := c
          rw [if_pos c] at k
          refine x_bipush d226_30 rfl ?_
          exact x_iret d226_32 gR_226 ⟨_, _, rfl, rfl, k⟩
        · replace c : ¬ (x2 < (-1)) := c
          rw [if_neg c] at k
          refine x_iload_n d226_25 rfl ?_
          refine x_iload_n d226_26 rfl ?_
          refine x_if2 (pc2 := 33) d226_27 rfl (fun c => ?_) (fun c => ?_)
          · replace c : x2 < x1 := c
            rw [if_pos c] at k
            refine x_aload_n d226_33 rfl ?_
            refine x_iload_n d226_34 rfl ?_
            refine y_invI (as := [.inl x1]) (t := []) (o := 137) gY_225 d226_35 gY_226.2.2.2 gM_12_433 rfl (sh_137 hW) rfl k (fun v1 I2 k => ?_)
            refine x_istore_n (ls2 := [some (.inr 137), some (.inl x1), some (.inl x2), some (.inl v1)]) d226_38 rfl rfl ?_
            refine x_iload_n d226_39 rfl ?_
            refine x_iconst d226_40 rfl ?_
            refine x_if2 (pc2 := 56) d226_41 rfl (fun c => ?_) (fun c => ?_)
            · replace c : ¬ x2 = (-1) := c
              rw [if_pos c] at k
              refine x_iload_n d226_56 rfl ?_
              refine x_if1 (pc2 := 69) d226_57 rfl (fun c => ?_) (fun c => ?_)
              · replace c : v1 = 0 := c
                rw [if_pos c] at k
                refine x_bipush d226_69 rfl ?_
                exact x_iret d226_71 gR_226 ⟨_, _, rfl, rfl, k⟩
              · replace c : ¬ (v1 = 0) := c
                rw [if_neg c] at k
                refine x_aload_n d226_60 rfl ?_
                refine x_getR (r := 171) d226_61 gY_226.2.2.2 gF_12_110 rfl (sh_137 hW) (rf_137_56 hW) (by decide) ?_
                refine x_iload_n d226_64 rfl ?_
                have e3 := k.1
                replace k := k.2
                refine x_iald d226_65 (sh_171 hW) e3.1 e3.2 ?_
                refine x_goto (pc2 := 71) d226_66 rfl ?_
                exact x_iret d226_71 gR_226 ⟨_, _, rfl, rfl, k⟩
            · replace c : ¬ (¬ x2 = (-1)) := c
              rw [if_neg c] at k
              refine x_iload_n d226_44 rfl ?_
              refine x_if1 (pc2 := 52) d226_45 rfl (fun c => ?_) (fun c => ?_)
              · replace c : v1 = 0 := c
                rw [if_pos c] at k
                refine x_iconst d226_52 rfl ?_
                refine x_goto (pc2 := 71) d226_53 rfl ?_
                exact x_iret d226_71 gR_226 ⟨_, _, rfl, rfl, k⟩
              · replace c : ¬ (v1 = 0) := c
                rw [if_neg c] at k
                refine x_iconst d226_48 rfl ?_
                refine x_goto (pc2 := 71) d226_49 rfl ?_
                exact x_iret d226_71 gR_226 ⟨_, _, rfl, rfl, k⟩
          · replace c : ¬ (x2 < x1) := c
            rw [if_neg c] at k
            refine x_bipush d226_30 rfl ?_
            exact x_iret d226_32 gR_226 ⟨_, _, rfl, rfl, k⟩
      · replace c : ¬ (x1 ≤ I 137 1) := c
        rw [if_neg c] at k
        refine x_iconst d226_18 rfl ?_
        exact x_iret d226_19 gR_226 ⟨_, _, rfl, rfl, k⟩
set_option maxHeartbeats 4000000 in
theorem b_M_laysTogether_0 {d n : Nat} {sh : ZS} {R : ZR} {I : ZI} {Q : Int → ZI → Prop} (hW : Wf sh R) 
    (k : XV d 211 [.inr 137] n sh R I (fun I2 => XIs (d + 1) 227 11 [some (.inr 137), some (.inl 0), none] [] n sh R (zup I2 137 58 0) Q)) : XI (d + 1) 227 [.inr 137] n sh R I Q := by
  refine XI.of (ls := [some (.inr 137), none, none]) (zloc_eq gY_227.2.2.1) ?_
  unfold XIs
  refine x_aload_n d227_0 rfl ?_
  refine y_invV (as := []) (t := []) (o := 137) gY_211 d227_1 gY_227.2.2.2 gM_12_402 rfl (sh_137 hW) rfl k (fun I2 k => ?_)
  refine x_aload_n d227_4 rfl ?_
  refine x_iconst d227_5 rfl ?_
  refine x_putI d227_6 gY_227.2.2.2 gF_12_436 rfl rfl (sh_137 hW) ?_
  refine x_iconst d227_9 rfl ?_
  refine x_istore_n (ls2 := [some (.inr 137), some (.inl 0), none]) d227_10 rfl rfl ?_
  exact k
set_option maxHeartbeats 4000000 in
theorem b_M_laysTogether_11 {d n : Nat} {sh : ZS} {R : ZR} {I : ZI} {Q : Int → ZI → Prop} (hW : Wf sh R) {x1 : Int} {u2 : Option AV}
    (k : (if 20 ≤ x1 then (if I 137 58 ≤ 0 then Q 0 I else Q 1 I) else (0 ≤ x1 ∧ x1 < 20) ∧ (if ¬ I 167 (x1).toNat = 0 then (if ¬ I 137 58 = 8 then (0 ≤ I 137 58 ∧ I 137 58 < 8) ∧ (zr (I 137 1 - 1)) ∧ XIs (d + 1) 227 57 [some (.inr 137), some (.inl x1), some (.inl (I 137 1 - 1))] [] n sh R (zup I 173 (I 137 58).toNat x1) Q else Q 0 I) else (zr (x1 + 1)) ∧ XIs (d + 1) 227 11 [some (.inr 137), some (.inl (x1 + 1)), u2] [] n sh R I Q))) : XIs (d + 1) 227 11 [some (.inr 137), some (.inl x1), u2] [] n sh R I Q := by
  unfold XIs
  refine x_iload_n d227_11 rfl ?_
  refine x_bipush d227_12 rfl ?_
  refine x_if2 (pc2 := 149) d227_14 rfl (fun c => ?_) (fun c => ?_)
  · replace c : 20 ≤ x1 := c
    rw [if_pos c] at k
    refine x_aload_n d227_149 rfl ?_
    refine x_getI d227_150 gY_227.2.2.2 gF_12_436 rfl (sh_137 hW) ?_
    refine x_if1 (pc2 := 160) d227_153 rfl (fun c => ?_) (fun c => ?_)
    · replace c : I 137 58 ≤ 0 := c
      rw [if_pos c] at k
      refine x_iconst d227_160 rfl ?_
      exact x_zret d227_161 gR_227 (by decide) ⟨_, _, rfl, rfl, k⟩
    · replace c : ¬ (I 137 58 ≤ 0) := c
      rw [if_neg c] at k
      refine x_iconst d227_156 rfl ?_
      refine x_goto (pc2 := 161) d227_157 rfl ?_
      exact x_zret d227_161 gR_227 (by decide) ⟨_, _, rfl, rfl, k⟩
  · replace c : ¬ (20 ≤ x1) := c
    rw [if_neg c] at k
    refine x_aload_n d227_17 rfl ?_
    refine x_getR (r := 167) d227_18 gY_227.2.2.2 gF_12_98 rfl (sh_137 hW) (rf_137_52 hW) (by decide) ?_
    refine x_iload_n d227_21 rfl ?_
    have e1 := k.1
    replace k := k.2
    refine x_iald d227_22 (sh_167 hW) e1.1 e1.2 ?_
    refine x_if1 (pc2 := 29) d227_23 rfl (fun c => ?_) (fun c => ?_)
    · replace c : ¬ I 167 (x1).toNat = 0 := c
      rw [if_pos c] at k
      refine x_aload_n d227_29 rfl ?_
      refine x_getI d227_30 gY_227.2.2.2 gF_12_436 rfl (sh_137 hW) ?_
      refine x_bipush d227_33 rfl ?_
      refine x_if2 (pc2 := 40) d227_35 rfl (fun c => ?_) (fun c => ?_)
      · replace c : ¬ I 137 58 = 8 := c
        rw [if_pos c] at k
        refine x_aload_n d227_40 rfl ?_
        refine x_getR (r := 173) d227_41 gY_227.2.2.2 gF_12_116 rfl (sh_137 hW) (rf_137_59 hW) (by decide) ?_
        refine x_aload_n d227_44 rfl ?_
        refine x_getI d227_45 gY_227.2.2.2 gF_12_436 rfl (sh_137 hW) ?_
        refine x_iload_n d227_48 rfl ?_
        have e2 := k.1
        replace k := k.2
        refine x_iast d227_49 (sh_173 hW) e2.1 e2.2 ?_
        refine x_aload_n d227_50 rfl ?_
        refine x_getI d227_51 gY_227.2.2.2 gF_12_162 rfl (sh_137 hW) ?_
        refine x_iconst d227_54 rfl ?_
        have e3 := k.1
        replace k := k.2
        refine x_isub d227_55 e3 ?_
        refine x_istore_n (ls2 := [some (.inr 137), some (.inl x1), some (.inl (I 137 1 - 1))]) d227_56 rfl rfl ?_
        exact k
      · replace c : ¬ (¬ I 137 58 = 8) := c
        rw [if_neg c] at k
        refine x_iconst d227_38 rfl ?_
        exact x_zret d227_39 gR_227 (by decide) ⟨_, _, rfl, rfl, k⟩
    · replace c : ¬ (¬ I 167 (x1).toNat = 0) := c
      rw [if_neg c] at k
      refine x_goto (pc2 := 143) d227_26 rfl ?_
      have e4 := k.1
      replace k := k.2
      refine x_iinc (ls2 := [some (.inr 137), some (.inl (x1 + 1)), u2]) d227_143 rfl e4 rfl ?_
      refine x_goto (pc2 := 11) d227_146 rfl ?_
      exact k
set_option maxHeartbeats 4000000 in
theorem b_M_laysTogether_57 {d n : Nat} {sh : ZS} {R : ZR} {I : ZI} {Q : Int → ZI → Prop} (hW : Wf sh R) {x1 : Int} {x2 : Int}
    (k : (if x2 < 0 then XIs (d + 1) 227 94 [some (.inr 137), some (.inl x1), some (.inl 0)] [] n sh R I Q else (0 ≤ x2 ∧ x2 < 32) ∧ (0 ≤ I 142 (x2).toNat ∧ I 142 (x2).toNat < 32) ∧ (if ¬ I 138 (I 142 (x2).toNat).toNat = x1 then (zr (x2 + (-1))) ∧ XIs (d + 1) 227 57 [some (.inr 137), some (.inl x1), some (.inl (x2 + (-1)))] [] n sh R I Q else (0 ≤ I 137 58 ∧ I 137 58 < 8) ∧ (zr (x2 + (-1))) ∧ XIs (d + 1) 227 57 [some (.inr 137), some (.inl x1), some (.inl (x2 + (-1)))] [] n sh R (zup I 174 (I 137 58).toNat x2) Q))) : XIs (d + 1) 227 57 [some (.inr 137), some (.inl x1), some (.inl x2)] [] n sh R I Q := by
  unfold XIs
  refine x_iload_n d227_57 rfl ?_
  refine x_if1 (pc2 := 92) d227_58 rfl (fun c => ?_) (fun c => ?_)
  · replace c : x2 < 0 := c
    rw [if_pos c] at k
    refine x_iconst d227_92 rfl ?_
    refine x_istore_n (ls2 := [some (.inr 137), some (.inl x1), some (.inl 0)]) d227_93 rfl rfl ?_
    exact k
  · replace c : ¬ (x2 < 0) := c
    rw [if_neg c] at k
    refine x_aload_n d227_61 rfl ?_
    refine x_getR (r := 138) d227_62 gY_227.2.2.2 gF_12_7 rfl (sh_137 hW) (rf_137_6 hW) (by decide) ?_
    refine x_aload_n d227_65 rfl ?_
    refine x_getR (r := 142) d227_66 gY_227.2.2.2 gF_12_22 rfl (sh_137 hW) (rf_137_10 hW) (by decide) ?_
    refine x_iload_n d227_69 rfl ?_
    have e1 := k.1
    replace k := k.2
    refine x_iald d227_70 (sh_142 hW) e1.1 e1.2 ?_
    have e2 := k.1
    replace k := k.2
    refine x_iald d227_71 (sh_138 hW) e2.1 e2.2 ?_
    refine x_iload_n d227_72 rfl ?_
    refine x_if2 (pc2 := 86) d227_73 rfl (fun c => ?_) (fun c => ?_)
    · replace c : ¬ I 138 (I 142 (x2).toNat).toNat = x1 := c
      rw [if_pos c] at k
      have e3 := k.1
      replace k := k.2
      refine x_iinc (ls2 := [some (.inr 137), some (.inl x1), some (.inl (x2 + (-1)))]) d227_86 rfl e3 rfl ?_
      refine x_goto (pc2 := 57) d227_89 rfl ?_
      exact k
    · replace c : ¬ (¬ I 138 (I 142 (x2).toNat).toNat = x1) := c
      rw [if_neg c] at k
      refine x_aload_n d227_76 rfl ?_
      refine x_getR (r := 174) d227_77 gY_227.2.2.2 gF_12_119 rfl (sh_137 hW) (rf_137_60 hW) (by decide) ?_
      refine x_aload_n d227_80 rfl ?_
      refine x_getI d227_81 gY_227.2.2.2 gF_12_436 rfl (sh_137 hW) ?_
      refine x_iload_n d227_84 rfl ?_
      have e4 := k.1
      replace k := k.2
      refine x_iast d227_85 (sh_174 hW) e4.1 e4.2 ?_
      have e5 := k.1
      replace k := k.2
      refine x_iinc (ls2 := [some (.inr 137), some (.inl x1), some (.inl (x2 + (-1)))]) d227_86 rfl e5 rfl ?_
      refine x_goto (pc2 := 57) d227_89 rfl ?_
      exact k
set_option maxHeartbeats 4000000 in
theorem b_M_laysTogether_94 {d n : Nat} {sh : ZS} {R : ZR} {I : ZI} {Q : Int → ZI → Prop} (hW : Wf sh R) {x1 : Int} {x2 : Int}
    (k : (if I 137 1 ≤ x2 then (zr (I 137 58 + 1)) ∧ (zr (x1 + 1)) ∧ XIs (d + 1) 227 11 [some (.inr 137), some (.inl (x1 + 1)), some (.inl x2)] [] n sh R (zup I 137 58 (I 137 58 + 1)) Q else (0 ≤ x2 ∧ x2 < 32) ∧ (0 ≤ I 142 (x2).toNat ∧ I 142 (x2).toNat < 32) ∧ (if ¬ I 138 (I 142 (x2).toNat).toNat = x1 then (zr (x2 + 1)) ∧ XIs (d + 1) 227 94 [some (.inr 137), some (.inl x1), some (.inl (x2 + 1))] [] n sh R I Q else (0 ≤ I 137 58 ∧ I 137 58 < 8) ∧ (zr (x2 + 1)) ∧ XIs (d + 1) 227 94 [some (.inr 137), some (.inl x1), some (.inl (x2 + 1))] [] n sh R (zup I 175 (I 137 58).toNat x2) Q))) : XIs (d + 1) 227 94 [some (.inr 137), some (.inl x1), some (.inl x2)] [] n sh R I Q := by
  unfold XIs
  refine x_iload_n d227_94 rfl ?_
  refine x_aload_n d227_95 rfl ?_
  refine x_getI d227_96 gY_227.2.2.2 gF_12_162 rfl (sh_137 hW) ?_
  refine x_if2 (pc2 := 133) d227_99 rfl (fun c => ?_) (fun c => ?_)
  · replace c : I 137 1 ≤ x2 := c
    rw [if_pos c] at k
    refine x_aload_n d227_133 rfl ?_
    refine x_aload_n d227_134 rfl ?_
    refine x_getI d227_135 gY_227.2.2.2 gF_12_436 rfl (sh_137 hW) ?_
    refine x_iconst d227_138 rfl ?_
    have e1 := k.1
    replace k := k.2
    refine x_iadd d227_139 e1 ?_
    refine x_putI d227_140 gY_227.2.2.2 gF_12_436 rfl rfl (sh_137 hW) ?_
    have e2 := k.1
    replace k := k.2
    refine x_iinc (ls2 := [some (.inr 137), some (.inl (x1 + 1)), some (.inl x2)]) d227_143 rfl e2 rfl ?_
    refine x_goto (pc2 := 11) d227_146 rfl ?_
    exact k
  · replace c : ¬ (I 137 1 ≤ x2) := c
    rw [if_neg c] at k
    refine x_aload_n d227_102 rfl ?_
    refine x_getR (r := 138) d227_103 gY_227.2.2.2 gF_12_7 rfl (sh_137 hW) (rf_137_6 hW) (by decide) ?_
    refine x_aload_n d227_106 rfl ?_
    refine x_getR (r := 142) d227_107 gY_227.2.2.2 gF_12_22 rfl (sh_137 hW) (rf_137_10 hW) (by decide) ?_
    refine x_iload_n d227_110 rfl ?_
    have e3 := k.1
    replace k := k.2
    refine x_iald d227_111 (sh_142 hW) e3.1 e3.2 ?_
    have e4 := k.1
    replace k := k.2
    refine x_iald d227_112 (sh_138 hW) e4.1 e4.2 ?_
    refine x_iload_n d227_113 rfl ?_
    refine x_if2 (pc2 := 127) d227_114 rfl (fun c => ?_) (fun c => ?_)
    · replace c : ¬ I 138 (I 142 (x2).toNat).toNat = x1 := c
      rw [if_pos c] at k
      have e5 := k.1
      replace k := k.2
      refine x_iinc (ls2 := [some (.inr 137), some (.inl x1), some (.inl (x2 + 1))]) d227_127 rfl e5 rfl ?_
      refine x_goto (pc2 := 94) d227_130 rfl ?_
      exact k
    · replace c : ¬ (¬ I 138 (I 142 (x2).toNat).toNat = x1) := c
      rw [if_neg c] at k
      refine x_aload_n d227_117 rfl ?_
      refine x_getR (r := 175) d227_118 gY_227.2.2.2 gF_12_122 rfl (sh_137 hW) (rf_137_61 hW) (by decide) ?_
      refine x_aload_n d227_121 rfl ?_
      refine x_getI d227_122 gY_227.2.2.2 gF_12_436 rfl (sh_137 hW) ?_
      refine x_iload_n d227_125 rfl ?_
      have e6 := k.1
      replace k := k.2
      refine x_iast d227_126 (sh_175 hW) e6.1 e6.2 ?_
      have e7 := k.1
      replace k := k.2
      refine x_iinc (ls2 := [some (.inr 137), some (.inl x1), some (.inl (x2 + 1))]) d227_127 rfl e7 rfl ?_
      refine x_goto (pc2 := 94) d227_130 rfl ?_
      exact k
set_option maxHeartbeats 4000000 in
theorem b_M_laysBreaks_0 {d n : Nat} {sh : ZS} {R : ZR} {I : ZI} {Q : ZI → Prop} (hW : Wf sh R) 
    (k : (zr ((zshl 1 (I 137 58)) - 1)) ∧ XVs (d + 2) 230 9 [some (.inr 137), some (.inl ((zshl 1 (I 137 58)) - 1)), none, none, none] [] n sh R I Q) : XV (d + 2) 230 [.inr 137] n sh R I Q := by
  refine XV.of (ls := [some (.inr 137), none, none, none, none]) (zloc_eq gY_230.2.2.1) ?_
  unfold XVs
  refine x_iconst d230_0 rfl ?_
  refine x_aload_n d230_1 rfl ?_
  refine x_getI d230_2 gY_230.2.2.2 gF_12_436 rfl (sh_137 hW) ?_
  refine x_ishl d230_5 ?_
  refine x_iconst d230_6 rfl ?_
  have e1 := k.1
  replace k := k.2
  refine x_isub d230_7 e1 ?_
  refine x_istore_n (ls2 := [some (.inr 137), some (.inl ((zshl 1 (I 137 58)) - 1)), none, none, none]) d230_8 rfl rfl ?_
  exact k
set_option maxHeartbeats 4000000 in
theorem b_M_laysBreaks_9 {d n : Nat} {sh : ZS} {R : ZR} {I : ZI} {Q : ZI → Prop} (hW : Wf sh R) {x1 : Int} {u2 : Option AV} {u3 : Option AV} {u4 : Option AV}
    (k : (if x1 < 0 then Q I else XVs (d + 2) 230 15 [some (.inr 137), some (.inl x1), some (.inl 0), u3, u4] [] n sh R I Q)) : XVs (d + 2) 230 9 [some (.inr 137), some (.inl x1), u2, u3, u4] [] n sh R I Q := by
  unfold XVs
  refine x_iload_n d230_9 rfl ?_
  refine x_if1 (pc2 := 107) d230_10 rfl (fun c => ?_) (fun c => ?_)
  · replace c : x1 < 0 := c
    rw [if_pos c] at k
    exact x_vret d230_107 gR_230 ⟨_, rfl, rfl, k⟩
  · replace c : ¬ (x1 < 0) := c
    rw [if_neg c] at k
    refine x_iconst d230_13 rfl ?_
    refine x_istore_n (ls2 := [some (.inr 137), some (.inl x1), some (.inl 0), u3, u4]) d230_14 rfl rfl ?_
    exact k
set_option maxHeartbeats 4000000 in
theorem b_M_laysBreaks_15 {d n : Nat} {sh : ZS} {R : ZR} {I : ZI} {Q : ZI → Prop} (hW : Wf sh R) {x1 : Int} {x2 : Int} {u3 : Option AV} {u4 : Option AV}
    (k : (if I 137 58 < x2 then (zr (x1 + (-1))) ∧ XVs (d + 2) 230 9 [some (.inr 137), some (.inl (x1 + (-1))), some (.inl x2), u3, u4] [] n sh R I Q else (zr ((zshl 1 (I 137 58)) - 1)) ∧ (if ¬ x1 = ((zshl 1 (I 137 58)) - 1) then XVs (d + 2) 230 46 [some (.inr 137), some (.inl x1), some (.inl x2), some (.inl 1000000000), some (.inl 0)] [] n sh R I Q else XVs (d + 2) 230 46 [some (.inr 137), some (.inl x1), some (.inl x2), some (.inl 0), some (.inl 0)] [] n sh R I Q))) : XVs (d + 2) 230 15 [some (.inr 137), some (.inl x1), some (.inl x2), u3, u4] [] n sh R I Q := by
  unfold XVs
  refine x_iload_n d230_15 rfl ?_
  refine x_aload_n d230_16 rfl ?_
  refine x_getI d230_17 gY_230.2.2.2 gF_12_436 rfl (sh_137 hW) ?_
  refine x_if2 (pc2 := 101) d230_20 rfl (fun c => ?_) (fun c => ?_)
  · replace c : I 137 58 < x2 := c
    rw [if_pos c] at k
    have e1 := k.1
    replace k := k.2
    refine x_iinc (ls2 := [some (.inr 137), some (.inl (x1 + (-1))), some (.inl x2), u3, u4]) d230_101 rfl e1 rfl ?_
    refine x_goto (pc2 := 9) d230_104 rfl ?_
    exact k
  · replace c : ¬ (I 137 58 < x2) := c
    rw [if_neg c] at k
    refine x_iload_n d230_23 rfl ?_
    refine x_iconst d230_24 rfl ?_
    refine x_aload_n d230_25 rfl ?_
    refine x_getI d230_26 gY_230.2.2.2 gF_12_436 rfl (sh_137 hW) ?_
    refine x_ishl d230_29 ?_
    refine x_iconst d230_30 rfl ?_
    have e2 := k.1
    replace k := k.2
    refine x_isub d230_31 e2 ?_
    refine x_if2 (pc2 := 39) d230_32 rfl (fun c => ?_) (fun c => ?_)
    · replace c : ¬ x1 = ((zshl 1 (I 137 58)) - 1) := c
      rw [if_pos c] at k
      refine x_ldcw d230_39 gY_230.2.2.2 gK_12_392 rfl ?_
      refine x_istore_n (ls2 := [some (.inr 137), some (.inl x1), some (.inl x2), some (.inl 1000000000), u4]) d230_42 rfl rfl ?_
      refine x_iconst d230_43 rfl ?_
      refine x_istore (ls2 := [some (.inr 137), some (.inl x1), some (.inl x2), some (.inl 1000000000), some (.inl 0)]) d230_44 rfl rfl ?_
      exact k
    · replace c : ¬ (¬ x1 = ((zshl 1 (I 137 58)) - 1)) := c
      rw [if_neg c] at k
      refine x_iconst d230_35 rfl ?_
      refine x_goto (pc2 := 42) d230_36 rfl ?_
      refine x_istore_n (ls2 := [some (.inr 137), some (.inl x1), some (.inl x2), some (.inl 0), u4]) d230_42 rfl rfl ?_
      refine x_iconst d230_43 rfl ?_
      refine x_istore (ls2 := [some (.inr 137), some (.inl x1), some (.inl x2), some (.inl 0), some (.inl 0)]) d230_44 rfl rfl ?_
      exact k
set_option maxHeartbeats 4000000 in
theorem b_M_laysBreaks_46 {d n : Nat} {sh : ZS} {R : ZR} {I : ZI} {Q : ZI → Prop} (hW : Wf sh R) {x1 : Int} {x2 : Int} {x3 : Int} {x4 : Int}
    (k : (if I 137 58 ≤ x4 then (zr (9 * x1)) ∧ (zr ((9 * x1) + x2)) ∧ (0 ≤ ((9 * x1) + x2) ∧ ((9 * x1) + x2) < 2304) ∧ (zr (x2 + 1)) ∧ XVs (d + 2) 230 15 [some (.inr 137), some (.inl x1), some (.inl (x2 + 1)), some (.inl x3), some (.inl x4)] [] n sh R (zup I 176 ((9 * x1) + x2).toNat x3) Q else (if ¬ (zand (zshr x1 x4) 1) = 1 then (if x2 = I 137 58 then (zr (9 * (zor x1 (zshl 1 x4)))) ∧ (zr ((9 * (zor x1 (zshl 1 x4))) + x4)) ∧ (0 ≤ ((9 * (zor x1 (zshl 1 x4))) + x4) ∧ ((9 * (zor x1 (zshl 1 x4))) + x4) < 2304) ∧ (zr (1 + I 176 ((9 * (zor x1 (zshl 1 x4))) + x4).toNat)) ∧ (if (1 + I 176 ((9 * (zor x1 (zshl 1 x4))) + x4).toNat) ≤ x3 then (zr (x4 + 1)) ∧ XVs (d + 2) 230 46 [some (.inr 137), some (.inl x1), some (.inl x2), some (.inl (1 + I 176 ((9 * (zor x1 (zshl 1 x4))) + x4).toNat)), some (.inl (x4 + 1))] [] n sh R I Q else (zr (x4 + 1)) ∧ XVs (d + 2) 230 46 [some (.inr 137), some (.inl x1), some (.inl x2), some (.inl x3), some (.inl (x4 + 1))] [] n sh R I Q) else (0 ≤ x2 ∧ x2 < 8) ∧ (0 ≤ x4 ∧ x4 < 8) ∧ (if I 175 (x2).toNat ≤ I 174 (x4).toNat then (zr (9 * (zor x1 (zshl 1 x4)))) ∧ (zr ((9 * (zor x1 (zshl 1 x4))) + x4)) ∧ (0 ≤ ((9 * (zor x1 (zshl 1 x4))) + x4) ∧ ((9 * (zor x1 (zshl 1 x4))) + x4) < 2304) ∧ (zr (0 + I 176 ((9 * (zor x1 (zshl 1 x4))) + x4).toNat)) ∧ (if (0 + I 176 ((9 * (zor x1 (zshl 1 x4))) + x4).toNat) ≤ x3 then (zr (x4 + 1)) ∧ XVs (d + 2) 230 46 [some (.inr 137), some (.inl x1), some (.inl x2), some (.inl (0 + I 176 ((9 * (zor x1 (zshl 1 x4))) + x4).toNat)), some (.inl (x4 + 1))] [] n sh R I Q else (zr (x4 + 1)) ∧ XVs (d + 2) 230 46 [some (.inr 137), some (.inl x1), some (.inl x2), some (.inl x3), some (.inl (x4 + 1))] [] n sh R I Q) else (zr (9 * (zor x1 (zshl 1 x4)))) ∧ (zr ((9 * (zor x1 (zshl 1 x4))) + x4)) ∧ (0 ≤ ((9 * (zor x1 (zshl 1 x4))) + x4) ∧ ((9 * (zor x1 (zshl 1 x4))) + x4) < 2304) ∧ (zr (1 + I 176 ((9 * (zor x1 (zshl 1 x4))) + x4).toNat)) ∧ (if (1 + I 176 ((9 * (zor x1 (zshl 1 x4))) + x4).toNat) ≤ x3 then (zr (x4 + 1)) ∧ XVs (d + 2) 230 46 [some (.inr 137), some (.inl x1), some (.inl x2), some (.inl (1 + I 176 ((9 * (zor x1 (zshl 1 x4))) + x4).toNat)), some (.inl (x4 + 1))] [] n sh R I Q else (zr (x4 + 1)) ∧ XVs (d + 2) 230 46 [some (.inr 137), some (.inl x1), some (.inl x2), some (.inl x3), some (.inl (x4 + 1))] [] n sh R I Q))) else (zr (x4 + 1)) ∧ XVs (d + 2) 230 46 [some (.inr 137), some (.inl x1), some (.inl x2), some (.inl x3), some (.inl (x4 + 1))] [] n sh R I Q))) : XVs (d + 2) 230 46 [some (.inr 137), some (.inl x1), some (.inl x2), some (.inl x3), some (.inl x4)] [] n sh R I Q := by
  unfold XVs
  refine x_iload d230_46 rfl ?_
  refine x_aload_n d230_48 rfl ?_
  refine x_getI d230_49 gY_230.2.2.2 gF_12_436 rfl (sh_137 hW) ?_
  refine x_if2 (pc2 := 83) d230_52 rfl (fun c => ?_) (fun c => ?_)
  · replace c : I 137 58 ≤ x4 := c
    rw [if_pos c] at k
    refine x_aload_n d230_83 rfl ?_
    refine x_getR (r := 176) d230_84 gY_230.2.2.2 gF_12_125 rfl (sh_137 hW) (rf_137_62 hW) (by decide) ?_
    refine x_bipush d230_87 rfl ?_
    refine x_iload_n d230_89 rfl ?_
    have e1 := k.1
    replace k := k.2
    refine x_imul d230_90 e1 ?_
    refine x_iload_n d230_91 rfl ?_
    have e2 := k.1
    replace k := k.2
    refine x_iadd d230_92 e2 ?_
    refine x_iload_n d230_93 rfl ?_
    have e3 := k.1
    replace k := k.2
    refine x_iast d230_94 (sh_176 hW) e3.1 e3.2 ?_
    have e4 := k.1
    replace k := k.2
    refine x_iinc (ls2 := [some (.inr 137), some (.inl x1), some (.inl (x2 + 1)), some (.inl x3), some (.inl x4)]) d230_95 rfl e4 rfl ?_
    refine x_goto (pc2 := 15) d230_98 rfl ?_
    exact k
  · replace c : ¬ (I 137 58 ≤ x4) := c
    rw [if_neg c] at k
    refine x_iload_n d230_55 rfl ?_
    refine x_iload d230_56 rfl ?_
    refine y_ins (as := [.inl x1, .inl x4]) (t := []) (ls2 := [some (.inl x1), some (.inl x4)]) gY_143 d230_58 gY_230.2.2.2 gM_12_300 rfl rfl rfl ?_
    refine x_iload_n d143_0 rfl ?_
    refine x_iload_n d143_1 rfl ?_
    refine x_ishr d143_2 ?_
    refine x_iconst d143_3 rfl ?_
    refine x_iand d143_4 ?_
    refine x_iconst d143_5 rfl ?_
    refine x_if2 (pc2 := 13) d143_6 rfl (fun c => ?_) (fun c => ?_)
    · replace c : ¬ (zand (zshr x1 x4) 1) = 1 := c
      rw [if_pos c] at k
      refine x_iconst d143_13 rfl ?_
      refine x_zret d143_14 gR_143 (by decide) ?_
      show Ex (d + 2) 230 61 [some (.inr 137), some (.inl x1), some (.inl x2), some (.inl x3), some (.inl x4)] [.inl 0] (0, 0, n, sh, R, I) _
      refine x_if1 (pc2 := 77) d230_61 rfl (fun c => absurd (show ¬ (0 : Int) = 0 from c) (by decide)) (fun _ => ?_)
      refine x_iload_n d230_64 rfl ?_
      refine x_aload_n d230_65 rfl ?_
      refine x_iload_n d230_66 rfl ?_
      refine x_iload_n d230_67 rfl ?_
      refine x_iload d230_68 rfl ?_
      refine y_inv (as := [.inl x1, .inl x2, .inl x4]) (t := [.inl x3]) (o := 137) (ls2 := [some (.inr 137), some (.inl x1), some (.inl x2), some (.inl x4)]) gY_229 d230_70 gY_230.2.2.2 gM_12_442 rfl (sh_137 hW) rfl rfl ?_
      refine x_aload_n d229_0 rfl ?_
      refine x_iload_n d229_1 rfl ?_
      refine x_iload_n d229_2 rfl ?_
      refine y_inv (as := [.inl x2, .inl x4]) (t := []) (o := 137) (ls2 := [some (.inr 137), some (.inl x2), some (.inl x4)]) gY_228 d229_3 gY_229.2.2.2 gM_12_439 rfl (sh_137 hW) rfl rfl ?_
      refine x_iload_n d228_0 rfl ?_
      refine x_aload_n d228_1 rfl ?_
      refine x_getI d228_2 gY_228.2.2.2 gF_12_436 rfl (sh_137 hW) ?_
      refine x_if2 (pc2 := 23) d228_5 rfl (fun c => ?_) (fun c => ?_)
      · replace c : x2 = I 137 58 := c
        rw [if_pos c] at k
        refine x_iconst d228_23 rfl ?_
        refine x_goto (pc2 := 28) d228_24 rfl ?_
        refine x_iret d228_28 gR_228 ?_
        show Ex (d + 1) 229 6 [some (.inr 137), some (.inl x1), some (.inl x2), some (.inl x4)] [.inl 1] (0, 0, n, sh, R, I) _
        refine x_aload_n d229_6 rfl ?_
        refine x_getR (r := 176) d229_7 gY_229.2.2.2 gF_12_125 rfl (sh_137 hW) (rf_137_62 hW) (by decide) ?_
        refine x_bipush d229_10 rfl ?_
        refine x_iload_n d229_12 rfl ?_
        refine x_iconst d229_13 rfl ?_
        refine x_iload_n d229_14 rfl ?_
        refine x_ishl d229_15 ?_
        refine x_ior d229_16 ?_
        have e5 := k.1
        replace k := k.2
        refine x_imul d229_17 e5 ?_
        refine x_iload_n d229_18 rfl ?_
        have e6 := k.1
        replace k := k.2
        refine x_iadd d229_19 e6 ?_
        have e7 := k.1
        replace k := k.2
        refine x_iald d229_20 (sh_176 hW) e7.1 e7.2 ?_
        have e8 := k.1
        replace k := k.2
        refine x_iadd d229_21 e8 ?_
        refine x_iret d229_22 gR_229 ?_
        show Ex (d + 2) 230 73 [some (.inr 137), some (.inl x1), some (.inl x2), some (.inl x3), some (.inl x4)] [.inl (1 + I 176 ((9 * (zor x1 (zshl 1 x4))) + x4).toNat), .inl x3] (0, 0, n, sh, R, I) _
        refine y_ins (as := [.inl x3, .inl (1 + I 176 ((9 * (zor x1 (zshl 1 x4))) + x4).toNat)]) (t := []) (ls2 := [some (.inl x3), some (.inl (1 + I 176 ((9 * (zor x1 (zshl 1 x4))) + x4).toNat))]) gY_141 d230_73 gY_230.2.2.2 gM_12_399 rfl rfl rfl ?_
        refine x_iload_n d141_0 rfl ?_
        refine x_iload_n d141_1 rfl ?_
        refine x_if2 (pc2 := 9) d141_2 rfl (fun c => ?_) (fun c => ?_)
        · replace c : (1 + I 176 ((9 * (zor x1 (zshl 1 x4))) + x4).toNat) ≤ x3 := c
          rw [if_pos c] at k
          refine x_iload_n d141_9 rfl ?_
          refine x_iret d141_10 gR_141 ?_
          show Ex (d + 2) 230 76 [some (.inr 137), some (.inl x1), some (.inl x2), some (.inl x3), some (.inl x4)] [.inl (1 + I 176 ((9 * (zor x1 (zshl 1 x4))) + x4).toNat)] (0, 0, n, sh, R, I) _
          refine x_istore_n (ls2 := [some (.inr 137), some (.inl x1), some (.inl x2), some (.inl (1 + I 176 ((9 * (zor x1 (zshl 1 x4))) + x4).toNat)), some (.inl x4)]) d230_76 rfl rfl ?_
          have e9 := k.1
          replace k := k.2
          refine x_iinc (ls2 := [some (.inr 137), some (.inl x1), some (.inl x2), some (.inl (1 + I 176 ((9 * (zor x1 (zshl 1 x4))) + x4).toNat)), some (.inl (x4 + 1))]) d230_77 rfl e9 rfl ?_
          refine x_goto (pc2 := 46) d230_80 rfl ?_
          exact k
        · replace c : ¬ ((1 + I 176 ((9 * (zor x1 (zshl 1 x4))) + x4).toNat) ≤ x3) := c
          rw [if_neg c] at k
          refine x_iload_n d141_5 rfl ?_
          refine x_goto (pc2 := 10) d141_6 rfl ?_
          refine x_iret d141_10 gR_141 ?_
          show Ex (d + 2) 230 76 [some (.inr 137), some (.inl x1), some (.inl x2), some (.inl x3), some (.inl x4)] [.inl x3] (0, 0, n, sh, R, I) _
          refine x_istore_n (ls2 := [some (.inr 137), some (.inl x1), some (.inl x2), some (.inl x3), some (.inl x4)]) d230_76 rfl rfl ?_
          have e10 := k.1
          replace k := k.2
          refine x_iinc (ls2 := [some (.inr 137), some (.inl x1), some (.inl x2), some (.inl x3), some (.inl (x4 + 1))]) d230_77 rfl e10 rfl ?_
          refine x_goto (pc2 := 46) d230_80 rfl ?_
          exact k
      · replace c : ¬ (x2 = I 137 58) := c
        rw [if_neg c] at k
        refine x_aload_n d228_8 rfl ?_
        refine x_getR (r := 175) d228_9 gY_228.2.2.2 gF_12_122 rfl (sh_137 hW) (rf_137_61 hW) (by decide) ?_
        refine x_iload_n d228_12 rfl ?_
        have e11 := k.1
        replace k := k.2
        refine x_iald d228_13 (sh_175 hW) e11.1 e11.2 ?_
        refine x_aload_n d228_14 rfl ?_
        refine x_getR (r := 174) d228_15 gY_228.2.2.2 gF_12_119 rfl (sh_137 hW) (rf_137_60 hW) (by decide) ?_
        refine x_iload_n d228_18 rfl ?_
        have e12 := k.1
        replace k := k.2
        refine x_iald d228_19 (sh_174 hW) e12.1 e12.2 ?_
        refine x_if2 (pc2 := 27) d228_20 rfl (fun c => ?_) (fun c => ?_)
        · replace c : I 175 (x2).toNat ≤ I 174 (x4).toNat := c
          rw [if_pos c] at k
          refine x_iconst d228_27 rfl ?_
          refine x_iret d228_28 gR_228 ?_
          show Ex (d + 1) 229 6 [some (.inr 137), some (.inl x1), some (.inl x2), some (.inl x4)] [.inl 0] (0, 0, n, sh, R, I) _
          refine x_aload_n d229_6 rfl ?_
          refine x_getR (r := 176) d229_7 gY_229.2.2.2 gF_12_125 rfl (sh_137 hW) (rf_137_62 hW) (by decide) ?_
          refine x_bipush d229_10 rfl ?_
          refine x_iload_n d229_12 rfl ?_
          refine x_iconst d229_13 rfl ?_
          refine x_iload_n d229_14 rfl ?_
          refine x_ishl d229_15 ?_
          refine x_ior d229_16 ?_
          have e13 := k.1
          replace k := k.2
          refine x_imul d229_17 e13 ?_
          refine x_iload_n d229_18 rfl ?_
          have e14 := k.1
          replace k := k.2
          refine x_iadd d229_19 e14 ?_
          have e15 := k.1
          replace k := k.2
          refine x_iald d229_20 (sh_176 hW) e15.1 e15.2 ?_
          have e16 := k.1
          replace k := k.2
          refine x_iadd d229_21 e16 ?_
          refine x_iret d229_22 gR_229 ?_
          show Ex (d + 2) 230 73 [some (.inr 137), some (.inl x1), some (.inl x2), some (.inl x3), some (.inl x4)] [.inl (0 + I 176 ((9 * (zor x1 (zshl 1 x4))) + x4).toNat), .inl x3] (0, 0, n, sh, R, I) _
          refine y_ins (as := [.inl x3, .inl (0 + I 176 ((9 * (zor x1 (zshl 1 x4))) + x4).toNat)]) (t := []) (ls2 := [some (.inl x3), some (.inl (0 + I 176 ((9 * (zor x1 (zshl 1 x4))) + x4).toNat))]) gY_141 d230_73 gY_230.2.2.2 gM_12_399 rfl rfl rfl ?_
          refine x_iload_n d141_0 rfl ?_
          refine x_iload_n d141_1 rfl ?_
          refine x_if2 (pc2 := 9) d141_2 rfl (fun c => ?_) (fun c => ?_)
          · replace c : (0 + I 176 ((9 * (zor x1 (zshl 1 x4))) + x4).toNat) ≤ x3 := c
            rw [if_pos c] at k
            refine x_iload_n d141_9 rfl ?_
            refine x_iret d141_10 gR_141 ?_
            show Ex (d + 2) 230 76 [some (.inr 137), some (.inl x1), some (.inl x2), some (.inl x3), some (.inl x4)] [.inl (0 + I 176 ((9 * (zor x1 (zshl 1 x4))) + x4).toNat)] (0, 0, n, sh, R, I) _
            refine x_istore_n (ls2 := [some (.inr 137), some (.inl x1), some (.inl x2), some (.inl (0 + I 176 ((9 * (zor x1 (zshl 1 x4))) + x4).toNat)), some (.inl x4)]) d230_76 rfl rfl ?_
            have e17 := k.1
            replace k := k.2
            refine x_iinc (ls2 := [some (.inr 137), some (.inl x1), some (.inl x2), some (.inl (0 + I 176 ((9 * (zor x1 (zshl 1 x4))) + x4).toNat)), some (.inl (x4 + 1))]) d230_77 rfl e17 rfl ?_
            refine x_goto (pc2 := 46) d230_80 rfl ?_
            exact k
          · replace c : ¬ ((0 + I 176 ((9 * (zor x1 (zshl 1 x4))) + x4).toNat) ≤ x3) := c
            rw [if_neg c] at k
            refine x_iload_n d141_5 rfl ?_
            refine x_goto (pc2 := 10) d141_6 rfl ?_
            refine x_iret d141_10 gR_141 ?_
            show Ex (d + 2) 230 76 [some (.inr 137), some (.inl x1), some (.inl x2), some (.inl x3), some (.inl x4)] [.inl x3] (0, 0, n, sh, R, I) _
            refine x_istore_n (ls2 := [some (.inr 137), some (.inl x1), some (.inl x2), some (.inl x3), some (.inl x4)]) d230_76 rfl rfl ?_
            have e18 := k.1
            replace k := k.2
            refine x_iinc (ls2 := [some (.inr 137), some (.inl x1), some (.inl x2), some (.inl x3), some (.inl (x4 + 1))]) d230_77 rfl e18 rfl ?_
            refine x_goto (pc2 := 46) d230_80 rfl ?_
            exact k
        · replace c : ¬ (I 175 (x2).toNat ≤ I 174 (x4).toNat) := c
          rw [if_neg c] at k
          refine x_iconst d228_23 rfl ?_
          refine x_goto (pc2 := 28) d228_24 rfl ?_
          refine x_iret d228_28 gR_228 ?_
          show Ex (d + 1) 229 6 [some (.inr 137), some (.inl x1), some (.inl x2), some (.inl x4)] [.inl 1] (0, 0, n, sh, R, I) _
          refine x_aload_n d229_6 rfl ?_
          refine x_getR (r := 176) d229_7 gY_229.2.2.2 gF_12_125 rfl (sh_137 hW) (rf_137_62 hW) (by decide) ?_
          refine x_bipush d229_10 rfl ?_
          refine x_iload_n d229_12 rfl ?_
          refine x_iconst d229_13 rfl ?_
          refine x_iload_n d229_14 rfl ?_
          refine x_ishl d229_15 ?_
          refine x_ior d229_16 ?_
          have e19 := k.1
          replace k := k.2
          refine x_imul d229_17 e19 ?_
          refine x_iload_n d229_18 rfl ?_
          have e20 := k.1
          replace k := k.2
          refine x_iadd d229_19 e20 ?_
          have e21 := k.1
          replace k := k.2
          refine x_iald d229_20 (sh_176 hW) e21.1 e21.2 ?_
          have e22 := k.1
          replace k := k.2
          refine x_iadd d229_21 e22 ?_
          refine x_iret d229_22 gR_229 ?_
          show Ex (d + 2) 230 73 [some (.inr 137), some (.inl x1), some (.inl x2), some (.inl x3), some (.inl x4)] [.inl (1 + I 176 ((9 * (zor x1 (zshl 1 x4))) + x4).toNat), .inl x3] (0, 0, n, sh, R, I) _
          refine y_ins (as := [.inl x3, .inl (1 + I 176 ((9 * (zor x1 (zshl 1 x4))) + x4).toNat)]) (t := []) (ls2 := [some (.inl x3), some (.inl (1 + I 176 ((9 * (zor x1 (zshl 1 x4))) + x4).toNat))]) gY_141 d230_73 gY_230.2.2.2 gM_12_399 rfl rfl rfl ?_
          refine x_iload_n d141_0 rfl ?_
          refine x_iload_n d141_1 rfl ?_
          refine x_if2 (pc2 := 9) d141_2 rfl (fun c => ?_) (fun c => ?_)
          · replace c : (1 + I 176 ((9 * (zor x1 (zshl 1 x4))) + x4).toNat) ≤ x3 := c
            rw [if_pos c] at k
            refine x_iload_n d141_9 rfl ?_
            refine x_iret d141_10 gR_141 ?_
            show Ex (d + 2) 230 76 [some (.inr 137), some (.inl x1), some (.inl x2), some (.inl x3), some (.inl x4)] [.inl (1 + I 176 ((9 * (zor x1 (zshl 1 x4))) + x4).toNat)] (0, 0, n, sh, R, I) _
            refine x_istore_n (ls2 := [some (.inr 137), some (.inl x1), some (.inl x2), some (.inl (1 + I 176 ((9 * (zor x1 (zshl 1 x4))) + x4).toNat)), some (.inl x4)]) d230_76 rfl rfl ?_
            have e23 := k.1
            replace k := k.2
            refine x_iinc (ls2 := [some (.inr 137), some (.inl x1), some (.inl x2), some (.inl (1 + I 176 ((9 * (zor x1 (zshl 1 x4))) + x4).toNat)), some (.inl (x4 + 1))]) d230_77 rfl e23 rfl ?_
            refine x_goto (pc2 := 46) d230_80 rfl ?_
            exact k
          · replace c : ¬ ((1 + I 176 ((9 * (zor x1 (zshl 1 x4))) + x4).toNat) ≤ x3) := c
            rw [if_neg c] at k
            refine x_iload_n d141_5 rfl ?_
            refine x_goto (pc2 := 10) d141_6 rfl ?_
            refine x_iret d141_10 gR_141 ?_
            show Ex (d + 2) 230 76 [some (.inr 137), some (.inl x1), some (.inl x2), some (.inl x3), some (.inl x4)] [.inl x3] (0, 0, n, sh, R, I) _
            refine x_istore_n (ls2 := [some (.inr 137), some (.inl x1), some (.inl x2), some (.inl x3), some (.inl x4)]) d230_76 rfl rfl ?_
            have e24 := k.1
            replace k := k.2
            refine x_iinc (ls2 := [some (.inr 137), some (.inl x1), some (.inl x2), some (.inl x3), some (.inl (x4 + 1))]) d230_77 rfl e24 rfl ?_
            refine x_goto (pc2 := 46) d230_80 rfl ?_
            exact k
    · replace c : ¬ (¬ (zand (zshr x1 x4) 1) = 1) := c
      rw [if_neg c] at k
      refine x_iconst d143_9 rfl ?_
      refine x_goto (pc2 := 14) d143_10 rfl ?_
      refine x_zret d143_14 gR_143 (by decide) ?_
      show Ex (d + 2) 230 61 [some (.inr 137), some (.inl x1), some (.inl x2), some (.inl x3), some (.inl x4)] [.inl 1] (0, 0, n, sh, R, I) _
      refine x_if1 (pc2 := 77) d230_61 rfl (fun _ => ?_) (fun c => absurd (show ¬ (1 : Int) = 0 by decide) c)
      have e25 := k.1
      replace k := k.2
      refine x_iinc (ls2 := [some (.inr 137), some (.inl x1), some (.inl x2), some (.inl x3), some (.inl (x4 + 1))]) d230_77 rfl e25 rfl ?_
      refine x_goto (pc2 := 46) d230_80 rfl ?_
      exact k
set_option maxHeartbeats 4000000 in
theorem b_M_together_0 {d n : Nat} {sh : ZS} {R : ZR} {I : ZI} {Q : Int → ZI → Prop} (hW : Wf sh R) {x1 : Int}
    (k : XI (d + 2) 227 [.inr 137] n sh R I (fun v1 I2 => (if ¬ v1 = 0 then (zr (I2 137 58 - 1)) ∧ (if x1 < (-1) then Q (-3) I2 else (if (I2 137 58 - 1) < x1 then Q (-3) I2 else XV (d + 2) 230 [.inr 137] n sh R I2 (fun I5 => (if ¬ x1 = (-1) then XIs (d + 3) 231 56 [some (.inr 137), some (.inl x1), some (.inl 0), some (.inl (I5 137 58)), some (.inl 0), none] [] n sh R I5 Q else (0 ≤ I5 137 58 ∧ I5 137 58 < 2304) ∧ Q (I5 176 (I5 137 58).toNat) I5)))) else Q (-2) I2))) : XI (d + 3) 231 [.inr 137, .inl x1] n sh R I Q := by
  refine XI.of (ls := [some (.inr 137), some (.inl x1), none, none, none, none]) (zloc_eq gY_231.2.2.1) ?_
  unfold XIs
  refine x_aload_n d231_0 rfl ?_
  refine y_invI (as := []) (t := []) (o := 137) gY_227 d231_1 gY_231.2.2.2 gM_12_445 rfl (sh_137 hW) rfl k (fun v1 I2 k => ?_)
  refine x_if1 (pc2 := 10) d231_4 rfl (fun c => ?_) (fun c => ?_)
  · replace c : ¬ v1 = 0 := c
    rw [if_pos c] at k
    refine x_iload_n d231_10 rfl ?_
    refine x_iconst d231_11 rfl ?_
    refine x_aload_n d231_12 rfl ?_
    refine x_getI d231_13 gY_231.2.2.2 gF_12_436 rfl (sh_137 hW) ?_
    refine x_iconst d231_16 rfl ?_
    have e3 := k.1
    replace k := k.2
    refine x_isub d231_17 e3 ?_
    refine y_ins (as := [.inl x1, .inl (-1), .inl (I2 137 58 - 1)]) (t := []) (ls2 := [some (.inl x1), some (.inl (-1)), some (.inl (I2 137 58 - 1))]) gY_140 d231_18 gY_231.2.2.2 gM_12_169 rfl rfl rfl ?_
    refine x_iload_n d140_0 rfl ?_
    refine x_iload_n d140_1 rfl ?_
    refine x_if2 (pc2 := 14) d140_2 rfl (fun c => ?_) (fun c => ?_)
    · replace c : x1 < (-1) := c
      rw [if_pos c] at k
      refine x_iconst d140_14 rfl ?_
      refine x_zret d140_15 gR_140 (by decide) ?_
      show Ex (d + 3) 231 21 [some (.inr 137), some (.inl x1), none, none, none, none] [.inl 0] (0, 0, n, sh, R, I2) _
      refine x_if1 (pc2 := 27) d231_21 rfl (fun c => absurd (show ¬ (0 : Int) = 0 from c) (by decide)) (fun _ => ?_)
      refine x_bipush d231_24 rfl ?_
      exact x_iret d231_26 gR_231 ⟨_, _, rfl, rfl, k⟩
    · replace c : ¬ (x1 < (-1)) := c
      rw [if_neg c] at k
      refine x_iload_n d140_5 rfl ?_
      refine x_iload_n d140_6 rfl ?_
      refine x_if2 (pc2 := 14) d140_7 rfl (fun c => ?_) (fun c => ?_)
      · replace c : (I2 137 58 - 1) < x1 := c
        rw [if_pos c] at k
        refine x_iconst d140_14 rfl ?_
        refine x_zret d140_15 gR_140 (by decide) ?_
        show Ex (d + 3) 231 21 [some (.inr 137), some (.inl x1), none, none, none, none] [.inl 0] (0, 0, n, sh, R, I2) _
        refine x_if1 (pc2 := 27) d231_21 rfl (fun c => absurd (show ¬ (0 : Int) = 0 from c) (by decide)) (fun _ => ?_)
        refine x_bipush d231_24 rfl ?_
        exact x_iret d231_26 gR_231 ⟨_, _, rfl, rfl, k⟩
      · replace c : ¬ ((I2 137 58 - 1) < x1) := c
        rw [if_neg c] at k
        refine x_iconst d140_10 rfl ?_
        refine x_goto (pc2 := 15) d140_11 rfl ?_
        refine x_zret d140_15 gR_140 (by decide) ?_
        show Ex (d + 3) 231 21 [some (.inr 137), some (.inl x1), none, none, none, none] [.inl 1] (0, 0, n, sh, R, I2) _
        refine x_if1 (pc2 := 27) d231_21 rfl (fun _ => ?_) (fun c => absurd (show ¬ (1 : Int) = 0 by decide) c)
        refine x_aload_n d231_27 rfl ?_
        refine y_invV (as := []) (t := []) (o := 137) gY_230 d231_28 gY_231.2.2.2 gM_12_448 rfl (sh_137 hW) rfl k (fun I5 k => ?_)
        refine x_iload_n d231_31 rfl ?_
        refine x_iconst d231_32 rfl ?_
        refine x_if2 (pc2 := 46) d231_33 rfl (fun c => ?_) (fun c => ?_)
        · replace c : ¬ x1 = (-1) := c
          rw [if_pos c] at k
          refine x_iconst d231_46 rfl ?_
          refine x_istore_n (ls2 := [some (.inr 137), some (.inl x1), some (.inl 0), none, none, none]) d231_47 rfl rfl ?_
          refine x_aload_n d231_48 rfl ?_
          refine x_getI d231_49 gY_231.2.2.2 gF_12_436 rfl (sh_137 hW) ?_
          refine x_istore_n (ls2 := [some (.inr 137), some (.inl x1), some (.inl 0), some (.inl (I5 137 58)), none, none]) d231_52 rfl rfl ?_
          refine x_iconst d231_53 rfl ?_
          refine x_istore (ls2 := [some (.inr 137), some (.inl x1), some (.inl 0), some (.inl (I5 137 58)), some (.inl 0), none]) d231_54 rfl rfl ?_
          exact k
        · replace c : ¬ (¬ x1 = (-1)) := c
          rw [if_neg c] at k
          refine x_aload_n d231_36 rfl ?_
          refine x_getR (r := 176) d231_37 gY_231.2.2.2 gF_12_125 rfl (sh_137 hW) (rf_137_62 hW) (by decide) ?_
          refine x_aload_n d231_40 rfl ?_
          refine x_getI d231_41 gY_231.2.2.2 gF_12_436 rfl (sh_137 hW) ?_
          have e6 := k.1
          replace k := k.2
          refine x_iald d231_44 (sh_176 hW) e6.1 e6.2 ?_
          exact x_iret d231_45 gR_231 ⟨_, _, rfl, rfl, k⟩
  · replace c : ¬ (¬ v1 = 0) := c
    rw [if_neg c] at k
    refine x_bipush d231_7 rfl ?_
    exact x_iret d231_9 gR_231 ⟨_, _, rfl, rfl, k⟩
set_option maxHeartbeats 4000000 in
theorem b_M_together_56 {d n : Nat} {sh : ZS} {R : ZR} {I : ZI} {Q : Int → ZI → Prop} (hW : Wf sh R) {x1 : Int} {x2 : Int} {x3 : Int} {x4 : Int} {u5 : Option AV}
    (k : XIs (d + 3) 231 59 [some (.inr 137), some (.inl x1), some (.inl x2), some (.inl x3), some (.inl x4), some (.inl 0)] [] n sh R I Q) : XIs (d + 3) 231 56 [some (.inr 137), some (.inl x1), some (.inl x2), some (.inl x3), some (.inl x4), u5] [] n sh R I Q := by
  unfold XIs
  refine x_iconst d231_56 rfl ?_
  refine x_istore (ls2 := [some (.inr 137), some (.inl x1), some (.inl x2), some (.inl x3), some (.inl x4), some (.inl 0)]) d231_57 rfl rfl ?_
  exact k
set_option maxHeartbeats 4000000 in
theorem b_M_together_59 {d n : Nat} {sh : ZS} {R : ZR} {I : ZI} {Q : Int → ZI → Prop} (hW : Wf sh R) {x1 : Int} {x2 : Int} {x3 : Int} {x4 : Int} {x5 : Int}
    (k : (if ¬ (zand (zshr x2 x5) 1) = 1 then (if x3 = I 137 58 then (zr (9 * (zor x2 (zshl 1 x5)))) ∧ (zr ((9 * (zor x2 (zshl 1 x5))) + x5)) ∧ (0 ≤ ((9 * (zor x2 (zshl 1 x5))) + x5) ∧ ((9 * (zor x2 (zshl 1 x5))) + x5) < 2304) ∧ (zr (1 + I 176 ((9 * (zor x2 (zshl 1 x5))) + x5).toNat)) ∧ (zr (9 * x2)) ∧ (zr ((9 * x2) + x3)) ∧ (0 ≤ ((9 * x2) + x3) ∧ ((9 * x2) + x3) < 2304) ∧ (if (1 + I 176 ((9 * (zor x2 (zshl 1 x5))) + x5).toNat) = I 176 ((9 * x2) + x3).toNat then (if ¬ x4 = x1 then (zr (x4 + 1)) ∧ XIs (d + 3) 231 56 [some (.inr 137), some (.inl x1), some (.inl (zor x2 (zshl 1 x5))), some (.inl x5), some (.inl (x4 + 1)), some (.inl x5)] [] n sh R I Q else (0 ≤ x5 ∧ x5 < 8) ∧ Q (I 173 (x5).toNat) I) else (zr (x5 + 1)) ∧ XIs (d + 3) 231 59 [some (.inr 137), some (.inl x1), some (.inl x2), some (.inl x3), some (.inl x4), some (.inl (x5 + 1))] [] n sh R I Q) else (0 ≤ x3 ∧ x3 < 8) ∧ (0 ≤ x5 ∧ x5 < 8) ∧ (if I 175 (x3).toNat ≤ I 174 (x5).toNat then (zr (9 * (zor x2 (zshl 1 x5)))) ∧ (zr ((9 * (zor x2 (zshl 1 x5))) + x5)) ∧ (0 ≤ ((9 * (zor x2 (zshl 1 x5))) + x5) ∧ ((9 * (zor x2 (zshl 1 x5))) + x5) < 2304) ∧ (zr (0 + I 176 ((9 * (zor x2 (zshl 1 x5))) + x5).toNat)) ∧ (zr (9 * x2)) ∧ (zr ((9 * x2) + x3)) ∧ (0 ≤ ((9 * x2) + x3) ∧ ((9 * x2) + x3) < 2304) ∧ (if (0 + I 176 ((9 * (zor x2 (zshl 1 x5))) + x5).toNat) = I 176 ((9 * x2) + x3).toNat then (if ¬ x4 = x1 then (zr (x4 + 1)) ∧ XIs (d + 3) 231 56 [some (.inr 137), some (.inl x1), some (.inl (zor x2 (zshl 1 x5))), some (.inl x5), some (.inl (x4 + 1)), some (.inl x5)] [] n sh R I Q else Q (I 173 (x5).toNat) I) else (zr (x5 + 1)) ∧ XIs (d + 3) 231 59 [some (.inr 137), some (.inl x1), some (.inl x2), some (.inl x3), some (.inl x4), some (.inl (x5 + 1))] [] n sh R I Q) else (zr (9 * (zor x2 (zshl 1 x5)))) ∧ (zr ((9 * (zor x2 (zshl 1 x5))) + x5)) ∧ (0 ≤ ((9 * (zor x2 (zshl 1 x5))) + x5) ∧ ((9 * (zor x2 (zshl 1 x5))) + x5) < 2304) ∧ (zr (1 + I 176 ((9 * (zor x2 (zshl 1 x5))) + x5).toNat)) ∧ (zr (9 * x2)) ∧ (zr ((9 * x2) + x3)) ∧ (0 ≤ ((9 * x2) + x3) ∧ ((9 * x2) + x3) < 2304) ∧ (if (1 + I 176 ((9 * (zor x2 (zshl 1 x5))) + x5).toNat) = I 176 ((9 * x2) + x3).toNat then (if ¬ x4 = x1 then (zr (x4 + 1)) ∧ XIs (d + 3) 231 56 [some (.inr 137), some (.inl x1), some (.inl (zor x2 (zshl 1 x5))), some (.inl x5), some (.inl (x4 + 1)), some (.inl x5)] [] n sh R I Q else Q (I 173 (x5).toNat) I) else (zr (x5 + 1)) ∧ XIs (d + 3) 231 59 [some (.inr 137), some (.inl x1), some (.inl x2), some (.inl x3), some (.inl x4), some (.inl (x5 + 1))] [] n sh R I Q))) else (zr (x5 + 1)) ∧ XIs (d + 3) 231 59 [some (.inr 137), some (.inl x1), some (.inl x2), some (.inl x3), some (.inl x4), some (.inl (x5 + 1))] [] n sh R I Q)) : XIs (d + 3) 231 59 [some (.inr 137), some (.inl x1), some (.inl x2), some (.inl x3), some (.inl x4), some (.inl x5)] [] n sh R I Q := by
  unfold XIs
  refine x_iload_n d231_59 rfl ?_
  refine x_iload d231_60 rfl ?_
  refine y_ins (as := [.inl x2, .inl x5]) (t := []) (ls2 := [some (.inl x2), some (.inl x5)]) gY_143 d231_62 gY_231.2.2.2 gM_12_300 rfl rfl rfl ?_
  refine x_iload_n d143_0 rfl ?_
  refine x_iload_n d143_1 rfl ?_
  refine x_ishr d143_2 ?_
  refine x_iconst d143_3 rfl ?_
  refine x_iand d143_4 ?_
  refine x_iconst d143_5 rfl ?_
  refine x_if2 (pc2 := 13) d143_6 rfl (fun c => ?_) (fun c => ?_)
  · replace c : ¬ (zand (zshr x2 x5) 1) = 1 := c
    rw [if_pos c] at k
    refine x_iconst d143_13 rfl ?_
    refine x_zret d143_14 gR_143 (by decide) ?_
    show Ex (d + 3) 231 65 [some (.inr 137), some (.inl x1), some (.inl x2), some (.inl x3), some (.inl x4), some (.inl x5)] [.inl 0] (0, 0, n, sh, R, I) _
    refine x_if1 (pc2 := 90) d231_65 rfl (fun c => absurd (show ¬ (0 : Int) = 0 from c) (by decide)) (fun _ => ?_)
    refine x_aload_n d231_68 rfl ?_
    refine x_iload_n d231_69 rfl ?_
    refine x_iload_n d231_70 rfl ?_
    refine x_iload d231_71 rfl ?_
    refine y_inv (as := [.inl x2, .inl x3, .inl x5]) (t := []) (o := 137) (ls2 := [some (.inr 137), some (.inl x2), some (.inl x3), some (.inl x5)]) gY_229 d231_73 gY_231.2.2.2 gM_12_442 rfl (sh_137 hW) rfl rfl ?_
    refine x_aload_n d229_0 rfl ?_
    refine x_iload_n d229_1 rfl ?_
    refine x_iload_n d229_2 rfl ?_
    refine y_inv (as := [.inl x3, .inl x5]) (t := []) (o := 137) (ls2 := [some (.inr 137), some (.inl x3), some (.inl x5)]) gY_228 d229_3 gY_229.2.2.2 gM_12_439 rfl (sh_137 hW) rfl rfl ?_
    refine x_iload_n d228_0 rfl ?_
    refine x_aload_n d228_1 rfl ?_
    refine x_getI d228_2 gY_228.2.2.2 gF_12_436 rfl (sh_137 hW) ?_
    refine x_if2 (pc2 := 23) d228_5 rfl (fun c => ?_) (fun c => ?_)
    · replace c : x3 = I 137 58 := c
      rw [if_pos c] at k
      refine x_iconst d228_23 rfl ?_
      refine x_goto (pc2 := 28) d228_24 rfl ?_
      refine x_iret d228_28 gR_228 ?_
      show Ex (d + 2) 229 6 [some (.inr 137), some (.inl x2), some (.inl x3), some (.inl x5)] [.inl 1] (0, 0, n, sh, R, I) _
      refine x_aload_n d229_6 rfl ?_
      refine x_getR (r := 176) d229_7 gY_229.2.2.2 gF_12_125 rfl (sh_137 hW) (rf_137_62 hW) (by decide) ?_
      refine x_bipush d229_10 rfl ?_
      refine x_iload_n d229_12 rfl ?_
      refine x_iconst d229_13 rfl ?_
      refine x_iload_n d229_14 rfl ?_
      refine x_ishl d229_15 ?_
      refine x_ior d229_16 ?_
      have e1 := k.1
      replace k := k.2
      refine x_imul d229_17 e1 ?_
      refine x_iload_n d229_18 rfl ?_
      have e2 := k.1
      replace k := k.2
      refine x_iadd d229_19 e2 ?_
      have e3 := k.1
      replace k := k.2
      refine x_iald d229_20 (sh_176 hW) e3.1 e3.2 ?_
      have e4 := k.1
      replace k := k.2
      refine x_iadd d229_21 e4 ?_
      refine x_iret d229_22 gR_229 ?_
      show Ex (d + 3) 231 76 [some (.inr 137), some (.inl x1), some (.inl x2), some (.inl x3), some (.inl x4), some (.inl x5)] [.inl (1 + I 176 ((9 * (zor x2 (zshl 1 x5))) + x5).toNat)] (0, 0, n, sh, R, I) _
      refine x_aload_n d231_76 rfl ?_
      refine x_getR (r := 176) d231_77 gY_231.2.2.2 gF_12_125 rfl (sh_137 hW) (rf_137_62 hW) (by decide) ?_
      refine x_bipush d231_80 rfl ?_
      refine x_iload_n d231_82 rfl ?_
      have e5 := k.1
      replace k := k.2
      refine x_imul d231_83 e5 ?_
      refine x_iload_n d231_84 rfl ?_
      have e6 := k.1
      replace k := k.2
      refine x_iadd d231_85 e6 ?_
      have e7 := k.1
      replace k := k.2
      refine x_iald d231_86 (sh_176 hW) e7.1 e7.2 ?_
      refine x_if2 (pc2 := 99) d231_87 rfl (fun c => ?_) (fun c => ?_)
      · replace c : (1 + I 176 ((9 * (zor x2 (zshl 1 x5))) + x5).toNat) = I 176 ((9 * x2) + x3).toNat := c
        rw [if_pos c] at k
        refine x_iload d231_99 rfl ?_
        refine x_iload_n d231_101 rfl ?_
        refine x_if2 (pc2 := 113) d231_102 rfl (fun c => ?_) (fun c => ?_)
        · replace c : ¬ x4 = x1 := c
          rw [if_pos c] at k
          refine x_iload_n d231_113 rfl ?_
          refine x_iconst d231_114 rfl ?_
          refine x_iload d231_115 rfl ?_
          refine x_ishl d231_117 ?_
          refine x_ior d231_118 ?_
          refine x_istore_n (ls2 := [some (.inr 137), some (.inl x1), some (.inl (zor x2 (zshl 1 x5))), some (.inl x3), some (.inl x4), some (.inl x5)]) d231_119 rfl rfl ?_
          refine x_iload d231_120 rfl ?_
          refine x_istore_n (ls2 := [some (.inr 137), some (.inl x1), some (.inl (zor x2 (zshl 1 x5))), some (.inl x5), some (.inl x4), some (.inl x5)]) d231_122 rfl rfl ?_
          have e8 := k.1
          replace k := k.2
          refine x_iinc (ls2 := [some (.inr 137), some (.inl x1), some (.inl (zor x2 (zshl 1 x5))), some (.inl x5), some (.inl (x4 + 1)), some (.inl x5)]) d231_123 rfl e8 rfl ?_
          refine x_goto (pc2 := 56) d231_126 rfl ?_
          exact k
        · replace c : ¬ (¬ x4 = x1) := c
          rw [if_neg c] at k
          refine x_aload_n d231_105 rfl ?_
          refine x_getR (r := 173) d231_106 gY_231.2.2.2 gF_12_116 rfl (sh_137 hW) (rf_137_59 hW) (by decide) ?_
          refine x_iload d231_109 rfl ?_
          have e9 := k.1
          replace k := k.2
          refine x_iald d231_111 (sh_173 hW) e9.1 e9.2 ?_
          exact x_iret d231_112 gR_231 ⟨_, _, rfl, rfl, k⟩
      · replace c : ¬ ((1 + I 176 ((9 * (zor x2 (zshl 1 x5))) + x5).toNat) = I 176 ((9 * x2) + x3).toNat) := c
        rw [if_neg c] at k
        refine x_iload d231_90 rfl ?_
        refine x_iconst d231_92 rfl ?_
        have e10 := k.1
        replace k := k.2
        refine x_iadd d231_93 e10 ?_
        refine x_istore (ls2 := [some (.inr 137), some (.inl x1), some (.inl x2), some (.inl x3), some (.inl x4), some (.inl (x5 + 1))]) d231_94 rfl rfl ?_
        refine x_goto (pc2 := 59) d231_96 rfl ?_
        exact k
    · replace c : ¬ (x3 = I 137 58) := c
      rw [if_neg c] at k
      refine x_aload_n d228_8 rfl ?_
      refine x_getR (r := 175) d228_9 gY_228.2.2.2 gF_12_122 rfl (sh_137 hW) (rf_137_61 hW) (by decide) ?_
      refine x_iload_n d228_12 rfl ?_
      have e11 := k.1
      replace k := k.2
      refine x_iald d228_13 (sh_175 hW) e11.1 e11.2 ?_
      refine x_aload_n d228_14 rfl ?_
      refine x_getR (r := 174) d228_15 gY_228.2.2.2 gF_12_119 rfl (sh_137 hW) (rf_137_60 hW) (by decide) ?_
      refine x_iload_n d228_18 rfl ?_
      have e12 := k.1
      replace k := k.2
      refine x_iald d228_19 (sh_174 hW) e12.1 e12.2 ?_
      refine x_if2 (pc2 := 27) d228_20 rfl (fun c => ?_) (fun c => ?_)
      · replace c : I 175 (x3).toNat ≤ I 174 (x5).toNat := c
        rw [if_pos c] at k
        refine x_iconst d228_27 rfl ?_
        refine x_iret d228_28 gR_228 ?_
        show Ex (d + 2) 229 6 [some (.inr 137), some (.inl x2), some (.inl x3), some (.inl x5)] [.inl 0] (0, 0, n, sh, R, I) _
        refine x_aload_n d229_6 rfl ?_
        refine x_getR (r := 176) d229_7 gY_229.2.2.2 gF_12_125 rfl (sh_137 hW) (rf_137_62 hW) (by decide) ?_
        refine x_bipush d229_10 rfl ?_
        refine x_iload_n d229_12 rfl ?_
        refine x_iconst d229_13 rfl ?_
        refine x_iload_n d229_14 rfl ?_
        refine x_ishl d229_15 ?_
        refine x_ior d229_16 ?_
        have e13 := k.1
        replace k := k.2
        refine x_imul d229_17 e13 ?_
        refine x_iload_n d229_18 rfl ?_
        have e14 := k.1
        replace k := k.2
        refine x_iadd d229_19 e14 ?_
        have e15 := k.1
        replace k := k.2
        refine x_iald d229_20 (sh_176 hW) e15.1 e15.2 ?_
        have e16 := k.1
        replace k := k.2
        refine x_iadd d229_21 e16 ?_
        refine x_iret d229_22 gR_229 ?_
        show Ex (d + 3) 231 76 [some (.inr 137), some (.inl x1), some (.inl x2), some (.inl x3), some (.inl x4), some (.inl x5)] [.inl (0 + I 176 ((9 * (zor x2 (zshl 1 x5))) + x5).toNat)] (0, 0, n, sh, R, I) _
        refine x_aload_n d231_76 rfl ?_
        refine x_getR (r := 176) d231_77 gY_231.2.2.2 gF_12_125 rfl (sh_137 hW) (rf_137_62 hW) (by decide) ?_
        refine x_bipush d231_80 rfl ?_
        refine x_iload_n d231_82 rfl ?_
        have e17 := k.1
        replace k := k.2
        refine x_imul d231_83 e17 ?_
        refine x_iload_n d231_84 rfl ?_
        have e18 := k.1
        replace k := k.2
        refine x_iadd d231_85 e18 ?_
        have e19 := k.1
        replace k := k.2
        refine x_iald d231_86 (sh_176 hW) e19.1 e19.2 ?_
        refine x_if2 (pc2 := 99) d231_87 rfl (fun c => ?_) (fun c => ?_)
        · replace c : (0 + I 176 ((9 * (zor x2 (zshl 1 x5))) + x5).toNat) = I 176 ((9 * x2) + x3).toNat := c
          rw [if_pos c] at k
          refine x_iload d231_99 rfl ?_
          refine x_iload_n d231_101 rfl ?_
          refine x_if2 (pc2 := 113) d231_102 rfl (fun c => ?_) (fun c => ?_)
          · replace c : ¬ x4 = x1 := c
            rw [if_pos c] at k
            refine x_iload_n d231_113 rfl ?_
            refine x_iconst d231_114 rfl ?_
            refine x_iload d231_115 rfl ?_
            refine x_ishl d231_117 ?_
            refine x_ior d231_118 ?_
            refine x_istore_n (ls2 := [some (.inr 137), some (.inl x1), some (.inl (zor x2 (zshl 1 x5))), some (.inl x3), some (.inl x4), some (.inl x5)]) d231_119 rfl rfl ?_
            refine x_iload d231_120 rfl ?_
            refine x_istore_n (ls2 := [some (.inr 137), some (.inl x1), some (.inl (zor x2 (zshl 1 x5))), some (.inl x5), some (.inl x4), some (.inl x5)]) d231_122 rfl rfl ?_
            have e20 := k.1
            replace k := k.2
            refine x_iinc (ls2 := [some (.inr 137), some (.inl x1), some (.inl (zor x2 (zshl 1 x5))), some (.inl x5), some (.inl (x4 + 1)), some (.inl x5)]) d231_123 rfl e20 rfl ?_
            refine x_goto (pc2 := 56) d231_126 rfl ?_
            exact k
          · replace c : ¬ (¬ x4 = x1) := c
            rw [if_neg c] at k
            refine x_aload_n d231_105 rfl ?_
            refine x_getR (r := 173) d231_106 gY_231.2.2.2 gF_12_116 rfl (sh_137 hW) (rf_137_59 hW) (by decide) ?_
            refine x_iload d231_109 rfl ?_
            refine x_iald d231_111 (sh_173 hW) e12.1 e12.2 ?_
            exact x_iret d231_112 gR_231 ⟨_, _, rfl, rfl, k⟩
        · replace c : ¬ ((0 + I 176 ((9 * (zor x2 (zshl 1 x5))) + x5).toNat) = I 176 ((9 * x2) + x3).toNat) := c
          rw [if_neg c] at k
          refine x_iload d231_90 rfl ?_
          refine x_iconst d231_92 rfl ?_
          have e21 := k.1
          replace k := k.2
          refine x_iadd d231_93 e21 ?_
          refine x_istore (ls2 := [some (.inr 137), some (.inl x1), some (.inl x2), some (.inl x3), some (.inl x4), some (.inl (x5 + 1))]) d231_94 rfl rfl ?_
          refine x_goto (pc2 := 59) d231_96 rfl ?_
          exact k
      · replace c : ¬ (I 175 (x3).toNat ≤ I 174 (x5).toNat) := c
        rw [if_neg c] at k
        refine x_iconst d228_23 rfl ?_
        refine x_goto (pc2 := 28) d228_24 rfl ?_
        refine x_iret d228_28 gR_228 ?_
        show Ex (d + 2) 229 6 [some (.inr 137), some (.inl x2), some (.inl x3), some (.inl x5)] [.inl 1] (0, 0, n, sh, R, I) _
        refine x_aload_n d229_6 rfl ?_
        refine x_getR (r := 176) d229_7 gY_229.2.2.2 gF_12_125 rfl (sh_137 hW) (rf_137_62 hW) (by decide) ?_
        refine x_bipush d229_10 rfl ?_
        refine x_iload_n d229_12 rfl ?_
        refine x_iconst d229_13 rfl ?_
        refine x_iload_n d229_14 rfl ?_
        refine x_ishl d229_15 ?_
        refine x_ior d229_16 ?_
        have e22 := k.1
        replace k := k.2
        refine x_imul d229_17 e22 ?_
        refine x_iload_n d229_18 rfl ?_
        have e23 := k.1
        replace k := k.2
        refine x_iadd d229_19 e23 ?_
        have e24 := k.1
        replace k := k.2
        refine x_iald d229_20 (sh_176 hW) e24.1 e24.2 ?_
        have e25 := k.1
        replace k := k.2
        refine x_iadd d229_21 e25 ?_
        refine x_iret d229_22 gR_229 ?_
        show Ex (d + 3) 231 76 [some (.inr 137), some (.inl x1), some (.inl x2), some (.inl x3), some (.inl x4), some (.inl x5)] [.inl (1 + I 176 ((9 * (zor x2 (zshl 1 x5))) + x5).toNat)] (0, 0, n, sh, R, I) _
        refine x_aload_n d231_76 rfl ?_
        refine x_getR (r := 176) d231_77 gY_231.2.2.2 gF_12_125 rfl (sh_137 hW) (rf_137_62 hW) (by decide) ?_
        refine x_bipush d231_80 rfl ?_
        refine x_iload_n d231_82 rfl ?_
        have e26 := k.1
        replace k := k.2
        refine x_imul d231_83 e26 ?_
        refine x_iload_n d231_84 rfl ?_
        have e27 := k.1
        replace k := k.2
        refine x_iadd d231_85 e27 ?_
        have e28 := k.1
        replace k := k.2
        refine x_iald d231_86 (sh_176 hW) e28.1 e28.2 ?_
        refine x_if2 (pc2 := 99) d231_87 rfl (fun c => ?_) (fun c => ?_)
        · replace c : (1 + I 176 ((9 * (zor x2 (zshl 1 x5))) + x5).toNat) = I 176 ((9 * x2) + x3).toNat := c
          rw [if_pos c] at k
          refine x_iload d231_99 rfl ?_
          refine x_iload_n d231_101 rfl ?_
          refine x_if2 (pc2 := 113) d231_102 rfl (fun c => ?_) (fun c => ?_)
          · replace c : ¬ x4 = x1 := c
            rw [if_pos c] at k
            refine x_iload_n d231_113 rfl ?_
            refine x_iconst d231_114 rfl ?_
            refine x_iload d231_115 rfl ?_
            refine x_ishl d231_117 ?_
            refine x_ior d231_118 ?_
            refine x_istore_n (ls2 := [some (.inr 137), some (.inl x1), some (.inl (zor x2 (zshl 1 x5))), some (.inl x3), some (.inl x4), some (.inl x5)]) d231_119 rfl rfl ?_
            refine x_iload d231_120 rfl ?_
            refine x_istore_n (ls2 := [some (.inr 137), some (.inl x1), some (.inl (zor x2 (zshl 1 x5))), some (.inl x5), some (.inl x4), some (.inl x5)]) d231_122 rfl rfl ?_
            have e29 := k.1
            replace k := k.2
            refine x_iinc (ls2 := [some (.inr 137), some (.inl x1), some (.inl (zor x2 (zshl 1 x5))), some (.inl x5), some (.inl (x4 + 1)), some (.inl x5)]) d231_123 rfl e29 rfl ?_
            refine x_goto (pc2 := 56) d231_126 rfl ?_
            exact k
          · replace c : ¬ (¬ x4 = x1) := c
            rw [if_neg c] at k
            refine x_aload_n d231_105 rfl ?_
            refine x_getR (r := 173) d231_106 gY_231.2.2.2 gF_12_116 rfl (sh_137 hW) (rf_137_59 hW) (by decide) ?_
            refine x_iload d231_109 rfl ?_
            refine x_iald d231_111 (sh_173 hW) e12.1 e12.2 ?_
            exact x_iret d231_112 gR_231 ⟨_, _, rfl, rfl, k⟩
        · replace c : ¬ ((1 + I 176 ((9 * (zor x2 (zshl 1 x5))) + x5).toNat) = I 176 ((9 * x2) + x3).toNat) := c
          rw [if_neg c] at k
          refine x_iload d231_90 rfl ?_
          refine x_iconst d231_92 rfl ?_
          have e30 := k.1
          replace k := k.2
          refine x_iadd d231_93 e30 ?_
          refine x_istore (ls2 := [some (.inr 137), some (.inl x1), some (.inl x2), some (.inl x3), some (.inl x4), some (.inl (x5 + 1))]) d231_94 rfl rfl ?_
          refine x_goto (pc2 := 59) d231_96 rfl ?_
          exact k
  · replace c : ¬ (¬ (zand (zshr x2 x5) 1) = 1) := c
    rw [if_neg c] at k
    refine x_iconst d143_9 rfl ?_
    refine x_goto (pc2 := 14) d143_10 rfl ?_
    refine x_zret d143_14 gR_143 (by decide) ?_
    show Ex (d + 3) 231 65 [some (.inr 137), some (.inl x1), some (.inl x2), some (.inl x3), some (.inl x4), some (.inl x5)] [.inl 1] (0, 0, n, sh, R, I) _
    refine x_if1 (pc2 := 90) d231_65 rfl (fun _ => ?_) (fun c => absurd (show ¬ (1 : Int) = 0 by decide) c)
    refine x_iload d231_90 rfl ?_
    refine x_iconst d231_92 rfl ?_
    have e31 := k.1
    replace k := k.2
    refine x_iadd d231_93 e31 ?_
    refine x_istore (ls2 := [some (.inr 137), some (.inl x1), some (.inl x2), some (.inl x3), some (.inl x4), some (.inl (x5 + 1))]) d231_94 rfl rfl ?_
    refine x_goto (pc2 := 59) d231_96 rfl ?_
    exact k
set_option maxHeartbeats 4000000 in
theorem b_M_laysAsItIs_0 {d n : Nat} {sh : ZS} {R : ZR} {I : ZI} {Q : ZI → Prop} (hW : Wf sh R) {x1 : Int}
    (k : XV (d + 6) 187 [.inr 137, .inl x1] n sh R I (fun I2 => XV (d + 6) 189 [.inr 142, .inr 177] n sh R (zup I2 137 64 (I2 137 1)) (fun I4 => XV (d + 6) 191 [.inr 137] n sh R I4 (fun I6 => Q I6)))) : XV (d + 7) 232 [.inr 137, .inl x1] n sh R I Q := by
  refine XV.of (ls := [some (.inr 137), some (.inl x1)]) (zloc_eq gY_232.2.2.1) ?_
  unfold XVs
  refine x_aload_n d232_0 rfl ?_
  refine x_iload_n d232_1 rfl ?_
  refine y_invV (as := [.inl x1]) (t := []) (o := 137) gY_187 d232_2 gY_232.2.2.2 gM_12_355 rfl (sh_137 hW) rfl k (fun I2 k => ?_)
  refine x_aload_n d232_5 rfl ?_
  refine x_aload_n d232_6 rfl ?_
  refine x_getI d232_7 gY_232.2.2.2 gF_12_162 rfl (sh_137 hW) ?_
  refine x_putI d232_10 gY_232.2.2.2 gF_12_451 rfl rfl (sh_137 hW) ?_
  refine x_aload_n d232_13 rfl ?_
  refine x_getR (r := 142) d232_14 gY_232.2.2.2 gF_12_22 rfl (sh_137 hW) (rf_137_10 hW) (by decide) ?_
  refine x_aload_n d232_17 rfl ?_
  refine x_getR (r := 177) d232_18 gY_232.2.2.2 gF_12_128 rfl (sh_137 hW) (rf_137_63 hW) (by decide) ?_
  refine y_insV (as := [.inr 142, .inr 177]) (t := []) gY_189 d232_21 gY_232.2.2.2 gM_12_342 rfl rfl k (fun I4 k => ?_)
  refine x_aload_n d232_24 rfl ?_
  refine y_invV (as := []) (t := []) (o := 137) gY_191 d232_25 gY_232.2.2.2 gM_12_364 rfl (sh_137 hW) rfl k (fun I6 k => ?_)
  exact x_vret d232_28 gR_232 ⟨_, rfl, rfl, k⟩
set_option maxHeartbeats 4000000 in
theorem b_M_goesWrong_0 {d n : Nat} {sh : ZS} {R : ZR} {I : ZI} {Q : Int → ZI → Prop} (hW : Wf sh R) {x1 : Int} {x2 : Int} {x3 : Int} {x4 : Int}
    (k : XIs (d + 5) 233 3 [some (.inr 137), some (.inl x1), some (.inl x2), some (.inl x3), some (.inl x4), some (.inl 0), none] [] n sh R I Q) : XI (d + 5) 233 [.inr 137, .inl x1, .inl x2, .inl x3, .inl x4] n sh R I Q := by
  refine XI.of (ls := [some (.inr 137), some (.inl x1), some (.inl x2), some (.inl x3), some (.inl x4), none, none]) (zloc_eq gY_233.2.2.1) ?_
  unfold XIs
  refine x_iconst d233_0 rfl ?_
  refine x_istore (ls2 := [some (.inr 137), some (.inl x1), some (.inl x2), some (.inl x3), some (.inl x4), some (.inl 0), none]) d233_1 rfl rfl ?_
  exact k
set_option maxHeartbeats 4000000 in
theorem b_M_goesWrong_3 {d n : Nat} {sh : ZS} {R : ZR} {I : ZI} {Q : Int → ZI → Prop} (hW : Wf sh R) {x1 : Int} {x2 : Int} {x3 : Int} {x4 : Int} {x5 : Int} {u6 : Option AV}
    (k : (if x1 ≤ x5 then Q 1 I else XV (d + 4) 182 [.inr 137] n sh R I (fun I2 => XV (d + 4) 184 [.inr 137] n sh R I2 (fun I4 => XI (d + 4) 151 [.inr 137, .inl x3] n sh R I4 (fun v5 I6 => (if ¬ x5 = x2 then XV (d + 4) 185 [.inr 137] n sh R I6 (fun I8 => (zr (x5 + 1)) ∧ XIs (d + 5) 233 3 [some (.inr 137), some (.inl x1), some (.inl x2), some (.inl x3), some (.inl x4), some (.inl (x5 + 1)), some (.inl v5)] [] n sh R I8 Q) else (if v5 = (-1) then Q 0 I6 else (0 ≤ v5 ∧ v5 < 32) ∧ (if I6 158 (v5).toNat = (-1) then Q 0 I6 else (if ¬ I6 158 (v5).toNat = x4 then XV (d + 4) 185 [.inr 137] n sh R (zup I6 158 (v5).toNat x4) (fun I12 => (zr (x5 + 1)) ∧ XIs (d + 5) 233 3 [some (.inr 137), some (.inl x1), some (.inl x2), some (.inl x3), some (.inl x4), some (.inl (x5 + 1)), some (.inl v5)] [] n sh R I12 Q) else Q 0 I6))))))))) : XIs (d + 5) 233 3 [some (.inr 137), some (.inl x1), some (.inl x2), some (.inl x3), some (.inl x4), some (.inl x5), u6] [] n sh R I Q := by
  unfold XIs
  refine x_iload d233_3 rfl ?_
  refine x_iload_n d233_5 rfl ?_
  refine x_if2 (pc2 := 80) d233_6 rfl (fun c => ?_) (fun c => ?_)
  · replace c : x1 ≤ x5 := c
    rw [if_pos c] at k
    refine x_iconst d233_80 rfl ?_
    exact x_zret d233_81 gR_233 (by decide) ⟨_, _, rfl, rfl, k⟩
  · replace c : ¬ (x1 ≤ x5) := c
    rw [if_neg c] at k
    refine x_aload_n d233_9 rfl ?_
    refine y_invV (as := []) (t := []) (o := 137) gY_182 d233_10 gY_233.2.2.2 gM_12_324 rfl (sh_137 hW) rfl k (fun I2 k => ?_)
    refine x_aload_n d233_13 rfl ?_
    refine y_invV (as := []) (t := []) (o := 137) gY_184 d233_14 gY_233.2.2.2 gM_12_327 rfl (sh_137 hW) rfl k (fun I4 k => ?_)
    refine x_aload_n d233_17 rfl ?_
    refine x_iload_n d233_18 rfl ?_
    refine y_invI (as := [.inl x3]) (t := []) (o := 137) gY_151 d233_19 gY_233.2.2.2 gM_12_349 rfl (sh_137 hW) rfl k (fun v5 I6 k => ?_)
    refine x_istore (ls2 := [some (.inr 137), some (.inl x1), some (.inl x2), some (.inl x3), some (.inl x4), some (.inl x5), some (.inl v5)]) d233_22 rfl rfl ?_
    refine x_iload d233_24 rfl ?_
    refine x_iload_n d233_26 rfl ?_
    refine x_if2 (pc2 := 70) d233_27 rfl (fun c => ?_) (fun c => ?_)
    · replace c : ¬ x5 = x2 := c
      rw [if_pos c] at k
      refine x_aload_n d233_70 rfl ?_
      refine y_invV (as := []) (t := []) (o := 137) gY_185 d233_71 gY_233.2.2.2 gM_12_330 rfl (sh_137 hW) rfl k (fun I8 k => ?_)
      have e9 := k.1
      replace k := k.2
      refine x_iinc (ls2 := [some (.inr 137), some (.inl x1), some (.inl x2), some (.inl x3), some (.inl x4), some (.inl (x5 + 1)), some (.inl v5)]) d233_74 rfl e9 rfl ?_
      refine x_goto (pc2 := 3) d233_77 rfl ?_
      exact k
    · replace c : ¬ (¬ x5 = x2) := c
      rw [if_neg c] at k
      refine x_iload d233_30 rfl ?_
      refine x_iconst d233_32 rfl ?_
      refine x_if2 (pc2 := 59) d233_33 rfl (fun c => ?_) (fun c => ?_)
      · replace c : v5 = (-1) := c
        rw [if_pos c] at k
        refine x_iconst d233_59 rfl ?_
        exact x_zret d233_60 gR_233 (by decide) ⟨_, _, rfl, rfl, k⟩
      · replace c : ¬ (v5 = (-1)) := c
        rw [if_neg c] at k
        refine x_aload_n d233_36 rfl ?_
        refine x_getR (r := 158) d233_37 gY_233.2.2.2 gF_12_71 rfl (sh_137 hW) (rf_137_39 hW) (by decide) ?_
        refine x_iload d233_40 rfl ?_
        have e10 := k.1
        replace k := k.2
        refine x_iald d233_42 (sh_158 hW) e10.1 e10.2 ?_
        refine x_iconst d233_43 rfl ?_
        refine x_if2 (pc2 := 59) d233_44 rfl (fun c => ?_) (fun c => ?_)
        · replace c : I6 158 (v5).toNat = (-1) := c
          rw [if_pos c] at k
          refine x_iconst d233_59 rfl ?_
          exact x_zret d233_60 gR_233 (by decide) ⟨_, _, rfl, rfl, k⟩
        · replace c : ¬ (I6 158 (v5).toNat = (-1)) := c
          rw [if_neg c] at k
          refine x_aload_n d233_47 rfl ?_
          refine x_getR (r := 158) d233_48 gY_233.2.2.2 gF_12_71 rfl (sh_137 hW) (rf_137_39 hW) (by decide) ?_
          refine x_iload d233_51 rfl ?_
          refine x_iald d233_53 (sh_158 hW) e10.1 e10.2 ?_
          refine x_iload d233_54 rfl ?_
          refine x_if2 (pc2 := 61) d233_56 rfl (fun c => ?_) (fun c => ?_)
          · replace c : ¬ I6 158 (v5).toNat = x4 := c
            rw [if_pos c] at k
            refine x_aload_n d233_61 rfl ?_
            refine x_getR (r := 158) d233_62 gY_233.2.2.2 gF_12_71 rfl (sh_137 hW) (rf_137_39 hW) (by decide) ?_
            refine x_iload d233_65 rfl ?_
            refine x_iload d233_67 rfl ?_
            refine x_iast d233_69 (sh_158 hW) e10.1 e10.2 ?_
            refine x_aload_n d233_70 rfl ?_
            refine y_invV (as := []) (t := []) (o := 137) gY_185 d233_71 gY_233.2.2.2 gM_12_330 rfl (sh_137 hW) rfl k (fun I12 k => ?_)
            have e13 := k.1
            replace k := k.2
            refine x_iinc (ls2 := [some (.inr 137), some (.inl x1), some (.inl x2), some (.inl x3), some (.inl x4), some (.inl (x5 + 1)), some (.inl v5)]) d233_74 rfl e13 rfl ?_
            refine x_goto (pc2 := 3) d233_77 rfl ?_
            exact k
          · replace c : ¬ (¬ I6 158 (v5).toNat = x4) := c
            rw [if_neg c] at k
            refine x_iconst d233_59 rfl ?_
            exact x_zret d233_60 gR_233 (by decide) ⟨_, _, rfl, rfl, k⟩
set_option maxHeartbeats 4000000 in
theorem b_M_placeIn_0 {d n : Nat} {sh : ZS} {R : ZR} {I : ZI} {Q : Int → ZI → Prop} (hW : Wf sh R) {x1 : Int} {x2 : Int}
    (k : XIs d 234 2 [some (.inr 177), some (.inl x1), some (.inl x2), some (.inl 0)] [] n sh R I Q) : XI d 234 [.inr 177, .inl x1, .inl x2] n sh R I Q := by
  refine XI.of (ls := [some (.inr 177), some (.inl x1), some (.inl x2), none]) (zloc_eq gY_234.2.2.1) ?_
  unfold XIs
  refine x_iconst d234_0 rfl ?_
  refine x_istore_n (ls2 := [some (.inr 177), some (.inl x1), some (.inl x2), some (.inl 0)]) d234_1 rfl rfl ?_
  exact k
set_option maxHeartbeats 4000000 in
theorem b_M_placeIn_2 {d n : Nat} {sh : ZS} {R : ZR} {I : ZI} {Q : Int → ZI → Prop} (hW : Wf sh R) {x1 : Int} {x2 : Int} {x3 : Int}
    (k : (if x1 ≤ x3 then Q (-1) I else (0 ≤ x3 ∧ x3 < 32) ∧ (if ¬ I 177 (x3).toNat = x2 then (zr (x3 + 1)) ∧ XIs d 234 2 [some (.inr 177), some (.inl x1), some (.inl x2), some (.inl (x3 + 1))] [] n sh R I Q else Q x3 I))) : XIs d 234 2 [some (.inr 177), some (.inl x1), some (.inl x2), some (.inl x3)] [] n sh R I Q := by
  unfold XIs
  refine x_iload_n d234_2 rfl ?_
  refine x_iload_n d234_3 rfl ?_
  refine x_if2 (pc2 := 22) d234_4 rfl (fun c => ?_) (fun c => ?_)
  · replace c : x1 ≤ x3 := c
    rw [if_pos c] at k
    refine x_iconst d234_22 rfl ?_
    exact x_iret d234_23 gR_234 ⟨_, _, rfl, rfl, k⟩
  · replace c : ¬ (x1 ≤ x3) := c
    rw [if_neg c] at k
    refine x_aload_n d234_7 rfl ?_
    refine x_iload_n d234_8 rfl ?_
    have e1 := k.1
    replace k := k.2
    refine x_iald d234_9 (sh_177 hW) e1.1 e1.2 ?_
    refine x_iload_n d234_10 rfl ?_
    refine x_if2 (pc2 := 16) d234_11 rfl (fun c => ?_) (fun c => ?_)
    · replace c : ¬ I 177 (x3).toNat = x2 := c
      rw [if_pos c] at k
      have e2 := k.1
      replace k := k.2
      refine x_iinc (ls2 := [some (.inr 177), some (.inl x1), some (.inl x2), some (.inl (x3 + 1))]) d234_16 rfl e2 rfl ?_
      refine x_goto (pc2 := 2) d234_19 rfl ?_
      exact k
    · replace c : ¬ (¬ I 177 (x3).toNat = x2) := c
      rw [if_neg c] at k
      refine x_iload_n d234_14 rfl ?_
      exact x_iret d234_15 gR_234 ⟨_, _, rfl, rfl, k⟩
set_option maxHeartbeats 4000000 in
theorem b_M_othersElsewhere_0 {d n : Nat} {sh : ZS} {R : ZR} {I : ZI} {Q : Int → ZI → Prop} (hW : Wf sh R) {x1 : Int}
    (k : XIs (d + 1) 235 4 [some (.inr 137), some (.inl x1), some (.inl 0), some (.inl 0)] [] n sh R I Q) : XI (d + 1) 235 [.inr 137, .inl x1] n sh R I Q := by
  refine XI.of (ls := [some (.inr 137), some (.inl x1), none, none]) (zloc_eq gY_235.2.2.1) ?_
  unfold XIs
  refine x_iconst d235_0 rfl ?_
  refine x_istore_n (ls2 := [some (.inr 137), some (.inl x1), some (.inl 0), none]) d235_1 rfl rfl ?_
  refine x_iconst d235_2 rfl ?_
  refine x_istore_n (ls2 := [some (.inr 137), some (.inl x1), some (.inl 0), some (.inl 0)]) d235_3 rfl rfl ?_
  exact k
set_option maxHeartbeats 4000000 in
theorem b_M_othersElsewhere_4 {d n : Nat} {sh : ZS} {R : ZR} {I : ZI} {Q : Int → ZI → Prop} (hW : Wf sh R) {x1 : Int} {x2 : Int} {x3 : Int}
    (k : (if I 137 1 ≤ x3 then Q x2 I else (0 ≤ x3 ∧ x3 < 32) ∧ (if I 142 (x3).toNat = x1 then (zr (x2 + 0)) ∧ (zr (x3 + 1)) ∧ XIs (d + 1) 235 4 [some (.inr 137), some (.inl x1), some (.inl (x2 + 0)), some (.inl (x3 + 1))] [] n sh R I Q else XI d 234 [.inr 177, .inl (I 137 64), .inl (I 142 (x3).toNat)] n sh R I (fun v4 I5 => (if v4 = x3 then (zr (x2 + 0)) ∧ (zr (x3 + 1)) ∧ XIs (d + 1) 235 4 [some (.inr 137), some (.inl x1), some (.inl (x2 + 0)), some (.inl (x3 + 1))] [] n sh R I5 Q else (zr (x2 + 1)) ∧ (zr (x3 + 1)) ∧ XIs (d + 1) 235 4 [some (.inr 137), some (.inl x1), some (.inl (x2 + 1)), some (.inl (x3 + 1))] [] n sh R I5 Q))))) : XIs (d + 1) 235 4 [some (.inr 137), some (.inl x1), some (.inl x2), some (.inl x3)] [] n sh R I Q := by
  unfold XIs
  refine x_iload_n d235_4 rfl ?_
  refine x_aload_n d235_5 rfl ?_
  refine x_getI d235_6 gY_235.2.2.2 gF_12_162 rfl (sh_137 hW) ?_
  refine x_if2 (pc2 := 57) d235_9 rfl (fun c => ?_) (fun c => ?_)
  · replace c : I 137 1 ≤ x3 := c
    rw [if_pos c] at k
    refine x_iload_n d235_57 rfl ?_
    exact x_iret d235_58 gR_235 ⟨_, _, rfl, rfl, k⟩
  · replace c : ¬ (I 137 1 ≤ x3) := c
    rw [if_neg c] at k
    refine x_iload_n d235_12 rfl ?_
    refine x_aload_n d235_13 rfl ?_
    refine x_getR (r := 142) d235_14 gY_235.2.2.2 gF_12_22 rfl (sh_137 hW) (rf_137_10 hW) (by decide) ?_
    refine x_iload_n d235_17 rfl ?_
    have e1 := k.1
    replace k := k.2
    refine x_iald d235_18 (sh_142 hW) e1.1 e1.2 ?_
    refine x_iload_n d235_19 rfl ?_
    refine x_if2 (pc2 := 48) d235_20 rfl (fun c => ?_) (fun c => ?_)
    · replace c : I 142 (x3).toNat = x1 := c
      rw [if_pos c] at k
      refine x_iconst d235_48 rfl ?_
      have e2 := k.1
      replace k := k.2
      refine x_iadd d235_49 e2 ?_
      refine x_istore_n (ls2 := [some (.inr 137), some (.inl x1), some (.inl (x2 + 0)), some (.inl x3)]) d235_50 rfl rfl ?_
      have e3 := k.1
      replace k := k.2
      refine x_iinc (ls2 := [some (.inr 137), some (.inl x1), some (.inl (x2 + 0)), some (.inl (x3 + 1))]) d235_51 rfl e3 rfl ?_
      refine x_goto (pc2 := 4) d235_54 rfl ?_
      exact k
    · replace c : ¬ (I 142 (x3).toNat = x1) := c
      rw [if_neg c] at k
      refine x_aload_n d235_23 rfl ?_
      refine x_getR (r := 177) d235_24 gY_235.2.2.2 gF_12_128 rfl (sh_137 hW) (rf_137_63 hW) (by decide) ?_
      refine x_aload_n d235_27 rfl ?_
      refine x_getI d235_28 gY_235.2.2.2 gF_12_451 rfl (sh_137 hW) ?_
      refine x_aload_n d235_31 rfl ?_
      refine x_getR (r := 142) d235_32 gY_235.2.2.2 gF_12_22 rfl (sh_137 hW) (rf_137_10 hW) (by decide) ?_
      refine x_iload_n d235_35 rfl ?_
      refine x_iald d235_36 (sh_142 hW) e1.1 e1.2 ?_
      refine y_insI (as := [.inr 177, .inl (I 137 64), .inl (I 142 (x3).toNat)]) (t := [.inl x2]) gY_234 d235_37 gY_235.2.2.2 gM_12_454 rfl rfl k (fun v4 I5 k => ?_)
      refine x_iload_n d235_40 rfl ?_
      refine x_if2 (pc2 := 48) d235_41 rfl (fun c => ?_) (fun c => ?_)
      · replace c : v4 = x3 := c
        rw [if_pos c] at k
        refine x_iconst d235_48 rfl ?_
        have e6 := k.1
        replace k := k.2
        refine x_iadd d235_49 e6 ?_
        refine x_istore_n (ls2 := [some (.inr 137), some (.inl x1), some (.inl (x2 + 0)), some (.inl x3)]) d235_50 rfl rfl ?_
        have e7 := k.1
        replace k := k.2
        refine x_iinc (ls2 := [some (.inr 137), some (.inl x1), some (.inl (x2 + 0)), some (.inl (x3 + 1))]) d235_51 rfl e7 rfl ?_
        refine x_goto (pc2 := 4) d235_54 rfl ?_
        exact k
      · replace c : ¬ (v4 = x3) := c
        rw [if_neg c] at k
        refine x_iconst d235_44 rfl ?_
        refine x_goto (pc2 := 49) d235_45 rfl ?_
        have e8 := k.1
        replace k := k.2
        refine x_iadd d235_49 e8 ?_
        refine x_istore_n (ls2 := [some (.inr 137), some (.inl x1), some (.inl (x2 + 1)), some (.inl x3)]) d235_50 rfl rfl ?_
        have e9 := k.1
        replace k := k.2
        refine x_iinc (ls2 := [some (.inr 137), some (.inl x1), some (.inl (x2 + 1)), some (.inl (x3 + 1))]) d235_51 rfl e9 rfl ?_
        refine x_goto (pc2 := 4) d235_54 rfl ?_
        exact k
set_option maxHeartbeats 4000000 in
theorem b_M_blunder_0 {d n : Nat} {sh : ZS} {R : ZR} {I : ZI} {Q : Int → ZI → Prop} (hW : Wf sh R) {x1 : Int} {x2 : Int} {x3 : Int} {x4 : Int} {x5 : Int}
    (k : (if x1 < 1 then Q (-1) I else (if 12 < x1 then Q (-1) I else (zr (I 137 2 + x1)) ∧ (if 12 < (I 137 2 + x1) then Q (-1) I else (zr (x1 - 1)) ∧ (if x2 < 0 then Q (-1) I else (if (x1 - 1) < x2 then Q (-1) I else (if x3 < 0 then Q (-1) I else (if I 137 0 ≤ x3 then Q (-1) I else (zr (I 137 3 - 1)) ∧ (if x4 < 0 then Q (-1) I else (if (I 137 3 - 1) < x4 then Q (-1) I else (if x5 < 0 then Q (-1) I else (if 2 < x5 then Q (-1) I else XV (d + 7) 190 [.inr 137] n sh R I (fun I5 => XV (d + 7) 232 [.inr 137, .inl x1] n sh R I5 (fun I7 => XI (d + 7) 233 [.inr 137, .inl x1, .inl x2, .inl x3, .inl x4] n sh R I7 (fun v8 I9 => (if v8 = 0 then XV (d + 7) 191 [.inr 137] n sh R I9 (fun I11 => Q (-2) I11) else XI (d + 7) 151 [.inr 137, .inl x3] n sh R I9 (fun v12 I13 => XI (d + 7) 234 [.inr 177, .inl (I13 137 64), .inl x3] n sh R I13 (fun v14 I15 => (if ¬ x5 = 0 then (if ¬ x5 = 1 then XI (d + 7) 235 [.inr 137, .inl x3] n sh R I15 (fun v16 I17 => XV (d + 7) 191 [.inr 137] n sh R I17 (fun I19 => Q v16 I19)) else (zr (v12 - v14)) ∧ (zr (v14 - v12)) ∧ (if (v12 - v14) ≤ (v14 - v12) then XV (d + 7) 191 [.inr 137] n sh R I15 (fun I23 => Q (v14 - v12) I23) else XV (d + 7) 191 [.inr 137] n sh R I15 (fun I25 => Q (v12 - v14) I25))) else XV (d + 7) 191 [.inr 137] n sh R I15 (fun I27 => Q v12 I27)))))))))))))))))))) : XI (d + 8) 236 [.inr 137, .inl x1, .inl x2, .inl x3, .inl x4, .inl x5] n sh R I Q := by
  refine XI.of (ls := [some (.inr 137), some (.inl x1), some (.inl x2), some (.inl x3), some (.inl x4), some (.inl x5), none, none, none]) (zloc_eq gY_236.2.2.1) ?_
  unfold XIs
  refine x_aload_n d236_0 rfl ?_
  refine x_iload_n d236_1 rfl ?_
  refine y_inv (as := [.inl x1]) (t := []) (o := 137) (ls2 := [some (.inr 137), some (.inl x1)]) gY_188 d236_2 gY_236.2.2.2 gM_12_352 rfl (sh_137 hW) rfl rfl ?_
  refine x_iload_n d188_0 rfl ?_
  refine x_iconst d188_1 rfl ?_
  refine x_bipush d188_2 rfl ?_
  refine y_ins (as := [.inl x1, .inl 1, .inl 12]) (t := []) (ls2 := [some (.inl x1), some (.inl 1), some (.inl 12)]) gY_140 d188_4 gY_188.2.2.2 gM_12_169 rfl rfl rfl ?_
  refine x_iload_n d140_0 rfl ?_
  refine x_iload_n d140_1 rfl ?_
  refine x_if2 (pc2 := 14) d140_2 rfl (fun c => ?_) (fun c => ?_)
  · replace c : x1 < 1 := c
    rw [if_pos c] at k
    refine x_iconst d140_14 rfl ?_
    refine x_zret d140_15 gR_140 (by decide) ?_
    show Ex (d + 7) 188 7 [some (.inr 137), some (.inl x1)] [.inl 0] (0, 0, n, sh, R, I) _
    refine x_if1 (pc2 := 25) d188_7 rfl (fun _ => ?_) (fun c => absurd (show (0 : Int) = 0 by decide) c)
    refine x_iconst d188_25 rfl ?_
    refine x_zret d188_26 gR_188 (by decide) ?_
    show Ex (d + 8) 236 5 [some (.inr 137), some (.inl x1), some (.inl x2), some (.inl x3), some (.inl x4), some (.inl x5), none, none, none] [.inl 0] (0, 0, n, sh, R, I) _
    refine x_if1 (pc2 := 52) d236_5 rfl (fun _ => ?_) (fun c => absurd (show (0 : Int) = 0 by decide) c)
    refine x_iconst d236_52 rfl ?_
    exact x_iret d236_53 gR_236 ⟨_, _, rfl, rfl, k⟩
  · replace c : ¬ (x1 < 1) := c
    rw [if_neg c] at k
    refine x_iload_n d140_5 rfl ?_
    refine x_iload_n d140_6 rfl ?_
    refine x_if2 (pc2 := 14) d140_7 rfl (fun c => ?_) (fun c => ?_)
    · replace c : 12 < x1 := c
      rw [if_pos c] at k
      refine x_iconst d140_14 rfl ?_
      refine x_zret d140_15 gR_140 (by decide) ?_
      show Ex (d + 7) 188 7 [some (.inr 137), some (.inl x1)] [.inl 0] (0, 0, n, sh, R, I) _
      refine x_if1 (pc2 := 25) d188_7 rfl (fun _ => ?_) (fun c => absurd (show (0 : Int) = 0 by decide) c)
      refine x_iconst d188_25 rfl ?_
      refine x_zret d188_26 gR_188 (by decide) ?_
      show Ex (d + 8) 236 5 [some (.inr 137), some (.inl x1), some (.inl x2), some (.inl x3), some (.inl x4), some (.inl x5), none, none, none] [.inl 0] (0, 0, n, sh, R, I) _
      refine x_if1 (pc2 := 52) d236_5 rfl (fun _ => ?_) (fun c => absurd (show (0 : Int) = 0 by decide) c)
      refine x_iconst d236_52 rfl ?_
      exact x_iret d236_53 gR_236 ⟨_, _, rfl, rfl, k⟩
    · replace c : ¬ (12 < x1) := c
      rw [if_neg c] at k
      refine x_iconst d140_10 rfl ?_
      refine x_goto (pc2 := 15) d140_11 rfl ?_
      refine x_zret d140_15 gR_140 (by decide) ?_
      show Ex (d + 7) 188 7 [some (.inr 137), some (.inl x1)] [.inl 1] (0, 0, n, sh, R, I) _
      refine x_if1 (pc2 := 25) d188_7 rfl (fun c => absurd (show (1 : Int) = 0 from c) (by decide)) (fun _ => ?_)
      refine x_aload_n d188_10 rfl ?_
      refine x_getI d188_11 gY_188.2.2.2 gF_12_173 rfl (sh_137 hW) ?_
      refine x_iload_n d188_14 rfl ?_
      have e1 := k.1
      replace k := k.2
      refine x_iadd d188_15 e1 ?_
      refine x_bipush d188_16 rfl ?_
      refine x_if2 (pc2 := 25) d188_18 rfl (fun c => ?_) (fun c => ?_)
      · replace c : 12 < (I 137 2 + x1) := c
        rw [if_pos c] at k
        refine x_iconst d188_25 rfl ?_
        refine x_zret d188_26 gR_188 (by decide) ?_
        show Ex (d + 8) 236 5 [some (.inr 137), some (.inl x1), some (.inl x2), some (.inl x3), some (.inl x4), some (.inl x5), none, none, none] [.inl 0] (0, 0, n, sh, R, I) _
        refine x_if1 (pc2 := 52) d236_5 rfl (fun _ => ?_) (fun c => absurd (show (0 : Int) = 0 by decide) c)
        refine x_iconst d236_52 rfl ?_
        exact x_iret d236_53 gR_236 ⟨_, _, rfl, rfl, k⟩
      · replace c : ¬ (12 < (I 137 2 + x1)) := c
        rw [if_neg c] at k
        refine x_iconst d188_21 rfl ?_
        refine x_goto (pc2 := 26) d188_22 rfl ?_
        refine x_zret d188_26 gR_188 (by decide) ?_
        show Ex (d + 8) 236 5 [some (.inr 137), some (.inl x1), some (.inl x2), some (.inl x3), some (.inl x4), some (.inl x5), none, none, none] [.inl 1] (0, 0, n, sh, R, I) _
        refine x_if1 (pc2 := 52) d236_5 rfl (fun c => absurd (show (1 : Int) = 0 from c) (by decide)) (fun _ => ?_)
        refine x_iload_n d236_8 rfl ?_
        refine x_iconst d236_9 rfl ?_
        refine x_iload_n d236_10 rfl ?_
        refine x_iconst d236_11 rfl ?_
        have e2 := k.1
        replace k := k.2
        refine x_isub d236_12 e2 ?_
        refine y_ins (as := [.inl x2, .inl 0, .inl (x1 - 1)]) (t := []) (ls2 := [some (.inl x2), some (.inl 0), some (.inl (x1 - 1))]) gY_140 d236_13 gY_236.2.2.2 gM_12_169 rfl rfl rfl ?_
        refine x_iload_n d140_0 rfl ?_
        refine x_iload_n d140_1 rfl ?_
        refine x_if2 (pc2 := 14) d140_2 rfl (fun c => ?_) (fun c => ?_)
        · replace c : x2 < 0 := c
          rw [if_pos c] at k
          refine x_iconst d140_14 rfl ?_
          refine x_zret d140_15 gR_140 (by decide) ?_
          show Ex (d + 8) 236 16 [some (.inr 137), some (.inl x1), some (.inl x2), some (.inl x3), some (.inl x4), some (.inl x5), none, none, none] [.inl 0] (0, 0, n, sh, R, I) _
          refine x_if1 (pc2 := 52) d236_16 rfl (fun _ => ?_) (fun c => absurd (show (0 : Int) = 0 by decide) c)
          refine x_iconst d236_52 rfl ?_
          exact x_iret d236_53 gR_236 ⟨_, _, rfl, rfl, k⟩
        · replace c : ¬ (x2 < 0) := c
          rw [if_neg c] at k
          refine x_iload_n d140_5 rfl ?_
          refine x_iload_n d140_6 rfl ?_
          refine x_if2 (pc2 := 14) d140_7 rfl (fun c => ?_) (fun c => ?_)
          · replace c : (x1 - 1) < x2 := c
            rw [if_pos c] at k
            refine x_iconst d140_14 rfl ?_
            refine x_zret d140_15 gR_140 (by decide) ?_
            show Ex (d + 8) 236 16 [some (.inr 137), some (.inl x1), some (.inl x2), some (.inl x3), some (.inl x4), some (.inl x5), none, none, none] [.inl 0] (0, 0, n, sh, R, I) _
            refine x_if1 (pc2 := 52) d236_16 rfl (fun _ => ?_) (fun c => absurd (show (0 : Int) = 0 by decide) c)
            refine x_iconst d236_52 rfl ?_
            exact x_iret d236_53 gR_236 ⟨_, _, rfl, rfl, k⟩
          · replace c : ¬ ((x1 - 1) < x2) := c
            rw [if_neg c] at k
            refine x_iconst d140_10 rfl ?_
            refine x_goto (pc2 := 15) d140_11 rfl ?_
            refine x_zret d140_15 gR_140 (by decide) ?_
            show Ex (d + 8) 236 16 [some (.inr 137), some (.inl x1), some (.inl x2), some (.inl x3), some (.inl x4), some (.inl x5), none, none, none] [.inl 1] (0, 0, n, sh, R, I) _
            refine x_if1 (pc2 := 52) d236_16 rfl (fun c => absurd (show (1 : Int) = 0 from c) (by decide)) (fun _ => ?_)
            refine x_aload_n d236_19 rfl ?_
            refine x_iload_n d236_20 rfl ?_
            refine y_inv (as := [.inl x3]) (t := []) (o := 137) (ls2 := [some (.inr 137), some (.inl x3)]) gY_144 d236_21 gY_236.2.2.2 gM_12_346 rfl (sh_137 hW) rfl rfl ?_
            refine x_iload_n d144_0 rfl ?_
            refine x_if1 (pc2 := 16) d144_1 rfl (fun c => ?_) (fun c => ?_)
            · replace c : x3 < 0 := c
              rw [if_pos c] at k
              refine x_iconst d144_16 rfl ?_
              refine x_zret d144_17 gR_144 (by decide) ?_
              show Ex (d + 8) 236 24 [some (.inr 137), some (.inl x1), some (.inl x2), some (.inl x3), some (.inl x4), some (.inl x5), none, none, none] [.inl 0] (0, 0, n, sh, R, I) _
              refine x_if1 (pc2 := 52) d236_24 rfl (fun _ => ?_) (fun c => absurd (show (0 : Int) = 0 by decide) c)
              refine x_iconst d236_52 rfl ?_
              exact x_iret d236_53 gR_236 ⟨_, _, rfl, rfl, k⟩
            · replace c : ¬ (x3 < 0) := c
              rw [if_neg c] at k
              refine x_iload_n d144_4 rfl ?_
              refine x_aload_n d144_5 rfl ?_
              refine x_getI d144_6 gY_144.2.2.2 gF_12_159 rfl (sh_137 hW) ?_
              refine x_if2 (pc2 := 16) d144_9 rfl (fun c => ?_) (fun c => ?_)
              · replace c : I 137 0 ≤ x3 := c
                rw [if_pos c] at k
                refine x_iconst d144_16 rfl ?_
                refine x_zret d144_17 gR_144 (by decide) ?_
                show Ex (d + 8) 236 24 [some (.inr 137), some (.inl x1), some (.inl x2), some (.inl x3), some (.inl x4), some (.inl x5), none, none, none] [.inl 0] (0, 0, n, sh, R, I) _
                refine x_if1 (pc2 := 52) d236_24 rfl (fun _ => ?_) (fun c => absurd (show (0 : Int) = 0 by decide) c)
                refine x_iconst d236_52 rfl ?_
                exact x_iret d236_53 gR_236 ⟨_, _, rfl, rfl, k⟩
              · replace c : ¬ (I 137 0 ≤ x3) := c
                rw [if_neg c] at k
                refine x_iconst d144_12 rfl ?_
                refine x_goto (pc2 := 17) d144_13 rfl ?_
                refine x_zret d144_17 gR_144 (by decide) ?_
                show Ex (d + 8) 236 24 [some (.inr 137), some (.inl x1), some (.inl x2), some (.inl x3), some (.inl x4), some (.inl x5), none, none, none] [.inl 1] (0, 0, n, sh, R, I) _
                refine x_if1 (pc2 := 52) d236_24 rfl (fun c => absurd (show (1 : Int) = 0 from c) (by decide)) (fun _ => ?_)
                refine x_iload d236_27 rfl ?_
                refine x_iconst d236_29 rfl ?_
                refine x_aload_n d236_30 rfl ?_
                refine x_getI d236_31 gY_236.2.2.2 gF_12_156 rfl (sh_137 hW) ?_
                refine x_iconst d236_34 rfl ?_
                have e3 := k.1
                replace k := k.2
                refine x_isub d236_35 e3 ?_
                refine y_ins (as := [.inl x4, .inl 0, .inl (I 137 3 - 1)]) (t := []) (ls2 := [some (.inl x4), some (.inl 0), some (.inl (I 137 3 - 1))]) gY_140 d236_36 gY_236.2.2.2 gM_12_169 rfl rfl rfl ?_
                refine x_iload_n d140_0 rfl ?_
                refine x_iload_n d140_1 rfl ?_
                refine x_if2 (pc2 := 14) d140_2 rfl (fun c => ?_) (fun c => ?_)
                · replace c : x4 < 0 := c
                  rw [if_pos c] at k
                  refine x_iconst d140_14 rfl ?_
                  refine x_zret d140_15 gR_140 (by decide) ?_
                  show Ex (d + 8) 236 39 [some (.inr 137), some (.inl x1), some (.inl x2), some (.inl x3), some (.inl x4), some (.inl x5), none, none, none] [.inl 0] (0, 0, n, sh, R, I) _
                  refine x_if1 (pc2 := 52) d236_39 rfl (fun _ => ?_) (fun c => absurd (show (0 : Int) = 0 by decide) c)
                  refine x_iconst d236_52 rfl ?_
                  exact x_iret d236_53 gR_236 ⟨_, _, rfl, rfl, k⟩
                · replace c : ¬ (x4 < 0) := c
                  rw [if_neg c] at k
                  refine x_iload_n d140_5 rfl ?_
                  refine x_iload_n d140_6 rfl ?_
                  refine x_if2 (pc2 := 14) d140_7 rfl (fun c => ?_) (fun c => ?_)
                  · replace c : (I 137 3 - 1) < x4 := c
                    rw [if_pos c] at k
                    refine x_iconst d140_14 rfl ?_
                    refine x_zret d140_15 gR_140 (by decide) ?_
                    show Ex (d + 8) 236 39 [some (.inr 137), some (.inl x1), some (.inl x2), some (.inl x3), some (.inl x4), some (.inl x5), none, none, none] [.inl 0] (0, 0, n, sh, R, I) _
                    refine x_if1 (pc2 := 52) d236_39 rfl (fun _ => ?_) (fun c => absurd (show (0 : Int) = 0 by decide) c)
                    refine x_iconst d236_52 rfl ?_
                    exact x_iret d236_53 gR_236 ⟨_, _, rfl, rfl, k⟩
                  · replace c : ¬ ((I 137 3 - 1) < x4) := c
                    rw [if_neg c] at k
                    refine x_iconst d140_10 rfl ?_
                    refine x_goto (pc2 := 15) d140_11 rfl ?_
                    refine x_zret d140_15 gR_140 (by decide) ?_
                    show Ex (d + 8) 236 39 [some (.inr 137), some (.inl x1), some (.inl x2), some (.inl x3), some (.inl x4), some (.inl x5), none, none, none] [.inl 1] (0, 0, n, sh, R, I) _
                    refine x_if1 (pc2 := 52) d236_39 rfl (fun c => absurd (show (1 : Int) = 0 from c) (by decide)) (fun _ => ?_)
                    refine x_iload d236_42 rfl ?_
                    refine x_iconst d236_44 rfl ?_
                    refine x_iconst d236_45 rfl ?_
                    refine y_ins (as := [.inl x5, .inl 0, .inl 2]) (t := []) (ls2 := [some (.inl x5), some (.inl 0), some (.inl 2)]) gY_140 d236_46 gY_236.2.2.2 gM_12_169 rfl rfl rfl ?_
                    refine x_iload_n d140_0 rfl ?_
                    refine x_iload_n d140_1 rfl ?_
                    refine x_if2 (pc2 := 14) d140_2 rfl (fun c => ?_) (fun c => ?_)
                    · replace c : x5 < 0 := c
                      rw [if_pos c] at k
                      refine x_iconst d140_14 rfl ?_
                      refine x_zret d140_15 gR_140 (by decide) ?_
                      show Ex (d + 8) 236 49 [some (.inr 137), some (.inl x1), some (.inl x2), some (.inl x3), some (.inl x4), some (.inl x5), none, none, none] [.inl 0] (0, 0, n, sh, R, I) _
                      refine x_if1 (pc2 := 54) d236_49 rfl (fun c => absurd (show ¬ (0 : Int) = 0 from c) (by decide)) (fun _ => ?_)
                      refine x_iconst d236_52 rfl ?_
                      exact x_iret d236_53 gR_236 ⟨_, _, rfl, rfl, k⟩
                    · replace c : ¬ (x5 < 0) := c
                      rw [if_neg c] at k
                      refine x_iload_n d140_5 rfl ?_
                      refine x_iload_n d140_6 rfl ?_
                      refine x_if2 (pc2 := 14) d140_7 rfl (fun c => ?_) (fun c => ?_)
                      · replace c : 2 < x5 := c
                        rw [if_pos c] at k
                        refine x_iconst d140_14 rfl ?_
                        refine x_zret d140_15 gR_140 (by decide) ?_
                        show Ex (d + 8) 236 49 [some (.inr 137), some (.inl x1), some (.inl x2), some (.inl x3), some (.inl x4), some (.inl x5), none, none, none] [.inl 0] (0, 0, n, sh, R, I) _
                        refine x_if1 (pc2 := 54) d236_49 rfl (fun c => absurd (show ¬ (0 : Int) = 0 from c) (by decide)) (fun _ => ?_)
                        refine x_iconst d236_52 rfl ?_
                        exact x_iret d236_53 gR_236 ⟨_, _, rfl, rfl, k⟩
                      · replace c : ¬ (2 < x5) := c
                        rw [if_neg c] at k
                        refine x_iconst d140_10 rfl ?_
                        refine x_goto (pc2 := 15) d140_11 rfl ?_
                        refine x_zret d140_15 gR_140 (by decide) ?_
                        show Ex (d + 8) 236 49 [some (.inr 137), some (.inl x1), some (.inl x2), some (.inl x3), some (.inl x4), some (.inl x5), none, none, none] [.inl 1] (0, 0, n, sh, R, I) _
                        refine x_if1 (pc2 := 54) d236_49 rfl (fun _ => ?_) (fun c => absurd (show ¬ (1 : Int) = 0 by decide) c)
                        refine x_aload_n d236_54 rfl ?_
                        refine y_invV (as := []) (t := []) (o := 137) gY_190 d236_55 gY_236.2.2.2 gM_12_361 rfl (sh_137 hW) rfl k (fun I5 k => ?_)
                        refine x_aload_n d236_58 rfl ?_
                        refine x_iload_n d236_59 rfl ?_
                        refine y_invV (as := [.inl x1]) (t := []) (o := 137) gY_232 d236_60 gY_236.2.2.2 gM_12_458 rfl (sh_137 hW) rfl k (fun I7 k => ?_)
                        refine x_bipush d236_63 rfl ?_
                        refine x_istore (ls2 := [some (.inr 137), some (.inl x1), some (.inl x2), some (.inl x3), some (.inl x4), some (.inl x5), some (.inl (-2)), none, none]) d236_65 rfl rfl ?_
                        refine x_aload_n d236_67 rfl ?_
                        refine x_iload_n d236_68 rfl ?_
                        refine x_iload_n d236_69 rfl ?_
                        refine x_iload_n d236_70 rfl ?_
                        refine x_iload d236_71 rfl ?_
                        refine y_invI (as := [.inl x1, .inl x2, .inl x3, .inl x4]) (t := []) (o := 137) gY_233 d236_73 gY_236.2.2.2 gM_12_461 rfl (sh_137 hW) rfl k (fun v8 I9 k => ?_)
                        refine x_if1 (pc2 := 139) d236_76 rfl (fun c => ?_) (fun c => ?_)
                        · replace c : v8 = 0 := c
                          rw [if_pos c] at k
                          refine x_aload_n d236_139 rfl ?_
                          refine y_invV (as := []) (t := []) (o := 137) gY_191 d236_140 gY_236.2.2.2 gM_12_364 rfl (sh_137 hW) rfl k (fun I11 k => ?_)
                          refine x_iload d236_143 rfl ?_
                          exact x_iret d236_145 gR_236 ⟨_, _, rfl, rfl, k⟩
                        · replace c : ¬ (v8 = 0) := c
                          rw [if_neg c] at k
                          refine x_aload_n d236_79 rfl ?_
                          refine x_iload_n d236_80 rfl ?_
                          refine y_invI (as := [.inl x3]) (t := []) (o := 137) gY_151 d236_81 gY_236.2.2.2 gM_12_349 rfl (sh_137 hW) rfl k (fun v12 I13 k => ?_)
                          refine x_istore (ls2 := [some (.inr 137), some (.inl x1), some (.inl x2), some (.inl x3), some (.inl x4), some (.inl x5), some (.inl (-2)), some (.inl v12), none]) d236_84 rfl rfl ?_
                          refine x_aload_n d236_86 rfl ?_
                          refine x_getR (r := 177) d236_87 gY_236.2.2.2 gF_12_128 rfl (sh_137 hW) (rf_137_63 hW) (by decide) ?_
                          refine x_aload_n d236_90 rfl ?_
                          refine x_getI d236_91 gY_236.2.2.2 gF_12_451 rfl (sh_137 hW) ?_
                          refine x_iload_n d236_94 rfl ?_
                          refine y_insI (as := [.inr 177, .inl (I13 137 64), .inl x3]) (t := []) gY_234 d236_95 gY_236.2.2.2 gM_12_454 rfl rfl k (fun v14 I15 k => ?_)
                          refine x_istore (ls2 := [some (.inr 137), some (.inl x1), some (.inl x2), some (.inl x3), some (.inl x4), some (.inl x5), some (.inl (-2)), some (.inl v12), some (.inl v14)]) d236_98 rfl rfl ?_
                          refine x_iload d236_100 rfl ?_
                          refine x_if1 (pc2 := 110) d236_102 rfl (fun c => ?_) (fun c => ?_)
                          · replace c : ¬ x5 = 0 := c
                            rw [if_pos c] at k
                            refine x_iload d236_110 rfl ?_
                            refine x_iconst d236_112 rfl ?_
                            refine x_if2 (pc2 := 132) d236_113 rfl (fun c => ?_) (fun c => ?_)
                            · replace c : ¬ x5 = 1 := c
                              rw [if_pos c] at k
                              refine x_aload_n d236_132 rfl ?_
                              refine x_iload_n d236_133 rfl ?_
                              refine y_invI (as := [.inl x3]) (t := []) (o := 137) gY_235 d236_134 gY_236.2.2.2 gM_12_465 rfl (sh_137 hW) rfl k (fun v16 I17 k => ?_)
                              refine x_istore (ls2 := [some (.inr 137), some (.inl x1), some (.inl x2), some (.inl x3), some (.inl x4), some (.inl x5), some (.inl v16), some (.inl v12), some (.inl v14)]) d236_137 rfl rfl ?_
                              refine x_aload_n d236_139 rfl ?_
                              refine y_invV (as := []) (t := []) (o := 137) gY_191 d236_140 gY_236.2.2.2 gM_12_364 rfl (sh_137 hW) rfl k (fun I19 k => ?_)
                              refine x_iload d236_143 rfl ?_
                              exact x_iret d236_145 gR_236 ⟨_, _, rfl, rfl, k⟩
                            · replace c : ¬ (¬ x5 = 1) := c
                              rw [if_neg c] at k
                              refine x_iload d236_116 rfl ?_
                              refine x_iload d236_118 rfl ?_
                              have e20 := k.1
                              replace k := k.2
                              refine x_isub d236_120 e20 ?_
                              refine x_iload d236_121 rfl ?_
                              refine x_iload d236_123 rfl ?_
                              have e21 := k.1
                              replace k := k.2
                              refine x_isub d236_125 e21 ?_
                              refine y_ins (as := [.inl (v12 - v14), .inl (v14 - v12)]) (t := []) (ls2 := [some (.inl (v12 - v14)), some (.inl (v14 - v12))]) gY_142 d236_126 gY_236.2.2.2 gM_12_420 rfl rfl rfl ?_
                              refine x_iload_n d142_0 rfl ?_
                              refine x_iload_n d142_1 rfl ?_
                              refine x_if2 (pc2 := 9) d142_2 rfl (fun c => ?_) (fun c => ?_)
                              · replace c : (v12 - v14) ≤ (v14 - v12) := c
                                rw [if_pos c] at k
                                refine x_iload_n d142_9 rfl ?_
                                refine x_iret d142_10 gR_142 ?_
                                show Ex (d + 8) 236 129 [some (.inr 137), some (.inl x1), some (.inl x2), some (.inl x3), some (.inl x4), some (.inl x5), some (.inl (-2)), some (.inl v12), some (.inl v14)] [.inl (v14 - v12)] (0, 0, n, sh, R, I15) _
                                refine x_goto (pc2 := 137) d236_129 rfl ?_
                                refine x_istore (ls2 := [some (.inr 137), some (.inl x1), some (.inl x2), some (.inl x3), some (.inl x4), some (.inl x5), some (.inl (v14 - v12)), some (.inl v12), some (.inl v14)]) d236_137 rfl rfl ?_
                                refine x_aload_n d236_139 rfl ?_
                                refine y_invV (as := []) (t := []) (o := 137) gY_191 d236_140 gY_236.2.2.2 gM_12_364 rfl (sh_137 hW) rfl k (fun I23 k => ?_)
                                refine x_iload d236_143 rfl ?_
                                exact x_iret d236_145 gR_236 ⟨_, _, rfl, rfl, k⟩
                              · replace c : ¬ ((v12 - v14) ≤ (v14 - v12)) := c
                                rw [if_neg c] at k
                                refine x_iload_n d142_5 rfl ?_
                                refine x_goto (pc2 := 10) d142_6 rfl ?_
                                refine x_iret d142_10 gR_142 ?_
                                show Ex (d + 8) 236 129 [some (.inr 137), some (.inl x1), some (.inl x2), some (.inl x3), some (.inl x4), some (.inl x5), some (.inl (-2)), some (.inl v12), some (.inl v14)] [.inl (v12 - v14)] (0, 0, n, sh, R, I15) _
                                refine x_goto (pc2 := 137) d236_129 rfl ?_
                                refine x_istore (ls2 := [some (.inr 137), some (.inl x1), some (.inl x2), some (.inl x3), some (.inl x4), some (.inl x5), some (.inl (v12 - v14)), some (.inl v12), some (.inl v14)]) d236_137 rfl rfl ?_
                                refine x_aload_n d236_139 rfl ?_
                                refine y_invV (as := []) (t := []) (o := 137) gY_191 d236_140 gY_236.2.2.2 gM_12_364 rfl (sh_137 hW) rfl k (fun I25 k => ?_)
                                refine x_iload d236_143 rfl ?_
                                exact x_iret d236_145 gR_236 ⟨_, _, rfl, rfl, k⟩
                          · replace c : ¬ (¬ x5 = 0) := c
                            rw [if_neg c] at k
                            refine x_iload d236_105 rfl ?_
                            refine x_goto (pc2 := 137) d236_107 rfl ?_
                            refine x_istore (ls2 := [some (.inr 137), some (.inl x1), some (.inl x2), some (.inl x3), some (.inl x4), some (.inl x5), some (.inl v12), some (.inl v12), some (.inl v14)]) d236_137 rfl rfl ?_
                            refine x_aload_n d236_139 rfl ?_
                            refine y_invV (as := []) (t := []) (o := 137) gY_191 d236_140 gY_236.2.2.2 gM_12_364 rfl (sh_137 hW) rfl k (fun I27 k => ?_)
                            refine x_iload d236_143 rfl ?_
                            exact x_iret d236_145 gR_236 ⟨_, _, rfl, rfl, k⟩
set_option maxHeartbeats 4000000 in
theorem b_M_isAsTold_0 {d n : Nat} {sh : ZS} {R : ZR} {I : ZI} {Q : Int → ZI → Prop} (hW : Wf sh R) {a1 : Nat} (ha1 : sh a1 = (0, 32))
    (k : XIs d 237 2 [some (.inr 137), some (.inr a1), some (.inl 0)] [] n sh R I Q) : XI d 237 [.inr 137, .inr a1] n sh R I Q := by
  refine XI.of (ls := [some (.inr 137), some (.inr a1), none]) (zloc_eq gY_237.2.2.1) ?_
  unfold XIs
  refine x_iconst d237_0 rfl ?_
  refine x_istore_n (ls2 := [some (.inr 137), some (.inr a1), some (.inl 0)]) d237_1 rfl rfl ?_
  exact k
set_option maxHeartbeats 4000000 in
theorem b_M_isAsTold_2 {d n : Nat} {sh : ZS} {R : ZR} {I : ZI} {Q : Int → ZI → Prop} (hW : Wf sh R) {a1 : Nat} (ha1 : sh a1 = (0, 32)) {x2 : Int}
    (k : (if I 137 64 ≤ x2 then Q 1 I else (0 ≤ x2 ∧ x2 < 32) ∧ (if I a1 (x2).toNat = I 178 (x2).toNat then (zr (x2 + 1)) ∧ XIs d 237 2 [some (.inr 137), some (.inr a1), some (.inl (x2 + 1))] [] n sh R I Q else Q 0 I))) : XIs d 237 2 [some (.inr 137), some (.inr a1), some (.inl x2)] [] n sh R I Q := by
  unfold XIs
  refine x_iload_n d237_2 rfl ?_
  refine x_aload_n d237_3 rfl ?_
  refine x_getI d237_4 gY_237.2.2.2 gF_12_451 rfl (sh_137 hW) ?_
  refine x_if2 (pc2 := 30) d237_7 rfl (fun c => ?_) (fun c => ?_)
  · replace c : I 137 64 ≤ x2 := c
    rw [if_pos c] at k
    refine x_iconst d237_30 rfl ?_
    exact x_zret d237_31 gR_237 (by decide) ⟨_, _, rfl, rfl, k⟩
  · replace c : ¬ (I 137 64 ≤ x2) := c
    rw [if_neg c] at k
    refine x_aload_n d237_10 rfl ?_
    refine x_iload_n d237_11 rfl ?_
    have e1 := k.1
    replace k := k.2
    refine x_iald d237_12 ha1 e1.1 e1.2 ?_
    refine x_aload_n d237_13 rfl ?_
    refine x_getR (r := 178) d237_14 gY_237.2.2.2 gF_12_131 rfl (sh_137 hW) (rf_137_65 hW) (by decide) ?_
    refine x_iload_n d237_17 rfl ?_
    refine x_iald d237_18 (sh_178 hW) e1.1 e1.2 ?_
    refine x_if2 (pc2 := 24) d237_19 rfl (fun c => ?_) (fun c => ?_)
    · replace c : I a1 (x2).toNat = I 178 (x2).toNat := c
      rw [if_pos c] at k
      have e2 := k.1
      replace k := k.2
      refine x_iinc (ls2 := [some (.inr 137), some (.inr a1), some (.inl (x2 + 1))]) d237_24 rfl e2 rfl ?_
      refine x_goto (pc2 := 2) d237_27 rfl ?_
      exact k
    · replace c : ¬ (I a1 (x2).toNat = I 178 (x2).toNat) := c
      rw [if_neg c] at k
      refine x_iconst d237_22 rfl ?_
      exact x_zret d237_23 gR_237 (by decide) ⟨_, _, rfl, rfl, k⟩
set_option maxHeartbeats 4000000 in
theorem b_M_badly_0 {d n : Nat} {sh : ZS} {R : ZR} {I : ZI} {Q : Int → ZI → Prop} (hW : Wf sh R) {x1 : Int} {x2 : Int}
    (k : (if x1 < 1 then Q (-1) I else (if 6 < x1 then Q (-1) I else (if x1 < 1 then Q (-1) I else (if 12 < x1 then Q (-1) I else (zr (I 137 2 + x1)) ∧ (if 12 < (I 137 2 + x1) then Q (-1) I else (if x2 < (-1) then Q (-1) I else (if 2 < x2 then Q (-1) I else XV (d + 7) 190 [.inr 137] n sh R I (fun I3 => XV (d + 7) 232 [.inr 137, .inl x1] n sh R I3 (fun I5 => (if I5 137 64 ≤ I5 137 13 then XIs (d + 8) 238 58 [some (.inr 137), some (.inl x1), some (.inl x2), some (.inl 0), none, none, none, none] [] n sh R (zup I5 137 13 0) Q else Q (-1) I5))))))))))) : XI (d + 8) 238 [.inr 137, .inl x1, .inl x2] n sh R I Q := by
  refine XI.of (ls := [some (.inr 137), some (.inl x1), some (.inl x2), none, none, none, none, none]) (zloc_eq gY_238.2.2.1) ?_
  unfold XIs
  refine x_iload_n d238_0 rfl ?_
  refine x_iconst d238_1 rfl ?_
  refine x_bipush d238_2 rfl ?_
  refine y_ins (as := [.inl x1, .inl 1, .inl 6]) (t := []) (ls2 := [some (.inl x1), some (.inl 1), some (.inl 6)]) gY_140 d238_4 gY_238.2.2.2 gM_12_169 rfl rfl rfl ?_
  refine x_iload_n d140_0 rfl ?_
  refine x_iload_n d140_1 rfl ?_
  refine x_if2 (pc2 := 14) d140_2 rfl (fun c => ?_) (fun c => ?_)
  · replace c : x1 < 1 := c
    rw [if_pos c] at k
    refine x_iconst d140_14 rfl ?_
    refine x_zret d140_15 gR_140 (by decide) ?_
    show Ex (d + 8) 238 7 [some (.inr 137), some (.inl x1), some (.inl x2), none, none, none, none, none] [.inl 0] (0, 0, n, sh, R, I) _
    refine x_if1 (pc2 := 27) d238_7 rfl (fun _ => ?_) (fun c => absurd (show (0 : Int) = 0 by decide) c)
    refine x_iconst d238_27 rfl ?_
    exact x_iret d238_28 gR_238 ⟨_, _, rfl, rfl, k⟩
  · replace c : ¬ (x1 < 1) := c
    rw [if_neg c] at k
    refine x_iload_n d140_5 rfl ?_
    refine x_iload_n d140_6 rfl ?_
    refine x_if2 (pc2 := 14) d140_7 rfl (fun c => ?_) (fun c => ?_)
    · replace c : 6 < x1 := c
      rw [if_pos c] at k
      refine x_iconst d140_14 rfl ?_
      refine x_zret d140_15 gR_140 (by decide) ?_
      show Ex (d + 8) 238 7 [some (.inr 137), some (.inl x1), some (.inl x2), none, none, none, none, none] [.inl 0] (0, 0, n, sh, R, I) _
      refine x_if1 (pc2 := 27) d238_7 rfl (fun _ => ?_) (fun c => absurd (show (0 : Int) = 0 by decide) c)
      refine x_iconst d238_27 rfl ?_
      exact x_iret d238_28 gR_238 ⟨_, _, rfl, rfl, k⟩
    · replace c : ¬ (6 < x1) := c
      rw [if_neg c] at k
      refine x_iconst d140_10 rfl ?_
      refine x_goto (pc2 := 15) d140_11 rfl ?_
      refine x_zret d140_15 gR_140 (by decide) ?_
      show Ex (d + 8) 238 7 [some (.inr 137), some (.inl x1), some (.inl x2), none, none, none, none, none] [.inl 1] (0, 0, n, sh, R, I) _
      refine x_if1 (pc2 := 27) d238_7 rfl (fun c => absurd (show (1 : Int) = 0 from c) (by decide)) (fun _ => ?_)
      refine x_aload_n d238_10 rfl ?_
      refine x_iload_n d238_11 rfl ?_
      refine y_inv (as := [.inl x1]) (t := []) (o := 137) (ls2 := [some (.inr 137), some (.inl x1)]) gY_188 d238_12 gY_238.2.2.2 gM_12_352 rfl (sh_137 hW) rfl rfl ?_
      refine x_iload_n d188_0 rfl ?_
      refine x_iconst d188_1 rfl ?_
      refine x_bipush d188_2 rfl ?_
      refine y_ins (as := [.inl x1, .inl 1, .inl 12]) (t := []) (ls2 := [some (.inl x1), some (.inl 1), some (.inl 12)]) gY_140 d188_4 gY_188.2.2.2 gM_12_169 rfl rfl rfl ?_
      refine x_iload_n d140_0 rfl ?_
      refine x_iload_n d140_1 rfl ?_
      refine x_if2 (pc2 := 14) d140_2 rfl (fun c => ?_) (fun c => ?_)
      · replace c : x1 < 1 := c
        rw [if_pos c] at k
        refine x_iconst d140_14 rfl ?_
        refine x_zret d140_15 gR_140 (by decide) ?_
        show Ex (d + 7) 188 7 [some (.inr 137), some (.inl x1)] [.inl 0] (0, 0, n, sh, R, I) _
        refine x_if1 (pc2 := 25) d188_7 rfl (fun _ => ?_) (fun c => absurd (show (0 : Int) = 0 by decide) c)
        refine x_iconst d188_25 rfl ?_
        refine x_zret d188_26 gR_188 (by decide) ?_
        show Ex (d + 8) 238 15 [some (.inr 137), some (.inl x1), some (.inl x2), none, none, none, none, none] [.inl 0] (0, 0, n, sh, R, I) _
        refine x_if1 (pc2 := 27) d238_15 rfl (fun _ => ?_) (fun c => absurd (show (0 : Int) = 0 by decide) c)
        refine x_iconst d238_27 rfl ?_
        exact x_iret d238_28 gR_238 ⟨_, _, rfl, rfl, k⟩
      · replace c : ¬ (x1 < 1) := c
        rw [if_neg c] at k
        refine x_iload_n d140_5 rfl ?_
        refine x_iload_n d140_6 rfl ?_
        refine x_if2 (pc2 := 14) d140_7 rfl (fun c => ?_) (fun c => ?_)
        · replace c : 12 < x1 := c
          rw [if_pos c] at k
          refine x_iconst d140_14 rfl ?_
          refine x_zret d140_15 gR_140 (by decide) ?_
          show Ex (d + 7) 188 7 [some (.inr 137), some (.inl x1)] [.inl 0] (0, 0, n, sh, R, I) _
          refine x_if1 (pc2 := 25) d188_7 rfl (fun _ => ?_) (fun c => absurd (show (0 : Int) = 0 by decide) c)
          refine x_iconst d188_25 rfl ?_
          refine x_zret d188_26 gR_188 (by decide) ?_
          show Ex (d + 8) 238 15 [some (.inr 137), some (.inl x1), some (.inl x2), none, none, none, none, none] [.inl 0] (0, 0, n, sh, R, I) _
          refine x_if1 (pc2 := 27) d238_15 rfl (fun _ => ?_) (fun c => absurd (show (0 : Int) = 0 by decide) c)
          refine x_iconst d238_27 rfl ?_
          exact x_iret d238_28 gR_238 ⟨_, _, rfl, rfl, k⟩
        · replace c : ¬ (12 < x1) := c
          rw [if_neg c] at k
          refine x_iconst d140_10 rfl ?_
          refine x_goto (pc2 := 15) d140_11 rfl ?_
          refine x_zret d140_15 gR_140 (by decide) ?_
          show Ex (d + 7) 188 7 [some (.inr 137), some (.inl x1)] [.inl 1] (0, 0, n, sh, R, I) _
          refine x_if1 (pc2 := 25) d188_7 rfl (fun c => absurd (show (1 : Int) = 0 from c) (by decide)) (fun _ => ?_)
          refine x_aload_n d188_10 rfl ?_
          refine x_getI d188_11 gY_188.2.2.2 gF_12_173 rfl (sh_137 hW) ?_
          refine x_iload_n d188_14 rfl ?_
          have e1 := k.1
          replace k := k.2
          refine x_iadd d188_15 e1 ?_
          refine x_bipush d188_16 rfl ?_
          refine x_if2 (pc2 := 25) d188_18 rfl (fun c => ?_) (fun c => ?_)
          · replace c : 12 < (I 137 2 + x1) := c
            rw [if_pos c] at k
            refine x_iconst d188_25 rfl ?_
            refine x_zret d188_26 gR_188 (by decide) ?_
            show Ex (d + 8) 238 15 [some (.inr 137), some (.inl x1), some (.inl x2), none, none, none, none, none] [.inl 0] (0, 0, n, sh, R, I) _
            refine x_if1 (pc2 := 27) d238_15 rfl (fun _ => ?_) (fun c => absurd (show (0 : Int) = 0 by decide) c)
            refine x_iconst d238_27 rfl ?_
            exact x_iret d238_28 gR_238 ⟨_, _, rfl, rfl, k⟩
          · replace c : ¬ (12 < (I 137 2 + x1)) := c
            rw [if_neg c] at k
            refine x_iconst d188_21 rfl ?_
            refine x_goto (pc2 := 26) d188_22 rfl ?_
            refine x_zret d188_26 gR_188 (by decide) ?_
            show Ex (d + 8) 238 15 [some (.inr 137), some (.inl x1), some (.inl x2), none, none, none, none, none] [.inl 1] (0, 0, n, sh, R, I) _
            refine x_if1 (pc2 := 27) d238_15 rfl (fun c => absurd (show (1 : Int) = 0 from c) (by decide)) (fun _ => ?_)
            refine x_iload_n d238_18 rfl ?_
            refine x_iconst d238_19 rfl ?_
            refine x_iconst d238_20 rfl ?_
            refine y_ins (as := [.inl x2, .inl (-1), .inl 2]) (t := []) (ls2 := [some (.inl x2), some (.inl (-1)), some (.inl 2)]) gY_140 d238_21 gY_238.2.2.2 gM_12_169 rfl rfl rfl ?_
            refine x_iload_n d140_0 rfl ?_
            refine x_iload_n d140_1 rfl ?_
            refine x_if2 (pc2 := 14) d140_2 rfl (fun c => ?_) (fun c => ?_)
            · replace c : x2 < (-1) := c
              rw [if_pos c] at k
              refine x_iconst d140_14 rfl ?_
              refine x_zret d140_15 gR_140 (by decide) ?_
              show Ex (d + 8) 238 24 [some (.inr 137), some (.inl x1), some (.inl x2), none, none, none, none, none] [.inl 0] (0, 0, n, sh, R, I) _
              refine x_if1 (pc2 := 29) d238_24 rfl (fun c => absurd (show ¬ (0 : Int) = 0 from c) (by decide)) (fun _ => ?_)
              refine x_iconst d238_27 rfl ?_
              exact x_iret d238_28 gR_238 ⟨_, _, rfl, rfl, k⟩
            · replace c : ¬ (x2 < (-1)) := c
              rw [if_neg c] at k
              refine x_iload_n d140_5 rfl ?_
              refine x_iload_n d140_6 rfl ?_
              refine x_if2 (pc2 := 14) d140_7 rfl (fun c => ?_) (fun c => ?_)
              · replace c : 2 < x2 := c
                rw [if_pos c] at k
                refine x_iconst d140_14 rfl ?_
                refine x_zret d140_15 gR_140 (by decide) ?_
                show Ex (d + 8) 238 24 [some (.inr 137), some (.inl x1), some (.inl x2), none, none, none, none, none] [.inl 0] (0, 0, n, sh, R, I) _
                refine x_if1 (pc2 := 29) d238_24 rfl (fun c => absurd (show ¬ (0 : Int) = 0 from c) (by decide)) (fun _ => ?_)
                refine x_iconst d238_27 rfl ?_
                exact x_iret d238_28 gR_238 ⟨_, _, rfl, rfl, k⟩
              · replace c : ¬ (2 < x2) := c
                rw [if_neg c] at k
                refine x_iconst d140_10 rfl ?_
                refine x_goto (pc2 := 15) d140_11 rfl ?_
                refine x_zret d140_15 gR_140 (by decide) ?_
                show Ex (d + 8) 238 24 [some (.inr 137), some (.inl x1), some (.inl x2), none, none, none, none, none] [.inl 1] (0, 0, n, sh, R, I) _
                refine x_if1 (pc2 := 29) d238_24 rfl (fun _ => ?_) (fun c => absurd (show ¬ (1 : Int) = 0 by decide) c)
                refine x_aload_n d238_29 rfl ?_
                refine y_invV (as := []) (t := []) (o := 137) gY_190 d238_30 gY_238.2.2.2 gM_12_361 rfl (sh_137 hW) rfl k (fun I3 k => ?_)
                refine x_aload_n d238_33 rfl ?_
                refine x_iload_n d238_34 rfl ?_
                refine y_invV (as := [.inl x1]) (t := []) (o := 137) gY_232 d238_35 gY_238.2.2.2 gM_12_458 rfl (sh_137 hW) rfl k (fun I5 k => ?_)
                refine x_aload_n d238_38 rfl ?_
                refine x_getI d238_39 gY_238.2.2.2 gF_12_451 rfl (sh_137 hW) ?_
                refine x_aload_n d238_42 rfl ?_
                refine x_getI d238_43 gY_238.2.2.2 gF_12_183 rfl (sh_137 hW) ?_
                refine x_if2 (pc2 := 51) d238_46 rfl (fun c => ?_) (fun c => ?_)
                · replace c : I5 137 64 ≤ I5 137 13 := c
                  rw [if_pos c] at k
                  refine x_aload_n d238_51 rfl ?_
                  refine x_iconst d238_52 rfl ?_
                  refine x_putI d238_53 gY_238.2.2.2 gF_12_183 rfl rfl (sh_137 hW) ?_
                  refine x_iconst d238_56 rfl ?_
                  refine x_istore_n (ls2 := [some (.inr 137), some (.inl x1), some (.inl x2), some (.inl 0), none, none, none, none]) d238_57 rfl rfl ?_
                  exact k
                · replace c : ¬ (I5 137 64 ≤ I5 137 13) := c
                  rw [if_neg c] at k
                  refine x_iconst d238_49 rfl ?_
                  exact x_iret d238_50 gR_238 ⟨_, _, rfl, rfl, k⟩
set_option maxHeartbeats 4000000 in
theorem b_M_badly_58 {d n : Nat} {sh : ZS} {R : ZR} {I : ZI} {Q : Int → ZI → Prop} (hW : Wf sh R) {x1 : Int} {x2 : Int} {x3 : Int} {u4 : Option AV} {u5 : Option AV} {u6 : Option AV} {u7 : Option AV}
    (k : (if I 137 64 ≤ x3 then XI (d + 7) 237 [.inr 137, .inr 177] n sh R I (fun v1 I2 => (if v1 = 0 then XIs (d + 8) 238 106 [some (.inr 137), some (.inl x1), some (.inl x2), some (.inl 0), some (.inl (-1)), some (.inl 0), u6, u7] [] n sh R I2 Q else Q (-3) I2)) else (0 ≤ x3 ∧ x3 < 220) ∧ (0 ≤ x3 ∧ x3 < 32) ∧ (zr (x3 + 1)) ∧ XIs (d + 8) 238 58 [some (.inr 137), some (.inl x1), some (.inl x2), some (.inl (x3 + 1)), u4, u5, u6, u7] [] n sh R (zup I 178 (x3).toNat (I 144 (x3).toNat)) Q)) : XIs (d + 8) 238 58 [some (.inr 137), some (.inl x1), some (.inl x2), some (.inl x3), u4, u5, u6, u7] [] n sh R I Q := by
  unfold XIs
  refine x_iload_n d238_58 rfl ?_
  refine x_aload_n d238_59 rfl ?_
  refine x_getI d238_60 gY_238.2.2.2 gF_12_451 rfl (sh_137 hW) ?_
  refine x_if2 (pc2 := 84) d238_63 rfl (fun c => ?_) (fun c => ?_)
  · replace c : I 137 64 ≤ x3 := c
    rw [if_pos c] at k
    refine x_aload_n d238_84 rfl ?_
    refine x_aload_n d238_85 rfl ?_
    refine x_getR (r := 177) d238_86 gY_238.2.2.2 gF_12_128 rfl (sh_137 hW) (rf_137_63 hW) (by decide) ?_
    refine y_invI (as := [.inr 177]) (t := []) (o := 137) gY_237 d238_89 gY_238.2.2.2 gM_12_468 rfl (sh_137 hW) rfl k (fun v1 I2 k => ?_)
    refine x_if1 (pc2 := 98) d238_92 rfl (fun c => ?_) (fun c => ?_)
    · replace c : v1 = 0 := c
      rw [if_pos c] at k
      refine x_iconst d238_98 rfl ?_
      refine x_istore_n (ls2 := [some (.inr 137), some (.inl x1), some (.inl x2), some (.inl 0), u4, u5, u6, u7]) d238_99 rfl rfl ?_
      refine x_iconst d238_100 rfl ?_
      refine x_istore (ls2 := [some (.inr 137), some (.inl x1), some (.inl x2), some (.inl 0), some (.inl (-1)), u5, u6, u7]) d238_101 rfl rfl ?_
      refine x_iconst d238_103 rfl ?_
      refine x_istore (ls2 := [some (.inr 137), some (.inl x1), some (.inl x2), some (.inl 0), some (.inl (-1)), some (.inl 0), u6, u7]) d238_104 rfl rfl ?_
      exact k
    · replace c : ¬ (v1 = 0) := c
      rw [if_neg c] at k
      refine x_bipush d238_95 rfl ?_
      exact x_iret d238_97 gR_238 ⟨_, _, rfl, rfl, k⟩
  · replace c : ¬ (I 137 64 ≤ x3) := c
    rw [if_neg c] at k
    refine x_aload_n d238_66 rfl ?_
    refine x_getR (r := 178) d238_67 gY_238.2.2.2 gF_12_131 rfl (sh_137 hW) (rf_137_65 hW) (by decide) ?_
    refine x_iload_n d238_70 rfl ?_
    refine x_aload_n d238_71 rfl ?_
    refine x_getR (r := 144) d238_72 gY_238.2.2.2 gF_12_28 rfl (sh_137 hW) (rf_137_12 hW) (by decide) ?_
    refine x_iload_n d238_75 rfl ?_
    have e3 := k.1
    replace k := k.2
    refine x_bald d238_76 (sh_144 hW) e3.1 e3.2 ?_
    have e4 := k.1
    replace k := k.2
    refine x_iast d238_77 (sh_178 hW) e4.1 e4.2 ?_
    have e5 := k.1
    replace k := k.2
    refine x_iinc (ls2 := [some (.inr 137), some (.inl x1), some (.inl x2), some (.inl (x3 + 1)), u4, u5, u6, u7]) d238_78 rfl e5 rfl ?_
    refine x_goto (pc2 := 58) d238_81 rfl ?_
    exact k
set_option maxHeartbeats 4000000 in
theorem b_M_badly_106 {d n : Nat} {sh : ZS} {R : ZR} {I : ZI} {Q : Int → ZI → Prop} (hW : Wf sh R) {x1 : Int} {x2 : Int} {x3 : Int} {x4 : Int} {x5 : Int} {u6 : Option AV} {u7 : Option AV}
    (k : (zr (x1 * 32)) ∧ (zr ((x1 * 32) * I 137 3)) ∧ (if ((x1 * 32) * I 137 3) ≤ x5 then (if ¬ x2 = (-1) then (if ¬ x4 = (-1) then (if ¬ x2 = 0 then (if ¬ x2 = 1 then (0 ≤ x4) ∧ (0 < I 137 3) ∧ Q (x4 % I 137 3) I else (0 ≤ x4 ∧ x4 < 2147483648) ∧ (0 < I 137 3) ∧ (0 ≤ (x4 / I 137 3)) ∧ Q ((x4 / I 137 3) % 32) I) else (0 ≤ x4 ∧ x4 < 2147483648) ∧ (0 < I 137 3) ∧ (0 ≤ (x4 / I 137 3) ∧ (x4 / I 137 3) < 2147483648) ∧ Q ((x4 / I 137 3) / 32) I) else Q (-2) I) else Q x3 I) else (0 ≤ x5 ∧ x5 < 2147483648) ∧ (0 < I 137 3) ∧ (0 ≤ (x5 / I 137 3)) ∧ (if ((x5 / I 137 3) % 32) < 0 then (zr (x5 + 1)) ∧ XIs (d + 8) 238 106 [some (.inr 137), some (.inl x1), some (.inl x2), some (.inl x3), some (.inl x4), some (.inl (x5 + 1)), some (.inl ((x5 / I 137 3) % 32)), u7] [] n sh R I Q else (if I 137 0 ≤ ((x5 / I 137 3) % 32) then (zr (x5 + 1)) ∧ XIs (d + 8) 238 106 [some (.inr 137), some (.inl x1), some (.inl x2), some (.inl x3), some (.inl x4), some (.inl (x5 + 1)), some (.inl ((x5 / I 137 3) % 32)), u7] [] n sh R I Q else (0 ≤ (x5 / I 137 3) ∧ (x5 / I 137 3) < 2147483648) ∧ (0 ≤ x5) ∧ XI (d + 7) 233 [.inr 137, .inl x1, .inl ((x5 / I 137 3) / 32), .inl ((x5 / I 137 3) % 32), .inl (x5 % I 137 3)] n sh R I (fun v18 I19 => (if v18 = 0 then XV (d + 7) 191 [.inr 137] n sh R I19 (fun I21 => (zr (x5 + 1)) ∧ XIs (d + 8) 238 106 [some (.inr 137), some (.inl x1), some (.inl x2), some (.inl x3), some (.inl x4), some (.inl (x5 + 1)), some (.inl ((x5 / I 137 3) % 32)), some (.inl 0)] [] n sh R I21 Q) else XI (d + 7) 237 [.inr 137, .inr 142] n sh R I19 (fun v23 I24 => (if v23 = 0 then XV (d + 7) 191 [.inr 137] n sh R I24 (fun I26 => (zr (x5 + 1)) ∧ XIs (d + 8) 238 106 [some (.inr 137), some (.inl x1), some (.inl x2), some (.inl x3), some (.inl x4), some (.inl (x5 + 1)), some (.inl ((x5 / I 137 3) % 32)), some (.inl 0)] [] n sh R I26 Q) else XV (d + 7) 191 [.inr 137] n sh R I24 (fun I29 => (if ¬ x4 = (-1) then (zr (x3 + 1)) ∧ (zr (x5 + 1)) ∧ XIs (d + 8) 238 106 [some (.inr 137), some (.inl x1), some (.inl x2), some (.inl (x3 + 1)), some (.inl x4), some (.inl (x5 + 1)), some (.inl ((x5 / I 137 3) % 32)), some (.inl 1)] [] n sh R I29 Q else (zr (x3 + 1)) ∧ (zr (x5 + 1)) ∧ XIs (d + 8) 238 106 [some (.inr 137), some (.inl x1), some (.inl x2), some (.inl (x3 + 1)), some (.inl x5), some (.inl (x5 + 1)), some (.inl ((x5 / I 137 3) % 32)), some (.inl 1)] [] n sh R I29 Q)))))))))) : XIs (d + 8) 238 106 [some (.inr 137), some (.inl x1), some (.inl x2), some (.inl x3), some (.inl x4), some (.inl x5), u6, u7] [] n sh R I Q := by
  unfold XIs
  refine x_iload d238_106 rfl ?_
  refine x_iload_n d238_108 rfl ?_
  refine x_bipush d238_109 rfl ?_
  have e1 := k.1
  replace k := k.2
  refine x_imul d238_111 e1 ?_
  refine x_aload_n d238_112 rfl ?_
  refine x_getI d238_113 gY_238.2.2.2 gF_12_156 rfl (sh_137 hW) ?_
  have e2 := k.1
  replace k := k.2
  refine x_imul d238_116 e2 ?_
  refine x_if2 (pc2 := 226) d238_117 rfl (fun c => ?_) (fun c => ?_)
  · replace c : ((x1 * 32) * I 137 3) ≤ x5 := c
    rw [if_pos c] at k
    refine x_iload_n d238_226 rfl ?_
    refine x_iconst d238_227 rfl ?_
    refine x_if2 (pc2 := 233) d238_228 rfl (fun c => ?_) (fun c => ?_)
    · replace c : ¬ x2 = (-1) := c
      rw [if_pos c] at k
      refine x_iload d238_233 rfl ?_
      refine x_iconst d238_235 rfl ?_
      refine x_if2 (pc2 := 242) d238_236 rfl (fun c => ?_) (fun c => ?_)
      · replace c : ¬ x4 = (-1) := c
        rw [if_pos c] at k
        refine x_iload_n d238_242 rfl ?_
        refine x_if1 (pc2 := 259) d238_243 rfl (fun c => ?_) (fun c => ?_)
        · replace c : ¬ x2 = 0 := c
          rw [if_pos c] at k
          refine x_iload_n d238_259 rfl ?_
          refine x_iconst d238_260 rfl ?_
          refine x_if2 (pc2 := 277) d238_261 rfl (fun c => ?_) (fun c => ?_)
          · replace c : ¬ x2 = 1 := c
            rw [if_pos c] at k
            refine x_iload d238_277 rfl ?_
            refine x_aload_n d238_279 rfl ?_
            refine x_getI d238_280 gY_238.2.2.2 gF_12_156 rfl (sh_137 hW) ?_
            have e3 := k.1
            replace k := k.2
            have e4 := k.1
            replace k := k.2
            refine x_irem d238_283 e3 e4 ?_
            exact x_iret d238_284 gR_238 ⟨_, _, rfl, rfl, k⟩
          · replace c : ¬ (¬ x2 = 1) := c
            rw [if_neg c] at k
            refine x_iload d238_264 rfl ?_
            refine x_aload_n d238_266 rfl ?_
            refine x_getI d238_267 gY_238.2.2.2 gF_12_156 rfl (sh_137 hW) ?_
            have e5 := k.1
            replace k := k.2
            have e6 := k.1
            replace k := k.2
            refine x_idiv d238_270 e5 e6 ?_
            refine x_bipush d238_271 rfl ?_
            have e7 := k.1
            replace k := k.2
            refine x_irem d238_273 e7 (by decide) ?_
            refine x_goto (pc2 := 284) d238_274 rfl ?_
            exact x_iret d238_284 gR_238 ⟨_, _, rfl, rfl, k⟩
        · replace c : ¬ (¬ x2 = 0) := c
          rw [if_neg c] at k
          refine x_iload d238_246 rfl ?_
          refine x_aload_n d238_248 rfl ?_
          refine x_getI d238_249 gY_238.2.2.2 gF_12_156 rfl (sh_137 hW) ?_
          have e8 := k.1
          replace k := k.2
          have e9 := k.1
          replace k := k.2
          refine x_idiv d238_252 e8 e9 ?_
          refine x_bipush d238_253 rfl ?_
          have e10 := k.1
          replace k := k.2
          refine x_idiv d238_255 e10 (by decide) ?_
          refine x_goto (pc2 := 284) d238_256 rfl ?_
          exact x_iret d238_284 gR_238 ⟨_, _, rfl, rfl, k⟩
      · replace c : ¬ (¬ x4 = (-1)) := c
        rw [if_neg c] at k
        refine x_bipush d238_239 rfl ?_
        exact x_iret d238_241 gR_238 ⟨_, _, rfl, rfl, k⟩
    · replace c : ¬ (¬ x2 = (-1)) := c
      rw [if_neg c] at k
      refine x_iload_n d238_231 rfl ?_
      exact x_iret d238_232 gR_238 ⟨_, _, rfl, rfl, k⟩
  · replace c : ¬ (((x1 * 32) * I 137 3) ≤ x5) := c
    rw [if_neg c] at k
    refine x_iload d238_120 rfl ?_
    refine x_aload_n d238_122 rfl ?_
    refine x_getI d238_123 gY_238.2.2.2 gF_12_156 rfl (sh_137 hW) ?_
    have e11 := k.1
    replace k := k.2
    have e12 := k.1
    replace k := k.2
    refine x_idiv d238_126 e11 e12 ?_
    refine x_bipush d238_127 rfl ?_
    have e13 := k.1
    replace k := k.2
    refine x_irem d238_129 e13 (by decide) ?_
    refine x_istore (ls2 := [some (.inr 137), some (.inl x1), some (.inl x2), some (.inl x3), some (.inl x4), some (.inl x5), some (.inl ((x5 / I 137 3) % 32)), u7]) d238_130 rfl rfl ?_
    refine x_aload_n d238_132 rfl ?_
    refine x_iload d238_133 rfl ?_
    refine y_inv (as := [.inl ((x5 / I 137 3) % 32)]) (t := []) (o := 137) (ls2 := [some (.inr 137), some (.inl ((x5 / I 137 3) % 32))]) gY_144 d238_135 gY_238.2.2.2 gM_12_346 rfl (sh_137 hW) rfl rfl ?_
    refine x_iload_n d144_0 rfl ?_
    refine x_if1 (pc2 := 16) d144_1 rfl (fun c => ?_) (fun c => ?_)
    · replace c : ((x5 / I 137 3) % 32) < 0 := c
      rw [if_pos c] at k
      refine x_iconst d144_16 rfl ?_
      refine x_zret d144_17 gR_144 (by decide) ?_
      show Ex (d + 8) 238 138 [some (.inr 137), some (.inl x1), some (.inl x2), some (.inl x3), some (.inl x4), some (.inl x5), some (.inl ((x5 / I 137 3) % 32)), u7] [.inl 0] (0, 0, n, sh, R, I) _
      refine x_if1 (pc2 := 144) d238_138 rfl (fun c => absurd (show ¬ (0 : Int) = 0 from c) (by decide)) (fun _ => ?_)
      refine x_goto (pc2 := 220) d238_141 rfl ?_
      have e14 := k.1
      replace k := k.2
      refine x_iinc (ls2 := [some (.inr 137), some (.inl x1), some (.inl x2), some (.inl x3), some (.inl x4), some (.inl (x5 + 1)), some (.inl ((x5 / I 137 3) % 32)), u7]) d238_220 rfl e14 rfl ?_
      refine x_goto (pc2 := 106) d238_223 rfl ?_
      exact k
    · replace c : ¬ (((x5 / I 137 3) % 32) < 0) := c
      rw [if_neg c] at k
      refine x_iload_n d144_4 rfl ?_
      refine x_aload_n d144_5 rfl ?_
      refine x_getI d144_6 gY_144.2.2.2 gF_12_159 rfl (sh_137 hW) ?_
      refine x_if2 (pc2 := 16) d144_9 rfl (fun c => ?_) (fun c => ?_)
      · replace c : I 137 0 ≤ ((x5 / I 137 3) % 32) := c
        rw [if_pos c] at k
        refine x_iconst d144_16 rfl ?_
        refine x_zret d144_17 gR_144 (by decide) ?_
        show Ex (d + 8) 238 138 [some (.inr 137), some (.inl x1), some (.inl x2), some (.inl x3), some (.inl x4), some (.inl x5), some (.inl ((x5 / I 137 3) % 32)), u7] [.inl 0] (0, 0, n, sh, R, I) _
        refine x_if1 (pc2 := 144) d238_138 rfl (fun c => absurd (show ¬ (0 : Int) = 0 from c) (by decide)) (fun _ => ?_)
        refine x_goto (pc2 := 220) d238_141 rfl ?_
        have e15 := k.1
        replace k := k.2
        refine x_iinc (ls2 := [some (.inr 137), some (.inl x1), some (.inl x2), some (.inl x3), some (.inl x4), some (.inl (x5 + 1)), some (.inl ((x5 / I 137 3) % 32)), u7]) d238_220 rfl e15 rfl ?_
        refine x_goto (pc2 := 106) d238_223 rfl ?_
        exact k
      · replace c : ¬ (I 137 0 ≤ ((x5 / I 137 3) % 32)) := c
        rw [if_neg c] at k
        refine x_iconst d144_12 rfl ?_
        refine x_goto (pc2 := 17) d144_13 rfl ?_
        refine x_zret d144_17 gR_144 (by decide) ?_
        show Ex (d + 8) 238 138 [some (.inr 137), some (.inl x1), some (.inl x2), some (.inl x3), some (.inl x4), some (.inl x5), some (.inl ((x5 / I 137 3) % 32)), u7] [.inl 1] (0, 0, n, sh, R, I) _
        refine x_if1 (pc2 := 144) d238_138 rfl (fun _ => ?_) (fun c => absurd (show ¬ (1 : Int) = 0 by decide) c)
        refine x_aload_n d238_144 rfl ?_
        refine x_iload_n d238_145 rfl ?_
        refine x_iload d238_146 rfl ?_
        refine x_aload_n d238_148 rfl ?_
        refine x_getI d238_149 gY_238.2.2.2 gF_12_156 rfl (sh_137 hW) ?_
        refine x_idiv d238_152 e11 e12 ?_
        refine x_bipush d238_153 rfl ?_
        have e16 := k.1
        replace k := k.2
        refine x_idiv d238_155 e16 (by decide) ?_
        refine x_iload d238_156 rfl ?_
        refine x_iload d238_158 rfl ?_
        refine x_aload_n d238_160 rfl ?_
        refine x_getI d238_161 gY_238.2.2.2 gF_12_156 rfl (sh_137 hW) ?_
        have e17 := k.1
        replace k := k.2
        refine x_irem d238_164 e17 e12 ?_
        refine y_invI (as := [.inl x1, .inl ((x5 / I 137 3) / 32), .inl ((x5 / I 137 3) % 32), .inl (x5 % I 137 3)]) (t := []) (o := 137) gY_233 d238_165 gY_238.2.2.2 gM_12_461 rfl (sh_137 hW) rfl k (fun v18 I19 k => ?_)
        refine x_if1 (pc2 := 186) d238_168 rfl (fun c => ?_) (fun c => ?_)
        · replace c : v18 = 0 := c
          rw [if_pos c] at k
          refine x_iconst d238_186 rfl ?_
          refine x_istore (ls2 := [some (.inr 137), some (.inl x1), some (.inl x2), some (.inl x3), some (.inl x4), some (.inl x5), some (.inl ((x5 / I 137 3) % 32)), some (.inl 0)]) d238_187 rfl rfl ?_
          refine x_aload_n d238_189 rfl ?_
          refine y_invV (as := []) (t := []) (o := 137) gY_191 d238_190 gY_238.2.2.2 gM_12_364 rfl (sh_137 hW) rfl k (fun I21 k => ?_)
          refine x_iload d238_193 rfl ?_
          refine x_if1 (pc2 := 201) d238_195 rfl (fun c => absurd (show ¬ (0 : Int) = 0 from c) (by decide)) (fun _ => ?_)
          refine x_goto (pc2 := 220) d238_198 rfl ?_
          have e22 := k.1
          replace k := k.2
          refine x_iinc (ls2 := [some (.inr 137), some (.inl x1), some (.inl x2), some (.inl x3), some (.inl x4), some (.inl (x5 + 1)), some (.inl ((x5 / I 137 3) % 32)), some (.inl 0)]) d238_220 rfl e22 rfl ?_
          refine x_goto (pc2 := 106) d238_223 rfl ?_
          exact k
        · replace c : ¬ (v18 = 0) := c
          rw [if_neg c] at k
          refine x_aload_n d238_171 rfl ?_
          refine x_aload_n d238_172 rfl ?_
          refine x_getR (r := 142) d238_173 gY_238.2.2.2 gF_12_22 rfl (sh_137 hW) (rf_137_10 hW) (by decide) ?_
          refine y_invI (as := [.inr 142]) (t := []) (o := 137) gY_237 d238_176 gY_238.2.2.2 gM_12_468 rfl (sh_137 hW) rfl k (fun v23 I24 k => ?_)
          refine x_if1 (pc2 := 186) d238_179 rfl (fun c => ?_) (fun c => ?_)
          · replace c : v23 = 0 := c
            rw [if_pos c] at k
            refine x_iconst d238_186 rfl ?_
            refine x_istore (ls2 := [some (.inr 137), some (.inl x1), some (.inl x2), some (.inl x3), some (.inl x4), some (.inl x5), some (.inl ((x5 / I 137 3) % 32)), some (.inl 0)]) d238_187 rfl rfl ?_
            refine x_aload_n d238_189 rfl ?_
            refine y_invV (as := []) (t := []) (o := 137) gY_191 d238_190 gY_238.2.2.2 gM_12_364 rfl (sh_137 hW) rfl k (fun I26 k => ?_)
            refine x_iload d238_193 rfl ?_
            refine x_if1 (pc2 := 201) d238_195 rfl (fun c => absurd (show ¬ (0 : Int) = 0 from c) (by decide)) (fun _ => ?_)
            refine x_goto (pc2 := 220) d238_198 rfl ?_
            have e27 := k.1
            replace k := k.2
            refine x_iinc (ls2 := [some (.inr 137), some (.inl x1), some (.inl x2), some (.inl x3), some (.inl x4), some (.inl (x5 + 1)), some (.inl ((x5 / I 137 3) % 32)), some (.inl 0)]) d238_220 rfl e27 rfl ?_
            refine x_goto (pc2 := 106) d238_223 rfl ?_
            exact k
          · replace c : ¬ (v23 = 0) := c
            rw [if_neg c] at k
            refine x_iconst d238_182 rfl ?_
            refine x_goto (pc2 := 187) d238_183 rfl ?_
            refine x_istore (ls2 := [some (.inr 137), some (.inl x1), some (.inl x2), some (.inl x3), some (.inl x4), some (.inl x5), some (.inl ((x5 / I 137 3) % 32)), some (.inl 1)]) d238_187 rfl rfl ?_
            refine x_aload_n d238_189 rfl ?_
            refine y_invV (as := []) (t := []) (o := 137) gY_191 d238_190 gY_238.2.2.2 gM_12_364 rfl (sh_137 hW) rfl k (fun I29 k => ?_)
            refine x_iload d238_193 rfl ?_
            refine x_if1 (pc2 := 201) d238_195 rfl (fun _ => ?_) (fun c => absurd (show ¬ (1 : Int) = 0 by decide) c)
            refine x_iload d238_201 rfl ?_
            refine x_iconst d238_203 rfl ?_
            refine x_if2 (pc2 := 212) d238_204 rfl (fun c => ?_) (fun c => ?_)
            · replace c : ¬ x4 = (-1) := c
              rw [if_pos c] at k
              refine x_iload d238_212 rfl ?_
              refine x_istore (ls2 := [some (.inr 137), some (.inl x1), some (.inl x2), some (.inl x3), some (.inl x4), some (.inl x5), some (.inl ((x5 / I 137 3) % 32)), some (.inl 1)]) d238_214 rfl rfl ?_
              refine x_iload_n d238_216 rfl ?_
              refine x_iconst d238_217 rfl ?_
              have e30 := k.1
              replace k := k.2
              refine x_iadd d238_218 e30 ?_
              refine x_istore_n (ls2 := [some (.inr 137), some (.inl x1), some (.inl x2), some (.inl (x3 + 1)), some (.inl x4), some (.inl x5), some (.inl ((x5 / I 137 3) % 32)), some (.inl 1)]) d238_219 rfl rfl ?_
              have e31 := k.1
              replace k := k.2
              refine x_iinc (ls2 := [some (.inr 137), some (.inl x1), some (.inl x2), some (.inl (x3 + 1)), some (.inl x4), some (.inl (x5 + 1)), some (.inl ((x5 / I 137 3) % 32)), some (.inl 1)]) d238_220 rfl e31 rfl ?_
              refine x_goto (pc2 := 106) d238_223 rfl ?_
              exact k
            · replace c : ¬ (¬ x4 = (-1)) := c
              rw [if_neg c] at k
              refine x_iload d238_207 rfl ?_
              refine x_goto (pc2 := 214) d238_209 rfl ?_
              refine x_istore (ls2 := [some (.inr 137), some (.inl x1), some (.inl x2), some (.inl x3), some (.inl x5), some (.inl x5), some (.inl ((x5 / I 137 3) % 32)), some (.inl 1)]) d238_214 rfl rfl ?_
              refine x_iload_n d238_216 rfl ?_
              refine x_iconst d238_217 rfl ?_
              have e32 := k.1
              replace k := k.2
              refine x_iadd d238_218 e32 ?_
              refine x_istore_n (ls2 := [some (.inr 137), some (.inl x1), some (.inl x2), some (.inl (x3 + 1)), some (.inl x5), some (.inl x5), some (.inl ((x5 / I 137 3) % 32)), some (.inl 1)]) d238_219 rfl rfl ?_
              have e33 := k.1
              replace k := k.2
              refine x_iinc (ls2 := [some (.inr 137), some (.inl x1), some (.inl x2), some (.inl (x3 + 1)), some (.inl x5), some (.inl (x5 + 1)), some (.inl ((x5 / I 137 3) % 32)), some (.inl 1)]) d238_220 rfl e33 rfl ?_
              refine x_goto (pc2 := 106) d238_223 rfl ?_
              exact k
set_option maxHeartbeats 4000000 in
theorem b_M_clerks_0 {d n : Nat} {sh : ZS} {R : ZR} {I : ZI} {Q : Int → ZI → Prop} (hW : Wf sh R) {x1 : Int}
    (k : (if I 137 2 = 12 then (if ¬ I 137 2 = 12 then Q (-2) I else Q (-1) I) else (if (-1) ≤ x1 then XV (d + 3) 190 [.inr 137] n sh R I (fun I2 => XV (d + 3) 182 [.inr 137] n sh R I2 (fun I4 => XIs (d + 4) 239 48 [some (.inr 137), some (.inl x1), some (.inl (I4 137 1)), some (.inl 0), some (.inl 0), none, none, none, none] [] n sh R I4 Q)) else (if ¬ I 137 2 = 12 then Q (-2) I else Q (-1) I)))) : XI (d + 4) 239 [.inr 137, .inl x1] n sh R I Q := by
  refine XI.of (ls := [some (.inr 137), some (.inl x1), none, none, none, none, none, none, none]) (zloc_eq gY_239.2.2.1) ?_
  unfold XIs
  refine x_aload_n d239_0 rfl ?_
  refine x_getI d239_1 gY_239.2.2.2 gF_12_173 rfl (sh_137 hW) ?_
  refine x_bipush d239_4 rfl ?_
  refine x_if2 (pc2 := 14) d239_6 rfl (fun c => ?_) (fun c => ?_)
  · replace c : I 137 2 = 12 := c
    rw [if_pos c] at k
    refine x_aload_n d239_14 rfl ?_
    refine x_getI d239_15 gY_239.2.2.2 gF_12_173 rfl (sh_137 hW) ?_
    refine x_bipush d239_18 rfl ?_
    refine x_if2 (pc2 := 27) d239_20 rfl (fun c => ?_) (fun c => ?_)
    · replace c : ¬ I 137 2 = 12 := c
      rw [if_pos c] at k
      refine x_bipush d239_27 rfl ?_
      exact x_iret d239_29 gR_239 ⟨_, _, rfl, rfl, k⟩
    · replace c : ¬ (¬ I 137 2 = 12) := c
      rw [if_neg c] at k
      refine x_iconst d239_23 rfl ?_
      refine x_goto (pc2 := 29) d239_24 rfl ?_
      exact x_iret d239_29 gR_239 ⟨_, _, rfl, rfl, k⟩
  · replace c : ¬ (I 137 2 = 12) := c
    rw [if_neg c] at k
    refine x_iload_n d239_9 rfl ?_
    refine x_iconst d239_10 rfl ?_
    refine x_if2 (pc2 := 30) d239_11 rfl (fun c => ?_) (fun c => ?_)
    · replace c : (-1) ≤ x1 := c
      rw [if_pos c] at k
      refine x_aload_n d239_30 rfl ?_
      refine y_invV (as := []) (t := []) (o := 137) gY_190 d239_31 gY_239.2.2.2 gM_12_361 rfl (sh_137 hW) rfl k (fun I2 k => ?_)
      refine x_aload_n d239_34 rfl ?_
      refine y_invV (as := []) (t := []) (o := 137) gY_182 d239_35 gY_239.2.2.2 gM_12_324 rfl (sh_137 hW) rfl k (fun I4 k => ?_)
      refine x_aload_n d239_38 rfl ?_
      refine x_getI d239_39 gY_239.2.2.2 gF_12_162 rfl (sh_137 hW) ?_
      refine x_istore_n (ls2 := [some (.inr 137), some (.inl x1), some (.inl (I4 137 1)), none, none, none, none, none, none]) d239_42 rfl rfl ?_
      refine x_iconst d239_43 rfl ?_
      refine x_istore_n (ls2 := [some (.inr 137), some (.inl x1), some (.inl (I4 137 1)), some (.inl 0), none, none, none, none, none]) d239_44 rfl rfl ?_
      refine x_iconst d239_45 rfl ?_
      refine x_istore (ls2 := [some (.inr 137), some (.inl x1), some (.inl (I4 137 1)), some (.inl 0), some (.inl 0), none, none, none, none]) d239_46 rfl rfl ?_
      exact k
    · replace c : ¬ ((-1) ≤ x1) := c
      rw [if_neg c] at k
      refine x_aload_n d239_14 rfl ?_
      refine x_getI d239_15 gY_239.2.2.2 gF_12_173 rfl (sh_137 hW) ?_
      refine x_bipush d239_18 rfl ?_
      refine x_if2 (pc2 := 27) d239_20 rfl (fun c => ?_) (fun c => ?_)
      · replace c : ¬ I 137 2 = 12 := c
        rw [if_pos c] at k
        refine x_bipush d239_27 rfl ?_
        exact x_iret d239_29 gR_239 ⟨_, _, rfl, rfl, k⟩
      · replace c : ¬ (¬ I 137 2 = 12) := c
        rw [if_neg c] at k
        refine x_iconst d239_23 rfl ?_
        refine x_goto (pc2 := 29) d239_24 rfl ?_
        exact x_iret d239_29 gR_239 ⟨_, _, rfl, rfl, k⟩
set_option maxHeartbeats 4000000 in
theorem b_M_clerks_48 {d n : Nat} {sh : ZS} {R : ZR} {I : ZI} {Q : Int → ZI → Prop} (hW : Wf sh R) {x1 : Int} {x2 : Int} {x3 : Int} {x4 : Int} {u5 : Option AV} {u6 : Option AV} {u7 : Option AV} {u8 : Option AV}
    (k : (if x2 ≤ x4 then XV (d + 3) 191 [.inr 137] n sh R I (fun I2 => (if x1 ≤ x2 then XIs (d + 4) 239 122 [some (.inr 137), some (.inl x1), some (.inl x2), some (.inl x3), some (.inl 0), some (.inl 1000000000), some (.inl 0), some (.inl 0), u8] [] n sh R I2 Q else Q (-2) I2)) else XI (d + 3) 179 [.inr 137, .inl x4] n sh R I (fun v3 I4 => (if v3 = 0 then XI (d + 3) 181 [.inr 137, .inl x4] n sh R I4 (fun v5 I6 => (0 ≤ x4 ∧ x4 < 32) ∧ (zr (x3 + (zup I6 179 (x4).toNat v5) 179 (x4).toNat)) ∧ (zr (x4 + 1)) ∧ XIs (d + 4) 239 48 [some (.inr 137), some (.inl x1), some (.inl x2), some (.inl (x3 + (zup I6 179 (x4).toNat v5) 179 (x4).toNat)), some (.inl (x4 + 1)), u5, u6, u7, u8] [] n sh R (zup I6 179 (x4).toNat v5) Q) else (0 ≤ x4 ∧ x4 < 32) ∧ (zr (x3 + (zup I4 179 (x4).toNat 0) 179 (x4).toNat)) ∧ (zr (x4 + 1)) ∧ XIs (d + 4) 239 48 [some (.inr 137), some (.inl x1), some (.inl x2), some (.inl (x3 + (zup I4 179 (x4).toNat 0) 179 (x4).toNat)), some (.inl (x4 + 1)), u5, u6, u7, u8] [] n sh R (zup I4 179 (x4).toNat 0) Q)))) : XIs (d + 4) 239 48 [some (.inr 137), some (.inl x1), some (.inl x2), some (.inl x3), some (.inl x4), u5, u6, u7, u8] [] n sh R I Q := by
  unfold XIs
  refine x_iload d239_48 rfl ?_
  refine x_iload_n d239_50 rfl ?_
  refine x_if2 (pc2 := 96) d239_51 rfl (fun c => ?_) (fun c => ?_)
  · replace c : x2 ≤ x4 := c
    rw [if_pos c] at k
    refine x_aload_n d239_96 rfl ?_
    refine y_invV (as := []) (t := []) (o := 137) gY_191 d239_97 gY_239.2.2.2 gM_12_364 rfl (sh_137 hW) rfl k (fun I2 k => ?_)
    refine x_iload_n d239_100 rfl ?_
    refine x_iload_n d239_101 rfl ?_
    refine x_if2 (pc2 := 108) d239_102 rfl (fun c => ?_) (fun c => ?_)
    · replace c : x1 ≤ x2 := c
      rw [if_pos c] at k
      refine x_iconst d239_108 rfl ?_
      refine x_istore (ls2 := [some (.inr 137), some (.inl x1), some (.inl x2), some (.inl x3), some (.inl 0), u5, u6, u7, u8]) d239_109 rfl rfl ?_
      refine x_ldcw d239_111 gY_239.2.2.2 gK_12_392 rfl ?_
      refine x_istore (ls2 := [some (.inr 137), some (.inl x1), some (.inl x2), some (.inl x3), some (.inl 0), some (.inl 1000000000), u6, u7, u8]) d239_114 rfl rfl ?_
      refine x_iconst d239_116 rfl ?_
      refine x_istore (ls2 := [some (.inr 137), some (.inl x1), some (.inl x2), some (.inl x3), some (.inl 0), some (.inl 1000000000), some (.inl 0), u7, u8]) d239_117 rfl rfl ?_
      refine x_iconst d239_119 rfl ?_
      refine x_istore (ls2 := [some (.inr 137), some (.inl x1), some (.inl x2), some (.inl x3), some (.inl 0), some (.inl 1000000000), some (.inl 0), some (.inl 0), u8]) d239_120 rfl rfl ?_
      exact k
    · replace c : ¬ (x1 ≤ x2) := c
      rw [if_neg c] at k
      refine x_bipush d239_105 rfl ?_
      exact x_iret d239_107 gR_239 ⟨_, _, rfl, rfl, k⟩
  · replace c : ¬ (x2 ≤ x4) := c
    rw [if_neg c] at k
    refine x_aload_n d239_54 rfl ?_
    refine x_getR (r := 179) d239_55 gY_239.2.2.2 gF_12_134 rfl (sh_137 hW) (rf_137_66 hW) (by decide) ?_
    refine x_iload d239_58 rfl ?_
    refine x_aload_n d239_60 rfl ?_
    refine x_iload d239_61 rfl ?_
    refine y_invI (as := [.inl x4]) (t := [.inl x4, .inr 179]) (o := 137) gY_179 d239_63 gY_239.2.2.2 gM_12_303 rfl (sh_137 hW) rfl k (fun v3 I4 k => ?_)
    refine x_if1 (pc2 := 73) d239_66 rfl (fun c => ?_) (fun c => ?_)
    · replace c : v3 = 0 := c
      rw [if_pos c] at k
      refine x_aload_n d239_73 rfl ?_
      refine x_iload d239_74 rfl ?_
      refine y_invI (as := [.inl x4]) (t := [.inl x4, .inr 179]) (o := 137) gY_181 d239_76 gY_239.2.2.2 gM_12_312 rfl (sh_137 hW) rfl k (fun v5 I6 k => ?_)
      have e7 := k.1
      replace k := k.2
      refine x_iast d239_79 (sh_179 hW) e7.1 e7.2 ?_
      refine x_iload_n d239_80 rfl ?_
      refine x_aload_n d239_81 rfl ?_
      refine x_getR (r := 179) d239_82 gY_239.2.2.2 gF_12_134 rfl (sh_137 hW) (rf_137_66 hW) (by decide) ?_
      refine x_iload d239_85 rfl ?_
      refine x_iald d239_87 (sh_179 hW) e7.1 e7.2 ?_
      have e8 := k.1
      replace k := k.2
      refine x_iadd d239_88 e8 ?_
      refine x_istore_n (ls2 := [some (.inr 137), some (.inl x1), some (.inl x2), some (.inl (x3 + (zup I6 179 (x4).toNat v5) 179 (x4).toNat)), some (.inl x4), u5, u6, u7, u8]) d239_89 rfl rfl ?_
      have e9 := k.1
      replace k := k.2
      refine x_iinc (ls2 := [some (.inr 137), some (.inl x1), some (.inl x2), some (.inl (x3 + (zup I6 179 (x4).toNat v5) 179 (x4).toNat)), some (.inl (x4 + 1)), u5, u6, u7, u8]) d239_90 rfl e9 rfl ?_
      refine x_goto (pc2 := 48) d239_93 rfl ?_
      exact k
    · replace c : ¬ (v3 = 0) := c
      rw [if_neg c] at k
      refine x_iconst d239_69 rfl ?_
      refine x_goto (pc2 := 79) d239_70 rfl ?_
      have e10 := k.1
      replace k := k.2
      refine x_iast d239_79 (sh_179 hW) e10.1 e10.2 ?_
      refine x_iload_n d239_80 rfl ?_
      refine x_aload_n d239_81 rfl ?_
      refine x_getR (r := 179) d239_82 gY_239.2.2.2 gF_12_134 rfl (sh_137 hW) (rf_137_66 hW) (by decide) ?_
      refine x_iload d239_85 rfl ?_
      refine x_iald d239_87 (sh_179 hW) e10.1 e10.2 ?_
      have e11 := k.1
      replace k := k.2
      refine x_iadd d239_88 e11 ?_
      refine x_istore_n (ls2 := [some (.inr 137), some (.inl x1), some (.inl x2), some (.inl (x3 + (zup I4 179 (x4).toNat 0) 179 (x4).toNat)), some (.inl x4), u5, u6, u7, u8]) d239_89 rfl rfl ?_
      have e12 := k.1
      replace k := k.2
      refine x_iinc (ls2 := [some (.inr 137), some (.inl x1), some (.inl x2), some (.inl (x3 + (zup I4 179 (x4).toNat 0) 179 (x4).toNat)), some (.inl (x4 + 1)), u5, u6, u7, u8]) d239_90 rfl e12 rfl ?_
      refine x_goto (pc2 := 48) d239_93 rfl ?_
      exact k
set_option maxHeartbeats 4000000 in
theorem b_M_clerks_122 {d n : Nat} {sh : ZS} {R : ZR} {I : ZI} {Q : Int → ZI → Prop} (hW : Wf sh R) {x1 : Int} {x2 : Int} {x3 : Int} {x4 : Int} {x5 : Int} {x6 : Int} {x7 : Int} {u8 : Option AV}
    (k : (if x2 < x7 then Q x4 I else (zr (x3 - x6)) ∧ (if x6 ≤ (x3 - x6) then (if ¬ x7 = x1 then (if x5 ≤ (x3 - x6) then (if x2 ≤ x7 then (zr (x6 + 0)) ∧ (zr (x7 + 1)) ∧ XIs (d + 4) 239 122 [some (.inr 137), some (.inl x1), some (.inl x2), some (.inl x3), some (.inl x4), some (.inl x5), some (.inl (x6 + 0)), some (.inl (x7 + 1)), some (.inl (x3 - x6))] [] n sh R I Q else (0 ≤ x7 ∧ x7 < 32) ∧ (zr (x6 + I 179 (x7).toNat)) ∧ (zr (x7 + 1)) ∧ XIs (d + 4) 239 122 [some (.inr 137), some (.inl x1), some (.inl x2), some (.inl x3), some (.inl x4), some (.inl x5), some (.inl (x6 + I 179 (x7).toNat)), some (.inl (x7 + 1)), some (.inl (x3 - x6))] [] n sh R I Q) else (if x2 ≤ x7 then (zr (x6 + 0)) ∧ (zr (x7 + 1)) ∧ XIs (d + 4) 239 122 [some (.inr 137), some (.inl x1), some (.inl x2), some (.inl x3), some (.inl x7), some (.inl (x3 - x6)), some (.inl (x6 + 0)), some (.inl (x7 + 1)), some (.inl (x3 - x6))] [] n sh R I Q else (0 ≤ x7 ∧ x7 < 32) ∧ (zr (x6 + I 179 (x7).toNat)) ∧ (zr (x7 + 1)) ∧ XIs (d + 4) 239 122 [some (.inr 137), some (.inl x1), some (.inl x2), some (.inl x3), some (.inl x7), some (.inl (x3 - x6)), some (.inl (x6 + I 179 (x7).toNat)), some (.inl (x7 + 1)), some (.inl (x3 - x6))] [] n sh R I Q)) else Q (x3 - x6) I) else (if ¬ x7 = x1 then (if x5 ≤ x6 then (if x2 ≤ x7 then (zr (x6 + 0)) ∧ (zr (x7 + 1)) ∧ XIs (d + 4) 239 122 [some (.inr 137), some (.inl x1), some (.inl x2), some (.inl x3), some (.inl x4), some (.inl x5), some (.inl (x6 + 0)), some (.inl (x7 + 1)), some (.inl x6)] [] n sh R I Q else (0 ≤ x7 ∧ x7 < 32) ∧ (zr (x6 + I 179 (x7).toNat)) ∧ (zr (x7 + 1)) ∧ XIs (d + 4) 239 122 [some (.inr 137), some (.inl x1), some (.inl x2), some (.inl x3), some (.inl x4), some (.inl x5), some (.inl (x6 + I 179 (x7).toNat)), some (.inl (x7 + 1)), some (.inl x6)] [] n sh R I Q) else (if x2 ≤ x7 then (zr (x6 + 0)) ∧ (zr (x7 + 1)) ∧ XIs (d + 4) 239 122 [some (.inr 137), some (.inl x1), some (.inl x2), some (.inl x3), some (.inl x7), some (.inl x6), some (.inl (x6 + 0)), some (.inl (x7 + 1)), some (.inl x6)] [] n sh R I Q else (0 ≤ x7 ∧ x7 < 32) ∧ (zr (x6 + I 179 (x7).toNat)) ∧ (zr (x7 + 1)) ∧ XIs (d + 4) 239 122 [some (.inr 137), some (.inl x1), some (.inl x2), some (.inl x3), some (.inl x7), some (.inl x6), some (.inl (x6 + I 179 (x7).toNat)), some (.inl (x7 + 1)), some (.inl x6)] [] n sh R I Q)) else Q x6 I)))) : XIs (d + 4) 239 122 [some (.inr 137), some (.inl x1), some (.inl x2), some (.inl x3), some (.inl x4), some (.inl x5), some (.inl x6), some (.inl x7), u8] [] n sh R I Q := by
  unfold XIs
  refine x_iload d239_122 rfl ?_
  refine x_iload_n d239_124 rfl ?_
  refine x_if2 (pc2 := 191) d239_125 rfl (fun c => ?_) (fun c => ?_)
  · replace c : x2 < x7 := c
    rw [if_pos c] at k
    refine x_iload d239_191 rfl ?_
    exact x_iret d239_193 gR_239 ⟨_, _, rfl, rfl, k⟩
  · replace c : ¬ (x2 < x7) := c
    rw [if_neg c] at k
    refine x_iload d239_128 rfl ?_
    refine x_iload_n d239_130 rfl ?_
    refine x_iload d239_131 rfl ?_
    have e1 := k.1
    replace k := k.2
    refine x_isub d239_133 e1 ?_
    refine y_ins (as := [.inl x6, .inl (x3 - x6)]) (t := []) (ls2 := [some (.inl x6), some (.inl (x3 - x6))]) gY_142 d239_134 gY_239.2.2.2 gM_12_420 rfl rfl rfl ?_
    refine x_iload_n d142_0 rfl ?_
    refine x_iload_n d142_1 rfl ?_
    refine x_if2 (pc2 := 9) d142_2 rfl (fun c => ?_) (fun c => ?_)
    · replace c : x6 ≤ (x3 - x6) := c
      rw [if_pos c] at k
      refine x_iload_n d142_9 rfl ?_
      refine x_iret d142_10 gR_142 ?_
      show Ex (d + 4) 239 137 [some (.inr 137), some (.inl x1), some (.inl x2), some (.inl x3), some (.inl x4), some (.inl x5), some (.inl x6), some (.inl x7), u8] [.inl (x3 - x6)] (0, 0, n, sh, R, I) _
      refine x_istore (ls2 := [some (.inr 137), some (.inl x1), some (.inl x2), some (.inl x3), some (.inl x4), some (.inl x5), some (.inl x6), some (.inl x7), some (.inl (x3 - x6))]) d239_137 rfl rfl ?_
      refine x_iload d239_139 rfl ?_
      refine x_iload_n d239_141 rfl ?_
      refine x_if2 (pc2 := 148) d239_142 rfl (fun c => ?_) (fun c => ?_)
      · replace c : ¬ x7 = x1 := c
        rw [if_pos c] at k
        refine x_iload d239_148 rfl ?_
        refine x_iload d239_150 rfl ?_
        refine x_if2 (pc2 := 163) d239_152 rfl (fun c => ?_) (fun c => ?_)
        · replace c : x5 ≤ (x3 - x6) := c
          rw [if_pos c] at k
          refine x_iload d239_163 rfl ?_
          refine x_iload d239_165 rfl ?_
          refine x_iload_n d239_167 rfl ?_
          refine x_if2 (pc2 := 181) d239_168 rfl (fun c => ?_) (fun c => ?_)
          · replace c : x2 ≤ x7 := c
            rw [if_pos c] at k
            refine x_iconst d239_181 rfl ?_
            have e2 := k.1
            replace k := k.2
            refine x_iadd d239_182 e2 ?_
            refine x_istore (ls2 := [some (.inr 137), some (.inl x1), some (.inl x2), some (.inl x3), some (.inl x4), some (.inl x5), some (.inl (x6 + 0)), some (.inl x7), some (.inl (x3 - x6))]) d239_183 rfl rfl ?_
            have e3 := k.1
            replace k := k.2
            refine x_iinc (ls2 := [some (.inr 137), some (.inl x1), some (.inl x2), some (.inl x3), some (.inl x4), some (.inl x5), some (.inl (x6 + 0)), some (.inl (x7 + 1)), some (.inl (x3 - x6))]) d239_185 rfl e3 rfl ?_
            refine x_goto (pc2 := 122) d239_188 rfl ?_
            exact k
          · replace c : ¬ (x2 ≤ x7) := c
            rw [if_neg c] at k
            refine x_aload_n d239_171 rfl ?_
            refine x_getR (r := 179) d239_172 gY_239.2.2.2 gF_12_134 rfl (sh_137 hW) (rf_137_66 hW) (by decide) ?_
            refine x_iload d239_175 rfl ?_
            have e4 := k.1
            replace k := k.2
            refine x_iald d239_177 (sh_179 hW) e4.1 e4.2 ?_
            refine x_goto (pc2 := 182) d239_178 rfl ?_
            have e5 := k.1
            replace k := k.2
            refine x_iadd d239_182 e5 ?_
            refine x_istore (ls2 := [some (.inr 137), some (.inl x1), some (.inl x2), some (.inl x3), some (.inl x4), some (.inl x5), some (.inl (x6 + I 179 (x7).toNat)), some (.inl x7), some (.inl (x3 - x6))]) d239_183 rfl rfl ?_
            have e6 := k.1
            replace k := k.2
            refine x_iinc (ls2 := [some (.inr 137), some (.inl x1), some (.inl x2), some (.inl x3), some (.inl x4), some (.inl x5), some (.inl (x6 + I 179 (x7).toNat)), some (.inl (x7 + 1)), some (.inl (x3 - x6))]) d239_185 rfl e6 rfl ?_
            refine x_goto (pc2 := 122) d239_188 rfl ?_
            exact k
        · replace c : ¬ (x5 ≤ (x3 - x6)) := c
          rw [if_neg c] at k
          refine x_iload d239_155 rfl ?_
          refine x_istore (ls2 := [some (.inr 137), some (.inl x1), some (.inl x2), some (.inl x3), some (.inl x4), some (.inl (x3 - x6)), some (.inl x6), some (.inl x7), some (.inl (x3 - x6))]) d239_157 rfl rfl ?_
          refine x_iload d239_159 rfl ?_
          refine x_istore (ls2 := [some (.inr 137), some (.inl x1), some (.inl x2), some (.inl x3), some (.inl x7), some (.inl (x3 - x6)), some (.inl x6), some (.inl x7), some (.inl (x3 - x6))]) d239_161 rfl rfl ?_
          refine x_iload d239_163 rfl ?_
          refine x_iload d239_165 rfl ?_
          refine x_iload_n d239_167 rfl ?_
          refine x_if2 (pc2 := 181) d239_168 rfl (fun c => ?_) (fun c => ?_)
          · replace c : x2 ≤ x7 := c
            rw [if_pos c] at k
            refine x_iconst d239_181 rfl ?_
            have e7 := k.1
            replace k := k.2
            refine x_iadd d239_182 e7 ?_
            refine x_istore (ls2 := [some (.inr 137), some (.inl x1), some (.inl x2), some (.inl x3), some (.inl x7), some (.inl (x3 - x6)), some (.inl (x6 + 0)), some (.inl x7), some (.inl (x3 - x6))]) d239_183 rfl rfl ?_
            have e8 := k.1
            replace k := k.2
            refine x_iinc (ls2 := [some (.inr 137), some (.inl x1), some (.inl x2), some (.inl x3), some (.inl x7), some (.inl (x3 - x6)), some (.inl (x6 + 0)), some (.inl (x7 + 1)), some (.inl (x3 - x6))]) d239_185 rfl e8 rfl ?_
            refine x_goto (pc2 := 122) d239_188 rfl ?_
            exact k
          · replace c : ¬ (x2 ≤ x7) := c
            rw [if_neg c] at k
            refine x_aload_n d239_171 rfl ?_
            refine x_getR (r := 179) d239_172 gY_239.2.2.2 gF_12_134 rfl (sh_137 hW) (rf_137_66 hW) (by decide) ?_
            refine x_iload d239_175 rfl ?_
            have e9 := k.1
            replace k := k.2
            refine x_iald d239_177 (sh_179 hW) e9.1 e9.2 ?_
            refine x_goto (pc2 := 182) d239_178 rfl ?_
            have e10 := k.1
            replace k := k.2
            refine x_iadd d239_182 e10 ?_
            refine x_istore (ls2 := [some (.inr 137), some (.inl x1), some (.inl x2), some (.inl x3), some (.inl x7), some (.inl (x3 - x6)), some (.inl (x6 + I 179 (x7).toNat)), some (.inl x7), some (.inl (x3 - x6))]) d239_183 rfl rfl ?_
            have e11 := k.1
            replace k := k.2
            refine x_iinc (ls2 := [some (.inr 137), some (.inl x1), some (.inl x2), some (.inl x3), some (.inl x7), some (.inl (x3 - x6)), some (.inl (x6 + I 179 (x7).toNat)), some (.inl (x7 + 1)), some (.inl (x3 - x6))]) d239_185 rfl e11 rfl ?_
            refine x_goto (pc2 := 122) d239_188 rfl ?_
            exact k
      · replace c : ¬ (¬ x7 = x1) := c
        rw [if_neg c] at k
        refine x_iload d239_145 rfl ?_
        exact x_iret d239_147 gR_239 ⟨_, _, rfl, rfl, k⟩
    · replace c : ¬ (x6 ≤ (x3 - x6)) := c
      rw [if_neg c] at k
      refine x_iload_n d142_5 rfl ?_
      refine x_goto (pc2 := 10) d142_6 rfl ?_
      refine x_iret d142_10 gR_142 ?_
      show Ex (d + 4) 239 137 [some (.inr 137), some (.inl x1), some (.inl x2), some (.inl x3), some (.inl x4), some (.inl x5), some (.inl x6), some (.inl x7), u8] [.inl x6] (0, 0, n, sh, R, I) _
      refine x_istore (ls2 := [some (.inr 137), some (.inl x1), some (.inl x2), some (.inl x3), some (.inl x4), some (.inl x5), some (.inl x6), some (.inl x7), some (.inl x6)]) d239_137 rfl rfl ?_
      refine x_iload d239_139 rfl ?_
      refine x_iload_n d239_141 rfl ?_
      refine x_if2 (pc2 := 148) d239_142 rfl (fun c => ?_) (fun c => ?_)
      · replace c : ¬ x7 = x1 := c
        rw [if_pos c] at k
        refine x_iload d239_148 rfl ?_
        refine x_iload d239_150 rfl ?_
        refine x_if2 (pc2 := 163) d239_152 rfl (fun c => ?_) (fun c => ?_)
        · replace c : x5 ≤ x6 := c
          rw [if_pos c] at k
          refine x_iload d239_163 rfl ?_
          refine x_iload d239_165 rfl ?_
          refine x_iload_n d239_167 rfl ?_
          refine x_if2 (pc2 := 181) d239_168 rfl (fun c => ?_) (fun c => ?_)
          · replace c : x2 ≤ x7 := c
            rw [if_pos c] at k
            refine x_iconst d239_181 rfl ?_
            have e12 := k.1
            replace k := k.2
            refine x_iadd d239_182 e12 ?_
            refine x_istore (ls2 := [some (.inr 137), some (.inl x1), some (.inl x2), some (.inl x3), some (.inl x4), some (.inl x5), some (.inl (x6 + 0)), some (.inl x7), some (.inl x6)]) d239_183 rfl rfl ?_
            have e13 := k.1
            replace k := k.2
            refine x_iinc (ls2 := [some (.inr 137), some (.inl x1), some (.inl x2), some (.inl x3), some (.inl x4), some (.inl x5), some (.inl (x6 + 0)), some (.inl (x7 + 1)), some (.inl x6)]) d239_185 rfl e13 rfl ?_
            refine x_goto (pc2 := 122) d239_188 rfl ?_
            exact k
          · replace c : ¬ (x2 ≤ x7) := c
            rw [if_neg c] at k
            refine x_aload_n d239_171 rfl ?_
            refine x_getR (r := 179) d239_172 gY_239.2.2.2 gF_12_134 rfl (sh_137 hW) (rf_137_66 hW) (by decide) ?_
            refine x_iload d239_175 rfl ?_
            have e14 := k.1
            replace k := k.2
            refine x_iald d239_177 (sh_179 hW) e14.1 e14.2 ?_
            refine x_goto (pc2 := 182) d239_178 rfl ?_
            have e15 := k.1
            replace k := k.2
            refine x_iadd d239_182 e15 ?_
            refine x_istore (ls2 := [some (.inr 137), some (.inl x1), some (.inl x2), some (.inl x3), some (.inl x4), some (.inl x5), some (.inl (x6 + I 179 (x7).toNat)), some (.inl x7), some (.inl x6)]) d239_183 rfl rfl ?_
            have e16 := k.1
            replace k := k.2
            refine x_iinc (ls2 := [some (.inr 137), some (.inl x1), some (.inl x2), some (.inl x3), some (.inl x4), some (.inl x5), some (.inl (x6 + I 179 (x7).toNat)), some (.inl (x7 + 1)), some (.inl x6)]) d239_185 rfl e16 rfl ?_
            refine x_goto (pc2 := 122) d239_188 rfl ?_
            exact k
        · replace c : ¬ (x5 ≤ x6) := c
          rw [if_neg c] at k
          refine x_iload d239_155 rfl ?_
          refine x_istore (ls2 := [some (.inr 137), some (.inl x1), some (.inl x2), some (.inl x3), some (.inl x4), some (.inl x6), some (.inl x6), some (.inl x7), some (.inl x6)]) d239_157 rfl rfl ?_
          refine x_iload d239_159 rfl ?_
          refine x_istore (ls2 := [some (.inr 137), some (.inl x1), some (.inl x2), some (.inl x3), some (.inl x7), some (.inl x6), some (.inl x6), some (.inl x7), some (.inl x6)]) d239_161 rfl rfl ?_
          refine x_iload d239_163 rfl ?_
          refine x_iload d239_165 rfl ?_
          refine x_iload_n d239_167 rfl ?_
          refine x_if2 (pc2 := 181) d239_168 rfl (fun c => ?_) (fun c => ?_)
          · replace c : x2 ≤ x7 := c
            rw [if_pos c] at k
            refine x_iconst d239_181 rfl ?_
            have e17 := k.1
            replace k := k.2
            refine x_iadd d239_182 e17 ?_
            refine x_istore (ls2 := [some (.inr 137), some (.inl x1), some (.inl x2), some (.inl x3), some (.inl x7), some (.inl x6), some (.inl (x6 + 0)), some (.inl x7), some (.inl x6)]) d239_183 rfl rfl ?_
            have e18 := k.1
            replace k := k.2
            refine x_iinc (ls2 := [some (.inr 137), some (.inl x1), some (.inl x2), some (.inl x3), some (.inl x7), some (.inl x6), some (.inl (x6 + 0)), some (.inl (x7 + 1)), some (.inl x6)]) d239_185 rfl e18 rfl ?_
            refine x_goto (pc2 := 122) d239_188 rfl ?_
            exact k
          · replace c : ¬ (x2 ≤ x7) := c
            rw [if_neg c] at k
            refine x_aload_n d239_171 rfl ?_
            refine x_getR (r := 179) d239_172 gY_239.2.2.2 gF_12_134 rfl (sh_137 hW) (rf_137_66 hW) (by decide) ?_
            refine x_iload d239_175 rfl ?_
            have e19 := k.1
            replace k := k.2
            refine x_iald d239_177 (sh_179 hW) e19.1 e19.2 ?_
            refine x_goto (pc2 := 182) d239_178 rfl ?_
            have e20 := k.1
            replace k := k.2
            refine x_iadd d239_182 e20 ?_
            refine x_istore (ls2 := [some (.inr 137), some (.inl x1), some (.inl x2), some (.inl x3), some (.inl x7), some (.inl x6), some (.inl (x6 + I 179 (x7).toNat)), some (.inl x7), some (.inl x6)]) d239_183 rfl rfl ?_
            have e21 := k.1
            replace k := k.2
            refine x_iinc (ls2 := [some (.inr 137), some (.inl x1), some (.inl x2), some (.inl x3), some (.inl x7), some (.inl x6), some (.inl (x6 + I 179 (x7).toNat)), some (.inl (x7 + 1)), some (.inl x6)]) d239_185 rfl e21 rfl ?_
            refine x_goto (pc2 := 122) d239_188 rfl ?_
            exact k
      · replace c : ¬ (¬ x7 = x1) := c
        rw [if_neg c] at k
        refine x_iload d239_145 rfl ?_
        exact x_iret d239_147 gR_239 ⟨_, _, rfl, rfl, k⟩
set_option maxHeartbeats 4000000 in
theorem b_M_wanted_0 {d n : Nat} {sh : ZS} {R : ZR} {I : ZI} {Q : Int → ZI → Prop} (hW : Wf sh R) {x1 : Int}
    (k : (if x1 < 1 then Q (-1) I else (if x1 < 1048576 then XIs (d + 4) 240 17 [some (.inr 137), some (.inl x1), some (.inl (-1)), some (.inl 0), none, none, none] [] n sh R I Q else Q (-1) I))) : XI (d + 4) 240 [.inr 137, .inl x1] n sh R I Q := by
  refine XI.of (ls := [some (.inr 137), some (.inl x1), none, none, none, none, none]) (zloc_eq gY_240.2.2.1) ?_
  unfold XIs
  refine x_iload_n d240_0 rfl ?_
  refine x_iconst d240_1 rfl ?_
  refine x_if2 (pc2 := 11) d240_2 rfl (fun c => ?_) (fun c => ?_)
  · replace c : x1 < 1 := c
    rw [if_pos c] at k
    refine x_iconst d240_11 rfl ?_
    exact x_iret d240_12 gR_240 ⟨_, _, rfl, rfl, k⟩
  · replace c : ¬ (x1 < 1) := c
    rw [if_neg c] at k
    refine x_iload_n d240_5 rfl ?_
    refine x_ldc d240_6 gY_240.2.2.2 gK_12_216 rfl ?_
    refine x_if2 (pc2 := 13) d240_8 rfl (fun c => ?_) (fun c => ?_)
    · replace c : x1 < 1048576 := c
      rw [if_pos c] at k
      refine x_iconst d240_13 rfl ?_
      refine x_istore_n (ls2 := [some (.inr 137), some (.inl x1), some (.inl (-1)), none, none, none, none]) d240_14 rfl rfl ?_
      refine x_iconst d240_15 rfl ?_
      refine x_istore_n (ls2 := [some (.inr 137), some (.inl x1), some (.inl (-1)), some (.inl 0), none, none, none]) d240_16 rfl rfl ?_
      exact k
    · replace c : ¬ (x1 < 1048576) := c
      rw [if_neg c] at k
      refine x_iconst d240_11 rfl ?_
      exact x_iret d240_12 gR_240 ⟨_, _, rfl, rfl, k⟩
set_option maxHeartbeats 4000000 in
theorem b_M_wanted_17 {d n : Nat} {sh : ZS} {R : ZR} {I : ZI} {Q : Int → ZI → Prop} (hW : Wf sh R) {x1 : Int} {x2 : Int} {x3 : Int} {u4 : Option AV} {u5 : Option AV} {u6 : Option AV}
    (k : (if I 137 1 ≤ x3 then (if ¬ x2 = (-1) then XIs (d + 4) 240 67 [some (.inr 137), some (.inl x1), some (.inl x2), some (.inl 0), some (.inl 0), some (.inl 0), u6] [] n sh R I Q else Q (-2) I) else (0 ≤ x3 ∧ x3 < 32) ∧ (0 ≤ I 142 (x3).toNat ∧ I 142 (x3).toNat < 32) ∧ (if ¬ (zand (zshr x1 (I 138 (I 142 (x3).toNat).toNat)) 1) = 1 then (zr (x3 + 1)) ∧ XIs (d + 4) 240 17 [some (.inr 137), some (.inl x1), some (.inl x2), some (.inl (x3 + 1)), u4, u5, u6] [] n sh R I Q else (zr (x3 + 1)) ∧ XIs (d + 4) 240 17 [some (.inr 137), some (.inl x1), some (.inl x3), some (.inl (x3 + 1)), u4, u5, u6] [] n sh R I Q))) : XIs (d + 4) 240 17 [some (.inr 137), some (.inl x1), some (.inl x2), some (.inl x3), u4, u5, u6] [] n sh R I Q := by
  unfold XIs
  refine x_iload_n d240_17 rfl ?_
  refine x_aload_n d240_18 rfl ?_
  refine x_getI d240_19 gY_240.2.2.2 gF_12_162 rfl (sh_137 hW) ?_
  refine x_if2 (pc2 := 51) d240_22 rfl (fun c => ?_) (fun c => ?_)
  · replace c : I 137 1 ≤ x3 := c
    rw [if_pos c] at k
    refine x_iload_n d240_51 rfl ?_
    refine x_iconst d240_52 rfl ?_
    refine x_if2 (pc2 := 59) d240_53 rfl (fun c => ?_) (fun c => ?_)
    · replace c : ¬ x2 = (-1) := c
      rw [if_pos c] at k
      refine x_iconst d240_59 rfl ?_
      refine x_istore_n (ls2 := [some (.inr 137), some (.inl x1), some (.inl x2), some (.inl 0), u4, u5, u6]) d240_60 rfl rfl ?_
      refine x_iconst d240_61 rfl ?_
      refine x_istore (ls2 := [some (.inr 137), some (.inl x1), some (.inl x2), some (.inl 0), some (.inl 0), u5, u6]) d240_62 rfl rfl ?_
      refine x_iconst d240_64 rfl ?_
      refine x_istore (ls2 := [some (.inr 137), some (.inl x1), some (.inl x2), some (.inl 0), some (.inl 0), some (.inl 0), u6]) d240_65 rfl rfl ?_
      exact k
    · replace c : ¬ (¬ x2 = (-1)) := c
      rw [if_neg c] at k
      refine x_bipush d240_56 rfl ?_
      exact x_iret d240_58 gR_240 ⟨_, _, rfl, rfl, k⟩
  · replace c : ¬ (I 137 1 ≤ x3) := c
    rw [if_neg c] at k
    refine x_iload_n d240_25 rfl ?_
    refine x_aload_n d240_26 rfl ?_
    refine x_getR (r := 138) d240_27 gY_240.2.2.2 gF_12_7 rfl (sh_137 hW) (rf_137_6 hW) (by decide) ?_
    refine x_aload_n d240_30 rfl ?_
    refine x_getR (r := 142) d240_31 gY_240.2.2.2 gF_12_22 rfl (sh_137 hW) (rf_137_10 hW) (by decide) ?_
    refine x_iload_n d240_34 rfl ?_
    have e1 := k.1
    replace k := k.2
    refine x_iald d240_35 (sh_142 hW) e1.1 e1.2 ?_
    have e2 := k.1
    replace k := k.2
    refine x_iald d240_36 (sh_138 hW) e2.1 e2.2 ?_
    refine y_ins (as := [.inl x1, .inl (I 138 (I 142 (x3).toNat).toNat)]) (t := []) (ls2 := [some (.inl x1), some (.inl (I 138 (I 142 (x3).toNat).toNat))]) gY_143 d240_37 gY_240.2.2.2 gM_12_300 rfl rfl rfl ?_
    refine x_iload_n d143_0 rfl ?_
    refine x_iload_n d143_1 rfl ?_
    refine x_ishr d143_2 ?_
    refine x_iconst d143_3 rfl ?_
    refine x_iand d143_4 ?_
    refine x_iconst d143_5 rfl ?_
    refine x_if2 (pc2 := 13) d143_6 rfl (fun c => ?_) (fun c => ?_)
    · replace c : ¬ (zand (zshr x1 (I 138 (I 142 (x3).toNat).toNat)) 1) = 1 := c
      rw [if_pos c] at k
      refine x_iconst d143_13 rfl ?_
      refine x_zret d143_14 gR_143 (by decide) ?_
      show Ex (d + 4) 240 40 [some (.inr 137), some (.inl x1), some (.inl x2), some (.inl x3), u4, u5, u6] [.inl 0] (0, 0, n, sh, R, I) _
      refine x_if1 (pc2 := 45) d240_40 rfl (fun _ => ?_) (fun c => absurd (show (0 : Int) = 0 by decide) c)
      have e3 := k.1
      replace k := k.2
      refine x_iinc (ls2 := [some (.inr 137), some (.inl x1), some (.inl x2), some (.inl (x3 + 1)), u4, u5, u6]) d240_45 rfl e3 rfl ?_
      refine x_goto (pc2 := 17) d240_48 rfl ?_
      exact k
    · replace c : ¬ (¬ (zand (zshr x1 (I 138 (I 142 (x3).toNat).toNat)) 1) = 1) := c
      rw [if_neg c] at k
      refine x_iconst d143_9 rfl ?_
      refine x_goto (pc2 := 14) d143_10 rfl ?_
      refine x_zret d143_14 gR_143 (by decide) ?_
      show Ex (d + 4) 240 40 [some (.inr 137), some (.inl x1), some (.inl x2), some (.inl x3), u4, u5, u6] [.inl 1] (0, 0, n, sh, R, I) _
      refine x_if1 (pc2 := 45) d240_40 rfl (fun c => absurd (show (1 : Int) = 0 from c) (by decide)) (fun _ => ?_)
      refine x_iload_n d240_43 rfl ?_
      refine x_istore_n (ls2 := [some (.inr 137), some (.inl x1), some (.inl x3), some (.inl x3), u4, u5, u6]) d240_44 rfl rfl ?_
      have e4 := k.1
      replace k := k.2
      refine x_iinc (ls2 := [some (.inr 137), some (.inl x1), some (.inl x3), some (.inl (x3 + 1)), u4, u5, u6]) d240_45 rfl e4 rfl ?_
      refine x_goto (pc2 := 17) d240_48 rfl ?_
      exact k
set_option maxHeartbeats 4000000 in
theorem b_M_wanted_67 {d n : Nat} {sh : ZS} {R : ZR} {I : ZI} {Q : Int → ZI → Prop} (hW : Wf sh R) {x1 : Int} {x2 : Int} {x3 : Int} {x4 : Int} {x5 : Int} {u6 : Option AV}
    (k : (if x2 < x5 then (if x4 ≤ x3 then Q x4 I else Q x3 I) else XI (d + 3) 181 [.inr 137, .inl x5] n sh R I (fun v1 I2 => (zr (x3 + v1)) ∧ (0 ≤ x5 ∧ x5 < 32) ∧ (0 ≤ I2 142 (x5).toNat ∧ I2 142 (x5).toNat < 32) ∧ (if ¬ (zand (zshr x1 (I2 138 (I2 142 (x5).toNat).toNat)) 1) = 1 then (zr (x4 + 1)) ∧ (zr (x5 + 1)) ∧ XIs (d + 4) 240 67 [some (.inr 137), some (.inl x1), some (.inl x2), some (.inl (x3 + v1)), some (.inl (x4 + 1)), some (.inl (x5 + 1)), some (.inl v1)] [] n sh R I2 Q else (zr (x4 + v1)) ∧ (zr (x5 + 1)) ∧ XIs (d + 4) 240 67 [some (.inr 137), some (.inl x1), some (.inl x2), some (.inl (x3 + v1)), some (.inl (x4 + v1)), some (.inl (x5 + 1)), some (.inl v1)] [] n sh R I2 Q)))) : XIs (d + 4) 240 67 [some (.inr 137), some (.inl x1), some (.inl x2), some (.inl x3), some (.inl x4), some (.inl x5), u6] [] n sh R I Q := by
  unfold XIs
  refine x_iload d240_67 rfl ?_
  refine x_iload_n d240_69 rfl ?_
  refine x_if2 (pc2 := 122) d240_70 rfl (fun c => ?_) (fun c => ?_)
  · replace c : x2 < x5 := c
    rw [if_pos c] at k
    refine x_iload_n d240_122 rfl ?_
    refine x_iload d240_123 rfl ?_
    refine y_ins (as := [.inl x3, .inl x4]) (t := []) (ls2 := [some (.inl x3), some (.inl x4)]) gY_141 d240_125 gY_240.2.2.2 gM_12_399 rfl rfl rfl ?_
    refine x_iload_n d141_0 rfl ?_
    refine x_iload_n d141_1 rfl ?_
    refine x_if2 (pc2 := 9) d141_2 rfl (fun c => ?_) (fun c => ?_)
    · replace c : x4 ≤ x3 := c
      rw [if_pos c] at k
      refine x_iload_n d141_9 rfl ?_
      refine x_iret d141_10 gR_141 ?_
      show Ex (d + 4) 240 128 [some (.inr 137), some (.inl x1), some (.inl x2), some (.inl x3), some (.inl x4), some (.inl x5), u6] [.inl x4] (0, 0, n, sh, R, I) _
      exact x_iret d240_128 gR_240 ⟨_, _, rfl, rfl, k⟩
    · replace c : ¬ (x4 ≤ x3) := c
      rw [if_neg c] at k
      refine x_iload_n d141_5 rfl ?_
      refine x_goto (pc2 := 10) d141_6 rfl ?_
      refine x_iret d141_10 gR_141 ?_
      show Ex (d + 4) 240 128 [some (.inr 137), some (.inl x1), some (.inl x2), some (.inl x3), some (.inl x4), some (.inl x5), u6] [.inl x3] (0, 0, n, sh, R, I) _
      exact x_iret d240_128 gR_240 ⟨_, _, rfl, rfl, k⟩
  · replace c : ¬ (x2 < x5) := c
    rw [if_neg c] at k
    refine x_aload_n d240_73 rfl ?_
    refine x_iload d240_74 rfl ?_
    refine y_invI (as := [.inl x5]) (t := []) (o := 137) gY_181 d240_76 gY_240.2.2.2 gM_12_312 rfl (sh_137 hW) rfl k (fun v1 I2 k => ?_)
    refine x_istore (ls2 := [some (.inr 137), some (.inl x1), some (.inl x2), some (.inl x3), some (.inl x4), some (.inl x5), some (.inl v1)]) d240_79 rfl rfl ?_
    refine x_iload_n d240_81 rfl ?_
    refine x_iload d240_82 rfl ?_
    have e3 := k.1
    replace k := k.2
    refine x_iadd d240_84 e3 ?_
    refine x_istore_n (ls2 := [some (.inr 137), some (.inl x1), some (.inl x2), some (.inl (x3 + v1)), some (.inl x4), some (.inl x5), some (.inl v1)]) d240_85 rfl rfl ?_
    refine x_iload d240_86 rfl ?_
    refine x_iload_n d240_88 rfl ?_
    refine x_aload_n d240_89 rfl ?_
    refine x_getR (r := 138) d240_90 gY_240.2.2.2 gF_12_7 rfl (sh_137 hW) (rf_137_6 hW) (by decide) ?_
    refine x_aload_n d240_93 rfl ?_
    refine x_getR (r := 142) d240_94 gY_240.2.2.2 gF_12_22 rfl (sh_137 hW) (rf_137_10 hW) (by decide) ?_
    refine x_iload d240_97 rfl ?_
    have e4 := k.1
    replace k := k.2
    refine x_iald d240_99 (sh_142 hW) e4.1 e4.2 ?_
    have e5 := k.1
    replace k := k.2
    refine x_iald d240_100 (sh_138 hW) e5.1 e5.2 ?_
    refine y_ins (as := [.inl x1, .inl (I2 138 (I2 142 (x5).toNat).toNat)]) (t := [.inl x4]) (ls2 := [some (.inl x1), some (.inl (I2 138 (I2 142 (x5).toNat).toNat))]) gY_143 d240_101 gY_240.2.2.2 gM_12_300 rfl rfl rfl ?_
    refine x_iload_n d143_0 rfl ?_
    refine x_iload_n d143_1 rfl ?_
    refine x_ishr d143_2 ?_
    refine x_iconst d143_3 rfl ?_
    refine x_iand d143_4 ?_
    refine x_iconst d143_5 rfl ?_
    refine x_if2 (pc2 := 13) d143_6 rfl (fun c => ?_) (fun c => ?_)
    · replace c : ¬ (zand (zshr x1 (I2 138 (I2 142 (x5).toNat).toNat)) 1) = 1 := c
      rw [if_pos c] at k
      refine x_iconst d143_13 rfl ?_
      refine x_zret d143_14 gR_143 (by decide) ?_
      show Ex (d + 4) 240 104 [some (.inr 137), some (.inl x1), some (.inl x2), some (.inl (x3 + v1)), some (.inl x4), some (.inl x5), some (.inl v1)] [.inl 0, .inl x4] (0, 0, n, sh, R, I2) _
      refine x_if1 (pc2 := 112) d240_104 rfl (fun _ => ?_) (fun c => absurd (show (0 : Int) = 0 by decide) c)
      refine x_iconst d240_112 rfl ?_
      have e6 := k.1
      replace k := k.2
      refine x_iadd d240_113 e6 ?_
      refine x_istore (ls2 := [some (.inr 137), some (.inl x1), some (.inl x2), some (.inl (x3 + v1)), some (.inl (x4 + 1)), some (.inl x5), some (.inl v1)]) d240_114 rfl rfl ?_
      have e7 := k.1
      replace k := k.2
      refine x_iinc (ls2 := [some (.inr 137), some (.inl x1), some (.inl x2), some (.inl (x3 + v1)), some (.inl (x4 + 1)), some (.inl (x5 + 1)), some (.inl v1)]) d240_116 rfl e7 rfl ?_
      refine x_goto (pc2 := 67) d240_119 rfl ?_
      exact k
    · replace c : ¬ (¬ (zand (zshr x1 (I2 138 (I2 142 (x5).toNat).toNat)) 1) = 1) := c
      rw [if_neg c] at k
      refine x_iconst d143_9 rfl ?_
      refine x_goto (pc2 := 14) d143_10 rfl ?_
      refine x_zret d143_14 gR_143 (by decide) ?_
      show Ex (d + 4) 240 104 [some (.inr 137), some (.inl x1), some (.inl x2), some (.inl (x3 + v1)), some (.inl x4), some (.inl x5), some (.inl v1)] [.inl 1, .inl x4] (0, 0, n, sh, R, I2) _
      refine x_if1 (pc2 := 112) d240_104 rfl (fun c => absurd (show (1 : Int) = 0 from c) (by decide)) (fun _ => ?_)
      refine x_iload d240_107 rfl ?_
      refine x_goto (pc2 := 113) d240_109 rfl ?_
      have e8 := k.1
      replace k := k.2
      refine x_iadd d240_113 e8 ?_
      refine x_istore (ls2 := [some (.inr 137), some (.inl x1), some (.inl x2), some (.inl (x3 + v1)), some (.inl (x4 + v1)), some (.inl x5), some (.inl v1)]) d240_114 rfl rfl ?_
      have e9 := k.1
      replace k := k.2
      refine x_iinc (ls2 := [some (.inr 137), some (.inl x1), some (.inl x2), some (.inl (x3 + v1)), some (.inl (x4 + v1)), some (.inl (x5 + 1)), some (.inl v1)]) d240_116 rfl e9 rfl ?_
      refine x_goto (pc2 := 67) d240_119 rfl ?_
      exact k
set_option maxHeartbeats 4000000 in
theorem b_M_seed_0 {d n : Nat} {sh : ZS} {R : ZR} {I : ZI} {Q : Int → ZI → Prop} (hW : Wf sh R) {x1 : Int}
    (k : (if x1 < 0 then Q 0 I else (if 65535 < x1 then Q 0 I else Q 1 (zup I 137 5 x1)))) : XI (d + 1) 241 [.inr 137, .inl x1] n sh R I Q := by
  refine XI.of (ls := [some (.inr 137), some (.inl x1)]) (zloc_eq gY_241.2.2.1) ?_
  unfold XIs
  refine x_iload_n d241_0 rfl ?_
  refine x_iconst d241_1 rfl ?_
  refine x_ldcw d241_2 gY_241.2.2.2 gK_12_472 rfl ?_
  refine y_ins (as := [.inl x1, .inl 0, .inl 65535]) (t := []) (ls2 := [some (.inl x1), some (.inl 0), some (.inl 65535)]) gY_140 d241_5 gY_241.2.2.2 gM_12_169 rfl rfl rfl ?_
  refine x_iload_n d140_0 rfl ?_
  refine x_iload_n d140_1 rfl ?_
  refine x_if2 (pc2 := 14) d140_2 rfl (fun c => ?_) (fun c => ?_)
  · replace c : x1 < 0 := c
    rw [if_pos c] at k
    refine x_iconst d140_14 rfl ?_
    refine x_zret d140_15 gR_140 (by decide) ?_
    show Ex (d + 1) 241 8 [some (.inr 137), some (.inl x1)] [.inl 0] (0, 0, n, sh, R, I) _
    refine x_if1 (pc2 := 13) d241_8 rfl (fun c => absurd (show ¬ (0 : Int) = 0 from c) (by decide)) (fun _ => ?_)
    refine x_iconst d241_11 rfl ?_
    exact x_zret d241_12 gR_241 (by decide) ⟨_, _, rfl, rfl, k⟩
  · replace c : ¬ (x1 < 0) := c
    rw [if_neg c] at k
    refine x_iload_n d140_5 rfl ?_
    refine x_iload_n d140_6 rfl ?_
    refine x_if2 (pc2 := 14) d140_7 rfl (fun c => ?_) (fun c => ?_)
    · replace c : 65535 < x1 := c
      rw [if_pos c] at k
      refine x_iconst d140_14 rfl ?_
      refine x_zret d140_15 gR_140 (by decide) ?_
      show Ex (d + 1) 241 8 [some (.inr 137), some (.inl x1)] [.inl 0] (0, 0, n, sh, R, I) _
      refine x_if1 (pc2 := 13) d241_8 rfl (fun c => absurd (show ¬ (0 : Int) = 0 from c) (by decide)) (fun _ => ?_)
      refine x_iconst d241_11 rfl ?_
      exact x_zret d241_12 gR_241 (by decide) ⟨_, _, rfl, rfl, k⟩
    · replace c : ¬ (65535 < x1) := c
      rw [if_neg c] at k
      refine x_iconst d140_10 rfl ?_
      refine x_goto (pc2 := 15) d140_11 rfl ?_
      refine x_zret d140_15 gR_140 (by decide) ?_
      show Ex (d + 1) 241 8 [some (.inr 137), some (.inl x1)] [.inl 1] (0, 0, n, sh, R, I) _
      refine x_if1 (pc2 := 13) d241_8 rfl (fun _ => ?_) (fun c => absurd (show ¬ (1 : Int) = 0 by decide) c)
      refine x_aload_n d241_13 rfl ?_
      refine x_iload_n d241_14 rfl ?_
      refine x_putI d241_15 gY_241.2.2.2 gF_12_152 rfl rfl (sh_137 hW) ?_
      refine x_iconst d241_18 rfl ?_
      exact x_zret d241_19 gR_241 (by decide) ⟨_, _, rfl, rfl, k⟩
set_option maxHeartbeats 4000000 in
theorem b_M_shuffle_0 {d n : Nat} {sh : ZS} {R : ZR} {I : ZI} {Q : Int → ZI → Prop} (hW : Wf sh R) 
    (k : (zr (I 137 1 - 1)) ∧ XIs (d + 2) 242 7 [some (.inr 137), some (.inl (I 137 1 - 1)), none, none] [] n sh R I Q) : XI (d + 2) 242 [.inr 137] n sh R I Q := by
  refine XI.of (ls := [some (.inr 137), none, none, none]) (zloc_eq gY_242.2.2.1) ?_
  unfold XIs
  refine x_aload_n d242_0 rfl ?_
  refine x_getI d242_1 gY_242.2.2.2 gF_12_162 rfl (sh_137 hW) ?_
  refine x_iconst d242_4 rfl ?_
  have e1 := k.1
  replace k := k.2
  refine x_isub d242_5 e1 ?_
  refine x_istore_n (ls2 := [some (.inr 137), some (.inl (I 137 1 - 1)), none, none]) d242_6 rfl rfl ?_
  exact k
set_option maxHeartbeats 4000000 in
theorem b_M_shuffle_7 {d n : Nat} {sh : ZS} {R : ZR} {I : ZI} {Q : Int → ZI → Prop} (hW : Wf sh R) {x1 : Int} {u2 : Option AV} {u3 : Option AV}
    (k : (if x1 ≤ 0 then XI (d + 1) 196 [.inr 137] n sh R I (fun v1 I2 => Q v1 I2) else (zr (25173 * I 137 5)) ∧ (zr ((25173 * I 137 5) + 13849)) ∧ (0 ≤ ((25173 * I 137 5) + 13849)) ∧ (zr (x1 + 1)) ∧ (0 ≤ (((25173 * I 137 5) + 13849) % 65536)) ∧ (0 < (x1 + 1)) ∧ (0 ≤ x1 ∧ x1 < 32) ∧ (0 ≤ ((((25173 * I 137 5) + 13849) % 65536) % (x1 + 1)) ∧ ((((25173 * I 137 5) + 13849) % 65536) % (x1 + 1)) < 32) ∧ (zr (x1 + (-1))) ∧ XIs (d + 2) 242 7 [some (.inr 137), some (.inl (x1 + (-1))), some (.inl ((((25173 * I 137 5) + 13849) % 65536) % (x1 + 1))), some (.inl (I 142 (x1).toNat))] [] n sh R (zup (zup (zup I 137 5 (((25173 * I 137 5) + 13849) % 65536)) 142 (x1).toNat (I 142 ((((25173 * I 137 5) + 13849) % 65536) % (x1 + 1)).toNat)) 142 ((((25173 * I 137 5) + 13849) % 65536) % (x1 + 1)).toNat (I 142 (x1).toNat)) Q)) : XIs (d + 2) 242 7 [some (.inr 137), some (.inl x1), u2, u3] [] n sh R I Q := by
  unfold XIs
  refine x_iload_n d242_7 rfl ?_
  refine x_if1 (pc2 := 72) d242_8 rfl (fun c => ?_) (fun c => ?_)
  · replace c : x1 ≤ 0 := c
    rw [if_pos c] at k
    refine x_aload_n d242_72 rfl ?_
    refine y_invI (as := []) (t := []) (o := 137) gY_196 d242_73 gY_242.2.2.2 gM_12_358 rfl (sh_137 hW) rfl k (fun v1 I2 k => ?_)
    exact x_iret d242_76 gR_242 ⟨_, _, rfl, rfl, k⟩
  · replace c : ¬ (x1 ≤ 0) := c
    rw [if_neg c] at k
    refine x_aload_n d242_11 rfl ?_
    refine x_sipush d242_12 rfl ?_
    refine x_aload_n d242_15 rfl ?_
    refine x_getI d242_16 gY_242.2.2.2 gF_12_152 rfl (sh_137 hW) ?_
    have e3 := k.1
    replace k := k.2
    refine x_imul d242_19 e3 ?_
    refine x_sipush d242_20 rfl ?_
    have e4 := k.1
    replace k := k.2
    refine x_iadd d242_23 e4 ?_
    refine x_ldcw d242_24 gY_242.2.2.2 gK_12_473 rfl ?_
    have e5 := k.1
    replace k := k.2
    refine x_irem d242_27 e5 (by decide) ?_
    refine x_putI d242_28 gY_242.2.2.2 gF_12_152 rfl rfl (sh_137 hW) ?_
    refine x_aload_n d242_31 rfl ?_
    refine x_getI d242_32 gY_242.2.2.2 gF_12_152 rfl (sh_137 hW) ?_
    refine x_iload_n d242_35 rfl ?_
    refine x_iconst d242_36 rfl ?_
    have e6 := k.1
    replace k := k.2
    refine x_iadd d242_37 e6 ?_
    have e7 := k.1
    replace k := k.2
    have e8 := k.1
    replace k := k.2
    refine x_irem d242_38 e7 e8 ?_
    refine x_istore_n (ls2 := [some (.inr 137), some (.inl x1), some (.inl ((((25173 * I 137 5) + 13849) % 65536) % (x1 + 1))), u3]) d242_39 rfl rfl ?_
    refine x_aload_n d242_40 rfl ?_
    refine x_getR (r := 142) d242_41 gY_242.2.2.2 gF_12_22 rfl (sh_137 hW) (rf_137_10 hW) (by decide) ?_
    refine x_iload_n d242_44 rfl ?_
    have e9 := k.1
    replace k := k.2
    refine x_iald d242_45 (sh_142 hW) e9.1 e9.2 ?_
    refine x_istore_n (ls2 := [some (.inr 137), some (.inl x1), some (.inl ((((25173 * I 137 5) + 13849) % 65536) % (x1 + 1))), some (.inl (I 142 (x1).toNat))]) d242_46 rfl rfl ?_
    refine x_aload_n d242_47 rfl ?_
    refine x_getR (r := 142) d242_48 gY_242.2.2.2 gF_12_22 rfl (sh_137 hW) (rf_137_10 hW) (by decide) ?_
    refine x_iload_n d242_51 rfl ?_
    refine x_aload_n d242_52 rfl ?_
    refine x_getR (r := 142) d242_53 gY_242.2.2.2 gF_12_22 rfl (sh_137 hW) (rf_137_10 hW) (by decide) ?_
    refine x_iload_n d242_56 rfl ?_
    have e10 := k.1
    replace k := k.2
    refine x_iald d242_57 (sh_142 hW) e10.1 e10.2 ?_
    refine x_iast d242_58 (sh_142 hW) e9.1 e9.2 ?_
    refine x_aload_n d242_59 rfl ?_
    refine x_getR (r := 142) d242_60 gY_242.2.2.2 gF_12_22 rfl (sh_137 hW) (rf_137_10 hW) (by decide) ?_
    refine x_iload_n d242_63 rfl ?_
    refine x_iload_n d242_64 rfl ?_
    refine x_iast d242_65 (sh_142 hW) e10.1 e10.2 ?_
    have e11 := k.1
    replace k := k.2
    refine x_iinc (ls2 := [some (.inr 137), some (.inl (x1 + (-1))), some (.inl ((((25173 * I 137 5) + 13849) % 65536) % (x1 + 1))), some (.inl (I 142 (x1).toNat))]) d242_66 rfl e11 rfl ?_
    refine x_goto (pc2 := 7) d242_69 rfl ?_
    exact k
set_option maxHeartbeats 4000000 in
theorem b_M_keep_0 {d n : Nat} {sh : ZS} {R : ZR} {I : ZI} {Q : Int → ZI → Prop} (hW : Wf sh R) 
    (k : XV d 189 [.inr 138, .inr 180] n sh R (zup (zup (zup (zup (zup I 137 67 1) 137 68 (I 137 0)) 137 69 (I 137 1)) 137 70 (I 137 2)) 137 71 (I 137 5)) (fun I2 => XV d 189 [.inr 139, .inr 181] n sh R I2 (fun I4 => XV d 189 [.inr 140, .inr 182] n sh R I4 (fun I6 => XV d 189 [.inr 141, .inr 183] n sh R I6 (fun I8 => XV d 189 [.inr 142, .inr 184] n sh R I8 (fun I10 => Q (I10 137 1) I10)))))) : XI (d + 1) 243 [.inr 137] n sh R I Q := by
  refine XI.of (ls := [some (.inr 137)]) (zloc_eq gY_243.2.2.1) ?_
  unfold XIs
  refine x_aload_n d243_0 rfl ?_
  refine x_iconst d243_1 rfl ?_
  refine x_putZ d243_2 gY_243.2.2.2 gF_12_474 rfl rfl (sh_137 hW) (by decide) ?_
  refine x_aload_n d243_5 rfl ?_
  refine x_aload_n d243_6 rfl ?_
  refine x_getI d243_7 gY_243.2.2.2 gF_12_159 rfl (sh_137 hW) ?_
  refine x_putI d243_10 gY_243.2.2.2 gF_12_478 rfl rfl (sh_137 hW) ?_
  refine x_aload_n d243_13 rfl ?_
  refine x_aload_n d243_14 rfl ?_
  refine x_getI d243_15 gY_243.2.2.2 gF_12_162 rfl (sh_137 hW) ?_
  refine x_putI d243_18 gY_243.2.2.2 gF_12_481 rfl rfl (sh_137 hW) ?_
  refine x_aload_n d243_21 rfl ?_
  refine x_aload_n d243_22 rfl ?_
  refine x_getI d243_23 gY_243.2.2.2 gF_12_173 rfl (sh_137 hW) ?_
  refine x_putI d243_26 gY_243.2.2.2 gF_12_484 rfl rfl (sh_137 hW) ?_
  refine x_aload_n d243_29 rfl ?_
  refine x_aload_n d243_30 rfl ?_
  refine x_getI d243_31 gY_243.2.2.2 gF_12_152 rfl (sh_137 hW) ?_
  refine x_putI d243_34 gY_243.2.2.2 gF_12_487 rfl rfl (sh_137 hW) ?_
  refine x_aload_n d243_37 rfl ?_
  refine x_getR (r := 138) d243_38 gY_243.2.2.2 gF_12_7 rfl (sh_137 hW) (rf_137_6 hW) (by decide) ?_
  refine x_aload_n d243_41 rfl ?_
  refine x_getR (r := 180) d243_42 gY_243.2.2.2 gF_12_137 rfl (sh_137 hW) (rf_137_72 hW) (by decide) ?_
  refine y_insV (as := [.inr 138, .inr 180]) (t := []) gY_189 d243_45 gY_243.2.2.2 gM_12_342 rfl rfl k (fun I2 k => ?_)
  refine x_aload_n d243_48 rfl ?_
  refine x_getR (r := 139) d243_49 gY_243.2.2.2 gF_12_13 rfl (sh_137 hW) (rf_137_7 hW) (by decide) ?_
  refine x_aload_n d243_52 rfl ?_
  refine x_getR (r := 181) d243_53 gY_243.2.2.2 gF_12_140 rfl (sh_137 hW) (rf_137_73 hW) (by decide) ?_
  refine y_insV (as := [.inr 139, .inr 181]) (t := []) gY_189 d243_56 gY_243.2.2.2 gM_12_342 rfl rfl k (fun I4 k => ?_)
  refine x_aload_n d243_59 rfl ?_
  refine x_getR (r := 140) d243_60 gY_243.2.2.2 gF_12_16 rfl (sh_137 hW) (rf_137_8 hW) (by decide) ?_
  refine x_aload_n d243_63 rfl ?_
  refine x_getR (r := 182) d243_64 gY_243.2.2.2 gF_12_143 rfl (sh_137 hW) (rf_137_74 hW) (by decide) ?_
  refine y_insV (as := [.inr 140, .inr 182]) (t := []) gY_189 d243_67 gY_243.2.2.2 gM_12_342 rfl rfl k (fun I6 k => ?_)
  refine x_aload_n d243_70 rfl ?_
  refine x_getR (r := 141) d243_71 gY_243.2.2.2 gF_12_19 rfl (sh_137 hW) (rf_137_9 hW) (by decide) ?_
  refine x_aload_n d243_74 rfl ?_
  refine x_getR (r := 183) d243_75 gY_243.2.2.2 gF_12_146 rfl (sh_137 hW) (rf_137_75 hW) (by decide) ?_
  refine y_insV (as := [.inr 141, .inr 183]) (t := []) gY_189 d243_78 gY_243.2.2.2 gM_12_342 rfl rfl k (fun I8 k => ?_)
  refine x_aload_n d243_81 rfl ?_
  refine x_getR (r := 142) d243_82 gY_243.2.2.2 gF_12_22 rfl (sh_137 hW) (rf_137_10 hW) (by decide) ?_
  refine x_aload_n d243_85 rfl ?_
  refine x_getR (r := 184) d243_86 gY_243.2.2.2 gF_12_149 rfl (sh_137 hW) (rf_137_76 hW) (by decide) ?_
  refine y_insV (as := [.inr 142, .inr 184]) (t := []) gY_189 d243_89 gY_243.2.2.2 gM_12_342 rfl rfl k (fun I10 k => ?_)
  refine x_aload_n d243_92 rfl ?_
  refine x_getI d243_93 gY_243.2.2.2 gF_12_162 rfl (sh_137 hW) ?_
  exact x_iret d243_96 gR_243 ⟨_, _, rfl, rfl, k⟩
set_option maxHeartbeats 4000000 in
theorem b_M_undo_0 {d n : Nat} {sh : ZS} {R : ZR} {I : ZI} {Q : Int → ZI → Prop} (hW : Wf sh R) 
    (k : (if ¬ I 137 67 = 0 then XV d 189 [.inr 180, .inr 138] n sh R (zup (zup (zup (zup I 137 0 (I 137 68)) 137 1 (I 137 69)) 137 2 (I 137 70)) 137 5 (I 137 71)) (fun I2 => XV d 189 [.inr 181, .inr 139] n sh R I2 (fun I4 => XV d 189 [.inr 182, .inr 140] n sh R I4 (fun I6 => XV d 189 [.inr 183, .inr 141] n sh R I6 (fun I8 => XV d 189 [.inr 184, .inr 142] n sh R I8 (fun I10 => Q 1 I10))))) else Q 0 I)) : XI (d + 1) 244 [.inr 137] n sh R I Q := by
  refine XI.of (ls := [some (.inr 137)]) (zloc_eq gY_244.2.2.1) ?_
  unfold XIs
  refine x_aload_n d244_0 rfl ?_
  refine x_getI d244_1 gY_244.2.2.2 gF_12_474 rfl (sh_137 hW) ?_
  refine x_if1 (pc2 := 9) d244_4 rfl (fun c => ?_) (fun c => ?_)
  · replace c : ¬ I 137 67 = 0 := c
    rw [if_pos c] at k
    refine x_aload_n d244_9 rfl ?_
    refine x_aload_n d244_10 rfl ?_
    refine x_getI d244_11 gY_244.2.2.2 gF_12_478 rfl (sh_137 hW) ?_
    refine x_putI d244_14 gY_244.2.2.2 gF_12_159 rfl rfl (sh_137 hW) ?_
    refine x_aload_n d244_17 rfl ?_
    refine x_aload_n d244_18 rfl ?_
    refine x_getI d244_19 gY_244.2.2.2 gF_12_481 rfl (sh_137 hW) ?_
    refine x_putI d244_22 gY_244.2.2.2 gF_12_162 rfl rfl (sh_137 hW) ?_
    refine x_aload_n d244_25 rfl ?_
    refine x_aload_n d244_26 rfl ?_
    refine x_getI d244_27 gY_244.2.2.2 gF_12_484 rfl (sh_137 hW) ?_
    refine x_putI d244_30 gY_244.2.2.2 gF_12_173 rfl rfl (sh_137 hW) ?_
    refine x_aload_n d244_33 rfl ?_
    refine x_aload_n d244_34 rfl ?_
    refine x_getI d244_35 gY_244.2.2.2 gF_12_487 rfl (sh_137 hW) ?_
    refine x_putI d244_38 gY_244.2.2.2 gF_12_152 rfl rfl (sh_137 hW) ?_
    refine x_aload_n d244_41 rfl ?_
    refine x_getR (r := 180) d244_42 gY_244.2.2.2 gF_12_137 rfl (sh_137 hW) (rf_137_72 hW) (by decide) ?_
    refine x_aload_n d244_45 rfl ?_
    refine x_getR (r := 138) d244_46 gY_244.2.2.2 gF_12_7 rfl (sh_137 hW) (rf_137_6 hW) (by decide) ?_
    refine y_insV (as := [.inr 180, .inr 138]) (t := []) gY_189 d244_49 gY_244.2.2.2 gM_12_342 rfl rfl k (fun I2 k => ?_)
    refine x_aload_n d244_52 rfl ?_
    refine x_getR (r := 181) d244_53 gY_244.2.2.2 gF_12_140 rfl (sh_137 hW) (rf_137_73 hW) (by decide) ?_
    refine x_aload_n d244_56 rfl ?_
    refine x_getR (r := 139) d244_57 gY_244.2.2.2 gF_12_13 rfl (sh_137 hW) (rf_137_7 hW) (by decide) ?_
    refine y_insV (as := [.inr 181, .inr 139]) (t := []) gY_189 d244_60 gY_244.2.2.2 gM_12_342 rfl rfl k (fun I4 k => ?_)
    refine x_aload_n d244_63 rfl ?_
    refine x_getR (r := 182) d244_64 gY_244.2.2.2 gF_12_143 rfl (sh_137 hW) (rf_137_74 hW) (by decide) ?_
    refine x_aload_n d244_67 rfl ?_
    refine x_getR (r := 140) d244_68 gY_244.2.2.2 gF_12_16 rfl (sh_137 hW) (rf_137_8 hW) (by decide) ?_
    refine y_insV (as := [.inr 182, .inr 140]) (t := []) gY_189 d244_71 gY_244.2.2.2 gM_12_342 rfl rfl k (fun I6 k => ?_)
    refine x_aload_n d244_74 rfl ?_
    refine x_getR (r := 183) d244_75 gY_244.2.2.2 gF_12_146 rfl (sh_137 hW) (rf_137_75 hW) (by decide) ?_
    refine x_aload_n d244_78 rfl ?_
    refine x_getR (r := 141) d244_79 gY_244.2.2.2 gF_12_19 rfl (sh_137 hW) (rf_137_9 hW) (by decide) ?_
    refine y_insV (as := [.inr 183, .inr 141]) (t := []) gY_189 d244_82 gY_244.2.2.2 gM_12_342 rfl rfl k (fun I8 k => ?_)
    refine x_aload_n d244_85 rfl ?_
    refine x_getR (r := 184) d244_86 gY_244.2.2.2 gF_12_149 rfl (sh_137 hW) (rf_137_76 hW) (by decide) ?_
    refine x_aload_n d244_89 rfl ?_
    refine x_getR (r := 142) d244_90 gY_244.2.2.2 gF_12_22 rfl (sh_137 hW) (rf_137_10 hW) (by decide) ?_
    refine y_insV (as := [.inr 184, .inr 142]) (t := []) gY_189 d244_93 gY_244.2.2.2 gM_12_342 rfl rfl k (fun I10 k => ?_)
    refine x_iconst d244_96 rfl ?_
    exact x_zret d244_97 gR_244 (by decide) ⟨_, _, rfl, rfl, k⟩
  · replace c : ¬ (¬ I 137 67 = 0) := c
    rw [if_neg c] at k
    refine x_iconst d244_7 rfl ?_
    exact x_zret d244_8 gR_244 (by decide) ⟨_, _, rfl, rfl, k⟩
set_option maxHeartbeats 4000000 in
theorem b_M_tapeNumber_0 {d n : Nat} {sh : ZS} {R : ZR} {I : ZI} {Q : Int → ZI → Prop} (hW : Wf sh R) {x1 : Int}
    (k : (zr (4 * x1)) ∧ XIs d 245 6 [some (.inr 137), some (.inl x1), some (.inl 0), some (.inl (4 * x1))] [] n sh R I Q) : XI d 245 [.inr 137, .inl x1] n sh R I Q := by
  refine XI.of (ls := [some (.inr 137), some (.inl x1), none, none]) (zloc_eq gY_245.2.2.1) ?_
  unfold XIs
  refine x_iconst d245_0 rfl ?_
  refine x_istore_n (ls2 := [some (.inr 137), some (.inl x1), some (.inl 0), none]) d245_1 rfl rfl ?_
  refine x_iconst d245_2 rfl ?_
  refine x_iload_n d245_3 rfl ?_
  have e1 := k.1
  replace k := k.2
  refine x_imul d245_4 e1 ?_
  refine x_istore_n (ls2 := [some (.inr 137), some (.inl x1), some (.inl 0), some (.inl (4 * x1))]) d245_5 rfl rfl ?_
  exact k
set_option maxHeartbeats 4000000 in
theorem b_M_tapeNumber_6 {d n : Nat} {sh : ZS} {R : ZR} {I : ZI} {Q : Int → ZI → Prop} (hW : Wf sh R) {x1 : Int} {x2 : Int} {x3 : Int}
    (k : (zr (4 * x1)) ∧ (zr ((4 * x1) + 4)) ∧ (if ((4 * x1) + 4) ≤ x3 then Q x2 I else (0 ≤ x3 ∧ x3 < 220) ∧ (zr (x3 + 1)) ∧ XIs d 245 6 [some (.inr 137), some (.inl x1), some (.inl (zor (zshl x2 8) (zand (I 144 (x3).toNat) 255))), some (.inl (x3 + 1))] [] n sh R I Q)) : XIs d 245 6 [some (.inr 137), some (.inl x1), some (.inl x2), some (.inl x3)] [] n sh R I Q := by
  unfold XIs
  refine x_iload_n d245_6 rfl ?_
  refine x_iconst d245_7 rfl ?_
  refine x_iload_n d245_8 rfl ?_
  have e1 := k.1
  replace k := k.2
  refine x_imul d245_9 e1 ?_
  refine x_iconst d245_10 rfl ?_
  have e2 := k.1
  replace k := k.2
  refine x_iadd d245_11 e2 ?_
  refine x_if2 (pc2 := 37) d245_12 rfl (fun c => ?_) (fun c => ?_)
  · replace c : ((4 * x1) + 4) ≤ x3 := c
    rw [if_pos c] at k
    refine x_iload_n d245_37 rfl ?_
    exact x_iret d245_38 gR_245 ⟨_, _, rfl, rfl, k⟩
  · replace c : ¬ (((4 * x1) + 4) ≤ x3) := c
    rw [if_neg c] at k
    refine x_iload_n d245_15 rfl ?_
    refine x_bipush d245_16 rfl ?_
    refine x_ishl d245_18 ?_
    refine x_aload_n d245_19 rfl ?_
    refine x_getR (r := 144) d245_20 gY_245.2.2.2 gF_12_28 rfl (sh_137 hW) (rf_137_12 hW) (by decide) ?_
    refine x_iload_n d245_23 rfl ?_
    have e3 := k.1
    replace k := k.2
    refine x_bald d245_24 (sh_144 hW) e3.1 e3.2 ?_
    refine x_sipush d245_25 rfl ?_
    refine x_iand d245_28 ?_
    refine x_ior d245_29 ?_
    refine x_istore_n (ls2 := [some (.inr 137), some (.inl x1), some (.inl (zor (zshl x2 8) (zand (I 144 (x3).toNat) 255))), some (.inl x3)]) d245_30 rfl rfl ?_
    have e4 := k.1
    replace k := k.2
    refine x_iinc (ls2 := [some (.inr 137), some (.inl x1), some (.inl (zor (zshl x2 8) (zand (I 144 (x3).toNat) 255))), some (.inl (x3 + 1))]) d245_31 rfl e4 rfl ?_
    refine x_goto (pc2 := 6) d245_34 rfl ?_
    exact k
set_option maxHeartbeats 4000000 in
theorem b_M_check_0 {d n : Nat} {sh : ZS} {R : ZR} {I : ZI} {Q : Int → ZI → Prop} (hW : Wf sh R) {x1 : Int}
    (k : (if x1 < 0 then Q (-2) I else (if 32 < x1 then Q (-2) I else (0 ≤ I 137 13 ∧ I 137 13 < 2147483648) ∧ (if x1 ≤ (I 137 13 / 4) then XIs (d + 1) 246 30 [some (.inr 137), some (.inl x1), some (.inl 0)] [] n sh R (zup I 137 13 0) Q else Q (-2) I)))) : XI (d + 1) 246 [.inr 137, .inl x1] n sh R I Q := by
  refine XI.of (ls := [some (.inr 137), some (.inl x1), none]) (zloc_eq gY_246.2.2.1) ?_
  unfold XIs
  refine x_iload_n d246_0 rfl ?_
  refine x_iconst d246_1 rfl ?_
  refine x_bipush d246_2 rfl ?_
  refine y_ins (as := [.inl x1, .inl 0, .inl 32]) (t := []) (ls2 := [some (.inl x1), some (.inl 0), some (.inl 32)]) gY_140 d246_4 gY_246.2.2.2 gM_12_169 rfl rfl rfl ?_
  refine x_iload_n d140_0 rfl ?_
  refine x_iload_n d140_1 rfl ?_
  refine x_if2 (pc2 := 14) d140_2 rfl (fun c => ?_) (fun c => ?_)
  · replace c : x1 < 0 := c
    rw [if_pos c] at k
    refine x_iconst d140_14 rfl ?_
    refine x_zret d140_15 gR_140 (by decide) ?_
    show Ex (d + 1) 246 7 [some (.inr 137), some (.inl x1), none] [.inl 0] (0, 0, n, sh, R, I) _
    refine x_if1 (pc2 := 20) d246_7 rfl (fun _ => ?_) (fun c => absurd (show (0 : Int) = 0 by decide) c)
    refine x_bipush d246_20 rfl ?_
    exact x_iret d246_22 gR_246 ⟨_, _, rfl, rfl, k⟩
  · replace c : ¬ (x1 < 0) := c
    rw [if_neg c] at k
    refine x_iload_n d140_5 rfl ?_
    refine x_iload_n d140_6 rfl ?_
    refine x_if2 (pc2 := 14) d140_7 rfl (fun c => ?_) (fun c => ?_)
    · replace c : 32 < x1 := c
      rw [if_pos c] at k
      refine x_iconst d140_14 rfl ?_
      refine x_zret d140_15 gR_140 (by decide) ?_
      show Ex (d + 1) 246 7 [some (.inr 137), some (.inl x1), none] [.inl 0] (0, 0, n, sh, R, I) _
      refine x_if1 (pc2 := 20) d246_7 rfl (fun _ => ?_) (fun c => absurd (show (0 : Int) = 0 by decide) c)
      refine x_bipush d246_20 rfl ?_
      exact x_iret d246_22 gR_246 ⟨_, _, rfl, rfl, k⟩
    · replace c : ¬ (32 < x1) := c
      rw [if_neg c] at k
      refine x_iconst d140_10 rfl ?_
      refine x_goto (pc2 := 15) d140_11 rfl ?_
      refine x_zret d140_15 gR_140 (by decide) ?_
      show Ex (d + 1) 246 7 [some (.inr 137), some (.inl x1), none] [.inl 1] (0, 0, n, sh, R, I) _
      refine x_if1 (pc2 := 20) d246_7 rfl (fun c => absurd (show (1 : Int) = 0 from c) (by decide)) (fun _ => ?_)
      refine x_iload_n d246_10 rfl ?_
      refine x_aload_n d246_11 rfl ?_
      refine x_getI d246_12 gY_246.2.2.2 gF_12_183 rfl (sh_137 hW) ?_
      refine x_iconst d246_15 rfl ?_
      have e1 := k.1
      replace k := k.2
      refine x_idiv d246_16 e1 (by decide) ?_
      refine x_if2 (pc2 := 23) d246_17 rfl (fun c => ?_) (fun c => ?_)
      · replace c : x1 ≤ (I 137 13 / 4) := c
        rw [if_pos c] at k
        refine x_aload_n d246_23 rfl ?_
        refine x_iconst d246_24 rfl ?_
        refine x_putI d246_25 gY_246.2.2.2 gF_12_183 rfl rfl (sh_137 hW) ?_
        refine x_iconst d246_28 rfl ?_
        refine x_istore_n (ls2 := [some (.inr 137), some (.inl x1), some (.inl 0)]) d246_29 rfl rfl ?_
        exact k
      · replace c : ¬ (x1 ≤ (I 137 13 / 4)) := c
        rw [if_neg c] at k
        refine x_bipush d246_20 rfl ?_
        exact x_iret d246_22 gR_246 ⟨_, _, rfl, rfl, k⟩
set_option maxHeartbeats 4000000 in
theorem b_M_check_30 {d n : Nat} {sh : ZS} {R : ZR} {I : ZI} {Q : Int → ZI → Prop} (hW : Wf sh R) {x1 : Int} {x2 : Int}
    (k : (if x1 ≤ x2 then Q (-1) I else (if x2 = I 137 1 then Q x2 I else XI d 245 [.inr 137, .inl x2] n sh R I (fun v1 I2 => (0 ≤ x2 ∧ x2 < 32) ∧ (if v1 = I2 142 (x2).toNat then (zr (x2 + 1)) ∧ XIs (d + 1) 246 30 [some (.inr 137), some (.inl x1), some (.inl (x2 + 1))] [] n sh R I2 Q else Q x2 I2))))) : XIs (d + 1) 246 30 [some (.inr 137), some (.inl x1), some (.inl x2)] [] n sh R I Q := by
  unfold XIs
  refine x_iload_n d246_30 rfl ?_
  refine x_iload_n d246_31 rfl ?_
  refine x_if2 (pc2 := 65) d246_32 rfl (fun c => ?_) (fun c => ?_)
  · replace c : x1 ≤ x2 := c
    rw [if_pos c] at k
    refine x_iconst d246_65 rfl ?_
    exact x_iret d246_66 gR_246 ⟨_, _, rfl, rfl, k⟩
  · replace c : ¬ (x1 ≤ x2) := c
    rw [if_neg c] at k
    refine x_iload_n d246_35 rfl ?_
    refine x_aload_n d246_36 rfl ?_
    refine x_getI d246_37 gY_246.2.2.2 gF_12_162 rfl (sh_137 hW) ?_
    refine x_if2 (pc2 := 57) d246_40 rfl (fun c => ?_) (fun c => ?_)
    · replace c : x2 = I 137 1 := c
      rw [if_pos c] at k
      refine x_iload_n d246_57 rfl ?_
      exact x_iret d246_58 gR_246 ⟨_, _, rfl, rfl, k⟩
    · replace c : ¬ (x2 = I 137 1) := c
      rw [if_neg c] at k
      refine x_aload_n d246_43 rfl ?_
      refine x_iload_n d246_44 rfl ?_
      refine y_invI (as := [.inl x2]) (t := []) (o := 137) gY_245 d246_45 gY_246.2.2.2 gM_12_490 rfl (sh_137 hW) rfl k (fun v1 I2 k => ?_)
      refine x_aload_n d246_48 rfl ?_
      refine x_getR (r := 142) d246_49 gY_246.2.2.2 gF_12_22 rfl (sh_137 hW) (rf_137_10 hW) (by decide) ?_
      refine x_iload_n d246_52 rfl ?_
      have e3 := k.1
      replace k := k.2
      refine x_iald d246_53 (sh_142 hW) e3.1 e3.2 ?_
      refine x_if2 (pc2 := 59) d246_54 rfl (fun c => ?_) (fun c => ?_)
      · replace c : v1 = I2 142 (x2).toNat := c
        rw [if_pos c] at k
        have e4 := k.1
        replace k := k.2
        refine x_iinc (ls2 := [some (.inr 137), some (.inl x1), some (.inl (x2 + 1))]) d246_59 rfl e4 rfl ?_
        refine x_goto (pc2 := 30) d246_62 rfl ?_
        exact k
      · replace c : ¬ (v1 = I2 142 (x2).toNat) := c
        rw [if_neg c] at k
        refine x_iload_n d246_57 rfl ?_
        exact x_iret d246_58 gR_246 ⟨_, _, rfl, rfl, k⟩
set_option maxHeartbeats 4000000 in
theorem b_M_streetBits_0 {d n : Nat} {sh : ZS} {R : ZR} {I : ZI} {Q : Int → ZI → Prop} (hW : Wf sh R) 
    (k : XIs d 247 4 [some (.inr 137), some (.inl 0), some (.inl 0)] [] n sh R I Q) : XI d 247 [.inr 137] n sh R I Q := by
  refine XI.of (ls := [some (.inr 137), none, none]) (zloc_eq gY_247.2.2.1) ?_
  unfold XIs
  refine x_iconst d247_0 rfl ?_
  refine x_istore_n (ls2 := [some (.inr 137), some (.inl 0), none]) d247_1 rfl rfl ?_
  refine x_iconst d247_2 rfl ?_
  refine x_istore_n (ls2 := [some (.inr 137), some (.inl 0), some (.inl 0)]) d247_3 rfl rfl ?_
  exact k
set_option maxHeartbeats 4000000 in
theorem b_M_streetBits_4 {d n : Nat} {sh : ZS} {R : ZR} {I : ZI} {Q : Int → ZI → Prop} (hW : Wf sh R) {x1 : Int} {x2 : Int}
    (k : (if I 137 1 ≤ x2 then Q x1 I else (0 ≤ x2 ∧ x2 < 32) ∧ (0 ≤ I 142 (x2).toNat ∧ I 142 (x2).toNat < 32) ∧ (zr (x2 + 1)) ∧ XIs d 247 4 [some (.inr 137), some (.inl (zor x1 (zshl 1 (I 138 (I 142 (x2).toNat).toNat)))), some (.inl (x2 + 1))] [] n sh R I Q)) : XIs d 247 4 [some (.inr 137), some (.inl x1), some (.inl x2)] [] n sh R I Q := by
  unfold XIs
  refine x_iload_n d247_4 rfl ?_
  refine x_aload_n d247_5 rfl ?_
  refine x_getI d247_6 gY_247.2.2.2 gF_12_162 rfl (sh_137 hW) ?_
  refine x_if2 (pc2 := 34) d247_9 rfl (fun c => ?_) (fun c => ?_)
  · replace c : I 137 1 ≤ x2 := c
    rw [if_pos c] at k
    refine x_iload_n d247_34 rfl ?_
    exact x_iret d247_35 gR_247 ⟨_, _, rfl, rfl, k⟩
  · replace c : ¬ (I 137 1 ≤ x2) := c
    rw [if_neg c] at k
    refine x_iload_n d247_12 rfl ?_
    refine x_iconst d247_13 rfl ?_
    refine x_aload_n d247_14 rfl ?_
    refine x_getR (r := 138) d247_15 gY_247.2.2.2 gF_12_7 rfl (sh_137 hW) (rf_137_6 hW) (by decide) ?_
    refine x_aload_n d247_18 rfl ?_
    refine x_getR (r := 142) d247_19 gY_247.2.2.2 gF_12_22 rfl (sh_137 hW) (rf_137_10 hW) (by decide) ?_
    refine x_iload_n d247_22 rfl ?_
    have e1 := k.1
    replace k := k.2
    refine x_iald d247_23 (sh_142 hW) e1.1 e1.2 ?_
    have e2 := k.1
    replace k := k.2
    refine x_iald d247_24 (sh_138 hW) e2.1 e2.2 ?_
    refine x_ishl d247_25 ?_
    refine x_ior d247_26 ?_
    refine x_istore_n (ls2 := [some (.inr 137), some (.inl (zor x1 (zshl 1 (I 138 (I 142 (x2).toNat).toNat)))), some (.inl x2)]) d247_27 rfl rfl ?_
    have e3 := k.1
    replace k := k.2
    refine x_iinc (ls2 := [some (.inr 137), some (.inl (zor x1 (zshl 1 (I 138 (I 142 (x2).toNat).toNat)))), some (.inl (x2 + 1))]) d247_28 rfl e3 rfl ?_
    refine x_goto (pc2 := 4) d247_31 rfl ?_
    exact k
set_option maxHeartbeats 4000000 in
theorem b_M_weightAll_0 {d n : Nat} {sh : ZS} {R : ZR} {I : ZI} {Q : Int → ZI → Prop} (hW : Wf sh R) 
    (k : XIs d 248 4 [some (.inr 137), some (.inl 0), some (.inl 0)] [] n sh R I Q) : XI d 248 [.inr 137] n sh R I Q := by
  refine XI.of (ls := [some (.inr 137), none, none]) (zloc_eq gY_248.2.2.1) ?_
  unfold XIs
  refine x_iconst d248_0 rfl ?_
  refine x_istore_n (ls2 := [some (.inr 137), some (.inl 0), none]) d248_1 rfl rfl ?_
  refine x_iconst d248_2 rfl ?_
  refine x_istore_n (ls2 := [some (.inr 137), some (.inl 0), some (.inl 0)]) d248_3 rfl rfl ?_
  exact k
set_option maxHeartbeats 4000000 in
theorem b_M_weightAll_4 {d n : Nat} {sh : ZS} {R : ZR} {I : ZI} {Q : Int → ZI → Prop} (hW : Wf sh R) {x1 : Int} {x2 : Int}
    (k : (if I 137 1 ≤ x2 then Q x1 I else (0 ≤ x2 ∧ x2 < 32) ∧ (0 ≤ I 142 (x2).toNat ∧ I 142 (x2).toNat < 32) ∧ (zr (x1 + I 139 (I 142 (x2).toNat).toNat)) ∧ (zr (x2 + 1)) ∧ XIs d 248 4 [some (.inr 137), some (.inl (x1 + I 139 (I 142 (x2).toNat).toNat)), some (.inl (x2 + 1))] [] n sh R I Q)) : XIs d 248 4 [some (.inr 137), some (.inl x1), some (.inl x2)] [] n sh R I Q := by
  unfold XIs
  refine x_iload_n d248_4 rfl ?_
  refine x_aload_n d248_5 rfl ?_
  refine x_getI d248_6 gY_248.2.2.2 gF_12_162 rfl (sh_137 hW) ?_
  refine x_if2 (pc2 := 32) d248_9 rfl (fun c => ?_) (fun c => ?_)
  · replace c : I 137 1 ≤ x2 := c
    rw [if_pos c] at k
    refine x_iload_n d248_32 rfl ?_
    exact x_iret d248_33 gR_248 ⟨_, _, rfl, rfl, k⟩
  · replace c : ¬ (I 137 1 ≤ x2) := c
    rw [if_neg c] at k
    refine x_iload_n d248_12 rfl ?_
    refine x_aload_n d248_13 rfl ?_
    refine x_getR (r := 139) d248_14 gY_248.2.2.2 gF_12_13 rfl (sh_137 hW) (rf_137_7 hW) (by decide) ?_
    refine x_aload_n d248_17 rfl ?_
    refine x_getR (r := 142) d248_18 gY_248.2.2.2 gF_12_22 rfl (sh_137 hW) (rf_137_10 hW) (by decide) ?_
    refine x_iload_n d248_21 rfl ?_
    have e1 := k.1
    replace k := k.2
    refine x_iald d248_22 (sh_142 hW) e1.1 e1.2 ?_
    have e2 := k.1
    replace k := k.2
    refine x_iald d248_23 (sh_139 hW) e2.1 e2.2 ?_
    have e3 := k.1
    replace k := k.2
    refine x_iadd d248_24 e3 ?_
    refine x_istore_n (ls2 := [some (.inr 137), some (.inl (x1 + I 139 (I 142 (x2).toNat).toNat)), some (.inl x2)]) d248_25 rfl rfl ?_
    have e4 := k.1
    replace k := k.2
    refine x_iinc (ls2 := [some (.inr 137), some (.inl (x1 + I 139 (I 142 (x2).toNat).toNat)), some (.inl (x2 + 1))]) d248_26 rfl e4 rfl ?_
    refine x_goto (pc2 := 4) d248_29 rfl ?_
    exact k
set_option maxHeartbeats 4000000 in
theorem b_M_count_0 {d n : Nat} {sh : ZS} {R : ZR} {I : ZI} {Q : Int → ZI → Prop} (hW : Wf sh R) {x1 : Int}
    (k : (if x1 = 0 then Q (I 137 0) I else (if x1 = 1 then Q (I 137 1) I else (if x1 = 2 then Q (I 137 2) I else (if x1 = 3 then Q (I 137 22) I else (if x1 = 4 then Q (I 137 13) I else (if x1 = 5 then Q (I 137 5) I else (if x1 = 6 then Q (I 137 3) I else (if x1 = 7 then Q (I 137 4) I else (if x1 = 8 then XI d 247 [.inr 137] n sh R I (fun v1 I2 => Q v1 I2) else (if x1 = 9 then XI d 248 [.inr 137] n sh R I (fun v3 I4 => Q v3 I4) else (if x1 < 20 then Q (-1) I else (if 39 < x1 then Q (-1) I else (zr (x1 - 20)) ∧ (0 ≤ (x1 - 20) ∧ (x1 - 20) < 20) ∧ Q (I 143 (x1 - 20).toNat) I))))))))))))) : XI (d + 1) 249 [.inr 137, .inl x1] n sh R I Q := by
  refine XI.of (ls := [some (.inr 137), some (.inl x1)]) (zloc_eq gY_249.2.2.1) ?_
  unfold XIs
  refine x_iload_n d249_0 rfl ?_
  by_cases c : x1 = 0
  · rw [if_pos c] at k
    refine x_tsw (off := 55) (pc2 := 56) d249_1 (by rw [c]; decide) rfl ?_
    refine x_aload_n d249_56 rfl ?_
    refine x_getI d249_57 gY_249.2.2.2 gF_12_159 rfl (sh_137 hW) ?_
    exact x_iret d249_60 gR_249 ⟨_, _, rfl, rfl, k⟩
  rw [if_neg c] at k
  have c0 := c
  clear c
  by_cases c : x1 = 1
  · rw [if_pos c] at k
    refine x_tsw (off := 60) (pc2 := 61) d249_1 (by rw [c]; decide) rfl ?_
    refine x_aload_n d249_61 rfl ?_
    refine x_getI d249_62 gY_249.2.2.2 gF_12_162 rfl (sh_137 hW) ?_
    exact x_iret d249_65 gR_249 ⟨_, _, rfl, rfl, k⟩
  rw [if_neg c] at k
  have c1 := c
  clear c
  by_cases c : x1 = 2
  · rw [if_pos c] at k
    refine x_tsw (off := 65) (pc2 := 66) d249_1 (by rw [c]; decide) rfl ?_
    refine x_aload_n d249_66 rfl ?_
    refine x_getI d249_67 gY_249.2.2.2 gF_12_173 rfl (sh_137 hW) ?_
    exact x_iret d249_70 gR_249 ⟨_, _, rfl, rfl, k⟩
  rw [if_neg c] at k
  have c2 := c
  clear c
  by_cases c : x1 = 3
  · rw [if_pos c] at k
    refine x_tsw (off := 70) (pc2 := 71) d249_1 (by rw [c]; decide) rfl ?_
    refine x_aload_n d249_71 rfl ?_
    refine x_getI d249_72 gY_249.2.2.2 gF_12_280 rfl (sh_137 hW) ?_
    exact x_iret d249_75 gR_249 ⟨_, _, rfl, rfl, k⟩
  rw [if_neg c] at k
  have c3 := c
  clear c
  by_cases c : x1 = 4
  · rw [if_pos c] at k
    refine x_tsw (off := 75) (pc2 := 76) d249_1 (by rw [c]; decide) rfl ?_
    refine x_aload_n d249_76 rfl ?_
    refine x_getI d249_77 gY_249.2.2.2 gF_12_183 rfl (sh_137 hW) ?_
    exact x_iret d249_80 gR_249 ⟨_, _, rfl, rfl, k⟩
  rw [if_neg c] at k
  have c4 := c
  clear c
  by_cases c : x1 = 5
  · rw [if_pos c] at k
    refine x_tsw (off := 80) (pc2 := 81) d249_1 (by rw [c]; decide) rfl ?_
    refine x_aload_n d249_81 rfl ?_
    refine x_getI d249_82 gY_249.2.2.2 gF_12_152 rfl (sh_137 hW) ?_
    exact x_iret d249_85 gR_249 ⟨_, _, rfl, rfl, k⟩
  rw [if_neg c] at k
  have c5 := c
  clear c
  by_cases c : x1 = 6
  · rw [if_pos c] at k
    refine x_tsw (off := 85) (pc2 := 86) d249_1 (by rw [c]; decide) rfl ?_
    refine x_aload_n d249_86 rfl ?_
    refine x_getI d249_87 gY_249.2.2.2 gF_12_156 rfl (sh_137 hW) ?_
    exact x_iret d249_90 gR_249 ⟨_, _, rfl, rfl, k⟩
  rw [if_neg c] at k
  have c6 := c
  clear c
  by_cases c : x1 = 7
  · rw [if_pos c] at k
    refine x_tsw (off := 90) (pc2 := 91) d249_1 (by rw [c]; decide) rfl ?_
    refine x_aload_n d249_91 rfl ?_
    refine x_getI d249_92 gY_249.2.2.2 gF_12_180 rfl (sh_137 hW) ?_
    exact x_iret d249_95 gR_249 ⟨_, _, rfl, rfl, k⟩
  rw [if_neg c] at k
  have c7 := c
  clear c
  by_cases c : x1 = 8
  · rw [if_pos c] at k
    refine x_tsw (off := 95) (pc2 := 96) d249_1 (by rw [c]; decide) rfl ?_
    refine x_aload_n d249_96 rfl ?_
    refine y_invI (as := []) (t := []) (o := 137) gY_247 d249_97 gY_249.2.2.2 gM_12_493 rfl (sh_137 hW) rfl k (fun v1 I2 k => ?_)
    exact x_iret d249_100 gR_249 ⟨_, _, rfl, rfl, k⟩
  rw [if_neg c] at k
  have c8 := c
  clear c
  by_cases c : x1 = 9
  · rw [if_pos c] at k
    refine x_tsw (off := 100) (pc2 := 101) d249_1 (by rw [c]; decide) rfl ?_
    refine x_aload_n d249_101 rfl ?_
    refine y_invI (as := []) (t := []) (o := 137) gY_248 d249_102 gY_249.2.2.2 gM_12_496 rfl (sh_137 hW) rfl k (fun v3 I4 k => ?_)
    exact x_iret d249_105 gR_249 ⟨_, _, rfl, rfl, k⟩
  rw [if_neg c] at k
  have c9 := c
  clear c
  refine x_tsw (off := 105) (pc2 := 106) d249_1 (zts_dflt [0, 1, 2, 3, 4, 5, 6, 7, 8, 9] (by decide) (by intro v hv; simp at hv; omega)) rfl ?_
  refine x_iload_n d249_106 rfl ?_
  refine x_bipush d249_107 rfl ?_
  refine x_bipush d249_109 rfl ?_
  refine y_ins (as := [.inl x1, .inl 20, .inl 39]) (t := []) (ls2 := [some (.inl x1), some (.inl 20), some (.inl 39)]) gY_140 d249_111 gY_249.2.2.2 gM_12_169 rfl rfl rfl ?_
  refine x_iload_n d140_0 rfl ?_
  refine x_iload_n d140_1 rfl ?_
  refine x_if2 (pc2 := 14) d140_2 rfl (fun c => ?_) (fun c => ?_)
  · replace c : x1 < 20 := c
    rw [if_pos c] at k
    refine x_iconst d140_14 rfl ?_
    refine x_zret d140_15 gR_140 (by decide) ?_
    show Ex (d + 1) 249 114 [some (.inr 137), some (.inl x1)] [.inl 0] (0, 0, n, sh, R, I) _
    refine x_if1 (pc2 := 129) d249_114 rfl (fun _ => ?_) (fun c => absurd (show (0 : Int) = 0 by decide) c)
    refine x_iconst d249_129 rfl ?_
    exact x_iret d249_130 gR_249 ⟨_, _, rfl, rfl, k⟩
  · replace c : ¬ (x1 < 20) := c
    rw [if_neg c] at k
    refine x_iload_n d140_5 rfl ?_
    refine x_iload_n d140_6 rfl ?_
    refine x_if2 (pc2 := 14) d140_7 rfl (fun c => ?_) (fun c => ?_)
    · replace c : 39 < x1 := c
      rw [if_pos c] at k
      refine x_iconst d140_14 rfl ?_
      refine x_zret d140_15 gR_140 (by decide) ?_
      show Ex (d + 1) 249 114 [some (.inr 137), some (.inl x1)] [.inl 0] (0, 0, n, sh, R, I) _
      refine x_if1 (pc2 := 129) d249_114 rfl (fun _ => ?_) (fun c => absurd (show (0 : Int) = 0 by decide) c)
      refine x_iconst d249_129 rfl ?_
      exact x_iret d249_130 gR_249 ⟨_, _, rfl, rfl, k⟩
    · replace c : ¬ (39 < x1) := c
      rw [if_neg c] at k
      refine x_iconst d140_10 rfl ?_
      refine x_goto (pc2 := 15) d140_11 rfl ?_
      refine x_zret d140_15 gR_140 (by decide) ?_
      show Ex (d + 1) 249 114 [some (.inr 137), some (.inl x1)] [.inl 1] (0, 0, n, sh, R, I) _
      refine x_if1 (pc2 := 129) d249_114 rfl (fun c => absurd (show (1 : Int) = 0 from c) (by decide)) (fun _ => ?_)
      refine x_aload_n d249_117 rfl ?_
      refine x_getR (r := 143) d249_118 gY_249.2.2.2 gF_12_25 rfl (sh_137 hW) (rf_137_11 hW) (by decide) ?_
      refine x_iload_n d249_121 rfl ?_
      refine x_bipush d249_122 rfl ?_
      have e5 := k.1
      replace k := k.2
      refine x_isub d249_124 e5 ?_
      have e6 := k.1
      replace k := k.2
      refine x_iald d249_125 (sh_143 hW) e6.1 e6.2 ?_
      refine x_goto (pc2 := 130) d249_126 rfl ?_
      exact x_iret d249_130 gR_249 ⟨_, _, rfl, rfl, k⟩
