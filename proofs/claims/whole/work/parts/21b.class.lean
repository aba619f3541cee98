set_option maxHeartbeats 4000000 in
theorem b_B_answer_0 {d n : Nat} {sh : ZS} {R : ZR} {I : ZI} {Q : Int → ZI → Prop} (hW : Wf sh R) {x1 : Int}
    (k : (if ¬ x1 = (-1) then (if I 121 9 ≤ 0 then Q (-2) I else (if x1 < 0 then Q (-2) I else (if 3 ≤ x1 then Q (-2) I else (0 ≤ x1 ∧ x1 < 3) ∧ Q (I 136 (x1).toNat) I))) else Q (I 121 9) I)) : XI d 1 [.inr 121, .inl x1] n sh R I Q := by
  refine XI.of (ls := [some (.inr 121), some (.inl x1)]) (zloc_eq gY_1.2.2.1) ?_
  unfold XIs
  refine x_iload_n d1_0 rfl ?_
  refine x_iconst d1_1 rfl ?_
  refine x_if2 (pc2 := 10) d1_2 rfl (fun c => ?_) (fun c => ?_)
  · replace c : ¬ x1 = (-1) := c
    rw [if_pos c] at k
    refine x_aload_n d1_10 rfl ?_
    refine x_getI d1_11 gY_1.2.2.2 gF_0_39 rfl (sh_121 hW) ?_
    refine x_if1 (pc2 := 39) d1_14 rfl (fun c => ?_) (fun c => ?_)
    · replace c : I 121 9 ≤ 0 := c
      rw [if_pos c] at k
      refine x_bipush d1_39 rfl ?_
      exact x_iret d1_41 gR_1 ⟨_, _, rfl, rfl, k⟩
    · replace c : ¬ (I 121 9 ≤ 0) := c
      rw [if_neg c] at k
      refine x_iload_n d1_17 rfl ?_
      refine x_if1 (pc2 := 39) d1_18 rfl (fun c => ?_) (fun c => ?_)
      · replace c : x1 < 0 := c
        rw [if_pos c] at k
        refine x_bipush d1_39 rfl ?_
        exact x_iret d1_41 gR_1 ⟨_, _, rfl, rfl, k⟩
      · replace c : ¬ (x1 < 0) := c
        rw [if_neg c] at k
        refine x_iload_n d1_21 rfl ?_
        refine x_aload_n d1_22 rfl ?_
        refine x_getR (r := 136) d1_23 gY_1.2.2.2 gF_0_29 rfl (sh_121 hW) (rf_121_6 hW) (by decide) ?_
        refine x_alen d1_26 (sh_136 hW) (by decide) ?_
        refine x_if2 (pc2 := 39) d1_27 rfl (fun c => ?_) (fun c => ?_)
        · replace c : 3 ≤ x1 := c
          rw [if_pos c] at k
          refine x_bipush d1_39 rfl ?_
          exact x_iret d1_41 gR_1 ⟨_, _, rfl, rfl, k⟩
        · replace c : ¬ (3 ≤ x1) := c
          rw [if_neg c] at k
          refine x_aload_n d1_30 rfl ?_
          refine x_getR (r := 136) d1_31 gY_1.2.2.2 gF_0_29 rfl (sh_121 hW) (rf_121_6 hW) (by decide) ?_
          refine x_iload_n d1_34 rfl ?_
          have e1 := k.1
          replace k := k.2
          refine x_iald d1_35 (sh_136 hW) e1.1 e1.2 ?_
          refine x_goto (pc2 := 41) d1_36 rfl ?_
          exact x_iret d1_41 gR_1 ⟨_, _, rfl, rfl, k⟩
  · replace c : ¬ (¬ x1 = (-1)) := c
    rw [if_neg c] at k
    refine x_aload_n d1_5 rfl ?_
    refine x_getI d1_6 gY_1.2.2.2 gF_0_39 rfl (sh_121 hW) ?_
    exact x_iret d1_9 gR_1 ⟨_, _, rfl, rfl, k⟩
set_option maxHeartbeats 4000000 in
theorem b_B_search_0 {d n : Nat} {sh : ZS} {R : ZR} {I : ZI} {Q : ZI → Prop} (hW : Wf sh R) {s1 : Nat} (hS1 : St sh R s1) (hL : Lw sh R (R 42 4)) {x2 : Int}
    (k : XI (d + 5) 11 [.inr (R 42 4), .inl 112] n sh R (zup (zclr I 135 98304) 121 9 0) (fun v1 I2 => (v1 = 0 ∨ v1 = 1) ∧ XI (d + 5) 11 [.inr (R 42 4), .inl 111] n sh R (zup I2 121 7 v1) (fun v4 I5 => (v4 = 0 ∨ v4 = 1) ∧ XV (d + 5) 61 [.inr 122, .inr s1] n sh R (zup I5 121 8 v4) (fun I8 => XV (d + 5) 61 [.inr 128, .inr s1] n sh R I8 (fun I10 => XVs (d + 6) 2 64 [some (.inr 121), some (.inr s1), some (.inl x2), some (.inr 2), some (.inl 0), none, none] [] n sh R I10 Q))))) : XV (d + 6) 2 [.inr 121, .inr s1, .inl x2, .inr 2] n sh R I Q := by
  refine XV.of (ls := [some (.inr 121), some (.inr s1), some (.inl x2), some (.inr 2), none, none, none]) (zloc_eq gY_2.2.2.1) ?_
  unfold XVs
  refine x_aload_n d2_0 rfl ?_
  refine x_getR (r := 135) d2_1 gY_2.2.2.2 gF_0_25 rfl (sh_121 hW) (rf_121_5 hW) (by decide) ?_
  refine x_fil d2_4 gFi_2_4 gY_2.2.2.2 gM_0_51 (sh_135 hW) (of_decide_eq_true rfl) ?_
  refine x_aload_n d2_8 rfl ?_
  refine x_iconst d2_9 rfl ?_
  refine x_putI d2_10 gY_2.2.2.2 gF_0_39 rfl rfl (sh_121 hW) ?_
  refine x_aload_n d2_13 rfl ?_
  refine x_aload_n d2_14 rfl ?_
  refine x_getR (r := 42) d2_15 gY_2.2.2.2 gF_0_47 rfl (sh_121 hW) (rf_121_1 hW) (by decide) ?_
  refine x_getR (r := (R 42 4)) d2_18 gY_2.2.2.2 gF_0_57 rfl (sh_42 hW) rfl hL.1 ?_
  refine x_bipush d2_21 rfl ?_
  refine y_invI (as := [.inl 112]) (t := [.inr 121]) (o := (R 42 4)) gY_11 d2_23 gY_2.2.2.2 gM_0_63 rfl hL.2.1 rfl k (fun v1 I2 k => ?_)
  have e3 := k.1
  replace k := k.2
  refine x_putZ d2_26 gY_2.2.2.2 gF_0_32 rfl rfl (sh_121 hW) e3 ?_
  refine x_aload_n d2_29 rfl ?_
  refine x_aload_n d2_30 rfl ?_
  refine x_getR (r := 42) d2_31 gY_2.2.2.2 gF_0_47 rfl (sh_121 hW) (rf_121_1 hW) (by decide) ?_
  refine x_getR (r := (R 42 4)) d2_34 gY_2.2.2.2 gF_0_57 rfl (sh_42 hW) rfl hL.1 ?_
  refine x_bipush d2_37 rfl ?_
  refine y_invI (as := [.inl 111]) (t := [.inr 121]) (o := (R 42 4)) gY_11 d2_39 gY_2.2.2.2 gM_0_63 rfl hL.2.1 rfl k (fun v4 I5 k => ?_)
  have e6 := k.1
  replace k := k.2
  refine x_putZ d2_42 gY_2.2.2.2 gF_0_36 rfl rfl (sh_121 hW) e6 ?_
  refine x_aload_n d2_45 rfl ?_
  refine x_getR (r := 122) d2_46 gY_2.2.2.2 gF_0_12 rfl (sh_121 hW) (rf_121_2 hW) (by decide) ?_
  refine x_aload_n d2_49 rfl ?_
  refine y_invV (as := [.inr s1]) (t := []) (o := 122) gY_61 d2_50 gY_2.2.2.2 gM_0_69 rfl (sh_122 hW) rfl k (fun I8 k => ?_)
  refine x_aload_n d2_53 rfl ?_
  refine x_getR (r := 128) d2_54 gY_2.2.2.2 gF_0_18 rfl (sh_121 hW) (rf_121_3 hW) (by decide) ?_
  refine x_aload_n d2_57 rfl ?_
  refine y_invV (as := [.inr s1]) (t := []) (o := 128) gY_61 d2_58 gY_2.2.2.2 gM_0_69 rfl (sh_128 hW) rfl k (fun I10 k => ?_)
  refine x_iconst d2_61 rfl ?_
  refine x_istore (ls2 := [some (.inr 121), some (.inr s1), some (.inl x2), some (.inr 2), some (.inl 0), none, none]) d2_62 rfl rfl ?_
  exact k
set_option maxHeartbeats 4000000 in
theorem b_B_search_64 {d n : Nat} {sh : ZS} {R : ZR} {I : ZI} {Q : ZI → Prop} (hW : Wf sh R) {s1 : Nat} (hS1 : St sh R s1) {u1 : Option AV} {x2 : Int} {x4 : Int} {u5 : Option AV} {u6 : Option AV}
    (k : (if x2 ≤ x4 then Q I else XV (d + 5) 65 [.inr 122] n sh R I (fun I2 => XV (d + 5) 5 [.inr 121, .inr 122, .inl x4] n sh R I2 (fun I4 => XVs (d + 6) 2 108 [some (.inr 121), u1, some (.inl x2), some (.inr 2), some (.inl x4), some (.inl 0), u6] [] n sh R (zcpy I4 44 0 134 0 32) Q)))) : XVs (d + 6) 2 64 [some (.inr 121), u1, some (.inl x2), some (.inr 2), some (.inl x4), u5, u6] [] n sh R I Q := by
  unfold XVs
  refine x_iload d2_64 rfl ?_
  refine x_iload_n d2_66 rfl ?_
  refine x_if2 (pc2 := 198) d2_67 rfl (fun c => ?_) (fun c => ?_)
  · replace c : x2 ≤ x4 := c
    rw [if_pos c] at k
    exact x_vret d2_198 gR_2 ⟨_, rfl, rfl, k⟩
  · replace c : ¬ (x2 ≤ x4) := c
    rw [if_neg c] at k
    refine x_aload_n d2_70 rfl ?_
    refine x_getR (r := 122) d2_71 gY_2.2.2.2 gF_0_12 rfl (sh_121 hW) (rf_121_2 hW) (by decide) ?_
    refine y_invV (as := []) (t := []) (o := 122) gY_65 d2_74 gY_2.2.2.2 gM_0_73 rfl (sh_122 hW) rfl k (fun I2 k => ?_)
    refine x_aload_n d2_77 rfl ?_
    refine x_aload_n d2_78 rfl ?_
    refine x_getR (r := 122) d2_79 gY_2.2.2.2 gF_0_12 rfl (sh_121 hW) (rf_121_2 hW) (by decide) ?_
    refine x_iload d2_82 rfl ?_
    refine y_invV (as := [.inr 122, .inl x4]) (t := []) (o := 121) gY_5 d2_84 gY_2.2.2.2 gM_0_76 rfl (sh_121 hW) rfl k (fun I4 k => ?_)
    refine x_aload_n d2_87 rfl ?_
    refine x_getR (r := 42) d2_88 gY_2.2.2.2 gF_0_47 rfl (sh_121 hW) (rf_121_1 hW) (by decide) ?_
    refine x_getR (r := 44) d2_91 gY_2.2.2.2 gF_0_80 rfl (sh_42 hW) (rf_42_3 hW) (by decide) ?_
    refine x_iconst d2_94 rfl ?_
    refine x_aload_n d2_95 rfl ?_
    refine x_getR (r := 134) d2_96 gY_2.2.2.2 gF_0_21 rfl (sh_121 hW) (rf_121_4 hW) (by decide) ?_
    refine x_iconst d2_99 rfl ?_
    refine x_bipush d2_100 rfl ?_
    refine x_cpy d2_102 gY_2.2.2.2 gM_0_83 (of_decide_eq_true rfl) (sh_44 hW) (sh_134 hW) (by decide) (by decide) (by decide) (by decide) (by decide) ?_
    refine x_iconst d2_105 rfl ?_
    refine x_istore (ls2 := [some (.inr 121), u1, some (.inl x2), some (.inr 2), some (.inl x4), some (.inl 0), u6]) d2_106 rfl rfl ?_
    exact k
set_option maxHeartbeats 4000000 in
theorem b_B_search_108 {d n : Nat} {sh : ZS} {R : ZR} {I : ZI} {Q : ZI → Prop} (hW : Wf sh R) {s1 : Nat} (hS1 : St sh R s1) {u1 : Option AV} {x2 : Int} {x4 : Int} {x5 : Int} {u6 : Option AV}
    (k : (if I 122 5 ≤ x5 then XV (d + 5) 59 [.inr 42, .inr 122] n sh R (zcpy I 134 0 44 0 32) (fun I2 => (zr (x4 + 1)) ∧ XVs (d + 6) 2 64 [some (.inr 121), u1, some (.inl x2), some (.inr 2), some (.inl (x4 + 1)), some (.inl x5), u6] [] n sh R I2 Q) else XI (d + 5) 66 [.inr 122, .inl x5] n sh R I (fun v4 I5 => (if v4 < 0 then (zr (x5 + 1)) ∧ XVs (d + 6) 2 108 [some (.inr 121), u1, some (.inl x2), some (.inr 2), some (.inl x4), some (.inl (x5 + 1)), some (.inl v4)] [] n sh R I5 Q else (0 ≤ v4 ∧ v4 < 32) ∧ (if I5 134 (v4).toNat = (-1) then (zr (x5 + 1)) ∧ XVs (d + 6) 2 108 [some (.inr 121), u1, some (.inl x2), some (.inr 2), some (.inl x4), some (.inl (x5 + 1)), some (.inl v4)] [] n sh R I5 Q else XV (d + 5) 3 [.inr 121, .inl x4, .inl x2, .inl v4, .inr 2] n sh R I5 (fun I10 => (zr (x5 + 1)) ∧ XVs (d + 6) 2 108 [some (.inr 121), u1, some (.inl x2), some (.inr 2), some (.inl x4), some (.inl (x5 + 1)), some (.inl v4)] [] n sh R I10 Q)))))) : XVs (d + 6) 2 108 [some (.inr 121), u1, some (.inl x2), some (.inr 2), some (.inl x4), some (.inl x5), u6] [] n sh R I Q := by
  unfold XVs
  refine x_iload d2_108 rfl ?_
  refine x_aload_n d2_110 rfl ?_
  refine x_getR (r := 122) d2_111 gY_2.2.2.2 gF_0_12 rfl (sh_121 hW) (rf_121_2 hW) (by decide) ?_
  refine x_getI d2_114 gY_2.2.2.2 gF_0_89 rfl (sh_122 hW) ?_
  refine x_if2 (pc2 := 163) d2_117 rfl (fun c => ?_) (fun c => ?_)
  · replace c : I 122 5 ≤ x5 := c
    rw [if_pos c] at k
    refine x_aload_n d2_163 rfl ?_
    refine x_getR (r := 134) d2_164 gY_2.2.2.2 gF_0_21 rfl (sh_121 hW) (rf_121_4 hW) (by decide) ?_
    refine x_iconst d2_167 rfl ?_
    refine x_aload_n d2_168 rfl ?_
    refine x_getR (r := 42) d2_169 gY_2.2.2.2 gF_0_47 rfl (sh_121 hW) (rf_121_1 hW) (by decide) ?_
    refine x_getR (r := 44) d2_172 gY_2.2.2.2 gF_0_80 rfl (sh_42 hW) (rf_42_3 hW) (by decide) ?_
    refine x_iconst d2_175 rfl ?_
    refine x_bipush d2_176 rfl ?_
    refine x_cpy d2_178 gY_2.2.2.2 gM_0_83 (of_decide_eq_true rfl) (sh_134 hW) (sh_44 hW) (by decide) (by decide) (by decide) (by decide) (by decide) ?_
    refine x_aload_n d2_181 rfl ?_
    refine x_getR (r := 42) d2_182 gY_2.2.2.2 gF_0_47 rfl (sh_121 hW) (rf_121_1 hW) (by decide) ?_
    refine x_aload_n d2_185 rfl ?_
    refine x_getR (r := 122) d2_186 gY_2.2.2.2 gF_0_12 rfl (sh_121 hW) (rf_121_2 hW) (by decide) ?_
    refine y_invV (as := [.inr 122]) (t := []) (o := 42) gY_59 d2_189 gY_2.2.2.2 gM_0_100 rfl (sh_42 hW) rfl k (fun I2 k => ?_)
    have e3 := k.1
    replace k := k.2
    refine x_iinc (ls2 := [some (.inr 121), u1, some (.inl x2), some (.inr 2), some (.inl (x4 + 1)), some (.inl x5), u6]) d2_192 rfl e3 rfl ?_
    refine x_goto (pc2 := 64) d2_195 rfl ?_
    exact k
  · replace c : ¬ (I 122 5 ≤ x5) := c
    rw [if_neg c] at k
    refine x_aload_n d2_120 rfl ?_
    refine x_getR (r := 122) d2_121 gY_2.2.2.2 gF_0_12 rfl (sh_121 hW) (rf_121_2 hW) (by decide) ?_
    refine x_iload d2_124 rfl ?_
    refine y_invI (as := [.inl x5]) (t := []) (o := 122) gY_66 d2_126 gY_2.2.2.2 gM_0_92 rfl (sh_122 hW) rfl k (fun v4 I5 k => ?_)
    refine x_istore (ls2 := [some (.inr 121), u1, some (.inl x2), some (.inr 2), some (.inl x4), some (.inl x5), some (.inl v4)]) d2_129 rfl rfl ?_
    refine x_iload d2_131 rfl ?_
    refine x_if1 (pc2 := 157) d2_133 rfl (fun c => ?_) (fun c => ?_)
    · replace c : v4 < 0 := c
      rw [if_pos c] at k
      have e6 := k.1
      replace k := k.2
      refine x_iinc (ls2 := [some (.inr 121), u1, some (.inl x2), some (.inr 2), some (.inl x4), some (.inl (x5 + 1)), some (.inl v4)]) d2_157 rfl e6 rfl ?_
      refine x_goto (pc2 := 108) d2_160 rfl ?_
      exact k
    · replace c : ¬ (v4 < 0) := c
      rw [if_neg c] at k
      refine x_aload_n d2_136 rfl ?_
      refine x_getR (r := 134) d2_137 gY_2.2.2.2 gF_0_21 rfl (sh_121 hW) (rf_121_4 hW) (by decide) ?_
      refine x_iload d2_140 rfl ?_
      have e7 := k.1
      replace k := k.2
      refine x_iald d2_142 (sh_134 hW) e7.1 e7.2 ?_
      refine x_iconst d2_143 rfl ?_
      refine x_if2 (pc2 := 157) d2_144 rfl (fun c => ?_) (fun c => ?_)
      · replace c : I5 134 (v4).toNat = (-1) := c
        rw [if_pos c] at k
        have e8 := k.1
        replace k := k.2
        refine x_iinc (ls2 := [some (.inr 121), u1, some (.inl x2), some (.inr 2), some (.inl x4), some (.inl (x5 + 1)), some (.inl v4)]) d2_157 rfl e8 rfl ?_
        refine x_goto (pc2 := 108) d2_160 rfl ?_
        exact k
      · replace c : ¬ (I5 134 (v4).toNat = (-1)) := c
        rw [if_neg c] at k
        refine x_aload_n d2_147 rfl ?_
        refine x_iload d2_148 rfl ?_
        refine x_iload_n d2_150 rfl ?_
        refine x_iload d2_151 rfl ?_
        refine x_aload_n d2_153 rfl ?_
        refine y_invV (as := [.inl x4, .inl x2, .inl v4, .inr 2]) (t := []) (o := 121) gY_3 d2_154 gY_2.2.2.2 gM_0_96 rfl (sh_121 hW) rfl k (fun I10 k => ?_)
        have e11 := k.1
        replace k := k.2
        refine x_iinc (ls2 := [some (.inr 121), u1, some (.inl x2), some (.inr 2), some (.inl x4), some (.inl (x5 + 1)), some (.inl v4)]) d2_157 rfl e11 rfl ?_
        refine x_goto (pc2 := 108) d2_160 rfl ?_
        exact k
set_option maxHeartbeats 4000000 in
theorem b_B_tryHoles_0 {d n : Nat} {sh : ZS} {R : ZR} {I : ZI} {Q : ZI → Prop} (hW : Wf sh R) {x1 : Int} {x2 : Int} {x3 : Int}
    (k : XVs (d + 5) 3 3 [some (.inr 121), some (.inl x1), some (.inl x2), some (.inl x3), some (.inr 2), some (.inl 0), none] [] n sh R I Q) : XV (d + 5) 3 [.inr 121, .inl x1, .inl x2, .inl x3, .inr 2] n sh R I Q := by
  refine XV.of (ls := [some (.inr 121), some (.inl x1), some (.inl x2), some (.inl x3), some (.inr 2), none, none]) (zloc_eq gY_3.2.2.1) ?_
  unfold XVs
  refine x_iconst d3_0 rfl ?_
  refine x_istore (ls2 := [some (.inr 121), some (.inl x1), some (.inl x2), some (.inl x3), some (.inr 2), some (.inl 0), none]) d3_1 rfl rfl ?_
  exact k
set_option maxHeartbeats 4000000 in
theorem b_B_tryHoles_3 {d n : Nat} {sh : ZS} {R : ZR} {I : ZI} {Q : ZI → Prop} (hW : Wf sh R) {x1 : Int} {x2 : Int} {x3 : Int} {x5 : Int} {u6 : Option AV}
    (k : (if I 15 0 ≤ x5 then Q I else (0 ≤ x3 ∧ x3 < 32) ∧ (if ¬ x5 = I 134 (x3).toNat then XV (d + 4) 62 [.inr 128, .inr 122] n sh R I (fun I3 => XV (d + 4) 59 [.inr 42, .inr 128] n sh R (zup (zcpy I3 134 0 44 0 32) 44 (x3).toNat x5) (fun I5 => (zr (x1 + 1)) ∧ XVs (d + 5) 3 85 [some (.inr 121), some (.inl x1), some (.inl x2), some (.inl x3), some (.inr 2), some (.inl x5), some (.inl (x1 + 1))] [] n sh R I5 Q)) else (zr (x5 + 1)) ∧ XVs (d + 5) 3 3 [some (.inr 121), some (.inl x1), some (.inl x2), some (.inl x3), some (.inr 2), some (.inl (x5 + 1)), u6] [] n sh R I Q))) : XVs (d + 5) 3 3 [some (.inr 121), some (.inl x1), some (.inl x2), some (.inl x3), some (.inr 2), some (.inl x5), u6] [] n sh R I Q := by
  unfold XVs
  refine x_iload d3_3 rfl ?_
  refine x_aload_n d3_5 rfl ?_
  refine x_getR (r := 15) d3_6 gY_3.2.2.2 gF_0_43 rfl (sh_121 hW) (rf_121_0 hW) (by decide) ?_
  refine x_getI d3_9 gY_3.2.2.2 gF_0_103 rfl (sh_15 hW) ?_
  refine x_if2 (pc2 := 159) d3_12 rfl (fun c => ?_) (fun c => ?_)
  · replace c : I 15 0 ≤ x5 := c
    rw [if_pos c] at k
    exact x_vret d3_159 gR_3 ⟨_, rfl, rfl, k⟩
  · replace c : ¬ (I 15 0 ≤ x5) := c
    rw [if_neg c] at k
    refine x_iload d3_15 rfl ?_
    refine x_aload_n d3_17 rfl ?_
    refine x_getR (r := 134) d3_18 gY_3.2.2.2 gF_0_21 rfl (sh_121 hW) (rf_121_4 hW) (by decide) ?_
    refine x_iload_n d3_21 rfl ?_
    have e1 := k.1
    replace k := k.2
    refine x_iald d3_22 (sh_134 hW) e1.1 e1.2 ?_
    refine x_if2 (pc2 := 29) d3_23 rfl (fun c => ?_) (fun c => ?_)
    · replace c : ¬ x5 = I 134 (x3).toNat := c
      rw [if_pos c] at k
      refine x_aload_n d3_29 rfl ?_
      refine x_getR (r := 128) d3_30 gY_3.2.2.2 gF_0_18 rfl (sh_121 hW) (rf_121_3 hW) (by decide) ?_
      refine x_aload_n d3_33 rfl ?_
      refine x_getR (r := 122) d3_34 gY_3.2.2.2 gF_0_12 rfl (sh_121 hW) (rf_121_2 hW) (by decide) ?_
      refine y_invV (as := [.inr 122]) (t := []) (o := 128) gY_62 d3_37 gY_3.2.2.2 gM_0_108 rfl (sh_128 hW) rfl k (fun I3 k => ?_)
      refine x_aload_n d3_40 rfl ?_
      refine x_getR (r := 134) d3_41 gY_3.2.2.2 gF_0_21 rfl (sh_121 hW) (rf_121_4 hW) (by decide) ?_
      refine x_iconst d3_44 rfl ?_
      refine x_aload_n d3_45 rfl ?_
      refine x_getR (r := 42) d3_46 gY_3.2.2.2 gF_0_47 rfl (sh_121 hW) (rf_121_1 hW) (by decide) ?_
      refine x_getR (r := 44) d3_49 gY_3.2.2.2 gF_0_80 rfl (sh_42 hW) (rf_42_3 hW) (by decide) ?_
      refine x_iconst d3_52 rfl ?_
      refine x_bipush d3_53 rfl ?_
      refine x_cpy d3_55 gY_3.2.2.2 gM_0_83 (of_decide_eq_true rfl) (sh_134 hW) (sh_44 hW) (by decide) (by decide) (by decide) (by decide) (by decide) ?_
      refine x_aload_n d3_58 rfl ?_
      refine x_getR (r := 42) d3_59 gY_3.2.2.2 gF_0_47 rfl (sh_121 hW) (rf_121_1 hW) (by decide) ?_
      refine x_getR (r := 44) d3_62 gY_3.2.2.2 gF_0_80 rfl (sh_42 hW) (rf_42_3 hW) (by decide) ?_
      refine x_iload_n d3_65 rfl ?_
      refine x_iload d3_66 rfl ?_
      refine x_iast d3_68 (sh_44 hW) e1.1 e1.2 ?_
      refine x_aload_n d3_69 rfl ?_
      refine x_getR (r := 42) d3_70 gY_3.2.2.2 gF_0_47 rfl (sh_121 hW) (rf_121_1 hW) (by decide) ?_
      refine x_aload_n d3_73 rfl ?_
      refine x_getR (r := 128) d3_74 gY_3.2.2.2 gF_0_18 rfl (sh_121 hW) (rf_121_3 hW) (by decide) ?_
      refine y_invV (as := [.inr 128]) (t := []) (o := 42) gY_59 d3_77 gY_3.2.2.2 gM_0_100 rfl (sh_42 hW) rfl k (fun I5 k => ?_)
      refine x_iload_n d3_80 rfl ?_
      refine x_iconst d3_81 rfl ?_
      have e6 := k.1
      replace k := k.2
      refine x_iadd d3_82 e6 ?_
      refine x_istore (ls2 := [some (.inr 121), some (.inl x1), some (.inl x2), some (.inl x3), some (.inr 2), some (.inl x5), some (.inl (x1 + 1))]) d3_83 rfl rfl ?_
      exact k
    · replace c : ¬ (¬ x5 = I 134 (x3).toNat) := c
      rw [if_neg c] at k
      refine x_goto (pc2 := 153) d3_26 rfl ?_
      have e7 := k.1
      replace k := k.2
      refine x_iinc (ls2 := [some (.inr 121), some (.inl x1), some (.inl x2), some (.inl x3), some (.inr 2), some (.inl (x5 + 1)), u6]) d3_153 rfl e7 rfl ?_
      refine x_goto (pc2 := 3) d3_156 rfl ?_
      exact k
set_option maxHeartbeats 4000000 in
theorem b_B_tryHoles_85 {d n : Nat} {sh : ZS} {R : ZR} {I : ZI} {Q : ZI → Prop} (hW : Wf sh R) {x1 : Int} {x2 : Int} {x3 : Int} {x5 : Int} {x6 : Int}
    (k : (if x2 ≤ x6 then XI (d + 4) 86 [.inr 2, .inr 128] n sh R I (fun v1 I2 => (if v1 = 0 then (zr (x5 + 1)) ∧ XVs (d + 5) 3 3 [some (.inr 121), some (.inl x1), some (.inl x2), some (.inl x3), some (.inr 2), some (.inl (x5 + 1)), some (.inl x6)] [] n sh R I2 Q else (0 ≤ x3 ∧ x3 < 32) ∧ XV (d + 4) 4 [.inr 121, .inl x1, .inl (I2 127 (x3).toNat), .inl x5] n sh R I2 (fun I6 => (zr (x5 + 1)) ∧ XVs (d + 5) 3 3 [some (.inr 121), some (.inl x1), some (.inl x2), some (.inl x3), some (.inr 2), some (.inl (x5 + 1)), some (.inl x6)] [] n sh R I6 Q))) else XV (d + 4) 65 [.inr 128] n sh R I (fun I9 => XV (d + 4) 5 [.inr 121, .inr 128, .inl x6] n sh R I9 (fun I11 => XV (d + 4) 59 [.inr 42, .inr 128] n sh R I11 (fun I13 => (zr (x6 + 1)) ∧ XVs (d + 5) 3 85 [some (.inr 121), some (.inl x1), some (.inl x2), some (.inl x3), some (.inr 2), some (.inl x5), some (.inl (x6 + 1))] [] n sh R I13 Q))))) : XVs (d + 5) 3 85 [some (.inr 121), some (.inl x1), some (.inl x2), some (.inl x3), some (.inr 2), some (.inl x5), some (.inl x6)] [] n sh R I Q := by
  unfold XVs
  refine x_iload d3_85 rfl ?_
  refine x_iload_n d3_87 rfl ?_
  refine x_if2 (pc2 := 125) d3_88 rfl (fun c => ?_) (fun c => ?_)
  · replace c : x2 ≤ x6 := c
    rw [if_pos c] at k
    refine x_aload d3_125 rfl ?_
    refine x_aload_n d3_127 rfl ?_
    refine x_getR (r := 128) d3_128 gY_3.2.2.2 gF_0_18 rfl (sh_121 hW) (rf_121_3 hW) (by decide) ?_
    refine y_invI (as := [.inr 128]) (t := []) (o := 2) gY_86 d3_131 gY_3.2.2.2 gM_0_111 rfl (sh_2 hW) rfl k (fun v1 I2 k => ?_)
    refine x_if1 (pc2 := 153) d3_134 rfl (fun c => ?_) (fun c => ?_)
    · replace c : v1 = 0 := c
      rw [if_pos c] at k
      have e3 := k.1
      replace k := k.2
      refine x_iinc (ls2 := [some (.inr 121), some (.inl x1), some (.inl x2), some (.inl x3), some (.inr 2), some (.inl (x5 + 1)), some (.inl x6)]) d3_153 rfl e3 rfl ?_
      refine x_goto (pc2 := 3) d3_156 rfl ?_
      exact k
    · replace c : ¬ (v1 = 0) := c
      rw [if_neg c] at k
      refine x_aload_n d3_137 rfl ?_
      refine x_iload_n d3_138 rfl ?_
      refine x_aload_n d3_139 rfl ?_
      refine x_getR (r := 122) d3_140 gY_3.2.2.2 gF_0_12 rfl (sh_121 hW) (rf_121_2 hW) (by decide) ?_
      refine x_getR (r := 127) d3_143 gY_3.2.2.2 gF_0_117 rfl (sh_122 hW) (rf_122_4 hW) (by decide) ?_
      refine x_iload_n d3_146 rfl ?_
      have e4 := k.1
      replace k := k.2
      refine x_iald d3_147 (sh_127 hW) e4.1 e4.2 ?_
      refine x_iload d3_148 rfl ?_
      refine y_invV (as := [.inl x1, .inl (I2 127 (x3).toNat), .inl x5]) (t := []) (o := 121) gY_4 d3_150 gY_3.2.2.2 gM_0_120 rfl (sh_121 hW) rfl k (fun I6 k => ?_)
      have e7 := k.1
      replace k := k.2
      refine x_iinc (ls2 := [some (.inr 121), some (.inl x1), some (.inl x2), some (.inl x3), some (.inr 2), some (.inl (x5 + 1)), some (.inl x6)]) d3_153 rfl e7 rfl ?_
      refine x_goto (pc2 := 3) d3_156 rfl ?_
      exact k
  · replace c : ¬ (x2 ≤ x6) := c
    rw [if_neg c] at k
    refine x_aload_n d3_91 rfl ?_
    refine x_getR (r := 128) d3_92 gY_3.2.2.2 gF_0_18 rfl (sh_121 hW) (rf_121_3 hW) (by decide) ?_
    refine y_invV (as := []) (t := []) (o := 128) gY_65 d3_95 gY_3.2.2.2 gM_0_73 rfl (sh_128 hW) rfl k (fun I9 k => ?_)
    refine x_aload_n d3_98 rfl ?_
    refine x_aload_n d3_99 rfl ?_
    refine x_getR (r := 128) d3_100 gY_3.2.2.2 gF_0_18 rfl (sh_121 hW) (rf_121_3 hW) (by decide) ?_
    refine x_iload d3_103 rfl ?_
    refine y_invV (as := [.inr 128, .inl x6]) (t := []) (o := 121) gY_5 d3_105 gY_3.2.2.2 gM_0_76 rfl (sh_121 hW) rfl k (fun I11 k => ?_)
    refine x_aload_n d3_108 rfl ?_
    refine x_getR (r := 42) d3_109 gY_3.2.2.2 gF_0_47 rfl (sh_121 hW) (rf_121_1 hW) (by decide) ?_
    refine x_aload_n d3_112 rfl ?_
    refine x_getR (r := 128) d3_113 gY_3.2.2.2 gF_0_18 rfl (sh_121 hW) (rf_121_3 hW) (by decide) ?_
    refine y_invV (as := [.inr 128]) (t := []) (o := 42) gY_59 d3_116 gY_3.2.2.2 gM_0_100 rfl (sh_42 hW) rfl k (fun I13 k => ?_)
    have e14 := k.1
    replace k := k.2
    refine x_iinc (ls2 := [some (.inr 121), some (.inl x1), some (.inl x2), some (.inl x3), some (.inr 2), some (.inl x5), some (.inl (x6 + 1))]) d3_119 rfl e14 rfl ?_
    refine x_goto (pc2 := 85) d3_122 rfl ?_
    exact k
set_option maxHeartbeats 4000000 in
theorem b_B_note_0 {d n : Nat} {sh : ZS} {R : ZR} {I : ZI} {Q : ZI → Prop} (hW : Wf sh R) {x1 : Int} {x2 : Int} {x3 : Int}
    (k : (if ¬ I 121 9 = 0 then (zr (I 121 9 + 1)) ∧ Q (zup I 121 9 (I 121 9 + 1)) else (zr (I 121 9 + 1)) ∧ Q (zup (zup (zup (zup I 136 0 x1) 136 1 x2) 136 2 x3) 121 9 (I 121 9 + 1)))) : XV d 4 [.inr 121, .inl x1, .inl x2, .inl x3] n sh R I Q := by
  refine XV.of (ls := [some (.inr 121), some (.inl x1), some (.inl x2), some (.inl x3)]) (zloc_eq gY_4.2.2.1) ?_
  unfold XVs
  refine x_aload_n d4_0 rfl ?_
  refine x_getI d4_1 gY_4.2.2.2 gF_0_39 rfl (sh_121 hW) ?_
  refine x_if1 (pc2 := 28) d4_4 rfl (fun c => ?_) (fun c => ?_)
  · replace c : ¬ I 121 9 = 0 := c
    rw [if_pos c] at k
    refine x_aload_n d4_28 rfl ?_
    refine x_dup d4_29 ?_
    refine x_getI d4_30 gY_4.2.2.2 gF_0_39 rfl (sh_121 hW) ?_
    refine x_iconst d4_33 rfl ?_
    have e1 := k.1
    replace k := k.2
    refine x_iadd d4_34 e1 ?_
    refine x_putI d4_35 gY_4.2.2.2 gF_0_39 rfl rfl (sh_121 hW) ?_
    exact x_vret d4_38 gR_4 ⟨_, rfl, rfl, k⟩
  · replace c : ¬ (¬ I 121 9 = 0) := c
    rw [if_neg c] at k
    refine x_aload_n d4_7 rfl ?_
    refine x_getR (r := 136) d4_8 gY_4.2.2.2 gF_0_29 rfl (sh_121 hW) (rf_121_6 hW) (by decide) ?_
    refine x_iconst d4_11 rfl ?_
    refine x_iload_n d4_12 rfl ?_
    refine x_iast d4_13 (sh_136 hW) (by decide) (by decide) ?_
    refine x_aload_n d4_14 rfl ?_
    refine x_getR (r := 136) d4_15 gY_4.2.2.2 gF_0_29 rfl (sh_121 hW) (rf_121_6 hW) (by decide) ?_
    refine x_iconst d4_18 rfl ?_
    refine x_iload_n d4_19 rfl ?_
    refine x_iast d4_20 (sh_136 hW) (by decide) (by decide) ?_
    refine x_aload_n d4_21 rfl ?_
    refine x_getR (r := 136) d4_22 gY_4.2.2.2 gF_0_29 rfl (sh_121 hW) (rf_121_6 hW) (by decide) ?_
    refine x_iconst d4_25 rfl ?_
    refine x_iload_n d4_26 rfl ?_
    refine x_iast d4_27 (sh_136 hW) (by decide) (by decide) ?_
    refine x_aload_n d4_28 rfl ?_
    refine x_dup d4_29 ?_
    refine x_getI d4_30 gY_4.2.2.2 gF_0_39 rfl (sh_121 hW) ?_
    refine x_iconst d4_33 rfl ?_
    have e2 := k.1
    replace k := k.2
    refine x_iadd d4_34 e2 ?_
    refine x_putI d4_35 gY_4.2.2.2 gF_0_39 rfl rfl (sh_121 hW) ?_
    exact x_vret d4_38 gR_4 ⟨_, rfl, rfl, k⟩
set_option maxHeartbeats 4000000 in
theorem b_B_askKnown_0 {d n : Nat} {sh : ZS} {R : ZR} {I : ZI} {Q : ZI → Prop} (hW : Wf sh R) {s1 : Nat} (hS1 : St sh R s1) {x2 : Int}
    (k : XVs (d + 4) 5 2 [some (.inr 121), some (.inr s1), some (.inl x2), some (.inl 0), none, none, none, none] [] n sh R I Q) : XV (d + 4) 5 [.inr 121, .inr s1, .inl x2] n sh R I Q := by
  refine XV.of (ls := [some (.inr 121), some (.inr s1), some (.inl x2), none, none, none, none, none]) (zloc_eq gY_5.2.2.1) ?_
  unfold XVs
  refine x_iconst d5_0 rfl ?_
  refine x_istore_n (ls2 := [some (.inr 121), some (.inr s1), some (.inl x2), some (.inl 0), none, none, none, none]) d5_1 rfl rfl ?_
  exact k
set_option maxHeartbeats 4000000 in
theorem b_B_askKnown_2 {d n : Nat} {sh : ZS} {R : ZR} {I : ZI} {Q : ZI → Prop} (hW : Wf sh R) {s1 : Nat} (hS1 : St sh R s1) {x2 : Int} {x3 : Int} {u4 : Option AV} {u5 : Option AV} {u6 : Option AV} {u7 : Option AV}
    (k : (if I s1 6 ≤ x3 then Q I else (0 ≤ x3 ∧ x3 < 32) ∧ (zr (x2 * 32)) ∧ (zr ((x2 * 32) + I (s1 + 5) (x3).toNat)) ∧ (zr (((x2 * 32) + I (s1 + 5) (x3).toNat) * 32)) ∧ (if I 121 7 = 0 then (zr ((((x2 * 32) + I (s1 + 5) (x3).toNat) * 32) + 0)) ∧ (if I 121 8 = 0 then (0 ≤ ((((x2 * 32) + I (s1 + 5) (x3).toNat) * 32) + 0) ∧ ((((x2 * 32) + I (s1 + 5) (x3).toNat) * 32) + 0) < 6144) ∧ (if ¬ (I 135 (16 * ((((x2 * 32) + I (s1 + 5) (x3).toNat) * 32) + 0).toNat + 0) % 16) = 0 then (zr ((I 135 (16 * ((((x2 * 32) + I (s1 + 5) (x3).toNat) * 32) + 0).toNat + 0) % 16) - 1)) ∧ (zr (((I 135 (16 * ((((x2 * 32) + I (s1 + 5) (x3).toNat) * 32) + 0).toNat + 0) % 16) - 1) + (-1))) ∧ (zr (x3 + 1)) ∧ XVs (d + 4) 5 2 [some (.inr 121), some (.inr s1), some (.inl x2), some (.inl (x3 + 1)), some (.inl (I (s1 + 5) (x3).toNat)), some (.inl ((((x2 * 32) + I (s1 + 5) (x3).toNat) * 32) + 0)), some (.inl 0), some (.inl (I 135 (16 * ((((x2 * 32) + I (s1 + 5) (x3).toNat) * 32) + 0).toNat + 0) % 16))] [] n sh R (zup I 44 (x3).toNat (((I 135 (16 * ((((x2 * 32) + I (s1 + 5) (x3).toNat) * 32) + 0).toNat + 0) % 16) - 1) + (-1))) Q else XI (d + 3) 52 [.inr 42, .inr s1, .inl x3] n sh R I (fun v10 I11 => (zr (v10 - (-1))) ∧ (zr ((v10 - (-1)) + 1)) ∧ (0 ≤ ((v10 - (-1)) + 1) ∧ ((v10 - (-1)) + 1) < 16) ∧ (I11 135 (16 * ((((x2 * 32) + I (s1 + 5) (x3).toNat) * 32) + 0).toNat + 0) % 16 = 0) ∧ (zr (((v10 - (-1)) + 1) - 1)) ∧ (zr ((((v10 - (-1)) + 1) - 1) + (-1))) ∧ (zr (x3 + 1)) ∧ XVs (d + 4) 5 2 [some (.inr 121), some (.inr s1), some (.inl x2), some (.inl (x3 + 1)), some (.inl (I (s1 + 5) (x3).toNat)), some (.inl ((((x2 * 32) + I (s1 + 5) (x3).toNat) * 32) + 0)), some (.inl 0), some (.inl ((v10 - (-1)) + 1))] [] n sh R (zup (zup I11 135 (16 * ((((x2 * 32) + I (s1 + 5) (x3).toNat) * 32) + 0).toNat + 0) ((v10 - (-1)) + 1)) 44 (x3).toNat ((((v10 - (-1)) + 1) - 1) + (-1))) Q)) else (0 ≤ I (s1 + 5) (x3).toNat ∧ I (s1 + 5) (x3).toNat < 32) ∧ (zr (4 * I (s1 + 4) (I (s1 + 5) (x3).toNat).toNat)) ∧ (0 ≤ ((((x2 * 32) + I (s1 + 5) (x3).toNat) * 32) + 0) ∧ ((((x2 * 32) + I (s1 + 5) (x3).toNat) * 32) + 0) < 6144) ∧ (0 ≤ (4 * I (s1 + 4) (I (s1 + 5) (x3).toNat).toNat) ∧ (4 * I (s1 + 4) (I (s1 + 5) (x3).toNat).toNat) < 64 ∧ (4 * I (s1 + 4) (I (s1 + 5) (x3).toNat).toNat) % 4 = 0) ∧ (if ¬ (I 135 (16 * ((((x2 * 32) + I (s1 + 5) (x3).toNat) * 32) + 0).toNat + (4 * I (s1 + 4) (I (s1 + 5) (x3).toNat).toNat).toNat / 4) % 16) = 0 then (zr ((I 135 (16 * ((((x2 * 32) + I (s1 + 5) (x3).toNat) * 32) + 0).toNat + (4 * I (s1 + 4) (I (s1 + 5) (x3).toNat).toNat).toNat / 4) % 16) - 1)) ∧ (zr (((I 135 (16 * ((((x2 * 32) + I (s1 + 5) (x3).toNat) * 32) + 0).toNat + (4 * I (s1 + 4) (I (s1 + 5) (x3).toNat).toNat).toNat / 4) % 16) - 1) + (-1))) ∧ (zr (x3 + 1)) ∧ XVs (d + 4) 5 2 [some (.inr 121), some (.inr s1), some (.inl x2), some (.inl (x3 + 1)), some (.inl (I (s1 + 5) (x3).toNat)), some (.inl ((((x2 * 32) + I (s1 + 5) (x3).toNat) * 32) + 0)), some (.inl (4 * I (s1 + 4) (I (s1 + 5) (x3).toNat).toNat)), some (.inl (I 135 (16 * ((((x2 * 32) + I (s1 + 5) (x3).toNat) * 32) + 0).toNat + (4 * I (s1 + 4) (I (s1 + 5) (x3).toNat).toNat).toNat / 4) % 16))] [] n sh R (zup I 44 (x3).toNat (((I 135 (16 * ((((x2 * 32) + I (s1 + 5) (x3).toNat) * 32) + 0).toNat + (4 * I (s1 + 4) (I (s1 + 5) (x3).toNat).toNat).toNat / 4) % 16) - 1) + (-1))) Q else XI (d + 3) 52 [.inr 42, .inr s1, .inl x3] n sh R I (fun v26 I27 => (zr (v26 - (-1))) ∧ (zr ((v26 - (-1)) + 1)) ∧ (0 ≤ ((v26 - (-1)) + 1) ∧ ((v26 - (-1)) + 1) < 16) ∧ (I27 135 (16 * ((((x2 * 32) + I (s1 + 5) (x3).toNat) * 32) + 0).toNat + (4 * I (s1 + 4) (I (s1 + 5) (x3).toNat).toNat).toNat / 4) % 16 = 0) ∧ (zr (((v26 - (-1)) + 1) - 1)) ∧ (zr ((((v26 - (-1)) + 1) - 1) + (-1))) ∧ (zr (x3 + 1)) ∧ XVs (d + 4) 5 2 [some (.inr 121), some (.inr s1), some (.inl x2), some (.inl (x3 + 1)), some (.inl (I (s1 + 5) (x3).toNat)), some (.inl ((((x2 * 32) + I (s1 + 5) (x3).toNat) * 32) + 0)), some (.inl (4 * I (s1 + 4) (I (s1 + 5) (x3).toNat).toNat)), some (.inl ((v26 - (-1)) + 1))] [] n sh R (zup (zup I27 135 (16 * ((((x2 * 32) + I (s1 + 5) (x3).toNat) * 32) + 0).toNat + (4 * I (s1 + 4) (I (s1 + 5) (x3).toNat).toNat).toNat / 4) ((v26 - (-1)) + 1)) 44 (x3).toNat ((((v26 - (-1)) + 1) - 1) + (-1))) Q))) else (zr ((((x2 * 32) + I (s1 + 5) (x3).toNat) * 32) + x3)) ∧ (if I 121 8 = 0 then (0 ≤ ((((x2 * 32) + I (s1 + 5) (x3).toNat) * 32) + x3) ∧ ((((x2 * 32) + I (s1 + 5) (x3).toNat) * 32) + x3) < 6144) ∧ (if ¬ (I 135 (16 * ((((x2 * 32) + I (s1 + 5) (x3).toNat) * 32) + x3).toNat + 0) % 16) = 0 then (zr ((I 135 (16 * ((((x2 * 32) + I (s1 + 5) (x3).toNat) * 32) + x3).toNat + 0) % 16) - 1)) ∧ (zr (((I 135 (16 * ((((x2 * 32) + I (s1 + 5) (x3).toNat) * 32) + x3).toNat + 0) % 16) - 1) + (-1))) ∧ (zr (x3 + 1)) ∧ XVs (d + 4) 5 2 [some (.inr 121), some (.inr s1), some (.inl x2), some (.inl (x3 + 1)), some (.inl (I (s1 + 5) (x3).toNat)), some (.inl ((((x2 * 32) + I (s1 + 5) (x3).toNat) * 32) + x3)), some (.inl 0), some (.inl (I 135 (16 * ((((x2 * 32) + I (s1 + 5) (x3).toNat) * 32) + x3).toNat + 0) % 16))] [] n sh R (zup I 44 (x3).toNat (((I 135 (16 * ((((x2 * 32) + I (s1 + 5) (x3).toNat) * 32) + x3).toNat + 0) % 16) - 1) + (-1))) Q else XI (d + 3) 52 [.inr 42, .inr s1, .inl x3] n sh R I (fun v40 I41 => (zr (v40 - (-1))) ∧ (zr ((v40 - (-1)) + 1)) ∧ (0 ≤ ((v40 - (-1)) + 1) ∧ ((v40 - (-1)) + 1) < 16) ∧ (I41 135 (16 * ((((x2 * 32) + I (s1 + 5) (x3).toNat) * 32) + x3).toNat + 0) % 16 = 0) ∧ (zr (((v40 - (-1)) + 1) - 1)) ∧ (zr ((((v40 - (-1)) + 1) - 1) + (-1))) ∧ (zr (x3 + 1)) ∧ XVs (d + 4) 5 2 [some (.inr 121), some (.inr s1), some (.inl x2), some (.inl (x3 + 1)), some (.inl (I (s1 + 5) (x3).toNat)), some (.inl ((((x2 * 32) + I (s1 + 5) (x3).toNat) * 32) + x3)), some (.inl 0), some (.inl ((v40 - (-1)) + 1))] [] n sh R (zup (zup I41 135 (16 * ((((x2 * 32) + I (s1 + 5) (x3).toNat) * 32) + x3).toNat + 0) ((v40 - (-1)) + 1)) 44 (x3).toNat ((((v40 - (-1)) + 1) - 1) + (-1))) Q)) else (0 ≤ I (s1 + 5) (x3).toNat ∧ I (s1 + 5) (x3).toNat < 32) ∧ (zr (4 * I (s1 + 4) (I (s1 + 5) (x3).toNat).toNat)) ∧ (0 ≤ ((((x2 * 32) + I (s1 + 5) (x3).toNat) * 32) + x3) ∧ ((((x2 * 32) + I (s1 + 5) (x3).toNat) * 32) + x3) < 6144) ∧ (0 ≤ (4 * I (s1 + 4) (I (s1 + 5) (x3).toNat).toNat) ∧ (4 * I (s1 + 4) (I (s1 + 5) (x3).toNat).toNat) < 64 ∧ (4 * I (s1 + 4) (I (s1 + 5) (x3).toNat).toNat) % 4 = 0) ∧ (if ¬ (I 135 (16 * ((((x2 * 32) + I (s1 + 5) (x3).toNat) * 32) + x3).toNat + (4 * I (s1 + 4) (I (s1 + 5) (x3).toNat).toNat).toNat / 4) % 16) = 0 then (zr ((I 135 (16 * ((((x2 * 32) + I (s1 + 5) (x3).toNat) * 32) + x3).toNat + (4 * I (s1 + 4) (I (s1 + 5) (x3).toNat).toNat).toNat / 4) % 16) - 1)) ∧ (zr (((I 135 (16 * ((((x2 * 32) + I (s1 + 5) (x3).toNat) * 32) + x3).toNat + (4 * I (s1 + 4) (I (s1 + 5) (x3).toNat).toNat).toNat / 4) % 16) - 1) + (-1))) ∧ (zr (x3 + 1)) ∧ XVs (d + 4) 5 2 [some (.inr 121), some (.inr s1), some (.inl x2), some (.inl (x3 + 1)), some (.inl (I (s1 + 5) (x3).toNat)), some (.inl ((((x2 * 32) + I (s1 + 5) (x3).toNat) * 32) + x3)), some (.inl (4 * I (s1 + 4) (I (s1 + 5) (x3).toNat).toNat)), some (.inl (I 135 (16 * ((((x2 * 32) + I (s1 + 5) (x3).toNat) * 32) + x3).toNat + (4 * I (s1 + 4) (I (s1 + 5) (x3).toNat).toNat).toNat / 4) % 16))] [] n sh R (zup I 44 (x3).toNat (((I 135 (16 * ((((x2 * 32) + I (s1 + 5) (x3).toNat) * 32) + x3).toNat + (4 * I (s1 + 4) (I (s1 + 5) (x3).toNat).toNat).toNat / 4) % 16) - 1) + (-1))) Q else XI (d + 3) 52 [.inr 42, .inr s1, .inl x3] n sh R I (fun v56 I57 => (zr (v56 - (-1))) ∧ (zr ((v56 - (-1)) + 1)) ∧ (0 ≤ ((v56 - (-1)) + 1) ∧ ((v56 - (-1)) + 1) < 16) ∧ (I57 135 (16 * ((((x2 * 32) + I (s1 + 5) (x3).toNat) * 32) + x3).toNat + (4 * I (s1 + 4) (I (s1 + 5) (x3).toNat).toNat).toNat / 4) % 16 = 0) ∧ (zr (((v56 - (-1)) + 1) - 1)) ∧ (zr ((((v56 - (-1)) + 1) - 1) + (-1))) ∧ (zr (x3 + 1)) ∧ XVs (d + 4) 5 2 [some (.inr 121), some (.inr s1), some (.inl x2), some (.inl (x3 + 1)), some (.inl (I (s1 + 5) (x3).toNat)), some (.inl ((((x2 * 32) + I (s1 + 5) (x3).toNat) * 32) + x3)), some (.inl (4 * I (s1 + 4) (I (s1 + 5) (x3).toNat).toNat)), some (.inl ((v56 - (-1)) + 1))] [] n sh R (zup (zup I57 135 (16 * ((((x2 * 32) + I (s1 + 5) (x3).toNat) * 32) + x3).toNat + (4 * I (s1 + 4) (I (s1 + 5) (x3).toNat).toNat).toNat / 4) ((v56 - (-1)) + 1)) 44 (x3).toNat ((((v56 - (-1)) + 1) - 1) + (-1))) Q)))))) : XVs (d + 4) 5 2 [some (.inr 121), some (.inr s1), some (.inl x2), some (.inl x3), u4, u5, u6, u7] [] n sh R I Q := by
  unfold XVs
  refine x_iload_n d5_2 rfl ?_
  refine x_aload_n d5_3 rfl ?_
  refine x_getI d5_4 gY_5.2.2.2 gF_0_124 rfl hS1.1 ?_
  refine x_if2 (pc2 := 138) d5_7 rfl (fun c => ?_) (fun c => ?_)
  · replace c : I s1 6 ≤ x3 := c
    rw [if_pos c] at k
    exact x_vret d5_138 gR_5 ⟨_, rfl, rfl, k⟩
  · replace c : ¬ (I s1 6 ≤ x3) := c
    rw [if_neg c] at k
    refine x_aload_n d5_10 rfl ?_
    refine x_getR (r := (s1 + 5)) d5_11 gY_5.2.2.2 gF_0_117 rfl hS1.1 hS1.2.2.2.2.2.2.2.2.2.2 (Nat.succ_ne_zero _) ?_
    refine x_iload_n d5_14 rfl ?_
    have e1 := k.1
    replace k := k.2
    refine x_iald d5_15 hS1.2.2.2.2.2.1 e1.1 e1.2 ?_
    refine x_istore (ls2 := [some (.inr 121), some (.inr s1), some (.inl x2), some (.inl x3), some (.inl (I (s1 + 5) (x3).toNat)), u5, u6, u7]) d5_16 rfl rfl ?_
    refine x_iload_n d5_18 rfl ?_
    refine x_bipush d5_19 rfl ?_
    have e2 := k.1
    replace k := k.2
    refine x_imul d5_21 e2 ?_
    refine x_iload d5_22 rfl ?_
    have e3 := k.1
    replace k := k.2
    refine x_iadd d5_24 e3 ?_
    refine x_bipush d5_25 rfl ?_
    have e4 := k.1
    replace k := k.2
    refine x_imul d5_27 e4 ?_
    refine x_aload_n d5_28 rfl ?_
    refine x_getI d5_29 gY_5.2.2.2 gF_0_32 rfl (sh_121 hW) ?_
    refine x_if1 (pc2 := 39) d5_32 rfl (fun c => ?_) (fun c => ?_)
    · replace c : I 121 7 = 0 := c
      rw [if_pos c] at k
      refine x_iconst d5_39 rfl ?_
      have e5 := k.1
      replace k := k.2
      refine x_iadd d5_40 e5 ?_
      refine x_istore (ls2 := [some (.inr 121), some (.inr s1), some (.inl x2), some (.inl x3), some (.inl (I (s1 + 5) (x3).toNat)), some (.inl ((((x2 * 32) + I (s1 + 5) (x3).toNat) * 32) + 0)), u6, u7]) d5_41 rfl rfl ?_
      refine x_aload_n d5_43 rfl ?_
      refine x_getI d5_44 gY_5.2.2.2 gF_0_36 rfl (sh_121 hW) ?_
      refine x_if1 (pc2 := 62) d5_47 rfl (fun c => ?_) (fun c => ?_)
      · replace c : I 121 8 = 0 := c
        rw [if_pos c] at k
        refine x_iconst d5_62 rfl ?_
        refine x_istore (ls2 := [some (.inr 121), some (.inr s1), some (.inl x2), some (.inl x3), some (.inl (I (s1 + 5) (x3).toNat)), some (.inl ((((x2 * 32) + I (s1 + 5) (x3).toNat) * 32) + 0)), some (.inl 0), u7]) d5_63 rfl rfl ?_
        refine x_aload_n d5_65 rfl ?_
        refine x_getR (r := 135) d5_66 gY_5.2.2.2 gF_0_25 rfl (sh_121 hW) (rf_121_5 hW) (by decide) ?_
        refine x_iload d5_69 rfl ?_
        have e6 := k.1
        replace k := k.2
        refine x_lr d5_71 gLd_5_71 rfl (sh_135 hW) e6.1 e6.2 (by decide) ?_
        refine x_istore (ls2 := [some (.inr 121), some (.inr s1), some (.inl x2), some (.inl x3), some (.inl (I (s1 + 5) (x3).toNat)), some (.inl ((((x2 * 32) + I (s1 + 5) (x3).toNat) * 32) + 0)), some (.inl 0), some (.inl (I 135 (16 * ((((x2 * 32) + I (s1 + 5) (x3).toNat) * 32) + 0).toNat + 0) % 16))]) d5_79 rfl rfl ?_
        refine x_iload d5_81 rfl ?_
        refine x_if1 (pc2 := 117) d5_83 rfl (fun c => ?_) (fun c => ?_)
        · replace c : ¬ (I 135 (16 * ((((x2 * 32) + I (s1 + 5) (x3).toNat) * 32) + 0).toNat + 0) % 16) = 0 := c
          rw [if_pos c] at k
          refine x_aload_n d5_117 rfl ?_
          refine x_getR (r := 42) d5_118 gY_5.2.2.2 gF_0_47 rfl (sh_121 hW) (rf_121_1 hW) (by decide) ?_
          refine x_getR (r := 44) d5_121 gY_5.2.2.2 gF_0_80 rfl (sh_42 hW) (rf_42_3 hW) (by decide) ?_
          refine x_iload_n d5_124 rfl ?_
          refine x_iload d5_125 rfl ?_
          refine x_iconst d5_127 rfl ?_
          have e7 := k.1
          replace k := k.2
          refine x_isub d5_128 e7 ?_
          refine x_iconst d5_129 rfl ?_
          have e8 := k.1
          replace k := k.2
          refine x_iadd d5_130 e8 ?_
          refine x_iast d5_131 (sh_44 hW) e1.1 e1.2 ?_
          have e9 := k.1
          replace k := k.2
          refine x_iinc (ls2 := [some (.inr 121), some (.inr s1), some (.inl x2), some (.inl (x3 + 1)), some (.inl (I (s1 + 5) (x3).toNat)), some (.inl ((((x2 * 32) + I (s1 + 5) (x3).toNat) * 32) + 0)), some (.inl 0), some (.inl (I 135 (16 * ((((x2 * 32) + I (s1 + 5) (x3).toNat) * 32) + 0).toNat + 0) % 16))]) d5_132 rfl e9 rfl ?_
          refine x_goto (pc2 := 2) d5_135 rfl ?_
          exact k
        · replace c : ¬ (¬ (I 135 (16 * ((((x2 * 32) + I (s1 + 5) (x3).toNat) * 32) + 0).toNat + 0) % 16) = 0) := c
          rw [if_neg c] at k
          refine x_aload_n d5_86 rfl ?_
          refine x_getR (r := 42) d5_87 gY_5.2.2.2 gF_0_47 rfl (sh_121 hW) (rf_121_1 hW) (by decide) ?_
          refine x_aload_n d5_90 rfl ?_
          refine x_iload_n d5_91 rfl ?_
          refine y_invI (as := [.inr s1, .inl x3]) (t := []) (o := 42) gY_52 d5_92 gY_5.2.2.2 gM_0_130 rfl (sh_42 hW) rfl k (fun v10 I11 k => ?_)
          refine x_iconst d5_95 rfl ?_
          have e12 := k.1
          replace k := k.2
          refine x_isub d5_96 e12 ?_
          refine x_iconst d5_97 rfl ?_
          have e13 := k.1
          replace k := k.2
          refine x_iadd d5_98 e13 ?_
          refine x_istore (ls2 := [some (.inr 121), some (.inr s1), some (.inl x2), some (.inl x3), some (.inl (I (s1 + 5) (x3).toNat)), some (.inl ((((x2 * 32) + I (s1 + 5) (x3).toNat) * 32) + 0)), some (.inl 0), some (.inl ((v10 - (-1)) + 1))]) d5_99 rfl rfl ?_
          refine x_aload_n d5_101 rfl ?_
          refine x_getR (r := 135) d5_102 gY_5.2.2.2 gF_0_25 rfl (sh_121 hW) (rf_121_5 hW) (by decide) ?_
          refine x_iload d5_105 rfl ?_
          refine x_dup2 d5_107 ?_
          have e14 := k.1
          replace k := k.2
          have e15 := k.1
          replace k := k.2
          refine x_lw d5_108 gLd_5_108 gSt_5_108 rfl rfl (sh_135 hW) e6.1 e6.2 (by decide) e14 e15 ?_
          refine x_aload_n d5_117 rfl ?_
          refine x_getR (r := 42) d5_118 gY_5.2.2.2 gF_0_47 rfl (sh_121 hW) (rf_121_1 hW) (by decide) ?_
          refine x_getR (r := 44) d5_121 gY_5.2.2.2 gF_0_80 rfl (sh_42 hW) (rf_42_3 hW) (by decide) ?_
          refine x_iload_n d5_124 rfl ?_
          refine x_iload d5_125 rfl ?_
          refine x_iconst d5_127 rfl ?_
          have e16 := k.1
          replace k := k.2
          refine x_isub d5_128 e16 ?_
          refine x_iconst d5_129 rfl ?_
          have e17 := k.1
          replace k := k.2
          refine x_iadd d5_130 e17 ?_
          refine x_iast d5_131 (sh_44 hW) e1.1 e1.2 ?_
          have e18 := k.1
          replace k := k.2
          refine x_iinc (ls2 := [some (.inr 121), some (.inr s1), some (.inl x2), some (.inl (x3 + 1)), some (.inl (I (s1 + 5) (x3).toNat)), some (.inl ((((x2 * 32) + I (s1 + 5) (x3).toNat) * 32) + 0)), some (.inl 0), some (.inl ((v10 - (-1)) + 1))]) d5_132 rfl e18 rfl ?_
          refine x_goto (pc2 := 2) d5_135 rfl ?_
          exact k
      · replace c : ¬ (I 121 8 = 0) := c
        rw [if_neg c] at k
        refine x_iconst d5_50 rfl ?_
        refine x_aload_n d5_51 rfl ?_
        refine x_getR (r := (s1 + 4)) d5_52 gY_5.2.2.2 gF_0_127 rfl hS1.1 hS1.2.2.2.2.2.2.2.2.2.1 (Nat.succ_ne_zero _) ?_
        refine x_iload d5_55 rfl ?_
        have e19 := k.1
        replace k := k.2
        refine x_iald d5_57 hS1.2.2.2.2.1 e19.1 e19.2 ?_
        have e20 := k.1
        replace k := k.2
        refine x_imul d5_58 e20 ?_
        refine x_goto (pc2 := 63) d5_59 rfl ?_
        refine x_istore (ls2 := [some (.inr 121), some (.inr s1), some (.inl x2), some (.inl x3), some (.inl (I (s1 + 5) (x3).toNat)), some (.inl ((((x2 * 32) + I (s1 + 5) (x3).toNat) * 32) + 0)), some (.inl (4 * I (s1 + 4) (I (s1 + 5) (x3).toNat).toNat)), u7]) d5_63 rfl rfl ?_
        refine x_aload_n d5_65 rfl ?_
        refine x_getR (r := 135) d5_66 gY_5.2.2.2 gF_0_25 rfl (sh_121 hW) (rf_121_5 hW) (by decide) ?_
        refine x_iload d5_69 rfl ?_
        have e21 := k.1
        replace k := k.2
        have e22 := k.1
        replace k := k.2
        refine x_lr d5_71 gLd_5_71 rfl (sh_135 hW) e21.1 e21.2 e22 ?_
        refine x_istore (ls2 := [some (.inr 121), some (.inr s1), some (.inl x2), some (.inl x3), some (.inl (I (s1 + 5) (x3).toNat)), some (.inl ((((x2 * 32) + I (s1 + 5) (x3).toNat) * 32) + 0)), some (.inl (4 * I (s1 + 4) (I (s1 + 5) (x3).toNat).toNat)), some (.inl (I 135 (16 * ((((x2 * 32) + I (s1 + 5) (x3).toNat) * 32) + 0).toNat + (4 * I (s1 + 4) (I (s1 + 5) (x3).toNat).toNat).toNat / 4) % 16))]) d5_79 rfl rfl ?_
        refine x_iload d5_81 rfl ?_
        refine x_if1 (pc2 := 117) d5_83 rfl (fun c => ?_) (fun c => ?_)
        · replace c : ¬ (I 135 (16 * ((((x2 * 32) + I (s1 + 5) (x3).toNat) * 32) + 0).toNat + (4 * I (s1 + 4) (I (s1 + 5) (x3).toNat).toNat).toNat / 4) % 16) = 0 := c
          rw [if_pos c] at k
          refine x_aload_n d5_117 rfl ?_
          refine x_getR (r := 42) d5_118 gY_5.2.2.2 gF_0_47 rfl (sh_121 hW) (rf_121_1 hW) (by decide) ?_
          refine x_getR (r := 44) d5_121 gY_5.2.2.2 gF_0_80 rfl (sh_42 hW) (rf_42_3 hW) (by decide) ?_
          refine x_iload_n d5_124 rfl ?_
          refine x_iload d5_125 rfl ?_
          refine x_iconst d5_127 rfl ?_
          have e23 := k.1
          replace k := k.2
          refine x_isub d5_128 e23 ?_
          refine x_iconst d5_129 rfl ?_
          have e24 := k.1
          replace k := k.2
          refine x_iadd d5_130 e24 ?_
          refine x_iast d5_131 (sh_44 hW) e1.1 e1.2 ?_
          have e25 := k.1
          replace k := k.2
          refine x_iinc (ls2 := [some (.inr 121), some (.inr s1), some (.inl x2), some (.inl (x3 + 1)), some (.inl (I (s1 + 5) (x3).toNat)), some (.inl ((((x2 * 32) + I (s1 + 5) (x3).toNat) * 32) + 0)), some (.inl (4 * I (s1 + 4) (I (s1 + 5) (x3).toNat).toNat)), some (.inl (I 135 (16 * ((((x2 * 32) + I (s1 + 5) (x3).toNat) * 32) + 0).toNat + (4 * I (s1 + 4) (I (s1 + 5) (x3).toNat).toNat).toNat / 4) % 16))]) d5_132 rfl e25 rfl ?_
          refine x_goto (pc2 := 2) d5_135 rfl ?_
          exact k
        · replace c : ¬ (¬ (I 135 (16 * ((((x2 * 32) + I (s1 + 5) (x3).toNat) * 32) + 0).toNat + (4 * I (s1 + 4) (I (s1 + 5) (x3).toNat).toNat).toNat / 4) % 16) = 0) := c
          rw [if_neg c] at k
          refine x_aload_n d5_86 rfl ?_
          refine x_getR (r := 42) d5_87 gY_5.2.2.2 gF_0_47 rfl (sh_121 hW) (rf_121_1 hW) (by decide) ?_
          refine x_aload_n d5_90 rfl ?_
          refine x_iload_n d5_91 rfl ?_
          refine y_invI (as := [.inr s1, .inl x3]) (t := []) (o := 42) gY_52 d5_92 gY_5.2.2.2 gM_0_130 rfl (sh_42 hW) rfl k (fun v26 I27 k => ?_)
          refine x_iconst d5_95 rfl ?_
          have e28 := k.1
          replace k := k.2
          refine x_isub d5_96 e28 ?_
          refine x_iconst d5_97 rfl ?_
          have e29 := k.1
          replace k := k.2
          refine x_iadd d5_98 e29 ?_
          refine x_istore (ls2 := [some (.inr 121), some (.inr s1), some (.inl x2), some (.inl x3), some (.inl (I (s1 + 5) (x3).toNat)), some (.inl ((((x2 * 32) + I (s1 + 5) (x3).toNat) * 32) + 0)), some (.inl (4 * I (s1 + 4) (I (s1 + 5) (x3).toNat).toNat)), some (.inl ((v26 - (-1)) + 1))]) d5_99 rfl rfl ?_
          refine x_aload_n d5_101 rfl ?_
          refine x_getR (r := 135) d5_102 gY_5.2.2.2 gF_0_25 rfl (sh_121 hW) (rf_121_5 hW) (by decide) ?_
          refine x_iload d5_105 rfl ?_
          refine x_dup2 d5_107 ?_
          have e30 := k.1
          replace k := k.2
          have e31 := k.1
          replace k := k.2
          refine x_lw d5_108 gLd_5_108 gSt_5_108 rfl rfl (sh_135 hW) e21.1 e21.2 e22 e30 e31 ?_
          refine x_aload_n d5_117 rfl ?_
          refine x_getR (r := 42) d5_118 gY_5.2.2.2 gF_0_47 rfl (sh_121 hW) (rf_121_1 hW) (by decide) ?_
          refine x_getR (r := 44) d5_121 gY_5.2.2.2 gF_0_80 rfl (sh_42 hW) (rf_42_3 hW) (by decide) ?_
          refine x_iload_n d5_124 rfl ?_
          refine x_iload d5_125 rfl ?_
          refine x_iconst d5_127 rfl ?_
          have e32 := k.1
          replace k := k.2
          refine x_isub d5_128 e32 ?_
          refine x_iconst d5_129 rfl ?_
          have e33 := k.1
          replace k := k.2
          refine x_iadd d5_130 e33 ?_
          refine x_iast d5_131 (sh_44 hW) e1.1 e1.2 ?_
          have e34 := k.1
          replace k := k.2
          refine x_iinc (ls2 := [some (.inr 121), some (.inr s1), some (.inl x2), some (.inl (x3 + 1)), some (.inl (I (s1 + 5) (x3).toNat)), some (.inl ((((x2 * 32) + I (s1 + 5) (x3).toNat) * 32) + 0)), some (.inl (4 * I (s1 + 4) (I (s1 + 5) (x3).toNat).toNat)), some (.inl ((v26 - (-1)) + 1))]) d5_132 rfl e34 rfl ?_
          refine x_goto (pc2 := 2) d5_135 rfl ?_
          exact k
    · replace c : ¬ (I 121 7 = 0) := c
      rw [if_neg c] at k
      refine x_iload_n d5_35 rfl ?_
      refine x_goto (pc2 := 40) d5_36 rfl ?_
      have e35 := k.1
      replace k := k.2
      refine x_iadd d5_40 e35 ?_
      refine x_istore (ls2 := [some (.inr 121), some (.inr s1), some (.inl x2), some (.inl x3), some (.inl (I (s1 + 5) (x3).toNat)), some (.inl ((((x2 * 32) + I (s1 + 5) (x3).toNat) * 32) + x3)), u6, u7]) d5_41 rfl rfl ?_
      refine x_aload_n d5_43 rfl ?_
      refine x_getI d5_44 gY_5.2.2.2 gF_0_36 rfl (sh_121 hW) ?_
      refine x_if1 (pc2 := 62) d5_47 rfl (fun c => ?_) (fun c => ?_)
      · replace c : I 121 8 = 0 := c
        rw [if_pos c] at k
        refine x_iconst d5_62 rfl ?_
        refine x_istore (ls2 := [some (.inr 121), some (.inr s1), some (.inl x2), some (.inl x3), some (.inl (I (s1 + 5) (x3).toNat)), some (.inl ((((x2 * 32) + I (s1 + 5) (x3).toNat) * 32) + x3)), some (.inl 0), u7]) d5_63 rfl rfl ?_
        refine x_aload_n d5_65 rfl ?_
        refine x_getR (r := 135) d5_66 gY_5.2.2.2 gF_0_25 rfl (sh_121 hW) (rf_121_5 hW) (by decide) ?_
        refine x_iload d5_69 rfl ?_
        have e36 := k.1
        replace k := k.2
        refine x_lr d5_71 gLd_5_71 rfl (sh_135 hW) e36.1 e36.2 (by decide) ?_
        refine x_istore (ls2 := [some (.inr 121), some (.inr s1), some (.inl x2), some (.inl x3), some (.inl (I (s1 + 5) (x3).toNat)), some (.inl ((((x2 * 32) + I (s1 + 5) (x3).toNat) * 32) + x3)), some (.inl 0), some (.inl (I 135 (16 * ((((x2 * 32) + I (s1 + 5) (x3).toNat) * 32) + x3).toNat + 0) % 16))]) d5_79 rfl rfl ?_
        refine x_iload d5_81 rfl ?_
        refine x_if1 (pc2 := 117) d5_83 rfl (fun c => ?_) (fun c => ?_)
        · replace c : ¬ (I 135 (16 * ((((x2 * 32) + I (s1 + 5) (x3).toNat) * 32) + x3).toNat + 0) % 16) = 0 := c
          rw [if_pos c] at k
          refine x_aload_n d5_117 rfl ?_
          refine x_getR (r := 42) d5_118 gY_5.2.2.2 gF_0_47 rfl (sh_121 hW) (rf_121_1 hW) (by decide) ?_
          refine x_getR (r := 44) d5_121 gY_5.2.2.2 gF_0_80 rfl (sh_42 hW) (rf_42_3 hW) (by decide) ?_
          refine x_iload_n d5_124 rfl ?_
          refine x_iload d5_125 rfl ?_
          refine x_iconst d5_127 rfl ?_
          have e37 := k.1
          replace k := k.2
          refine x_isub d5_128 e37 ?_
          refine x_iconst d5_129 rfl ?_
          have e38 := k.1
          replace k := k.2
          refine x_iadd d5_130 e38 ?_
          refine x_iast d5_131 (sh_44 hW) e1.1 e1.2 ?_
          have e39 := k.1
          replace k := k.2
          refine x_iinc (ls2 := [some (.inr 121), some (.inr s1), some (.inl x2), some (.inl (x3 + 1)), some (.inl (I (s1 + 5) (x3).toNat)), some (.inl ((((x2 * 32) + I (s1 + 5) (x3).toNat) * 32) + x3)), some (.inl 0), some (.inl (I 135 (16 * ((((x2 * 32) + I (s1 + 5) (x3).toNat) * 32) + x3).toNat + 0) % 16))]) d5_132 rfl e39 rfl ?_
          refine x_goto (pc2 := 2) d5_135 rfl ?_
          exact k
        · replace c : ¬ (¬ (I 135 (16 * ((((x2 * 32) + I (s1 + 5) (x3).toNat) * 32) + x3).toNat + 0) % 16) = 0) := c
          rw [if_neg c] at k
          refine x_aload_n d5_86 rfl ?_
          refine x_getR (r := 42) d5_87 gY_5.2.2.2 gF_0_47 rfl (sh_121 hW) (rf_121_1 hW) (by decide) ?_
          refine x_aload_n d5_90 rfl ?_
          refine x_iload_n d5_91 rfl ?_
          refine y_invI (as := [.inr s1, .inl x3]) (t := []) (o := 42) gY_52 d5_92 gY_5.2.2.2 gM_0_130 rfl (sh_42 hW) rfl k (fun v40 I41 k => ?_)
          refine x_iconst d5_95 rfl ?_
          have e42 := k.1
          replace k := k.2
          refine x_isub d5_96 e42 ?_
          refine x_iconst d5_97 rfl ?_
          have e43 := k.1
          replace k := k.2
          refine x_iadd d5_98 e43 ?_
          refine x_istore (ls2 := [some (.inr 121), some (.inr s1), some (.inl x2), some (.inl x3), some (.inl (I (s1 + 5) (x3).toNat)), some (.inl ((((x2 * 32) + I (s1 + 5) (x3).toNat) * 32) + x3)), some (.inl 0), some (.inl ((v40 - (-1)) + 1))]) d5_99 rfl rfl ?_
          refine x_aload_n d5_101 rfl ?_
          refine x_getR (r := 135) d5_102 gY_5.2.2.2 gF_0_25 rfl (sh_121 hW) (rf_121_5 hW) (by decide) ?_
          refine x_iload d5_105 rfl ?_
          refine x_dup2 d5_107 ?_
          have e44 := k.1
          replace k := k.2
          have e45 := k.1
          replace k := k.2
          refine x_lw d5_108 gLd_5_108 gSt_5_108 rfl rfl (sh_135 hW) e36.1 e36.2 (by decide) e44 e45 ?_
          refine x_aload_n d5_117 rfl ?_
          refine x_getR (r := 42) d5_118 gY_5.2.2.2 gF_0_47 rfl (sh_121 hW) (rf_121_1 hW) (by decide) ?_
          refine x_getR (r := 44) d5_121 gY_5.2.2.2 gF_0_80 rfl (sh_42 hW) (rf_42_3 hW) (by decide) ?_
          refine x_iload_n d5_124 rfl ?_
          refine x_iload d5_125 rfl ?_
          refine x_iconst d5_127 rfl ?_
          have e46 := k.1
          replace k := k.2
          refine x_isub d5_128 e46 ?_
          refine x_iconst d5_129 rfl ?_
          have e47 := k.1
          replace k := k.2
          refine x_iadd d5_130 e47 ?_
          refine x_iast d5_131 (sh_44 hW) e1.1 e1.2 ?_
          have e48 := k.1
          replace k := k.2
          refine x_iinc (ls2 := [some (.inr 121), some (.inr s1), some (.inl x2), some (.inl (x3 + 1)), some (.inl (I (s1 + 5) (x3).toNat)), some (.inl ((((x2 * 32) + I (s1 + 5) (x3).toNat) * 32) + x3)), some (.inl 0), some (.inl ((v40 - (-1)) + 1))]) d5_132 rfl e48 rfl ?_
          refine x_goto (pc2 := 2) d5_135 rfl ?_
          exact k
      · replace c : ¬ (I 121 8 = 0) := c
        rw [if_neg c] at k
        refine x_iconst d5_50 rfl ?_
        refine x_aload_n d5_51 rfl ?_
        refine x_getR (r := (s1 + 4)) d5_52 gY_5.2.2.2 gF_0_127 rfl hS1.1 hS1.2.2.2.2.2.2.2.2.2.1 (Nat.succ_ne_zero _) ?_
        refine x_iload d5_55 rfl ?_
        have e49 := k.1
        replace k := k.2
        refine x_iald d5_57 hS1.2.2.2.2.1 e49.1 e49.2 ?_
        have e50 := k.1
        replace k := k.2
        refine x_imul d5_58 e50 ?_
        refine x_goto (pc2 := 63) d5_59 rfl ?_
        refine x_istore (ls2 := [some (.inr 121), some (.inr s1), some (.inl x2), some (.inl x3), some (.inl (I (s1 + 5) (x3).toNat)), some (.inl ((((x2 * 32) + I (s1 + 5) (x3).toNat) * 32) + x3)), some (.inl (4 * I (s1 + 4) (I (s1 + 5) (x3).toNat).toNat)), u7]) d5_63 rfl rfl ?_
        refine x_aload_n d5_65 rfl ?_
        refine x_getR (r := 135) d5_66 gY_5.2.2.2 gF_0_25 rfl (sh_121 hW) (rf_121_5 hW) (by decide) ?_
        refine x_iload d5_69 rfl ?_
        have e51 := k.1
        replace k := k.2
        have e52 := k.1
        replace k := k.2
        refine x_lr d5_71 gLd_5_71 rfl (sh_135 hW) e51.1 e51.2 e52 ?_
        refine x_istore (ls2 := [some (.inr 121), some (.inr s1), some (.inl x2), some (.inl x3), some (.inl (I (s1 + 5) (x3).toNat)), some (.inl ((((x2 * 32) + I (s1 + 5) (x3).toNat) * 32) + x3)), some (.inl (4 * I (s1 + 4) (I (s1 + 5) (x3).toNat).toNat)), some (.inl (I 135 (16 * ((((x2 * 32) + I (s1 + 5) (x3).toNat) * 32) + x3).toNat + (4 * I (s1 + 4) (I (s1 + 5) (x3).toNat).toNat).toNat / 4) % 16))]) d5_79 rfl rfl ?_
        refine x_iload d5_81 rfl ?_
        refine x_if1 (pc2 := 117) d5_83 rfl (fun c => ?_) (fun c => ?_)
        · replace c : ¬ (I 135 (16 * ((((x2 * 32) + I (s1 + 5) (x3).toNat) * 32) + x3).toNat + (4 * I (s1 + 4) (I (s1 + 5) (x3).toNat).toNat).toNat / 4) % 16) = 0 := c
          rw [if_pos c] at k
          refine x_aload_n d5_117 rfl ?_
          refine x_getR (r := 42) d5_118 gY_5.2.2.2 gF_0_47 rfl (sh_121 hW) (rf_121_1 hW) (by decide) ?_
          refine x_getR (r := 44) d5_121 gY_5.2.2.2 gF_0_80 rfl (sh_42 hW) (rf_42_3 hW) (by decide) ?_
          refine x_iload_n d5_124 rfl ?_
          refine x_iload d5_125 rfl ?_
          refine x_iconst d5_127 rfl ?_
          have e53 := k.1
          replace k := k.2
          refine x_isub d5_128 e53 ?_
          refine x_iconst d5_129 rfl ?_
          have e54 := k.1
          replace k := k.2
          refine x_iadd d5_130 e54 ?_
          refine x_iast d5_131 (sh_44 hW) e1.1 e1.2 ?_
          have e55 := k.1
          replace k := k.2
          refine x_iinc (ls2 := [some (.inr 121), some (.inr s1), some (.inl x2), some (.inl (x3 + 1)), some (.inl (I (s1 + 5) (x3).toNat)), some (.inl ((((x2 * 32) + I (s1 + 5) (x3).toNat) * 32) + x3)), some (.inl (4 * I (s1 + 4) (I (s1 + 5) (x3).toNat).toNat)), some (.inl (I 135 (16 * ((((x2 * 32) + I (s1 + 5) (x3).toNat) * 32) + x3).toNat + (4 * I (s1 + 4) (I (s1 + 5) (x3).toNat).toNat).toNat / 4) % 16))]) d5_132 rfl e55 rfl ?_
          refine x_goto (pc2 := 2) d5_135 rfl ?_
          exact k
        · replace c : ¬ (¬ (I 135 (16 * ((((x2 * 32) + I (s1 + 5) (x3).toNat) * 32) + x3).toNat + (4 * I (s1 + 4) (I (s1 + 5) (x3).toNat).toNat).toNat / 4) % 16) = 0) := c
          rw [if_neg c] at k
          refine x_aload_n d5_86 rfl ?_
          refine x_getR (r := 42) d5_87 gY_5.2.2.2 gF_0_47 rfl (sh_121 hW) (rf_121_1 hW) (by decide) ?_
          refine x_aload_n d5_90 rfl ?_
          refine x_iload_n d5_91 rfl ?_
          refine y_invI (as := [.inr s1, .inl x3]) (t := []) (o := 42) gY_52 d5_92 gY_5.2.2.2 gM_0_130 rfl (sh_42 hW) rfl k (fun v56 I57 k => ?_)
          refine x_iconst d5_95 rfl ?_
          have e58 := k.1
          replace k := k.2
          refine x_isub d5_96 e58 ?_
          refine x_iconst d5_97 rfl ?_
          have e59 := k.1
          replace k := k.2
          refine x_iadd d5_98 e59 ?_
          refine x_istore (ls2 := [some (.inr 121), some (.inr s1), some (.inl x2), some (.inl x3), some (.inl (I (s1 + 5) (x3).toNat)), some (.inl ((((x2 * 32) + I (s1 + 5) (x3).toNat) * 32) + x3)), some (.inl (4 * I (s1 + 4) (I (s1 + 5) (x3).toNat).toNat)), some (.inl ((v56 - (-1)) + 1))]) d5_99 rfl rfl ?_
          refine x_aload_n d5_101 rfl ?_
          refine x_getR (r := 135) d5_102 gY_5.2.2.2 gF_0_25 rfl (sh_121 hW) (rf_121_5 hW) (by decide) ?_
          refine x_iload d5_105 rfl ?_
          refine x_dup2 d5_107 ?_
          have e60 := k.1
          replace k := k.2
          have e61 := k.1
          replace k := k.2
          refine x_lw d5_108 gLd_5_108 gSt_5_108 rfl rfl (sh_135 hW) e51.1 e51.2 e52 e60 e61 ?_
          refine x_aload_n d5_117 rfl ?_
          refine x_getR (r := 42) d5_118 gY_5.2.2.2 gF_0_47 rfl (sh_121 hW) (rf_121_1 hW) (by decide) ?_
          refine x_getR (r := 44) d5_121 gY_5.2.2.2 gF_0_80 rfl (sh_42 hW) (rf_42_3 hW) (by decide) ?_
          refine x_iload_n d5_124 rfl ?_
          refine x_iload d5_125 rfl ?_
          refine x_iconst d5_127 rfl ?_
          have e62 := k.1
          replace k := k.2
          refine x_isub d5_128 e62 ?_
          refine x_iconst d5_129 rfl ?_
          have e63 := k.1
          replace k := k.2
          refine x_iadd d5_130 e63 ?_
          refine x_iast d5_131 (sh_44 hW) e1.1 e1.2 ?_
          have e64 := k.1
          replace k := k.2
          refine x_iinc (ls2 := [some (.inr 121), some (.inr s1), some (.inl x2), some (.inl (x3 + 1)), some (.inl (I (s1 + 5) (x3).toNat)), some (.inl ((((x2 * 32) + I (s1 + 5) (x3).toNat) * 32) + x3)), some (.inl (4 * I (s1 + 4) (I (s1 + 5) (x3).toNat).toNat)), some (.inl ((v56 - (-1)) + 1))]) d5_132 rfl e64 rfl ?_
          refine x_goto (pc2 := 2) d5_135 rfl ?_
          exact k
set_option maxHeartbeats 4000000 in
theorem b_W_clear_0 {d n : Nat} {sh : ZS} {R : ZR} {I : ZI} {Q : ZI → Prop} (hW : Wf sh R) {lw : Nat} (hw : Lw sh R lw)
    (k : Q (zup (zup (zup I lw 7 0) lw 8 0) lw 9 0)) : XV d 7 [.inr lw] n sh R I Q := by
  refine XV.of (ls := [some (.inr lw)]) (zloc_eq gY_7.2.2.1) ?_
  unfold XVs
  refine x_aload_n d7_0 rfl ?_
  refine x_iconst d7_1 rfl ?_
  refine x_putI d7_2 gY_7.2.2.2 gF_1_31 rfl rfl hw.2.1 ?_
  refine x_aload_n d7_5 rfl ?_
  refine x_iconst d7_6 rfl ?_
  refine x_putI d7_7 gY_7.2.2.2 gF_1_35 rfl rfl hw.2.1 ?_
  refine x_aload_n d7_10 rfl ?_
  refine x_iconst d7_11 rfl ?_
  refine x_putI d7_12 gY_7.2.2.2 gF_1_38 rfl rfl hw.2.1 ?_
  exact x_vret d7_15 gR_7 ⟨_, rfl, rfl, k⟩
set_option maxHeartbeats 4000000 in
theorem b_W_emit_0 {d n : Nat} {sh : ZS} {R : ZR} {I : ZI} {Q : Int → ZI → Prop} (hW : Wf sh R) {lw : Nat} (hw : Lw sh R lw) {x1 : Int} {x2 : Int}
    (k : (if 200 ≤ I lw 8 then (if ¬ x1 = 120 then Q (I lw 8) I else Q (I lw 8) (zup I lw 9 (zor (I lw 9) (zshl 1 x2)))) else (0 ≤ I lw 8 ∧ I lw 8 < 200) ∧ (zr ((zup (zup I (lw + 5) (I lw 8).toNat x1) (lw + 6) (I lw 8).toNat x2) lw 8 + 1)) ∧ (if ¬ x1 = 120 then Q (I lw 8) (zup (zup (zup I (lw + 5) (I lw 8).toNat x1) (lw + 6) (I lw 8).toNat x2) lw 8 ((zup (zup I (lw + 5) (I lw 8).toNat x1) (lw + 6) (I lw 8).toNat x2) lw 8 + 1)) else Q (I lw 8) (zup (zup (zup (zup I (lw + 5) (I lw 8).toNat x1) (lw + 6) (I lw 8).toNat x2) lw 8 ((zup (zup I (lw + 5) (I lw 8).toNat x1) (lw + 6) (I lw 8).toNat x2) lw 8 + 1)) lw 9 (zor ((zup (zup (zup I (lw + 5) (I lw 8).toNat x1) (lw + 6) (I lw 8).toNat x2) lw 8 ((zup (zup I (lw + 5) (I lw 8).toNat x1) (lw + 6) (I lw 8).toNat x2) lw 8 + 1)) lw 9) (zshl 1 x2)))))) : XI d 8 [.inr lw, .inl x1, .inl x2] n sh R I Q := by
  refine XI.of (ls := [some (.inr lw), some (.inl x1), some (.inl x2), none]) (zloc_eq gY_8.2.2.1) ?_
  unfold XIs
  refine x_aload_n d8_0 rfl ?_
  refine x_getI d8_1 gY_8.2.2.2 gF_1_35 rfl hw.2.1 ?_
  refine x_istore_n (ls2 := [some (.inr lw), some (.inl x1), some (.inl x2), some (.inl (I lw 8))]) d8_4 rfl rfl ?_
  refine x_iload_n d8_5 rfl ?_
  refine x_sipush d8_6 rfl ?_
  refine x_if2 (pc2 := 36) d8_9 rfl (fun c => ?_) (fun c => ?_)
  · replace c : 200 ≤ I lw 8 := c
    rw [if_pos c] at k
    refine x_iload_n d8_36 rfl ?_
    refine x_bipush d8_37 rfl ?_
    refine x_if2 (pc2 := 54) d8_39 rfl (fun c => ?_) (fun c => ?_)
    · replace c : ¬ x1 = 120 := c
      rw [if_pos c] at k
      refine x_iload_n d8_54 rfl ?_
      exact x_iret d8_55 gR_8 ⟨_, _, rfl, rfl, k⟩
    · replace c : ¬ (¬ x1 = 120) := c
      rw [if_neg c] at k
      refine x_aload_n d8_42 rfl ?_
      refine x_dup d8_43 ?_
      refine x_getI d8_44 gY_8.2.2.2 gF_1_38 rfl hw.2.1 ?_
      refine x_iconst d8_47 rfl ?_
      refine x_iload_n d8_48 rfl ?_
      refine x_ishl d8_49 ?_
      refine x_ior d8_50 ?_
      refine x_putI d8_51 gY_8.2.2.2 gF_1_38 rfl rfl hw.2.1 ?_
      refine x_iload_n d8_54 rfl ?_
      exact x_iret d8_55 gR_8 ⟨_, _, rfl, rfl, k⟩
  · replace c : ¬ (200 ≤ I lw 8) := c
    rw [if_neg c] at k
    refine x_aload_n d8_12 rfl ?_
    refine x_getR (r := (lw + 5)) d8_13 gY_8.2.2.2 gF_1_22 rfl hw.2.1 hw.2.2.2.2.2.2.2.1 (Nat.succ_ne_zero _) ?_
    refine x_iload_n d8_16 rfl ?_
    refine x_iload_n d8_17 rfl ?_
    have e1 := k.1
    replace k := k.2
    refine x_iast d8_18 hw.2.2.1.2.2.2.2.1 e1.1 e1.2 ?_
    refine x_aload_n d8_19 rfl ?_
    refine x_getR (r := (lw + 6)) d8_20 gY_8.2.2.2 gF_1_25 rfl hw.2.1 hw.2.2.2.2.2.2.2.2.1 (Nat.succ_ne_zero _) ?_
    refine x_iload_n d8_23 rfl ?_
    refine x_iload_n d8_24 rfl ?_
    refine x_iast d8_25 hw.2.2.1.2.2.2.2.2.1 e1.1 e1.2 ?_
    refine x_aload_n d8_26 rfl ?_
    refine x_dup d8_27 ?_
    refine x_getI d8_28 gY_8.2.2.2 gF_1_35 rfl hw.2.1 ?_
    refine x_iconst d8_31 rfl ?_
    have e2 := k.1
    replace k := k.2
    refine x_iadd d8_32 e2 ?_
    refine x_putI d8_33 gY_8.2.2.2 gF_1_35 rfl rfl hw.2.1 ?_
    refine x_iload_n d8_36 rfl ?_
    refine x_bipush d8_37 rfl ?_
    refine x_if2 (pc2 := 54) d8_39 rfl (fun c => ?_) (fun c => ?_)
    · replace c : ¬ x1 = 120 := c
      rw [if_pos c] at k
      refine x_iload_n d8_54 rfl ?_
      exact x_iret d8_55 gR_8 ⟨_, _, rfl, rfl, k⟩
    · replace c : ¬ (¬ x1 = 120) := c
      rw [if_neg c] at k
      refine x_aload_n d8_42 rfl ?_
      refine x_dup d8_43 ?_
      refine x_getI d8_44 gY_8.2.2.2 gF_1_38 rfl hw.2.1 ?_
      refine x_iconst d8_47 rfl ?_
      refine x_iload_n d8_48 rfl ?_
      refine x_ishl d8_49 ?_
      refine x_ior d8_50 ?_
      refine x_putI d8_51 gY_8.2.2.2 gF_1_38 rfl rfl hw.2.1 ?_
      refine x_iload_n d8_54 rfl ?_
      exact x_iret d8_55 gR_8 ⟨_, _, rfl, rfl, k⟩
set_option maxHeartbeats 4000000 in
theorem b_W_bridge_0 {d n : Nat} {sh : ZS} {R : ZR} {I : ZI} {Q : ZI → Prop} (hW : Wf sh R) {lw : Nat} (hw : Lw sh R lw) {x1 : Int}
    (k : (if x1 < 0 then Q I else (if I lw 8 ≤ x1 then Q I else (zr (I lw 8 - x1)) ∧ (zr ((I lw 8 - x1) - 1)) ∧ (0 ≤ x1 ∧ x1 < 200) ∧ Q (zup I (lw + 6) (x1).toNat ((I lw 8 - x1) - 1))))) : XV d 9 [.inr lw, .inl x1] n sh R I Q := by
  refine XV.of (ls := [some (.inr lw), some (.inl x1)]) (zloc_eq gY_9.2.2.1) ?_
  unfold XVs
  refine x_iload_n d9_0 rfl ?_
  refine x_if1 (pc2 := 26) d9_1 rfl (fun c => ?_) (fun c => ?_)
  · replace c : x1 < 0 := c
    rw [if_pos c] at k
    exact x_vret d9_26 gR_9 ⟨_, rfl, rfl, k⟩
  · replace c : ¬ (x1 < 0) := c
    rw [if_neg c] at k
    refine x_iload_n d9_4 rfl ?_
    refine x_aload_n d9_5 rfl ?_
    refine x_getI d9_6 gY_9.2.2.2 gF_1_35 rfl hw.2.1 ?_
    refine x_if2 (pc2 := 26) d9_9 rfl (fun c => ?_) (fun c => ?_)
    · replace c : I lw 8 ≤ x1 := c
      rw [if_pos c] at k
      exact x_vret d9_26 gR_9 ⟨_, rfl, rfl, k⟩
    · replace c : ¬ (I lw 8 ≤ x1) := c
      rw [if_neg c] at k
      refine x_aload_n d9_12 rfl ?_
      refine x_getR (r := (lw + 6)) d9_13 gY_9.2.2.2 gF_1_25 rfl hw.2.1 hw.2.2.2.2.2.2.2.2.1 (Nat.succ_ne_zero _) ?_
      refine x_iload_n d9_16 rfl ?_
      refine x_aload_n d9_17 rfl ?_
      refine x_getI d9_18 gY_9.2.2.2 gF_1_35 rfl hw.2.1 ?_
      refine x_iload_n d9_21 rfl ?_
      have e1 := k.1
      replace k := k.2
      refine x_isub d9_22 e1 ?_
      refine x_iconst d9_23 rfl ?_
      have e2 := k.1
      replace k := k.2
      refine x_isub d9_24 e2 ?_
      have e3 := k.1
      replace k := k.2
      refine x_iast d9_25 hw.2.2.1.2.2.2.2.2.1 e3.1 e3.2 ?_
      exact x_vret d9_26 gR_9 ⟨_, rfl, rfl, k⟩
set_option maxHeartbeats 4000000 in
theorem b_W_addClause_0 {d n : Nat} {sh : ZS} {R : ZR} {I : ZI} {Q : ZI → Prop} (hW : Wf sh R) {lw : Nat} (hw : Lw sh R lw) {x1 : Int} {x2 : Int} {x3 : Int}
    (k : (if 14 ≤ I lw 7 then Q I else (0 ≤ I lw 7 ∧ I lw 7 < 14) ∧ (0 ≤ (zup I (lw + 1) (I lw 7).toNat x1) lw 7 ∧ (zup I (lw + 1) (I lw 7).toNat x1) lw 7 < 14) ∧ (0 ≤ (zup (zup I (lw + 1) (I lw 7).toNat x1) (lw + 2) ((zup I (lw + 1) (I lw 7).toNat x1) lw 7).toNat x2) lw 7 ∧ (zup (zup I (lw + 1) (I lw 7).toNat x1) (lw + 2) ((zup I (lw + 1) (I lw 7).toNat x1) lw 7).toNat x2) lw 7 < 14) ∧ (0 ≤ (zup (zup (zup I (lw + 1) (I lw 7).toNat x1) (lw + 2) ((zup I (lw + 1) (I lw 7).toNat x1) lw 7).toNat x2) (lw + 3) ((zup (zup I (lw + 1) (I lw 7).toNat x1) (lw + 2) ((zup I (lw + 1) (I lw 7).toNat x1) lw 7).toNat x2) lw 7).toNat x3) lw 7 ∧ (zup (zup (zup I (lw + 1) (I lw 7).toNat x1) (lw + 2) ((zup I (lw + 1) (I lw 7).toNat x1) lw 7).toNat x2) (lw + 3) ((zup (zup I (lw + 1) (I lw 7).toNat x1) (lw + 2) ((zup I (lw + 1) (I lw 7).toNat x1) lw 7).toNat x2) lw 7).toNat x3) lw 7 < 14) ∧ (zr ((zup (zup (zup (zup I (lw + 1) (I lw 7).toNat x1) (lw + 2) ((zup I (lw + 1) (I lw 7).toNat x1) lw 7).toNat x2) (lw + 3) ((zup (zup I (lw + 1) (I lw 7).toNat x1) (lw + 2) ((zup I (lw + 1) (I lw 7).toNat x1) lw 7).toNat x2) lw 7).toNat x3) (lw + 4) ((zup (zup (zup I (lw + 1) (I lw 7).toNat x1) (lw + 2) ((zup I (lw + 1) (I lw 7).toNat x1) lw 7).toNat x2) (lw + 3) ((zup (zup I (lw + 1) (I lw 7).toNat x1) (lw + 2) ((zup I (lw + 1) (I lw 7).toNat x1) lw 7).toNat x2) lw 7).toNat x3) lw 7).toNat ((zup (zup (zup I (lw + 1) (I lw 7).toNat x1) (lw + 2) ((zup I (lw + 1) (I lw 7).toNat x1) lw 7).toNat x2) (lw + 3) ((zup (zup I (lw + 1) (I lw 7).toNat x1) (lw + 2) ((zup I (lw + 1) (I lw 7).toNat x1) lw 7).toNat x2) lw 7).toNat x3) lw 8)) lw 7 + 1)) ∧ Q (zup (zup (zup (zup (zup I (lw + 1) (I lw 7).toNat x1) (lw + 2) ((zup I (lw + 1) (I lw 7).toNat x1) lw 7).toNat x2) (lw + 3) ((zup (zup I (lw + 1) (I lw 7).toNat x1) (lw + 2) ((zup I (lw + 1) (I lw 7).toNat x1) lw 7).toNat x2) lw 7).toNat x3) (lw + 4) ((zup (zup (zup I (lw + 1) (I lw 7).toNat x1) (lw + 2) ((zup I (lw + 1) (I lw 7).toNat x1) lw 7).toNat x2) (lw + 3) ((zup (zup I (lw + 1) (I lw 7).toNat x1) (lw + 2) ((zup I (lw + 1) (I lw 7).toNat x1) lw 7).toNat x2) lw 7).toNat x3) lw 7).toNat ((zup (zup (zup I (lw + 1) (I lw 7).toNat x1) (lw + 2) ((zup I (lw + 1) (I lw 7).toNat x1) lw 7).toNat x2) (lw + 3) ((zup (zup I (lw + 1) (I lw 7).toNat x1) (lw + 2) ((zup I (lw + 1) (I lw 7).toNat x1) lw 7).toNat x2) lw 7).toNat x3) lw 8)) lw 7 ((zup (zup (zup (zup I (lw + 1) (I lw 7).toNat x1) (lw + 2) ((zup I (lw + 1) (I lw 7).toNat x1) lw 7).toNat x2) (lw + 3) ((zup (zup I (lw + 1) (I lw 7).toNat x1) (lw + 2) ((zup I (lw + 1) (I lw 7).toNat x1) lw 7).toNat x2) lw 7).toNat x3) (lw + 4) ((zup (zup (zup I (lw + 1) (I lw 7).toNat x1) (lw + 2) ((zup I (lw + 1) (I lw 7).toNat x1) lw 7).toNat x2) (lw + 3) ((zup (zup I (lw + 1) (I lw 7).toNat x1) (lw + 2) ((zup I (lw + 1) (I lw 7).toNat x1) lw 7).toNat x2) lw 7).toNat x3) lw 7).toNat ((zup (zup (zup I (lw + 1) (I lw 7).toNat x1) (lw + 2) ((zup I (lw + 1) (I lw 7).toNat x1) lw 7).toNat x2) (lw + 3) ((zup (zup I (lw + 1) (I lw 7).toNat x1) (lw + 2) ((zup I (lw + 1) (I lw 7).toNat x1) lw 7).toNat x2) lw 7).toNat x3) lw 8)) lw 7 + 1)))) : XV d 10 [.inr lw, .inl x1, .inl x2, .inl x3] n sh R I Q := by
  refine XV.of (ls := [some (.inr lw), some (.inl x1), some (.inl x2), some (.inl x3)]) (zloc_eq gY_10.2.2.1) ?_
  unfold XVs
  refine x_aload_n d10_0 rfl ?_
  refine x_getI d10_1 gY_10.2.2.2 gF_1_31 rfl hw.2.1 ?_
  refine x_bipush d10_4 rfl ?_
  refine x_if2 (pc2 := 62) d10_6 rfl (fun c => ?_) (fun c => ?_)
  · replace c : 14 ≤ I lw 7 := c
    rw [if_pos c] at k
    exact x_vret d10_62 gR_10 ⟨_, rfl, rfl, k⟩
  · replace c : ¬ (14 ≤ I lw 7) := c
    rw [if_neg c] at k
    refine x_aload_n d10_9 rfl ?_
    refine x_getR (r := (lw + 1)) d10_10 gY_10.2.2.2 gF_1_9 rfl hw.2.1 hw.2.2.2.1 (Nat.succ_ne_zero _) ?_
    refine x_aload_n d10_13 rfl ?_
    refine x_getI d10_14 gY_10.2.2.2 gF_1_31 rfl hw.2.1 ?_
    refine x_iload_n d10_17 rfl ?_
    have e1 := k.1
    replace k := k.2
    refine x_iast d10_18 hw.2.2.1.1 e1.1 e1.2 ?_
    refine x_aload_n d10_19 rfl ?_
    refine x_getR (r := (lw + 2)) d10_20 gY_10.2.2.2 gF_1_13 rfl hw.2.1 hw.2.2.2.2.1 (Nat.succ_ne_zero _) ?_
    refine x_aload_n d10_23 rfl ?_
    refine x_getI d10_24 gY_10.2.2.2 gF_1_31 rfl hw.2.1 ?_
    refine x_iload_n d10_27 rfl ?_
    have e2 := k.1
    replace k := k.2
    refine x_iast d10_28 hw.2.2.1.2.1 e2.1 e2.2 ?_
    refine x_aload_n d10_29 rfl ?_
    refine x_getR (r := (lw + 3)) d10_30 gY_10.2.2.2 gF_1_16 rfl hw.2.1 hw.2.2.2.2.2.1 (Nat.succ_ne_zero _) ?_
    refine x_aload_n d10_33 rfl ?_
    refine x_getI d10_34 gY_10.2.2.2 gF_1_31 rfl hw.2.1 ?_
    refine x_iload_n d10_37 rfl ?_
    have e3 := k.1
    replace k := k.2
    refine x_iast d10_38 hw.2.2.1.2.2.1 e3.1 e3.2 ?_
    refine x_aload_n d10_39 rfl ?_
    refine x_getR (r := (lw + 4)) d10_40 gY_10.2.2.2 gF_1_19 rfl hw.2.1 hw.2.2.2.2.2.2.1 (Nat.succ_ne_zero _) ?_
    refine x_aload_n d10_43 rfl ?_
    refine x_getI d10_44 gY_10.2.2.2 gF_1_31 rfl hw.2.1 ?_
    refine x_aload_n d10_47 rfl ?_
    refine x_getI d10_48 gY_10.2.2.2 gF_1_35 rfl hw.2.1 ?_
    have e4 := k.1
    replace k := k.2
    refine x_iast d10_51 hw.2.2.1.2.2.2.1 e4.1 e4.2 ?_
    refine x_aload_n d10_52 rfl ?_
    refine x_dup d10_53 ?_
    refine x_getI d10_54 gY_10.2.2.2 gF_1_31 rfl hw.2.1 ?_
    refine x_iconst d10_57 rfl ?_
    have e5 := k.1
    replace k := k.2
    refine x_iadd d10_58 e5 ?_
    refine x_putI d10_59 gY_10.2.2.2 gF_1_31 rfl rfl hw.2.1 ?_
    exact x_vret d10_62 gR_10 ⟨_, rfl, rfl, k⟩
set_option maxHeartbeats 4000000 in
theorem b_W_asks_0 {d n : Nat} {sh : ZS} {R : ZR} {I : ZI} {Q : Int → ZI → Prop} (hW : Wf sh R) {lw : Nat} (hw : Lw sh R lw) {x1 : Int}
    (k : (if (zand (zshr (I lw 9) (zIdx x1)) 1) = 0 then Q 0 I else Q 1 I)) : XI d 11 [.inr lw, .inl x1] n sh R I Q := by
  refine XI.of (ls := [some (.inr lw), some (.inl x1)]) (zloc_eq gY_11.2.2.1) ?_
  unfold XIs
  refine x_aload_n d11_0 rfl ?_
  refine x_getI d11_1 gY_11.2.2.2 gF_1_38 rfl hw.2.1 ?_
  refine x_ldcS d11_4 gY_11.2.2.2 gK_1_41.1 gK_1_41.2 hW.2.2 ?_
  refine x_iload_n d11_6 rfl ?_
  refine x_idx d11_7 gY_11.2.2.2 gM_1_43 (of_decide_eq_true rfl) hW.2.2 ?_
  refine x_ishr d11_10 ?_
  refine x_iconst d11_11 rfl ?_
  refine x_iand d11_12 ?_
  refine x_if1 (pc2 := 20) d11_13 rfl (fun c => ?_) (fun c => ?_)
  · replace c : (zand (zshr (I lw 9) (zIdx x1)) 1) = 0 := c
    rw [if_pos c] at k
    refine x_iconst d11_20 rfl ?_
    exact x_zret d11_21 gR_11 (by decide) ⟨_, _, rfl, rfl, k⟩
  · replace c : ¬ ((zand (zshr (I lw 9) (zIdx x1)) 1) = 0) := c
    rw [if_neg c] at k
    refine x_iconst d11_16 rfl ?_
    refine x_goto (pc2 := 21) d11_17 rfl ?_
    exact x_zret d11_21 gR_11 (by decide) ⟨_, _, rfl, rfl, k⟩
set_option maxHeartbeats 4000000 in
theorem b_W_leavesOut_0 {d n : Nat} {sh : ZS} {R : ZR} {I : ZI} {Q : Int → ZI → Prop} (hW : Wf sh R) {lw : Nat} (hw : Lw sh R lw)
    (k : XIs (d + 2) 12 2 [some (.inr lw), some (.inr 43), some (.inl 0)] [] n sh R I Q) : XI (d + 2) 12 [.inr lw, .inr 43] n sh R I Q := by
  refine XI.of (ls := [some (.inr lw), some (.inr 43), none]) (zloc_eq gY_12.2.2.1) ?_
  unfold XIs
  refine x_iconst d12_0 rfl ?_
  refine x_istore_n (ls2 := [some (.inr lw), some (.inr 43), some (.inl 0)]) d12_1 rfl rfl ?_
  exact k
set_option maxHeartbeats 4000000 in
theorem b_W_leavesOut_2 {d n : Nat} {sh : ZS} {R : ZR} {I : ZI} {Q : Int → ZI → Prop} (hW : Wf sh R) {lw : Nat} (hw : Lw sh R lw) {x2 : Int}
    (k : (if I lw 7 ≤ x2 then Q 0 I else (0 ≤ x2 ∧ x2 < 14) ∧ (if ¬ I (lw + 1) (x2).toNat = 122 then (zr (x2 + 1)) ∧ XIs (d + 2) 12 2 [some (.inr lw), some (.inr 43), some (.inl (x2 + 1))] [] n sh R I Q else XI (d + 1) 14 [.inr lw, .inl (I (lw + 3) (x2).toNat), .inl (I (lw + 4) (x2).toNat), .inr 43] n sh R I (fun v3 I4 => (if v3 = 0 then (zr (x2 + 1)) ∧ XIs (d + 2) 12 2 [some (.inr lw), some (.inr 43), some (.inl (x2 + 1))] [] n sh R I4 Q else Q 1 I4))))) : XIs (d + 2) 12 2 [some (.inr lw), some (.inr 43), some (.inl x2)] [] n sh R I Q := by
  unfold XIs
  refine x_iload_n d12_2 rfl ?_
  refine x_aload_n d12_3 rfl ?_
  refine x_getI d12_4 gY_12.2.2.2 gF_1_31 rfl hw.2.1 ?_
  refine x_if2 (pc2 := 49) d12_7 rfl (fun c => ?_) (fun c => ?_)
  · replace c : I lw 7 ≤ x2 := c
    rw [if_pos c] at k
    refine x_iconst d12_49 rfl ?_
    exact x_zret d12_50 gR_12 (by decide) ⟨_, _, rfl, rfl, k⟩
  · replace c : ¬ (I lw 7 ≤ x2) := c
    rw [if_neg c] at k
    refine x_aload_n d12_10 rfl ?_
    refine x_getR (r := (lw + 1)) d12_11 gY_12.2.2.2 gF_1_9 rfl hw.2.1 hw.2.2.2.1 (Nat.succ_ne_zero _) ?_
    refine x_iload_n d12_14 rfl ?_
    have e1 := k.1
    replace k := k.2
    refine x_iald d12_15 hw.2.2.1.1 e1.1 e1.2 ?_
    refine x_bipush d12_16 rfl ?_
    refine x_if2 (pc2 := 43) d12_18 rfl (fun c => ?_) (fun c => ?_)
    · replace c : ¬ I (lw + 1) (x2).toNat = 122 := c
      rw [if_pos c] at k
      have e2 := k.1
      replace k := k.2
      refine x_iinc (ls2 := [some (.inr lw), some (.inr 43), some (.inl (x2 + 1))]) d12_43 rfl e2 rfl ?_
      refine x_goto (pc2 := 2) d12_46 rfl ?_
      exact k
    · replace c : ¬ (¬ I (lw + 1) (x2).toNat = 122) := c
      rw [if_neg c] at k
      refine x_aload_n d12_21 rfl ?_
      refine x_aload_n d12_22 rfl ?_
      refine x_getR (r := (lw + 3)) d12_23 gY_12.2.2.2 gF_1_16 rfl hw.2.1 hw.2.2.2.2.2.1 (Nat.succ_ne_zero _) ?_
      refine x_iload_n d12_26 rfl ?_
      refine x_iald d12_27 hw.2.2.1.2.2.1 e1.1 e1.2 ?_
      refine x_aload_n d12_28 rfl ?_
      refine x_getR (r := (lw + 4)) d12_29 gY_12.2.2.2 gF_1_19 rfl hw.2.1 hw.2.2.2.2.2.2.1 (Nat.succ_ne_zero _) ?_
      refine x_iload_n d12_32 rfl ?_
      refine x_iald d12_33 hw.2.2.1.2.2.2.1 e1.1 e1.2 ?_
      refine x_aload_n d12_34 rfl ?_
      refine y_invI (as := [.inl (I (lw + 3) (x2).toNat), .inl (I (lw + 4) (x2).toNat), .inr 43]) (t := []) (o := lw) gY_14 d12_35 gY_12.2.2.2 gM_1_49 rfl hw.2.1 rfl k (fun v3 I4 k => ?_)
      refine x_if1 (pc2 := 43) d12_38 rfl (fun c => ?_) (fun c => ?_)
      · replace c : v3 = 0 := c
        rw [if_pos c] at k
        have e5 := k.1
        replace k := k.2
        refine x_iinc (ls2 := [some (.inr lw), some (.inr 43), some (.inl (x2 + 1))]) d12_43 rfl e5 rfl ?_
        refine x_goto (pc2 := 2) d12_46 rfl ?_
        exact k
      · replace c : ¬ (v3 = 0) := c
        rw [if_neg c] at k
        refine x_iconst d12_41 rfl ?_
        exact x_zret d12_42 gR_12 (by decide) ⟨_, _, rfl, rfl, k⟩
set_option maxHeartbeats 4000000 in
theorem b_W_amount_0 {d n : Nat} {sh : ZS} {R : ZR} {I : ZI} {Q : Int → ZI → Prop} (hW : Wf sh R) {lw : Nat} (hw : Lw sh R lw) {x1 : Int} {x3 : Int}
    (k : XIs (d + 2) 13 3 [some (.inr lw), some (.inl x1), some (.inr 43), some (.inl x3), some (.inl 0)] [] n sh R I Q) : XI (d + 2) 13 [.inr lw, .inl x1, .inr 43, .inl x3] n sh R I Q := by
  refine XI.of (ls := [some (.inr lw), some (.inl x1), some (.inr 43), some (.inl x3), none]) (zloc_eq gY_13.2.2.1) ?_
  unfold XIs
  refine x_iconst d13_0 rfl ?_
  refine x_istore (ls2 := [some (.inr lw), some (.inl x1), some (.inr 43), some (.inl x3), some (.inl 0)]) d13_1 rfl rfl ?_
  exact k
set_option maxHeartbeats 4000000 in
theorem b_W_amount_3 {d n : Nat} {sh : ZS} {R : ZR} {I : ZI} {Q : Int → ZI → Prop} (hW : Wf sh R) {lw : Nat} (hw : Lw sh R lw) {x1 : Int} {x3 : Int} {x4 : Int}
    (k : (if I lw 7 ≤ x4 then Q 0 I else (0 ≤ x4 ∧ x4 < 14) ∧ (if ¬ I (lw + 1) (x4).toNat = x1 then (zr (x4 + 1)) ∧ XIs (d + 2) 13 3 [some (.inr lw), some (.inl x1), some (.inr 43), some (.inl x3), some (.inl (x4 + 1))] [] n sh R I Q else XI (d + 1) 14 [.inr lw, .inl (I (lw + 3) (x4).toNat), .inl (I (lw + 4) (x4).toNat), .inr 43] n sh R I (fun v3 I4 => (if v3 = 0 then (zr (x4 + 1)) ∧ XIs (d + 2) 13 3 [some (.inr lw), some (.inl x1), some (.inr 43), some (.inl x3), some (.inl (x4 + 1))] [] n sh R I4 Q else XI (d + 1) 14 [.inr lw, .inl (I4 (lw + 2) (x4).toNat), .inl (I4 (lw + 3) (x4).toNat), .inr 43] n sh R I4 (fun v6 I7 => Q (if 0 < (if v6 < x3 then v6 else x3) then (if v6 < x3 then v6 else x3) else 0) I7)))))) : XIs (d + 2) 13 3 [some (.inr lw), some (.inl x1), some (.inr 43), some (.inl x3), some (.inl x4)] [] n sh R I Q := by
  unfold XIs
  refine x_iload d13_3 rfl ?_
  refine x_aload_n d13_5 rfl ?_
  refine x_getI d13_6 gY_13.2.2.2 gF_1_31 rfl hw.2.1 ?_
  refine x_if2 (pc2 := 79) d13_9 rfl (fun c => ?_) (fun c => ?_)
  · replace c : I lw 7 ≤ x4 := c
    rw [if_pos c] at k
    refine x_iconst d13_79 rfl ?_
    exact x_iret d13_80 gR_13 ⟨_, _, rfl, rfl, k⟩
  · replace c : ¬ (I lw 7 ≤ x4) := c
    rw [if_neg c] at k
    refine x_aload_n d13_12 rfl ?_
    refine x_getR (r := (lw + 1)) d13_13 gY_13.2.2.2 gF_1_9 rfl hw.2.1 hw.2.2.2.1 (Nat.succ_ne_zero _) ?_
    refine x_iload d13_16 rfl ?_
    have e1 := k.1
    replace k := k.2
    refine x_iald d13_18 hw.2.2.1.1 e1.1 e1.2 ?_
    refine x_iload_n d13_19 rfl ?_
    refine x_if2 (pc2 := 73) d13_20 rfl (fun c => ?_) (fun c => ?_)
    · replace c : ¬ I (lw + 1) (x4).toNat = x1 := c
      rw [if_pos c] at k
      have e2 := k.1
      replace k := k.2
      refine x_iinc (ls2 := [some (.inr lw), some (.inl x1), some (.inr 43), some (.inl x3), some (.inl (x4 + 1))]) d13_73 rfl e2 rfl ?_
      refine x_goto (pc2 := 3) d13_76 rfl ?_
      exact k
    · replace c : ¬ (¬ I (lw + 1) (x4).toNat = x1) := c
      rw [if_neg c] at k
      refine x_aload_n d13_23 rfl ?_
      refine x_aload_n d13_24 rfl ?_
      refine x_getR (r := (lw + 3)) d13_25 gY_13.2.2.2 gF_1_16 rfl hw.2.1 hw.2.2.2.2.2.1 (Nat.succ_ne_zero _) ?_
      refine x_iload d13_28 rfl ?_
      refine x_iald d13_30 hw.2.2.1.2.2.1 e1.1 e1.2 ?_
      refine x_aload_n d13_31 rfl ?_
      refine x_getR (r := (lw + 4)) d13_32 gY_13.2.2.2 gF_1_19 rfl hw.2.1 hw.2.2.2.2.2.2.1 (Nat.succ_ne_zero _) ?_
      refine x_iload d13_35 rfl ?_
      refine x_iald d13_37 hw.2.2.1.2.2.2.1 e1.1 e1.2 ?_
      refine x_aload_n d13_38 rfl ?_
      refine y_invI (as := [.inl (I (lw + 3) (x4).toNat), .inl (I (lw + 4) (x4).toNat), .inr 43]) (t := []) (o := lw) gY_14 d13_39 gY_13.2.2.2 gM_1_49 rfl hw.2.1 rfl k (fun v3 I4 k => ?_)
      refine x_if1 (pc2 := 73) d13_42 rfl (fun c => ?_) (fun c => ?_)
      · replace c : v3 = 0 := c
        rw [if_pos c] at k
        have e5 := k.1
        replace k := k.2
        refine x_iinc (ls2 := [some (.inr lw), some (.inl x1), some (.inr 43), some (.inl x3), some (.inl (x4 + 1))]) d13_73 rfl e5 rfl ?_
        refine x_goto (pc2 := 3) d13_76 rfl ?_
        exact k
      · replace c : ¬ (v3 = 0) := c
        rw [if_neg c] at k
        refine x_iconst d13_45 rfl ?_
        refine x_iload_n d13_46 rfl ?_
        refine x_aload_n d13_47 rfl ?_
        refine x_aload_n d13_48 rfl ?_
        refine x_getR (r := (lw + 2)) d13_49 gY_13.2.2.2 gF_1_13 rfl hw.2.1 hw.2.2.2.2.1 (Nat.succ_ne_zero _) ?_
        refine x_iload d13_52 rfl ?_
        refine x_iald d13_54 hw.2.2.1.2.1 e1.1 e1.2 ?_
        refine x_aload_n d13_55 rfl ?_
        refine x_getR (r := (lw + 3)) d13_56 gY_13.2.2.2 gF_1_16 rfl hw.2.1 hw.2.2.2.2.2.1 (Nat.succ_ne_zero _) ?_
        refine x_iload d13_59 rfl ?_
        refine x_iald d13_61 hw.2.2.1.2.2.1 e1.1 e1.2 ?_
        refine x_aload_n d13_62 rfl ?_
        refine y_invI (as := [.inl (I4 (lw + 2) (x4).toNat), .inl (I4 (lw + 3) (x4).toNat), .inr 43]) (t := [.inl x3, .inl 0]) (o := lw) gY_14 d13_63 gY_13.2.2.2 gM_1_49 rfl hw.2.1 rfl k (fun v6 I7 k => ?_)
        refine x_min d13_66 gY_13.2.2.2 gM_1_53 (of_decide_eq_true rfl) ?_
        refine x_max d13_69 gY_13.2.2.2 gM_1_59 (of_decide_eq_true rfl) ?_
        exact x_iret d13_72 gR_13 ⟨_, _, rfl, rfl, k⟩
set_option maxHeartbeats 4000000 in
theorem b_W_run_0 {d n : Nat} {sh : ZS} {R : ZR} {I : ZI} {Q : Int → ZI → Prop} (hW : Wf sh R) {lw : Nat} (hw : Lw sh R lw) {x1 : Int} {x2 : Int}
    (k : XIs (d + 1) 14 6 [some (.inr lw), some (.inl x1), some (.inl x2), some (.inr 43), some (.inl 0), some (.inl x1), none, none] [] n sh R I Q) : XI (d + 1) 14 [.inr lw, .inl x1, .inl x2, .inr 43] n sh R I Q := by
  refine XI.of (ls := [some (.inr lw), some (.inl x1), some (.inl x2), some (.inr 43), none, none, none, none]) (zloc_eq gY_14.2.2.1) ?_
  unfold XIs
  refine x_iconst d14_0 rfl ?_
  refine x_istore (ls2 := [some (.inr lw), some (.inl x1), some (.inl x2), some (.inr 43), some (.inl 0), none, none, none]) d14_1 rfl rfl ?_
  refine x_iload_n d14_3 rfl ?_
  refine x_istore (ls2 := [some (.inr lw), some (.inl x1), some (.inl x2), some (.inr 43), some (.inl 0), some (.inl x1), none, none]) d14_4 rfl rfl ?_
  exact k
set_option maxHeartbeats 4000000 in
theorem b_W_run_6 {d n : Nat} {sh : ZS} {R : ZR} {I : ZI} {Q : Int → ZI → Prop} (hW : Wf sh R) {lw : Nat} (hw : Lw sh R lw) {u1 : Option AV} {x2 : Int} {x4 : Int} {x5 : Int} {u6 : Option AV} {u7 : Option AV}
    (k : (if x2 ≤ x5 then (if x4 ≤ 0 then Q 0 I else Q (I (lw + 7) 0) I) else (0 ≤ x5 ∧ x5 < 200) ∧ (if I (lw + 5) (x5).toNat = 35 then (if ¬ I (lw + 5) (x5).toNat = 120 then (0 ≤ x4 ∧ x4 < 200) ∧ (zr (x4 + 1)) ∧ (zr (x5 + 1)) ∧ XIs (d + 1) 14 6 [some (.inr lw), u1, some (.inl x2), some (.inr 43), some (.inl (x4 + 1)), some (.inl (x5 + 1)), some (.inl (I (lw + 5) (x5).toNat)), u7] [] n sh R (zup I (lw + 7) (x4).toNat (I (lw + 6) (x5).toNat)) Q else (0 ≤ I (lw + 6) (x5).toNat ∧ I (lw + 6) (x5).toNat < 8) ∧ (0 ≤ x4 ∧ x4 < 200) ∧ (zr (x4 + 1)) ∧ (zr (x5 + 1)) ∧ XIs (d + 1) 14 6 [some (.inr lw), u1, some (.inl x2), some (.inr 43), some (.inl (x4 + 1)), some (.inl (x5 + 1)), some (.inl (I (lw + 5) (x5).toNat)), u7] [] n sh R (zup I (lw + 7) (x4).toNat (I 43 (I (lw + 6) (x5).toNat).toNat)) Q) else (if ¬ I (lw + 5) (x5).toNat = 120 then (if ¬ I (lw + 5) (x5).toNat = 33 then XI d 15 [.inl (I (lw + 5) (x5).toNat)] n sh R I (fun v9 I10 => (if v9 = 0 then (if x4 ≤ 1 then (zr (x5 + 1)) ∧ XIs (d + 1) 14 6 [some (.inr lw), u1, some (.inl x2), some (.inr 43), some (.inl x4), some (.inl (x5 + 1)), some (.inl (I (lw + 5) (x5).toNat)), u7] [] n sh R I10 Q else (zr (x4 + (-1))) ∧ (0 ≤ (x4 + (-1)) ∧ (x4 + (-1)) < 200) ∧ (if ¬ I10 (lw + 7) (x4 + (-1)).toNat = 0 then (zr ((x4 + (-1)) - 1)) ∧ (0 ≤ ((x4 + (-1)) - 1) ∧ ((x4 + (-1)) - 1) < 200) ∧ XI d 16 [.inl (I (lw + 5) (x5).toNat), .inl (I10 (lw + 7) ((x4 + (-1)) - 1).toNat), .inl (I10 (lw + 7) (x4 + (-1)).toNat)] n sh R I10 (fun v16 I17 => (zr (x5 + 1)) ∧ XIs (d + 1) 14 6 [some (.inr lw), u1, some (.inl x2), some (.inr 43), some (.inl (x4 + (-1))), some (.inl (x5 + 1)), some (.inl (I (lw + 5) (x5).toNat)), some (.inl (I10 (lw + 7) (x4 + (-1)).toNat))] [] n sh R (zup I17 (lw + 7) ((x4 + (-1)) - 1).toNat v16) Q) else (if I (lw + 5) (x5).toNat = 47 then Q 0 I10 else (if ¬ I (lw + 5) (x5).toNat = 37 then (zr ((x4 + (-1)) - 1)) ∧ (0 ≤ ((x4 + (-1)) - 1) ∧ ((x4 + (-1)) - 1) < 200) ∧ XI d 16 [.inl (I (lw + 5) (x5).toNat), .inl (I10 (lw + 7) ((x4 + (-1)) - 1).toNat), .inl (I10 (lw + 7) (x4 + (-1)).toNat)] n sh R I10 (fun v21 I22 => (zr (x5 + 1)) ∧ XIs (d + 1) 14 6 [some (.inr lw), u1, some (.inl x2), some (.inr 43), some (.inl (x4 + (-1))), some (.inl (x5 + 1)), some (.inl (I (lw + 5) (x5).toNat)), some (.inl (I10 (lw + 7) (x4 + (-1)).toNat))] [] n sh R (zup I22 (lw + 7) ((x4 + (-1)) - 1).toNat v21) Q) else Q 0 I10)))) else (if x4 ≤ 0 then (if x4 ≤ 1 then (zr (x5 + 1)) ∧ XIs (d + 1) 14 6 [some (.inr lw), u1, some (.inl x2), some (.inr 43), some (.inl x4), some (.inl (x5 + 1)), some (.inl (I (lw + 5) (x5).toNat)), u7] [] n sh R I10 Q else (zr (x4 + (-1))) ∧ (0 ≤ (x4 + (-1)) ∧ (x4 + (-1)) < 200) ∧ (if ¬ I10 (lw + 7) (x4 + (-1)).toNat = 0 then (zr ((x4 + (-1)) - 1)) ∧ (0 ≤ ((x4 + (-1)) - 1) ∧ ((x4 + (-1)) - 1) < 200) ∧ XI d 16 [.inl (I (lw + 5) (x5).toNat), .inl (I10 (lw + 7) ((x4 + (-1)) - 1).toNat), .inl (I10 (lw + 7) (x4 + (-1)).toNat)] n sh R I10 (fun v29 I30 => (zr (x5 + 1)) ∧ XIs (d + 1) 14 6 [some (.inr lw), u1, some (.inl x2), some (.inr 43), some (.inl (x4 + (-1))), some (.inl (x5 + 1)), some (.inl (I (lw + 5) (x5).toNat)), some (.inl (I10 (lw + 7) (x4 + (-1)).toNat))] [] n sh R (zup I30 (lw + 7) ((x4 + (-1)) - 1).toNat v29) Q) else (if I (lw + 5) (x5).toNat = 47 then Q 0 I10 else (if ¬ I (lw + 5) (x5).toNat = 37 then (zr ((x4 + (-1)) - 1)) ∧ (0 ≤ ((x4 + (-1)) - 1) ∧ ((x4 + (-1)) - 1) < 200) ∧ XI d 16 [.inl (I (lw + 5) (x5).toNat), .inl (I10 (lw + 7) ((x4 + (-1)) - 1).toNat), .inl (I10 (lw + 7) (x4 + (-1)).toNat)] n sh R I10 (fun v34 I35 => (zr (x5 + 1)) ∧ XIs (d + 1) 14 6 [some (.inr lw), u1, some (.inl x2), some (.inr 43), some (.inl (x4 + (-1))), some (.inl (x5 + 1)), some (.inl (I (lw + 5) (x5).toNat)), some (.inl (I10 (lw + 7) (x4 + (-1)).toNat))] [] n sh R (zup I35 (lw + 7) ((x4 + (-1)) - 1).toNat v34) Q) else Q 0 I10)))) else (zr (x4 - 1)) ∧ (0 ≤ (x4 - 1) ∧ (x4 - 1) < 200) ∧ (if ¬ I (lw + 5) (x5).toNat = 124 then (if ¬ I10 (lw + 7) (x4 - 1).toNat = 0 then (zr (x4 + (-1))) ∧ (zr (x5 + 1)) ∧ XIs (d + 1) 14 6 [some (.inr lw), u1, some (.inl x2), some (.inr 43), some (.inl (x4 + (-1))), some (.inl (x5 + 1)), some (.inl (I (lw + 5) (x5).toNat)), u7] [] n sh R I10 Q else (zr (x5 + I10 (lw + 6) (x5).toNat)) ∧ (zr ((x5 + I10 (lw + 6) (x5).toNat) + 1)) ∧ XIs (d + 1) 14 6 [some (.inr lw), u1, some (.inl x2), some (.inr 43), some (.inl x4), some (.inl ((x5 + I10 (lw + 6) (x5).toNat) + 1)), some (.inl (I (lw + 5) (x5).toNat)), u7] [] n sh R I10 Q) else (if ¬ I10 (lw + 7) (x4 - 1).toNat = 1 then (zr (x4 + (-1))) ∧ (zr (x5 + 1)) ∧ XIs (d + 1) 14 6 [some (.inr lw), u1, some (.inl x2), some (.inr 43), some (.inl (x4 + (-1))), some (.inl (x5 + 1)), some (.inl (I (lw + 5) (x5).toNat)), u7] [] n sh R I10 Q else (zr (x5 + I10 (lw + 6) (x5).toNat)) ∧ (zr ((x5 + I10 (lw + 6) (x5).toNat) + 1)) ∧ XIs (d + 1) 14 6 [some (.inr lw), u1, some (.inl x2), some (.inr 43), some (.inl x4), some (.inl ((x5 + I10 (lw + 6) (x5).toNat) + 1)), some (.inl (I (lw + 5) (x5).toNat)), u7] [] n sh R I10 Q))))) else (if x4 ≤ 0 then XI d 15 [.inl (I (lw + 5) (x5).toNat)] n sh R I (fun v47 I48 => (if v47 = 0 then (if x4 ≤ 1 then (zr (x5 + 1)) ∧ XIs (d + 1) 14 6 [some (.inr lw), u1, some (.inl x2), some (.inr 43), some (.inl x4), some (.inl (x5 + 1)), some (.inl (I (lw + 5) (x5).toNat)), u7] [] n sh R I48 Q else (zr (x4 + (-1))) ∧ (0 ≤ (x4 + (-1)) ∧ (x4 + (-1)) < 200) ∧ (if ¬ I48 (lw + 7) (x4 + (-1)).toNat = 0 then (zr ((x4 + (-1)) - 1)) ∧ (0 ≤ ((x4 + (-1)) - 1) ∧ ((x4 + (-1)) - 1) < 200) ∧ XI d 16 [.inl (I (lw + 5) (x5).toNat), .inl (I48 (lw + 7) ((x4 + (-1)) - 1).toNat), .inl (I48 (lw + 7) (x4 + (-1)).toNat)] n sh R I48 (fun v54 I55 => (zr (x5 + 1)) ∧ XIs (d + 1) 14 6 [some (.inr lw), u1, some (.inl x2), some (.inr 43), some (.inl (x4 + (-1))), some (.inl (x5 + 1)), some (.inl (I (lw + 5) (x5).toNat)), some (.inl (I48 (lw + 7) (x4 + (-1)).toNat))] [] n sh R (zup I55 (lw + 7) ((x4 + (-1)) - 1).toNat v54) Q) else (if I (lw + 5) (x5).toNat = 47 then Q 0 I48 else (if ¬ I (lw + 5) (x5).toNat = 37 then (zr ((x4 + (-1)) - 1)) ∧ (0 ≤ ((x4 + (-1)) - 1) ∧ ((x4 + (-1)) - 1) < 200) ∧ XI d 16 [.inl (I (lw + 5) (x5).toNat), .inl (I48 (lw + 7) ((x4 + (-1)) - 1).toNat), .inl (I48 (lw + 7) (x4 + (-1)).toNat)] n sh R I48 (fun v59 I60 => (zr (x5 + 1)) ∧ XIs (d + 1) 14 6 [some (.inr lw), u1, some (.inl x2), some (.inr 43), some (.inl (x4 + (-1))), some (.inl (x5 + 1)), some (.inl (I (lw + 5) (x5).toNat)), some (.inl (I48 (lw + 7) (x4 + (-1)).toNat))] [] n sh R (zup I60 (lw + 7) ((x4 + (-1)) - 1).toNat v59) Q) else Q 0 I48)))) else (if x4 ≤ 0 then (if x4 ≤ 1 then (zr (x5 + 1)) ∧ XIs (d + 1) 14 6 [some (.inr lw), u1, some (.inl x2), some (.inr 43), some (.inl x4), some (.inl (x5 + 1)), some (.inl (I (lw + 5) (x5).toNat)), u7] [] n sh R I48 Q else (zr (x4 + (-1))) ∧ (0 ≤ (x4 + (-1)) ∧ (x4 + (-1)) < 200) ∧ (if ¬ I48 (lw + 7) (x4 + (-1)).toNat = 0 then (zr ((x4 + (-1)) - 1)) ∧ (0 ≤ ((x4 + (-1)) - 1) ∧ ((x4 + (-1)) - 1) < 200) ∧ XI d 16 [.inl (I (lw + 5) (x5).toNat), .inl (I48 (lw + 7) ((x4 + (-1)) - 1).toNat), .inl (I48 (lw + 7) (x4 + (-1)).toNat)] n sh R I48 (fun v67 I68 => (zr (x5 + 1)) ∧ XIs (d + 1) 14 6 [some (.inr lw), u1, some (.inl x2), some (.inr 43), some (.inl (x4 + (-1))), some (.inl (x5 + 1)), some (.inl (I (lw + 5) (x5).toNat)), some (.inl (I48 (lw + 7) (x4 + (-1)).toNat))] [] n sh R (zup I68 (lw + 7) ((x4 + (-1)) - 1).toNat v67) Q) else (if I (lw + 5) (x5).toNat = 47 then Q 0 I48 else (if ¬ I (lw + 5) (x5).toNat = 37 then (zr ((x4 + (-1)) - 1)) ∧ (0 ≤ ((x4 + (-1)) - 1) ∧ ((x4 + (-1)) - 1) < 200) ∧ XI d 16 [.inl (I (lw + 5) (x5).toNat), .inl (I48 (lw + 7) ((x4 + (-1)) - 1).toNat), .inl (I48 (lw + 7) (x4 + (-1)).toNat)] n sh R I48 (fun v72 I73 => (zr (x5 + 1)) ∧ XIs (d + 1) 14 6 [some (.inr lw), u1, some (.inl x2), some (.inr 43), some (.inl (x4 + (-1))), some (.inl (x5 + 1)), some (.inl (I (lw + 5) (x5).toNat)), some (.inl (I48 (lw + 7) (x4 + (-1)).toNat))] [] n sh R (zup I73 (lw + 7) ((x4 + (-1)) - 1).toNat v72) Q) else Q 0 I48)))) else (zr (x4 - 1)) ∧ (0 ≤ (x4 - 1) ∧ (x4 - 1) < 200) ∧ (if ¬ I (lw + 5) (x5).toNat = 124 then (if ¬ I48 (lw + 7) (x4 - 1).toNat = 0 then (zr (x4 + (-1))) ∧ (zr (x5 + 1)) ∧ XIs (d + 1) 14 6 [some (.inr lw), u1, some (.inl x2), some (.inr 43), some (.inl (x4 + (-1))), some (.inl (x5 + 1)), some (.inl (I (lw + 5) (x5).toNat)), u7] [] n sh R I48 Q else (zr (x5 + I48 (lw + 6) (x5).toNat)) ∧ (zr ((x5 + I48 (lw + 6) (x5).toNat) + 1)) ∧ XIs (d + 1) 14 6 [some (.inr lw), u1, some (.inl x2), some (.inr 43), some (.inl x4), some (.inl ((x5 + I48 (lw + 6) (x5).toNat) + 1)), some (.inl (I (lw + 5) (x5).toNat)), u7] [] n sh R I48 Q) else (if ¬ I48 (lw + 7) (x4 - 1).toNat = 1 then (zr (x4 + (-1))) ∧ (zr (x5 + 1)) ∧ XIs (d + 1) 14 6 [some (.inr lw), u1, some (.inl x2), some (.inr 43), some (.inl (x4 + (-1))), some (.inl (x5 + 1)), some (.inl (I (lw + 5) (x5).toNat)), u7] [] n sh R I48 Q else (zr (x5 + I48 (lw + 6) (x5).toNat)) ∧ (zr ((x5 + I48 (lw + 6) (x5).toNat) + 1)) ∧ XIs (d + 1) 14 6 [some (.inr lw), u1, some (.inl x2), some (.inr 43), some (.inl x4), some (.inl ((x5 + I48 (lw + 6) (x5).toNat) + 1)), some (.inl (I (lw + 5) (x5).toNat)), u7] [] n sh R I48 Q))))) else (zr (x4 - 1)) ∧ (0 ≤ (x4 - 1) ∧ (x4 - 1) < 200) ∧ (zr (1 - I (lw + 7) (x4 - 1).toNat)) ∧ (zr (x5 + 1)) ∧ XIs (d + 1) 14 6 [some (.inr lw), u1, some (.inl x2), some (.inr 43), some (.inl x4), some (.inl (x5 + 1)), some (.inl (I (lw + 5) (x5).toNat)), u7] [] n sh R (zup I (lw + 7) (x4 - 1).toNat (1 - I (lw + 7) (x4 - 1).toNat)) Q)) else (if ¬ I (lw + 5) (x5).toNat = 120 then (0 ≤ x4 ∧ x4 < 200) ∧ (zr (x4 + 1)) ∧ (zr (x5 + 1)) ∧ XIs (d + 1) 14 6 [some (.inr lw), u1, some (.inl x2), some (.inr 43), some (.inl (x4 + 1)), some (.inl (x5 + 1)), some (.inl (I (lw + 5) (x5).toNat)), u7] [] n sh R (zup I (lw + 7) (x4).toNat (I (lw + 6) (x5).toNat)) Q else (0 ≤ I (lw + 6) (x5).toNat ∧ I (lw + 6) (x5).toNat < 8) ∧ (0 ≤ x4 ∧ x4 < 200) ∧ (zr (x4 + 1)) ∧ (zr (x5 + 1)) ∧ XIs (d + 1) 14 6 [some (.inr lw), u1, some (.inl x2), some (.inr 43), some (.inl (x4 + 1)), some (.inl (x5 + 1)), some (.inl (I (lw + 5) (x5).toNat)), u7] [] n sh R (zup I (lw + 7) (x4).toNat (I 43 (I (lw + 6) (x5).toNat).toNat)) Q))))) : XIs (d + 1) 14 6 [some (.inr lw), u1, some (.inl x2), some (.inr 43), some (.inl x4), some (.inl x5), u6, u7] [] n sh R I Q := by
  unfold XIs
  refine x_iload d14_6 rfl ?_
  refine x_iload_n d14_8 rfl ?_
  refine x_if2 (pc2 := 237) d14_9 rfl (fun c => ?_) (fun c => ?_)
  · replace c : x2 ≤ x5 := c
    rw [if_pos c] at k
    refine x_iload d14_237 rfl ?_
    refine x_if1 (pc2 := 251) d14_239 rfl (fun c => ?_) (fun c => ?_)
    · replace c : x4 ≤ 0 := c
      rw [if_pos c] at k
      refine x_iconst d14_251 rfl ?_
      exact x_iret d14_252 gR_14 ⟨_, _, rfl, rfl, k⟩
    · replace c : ¬ (x4 ≤ 0) := c
      rw [if_neg c] at k
      refine x_aload_n d14_242 rfl ?_
      refine x_getR (r := (lw + 7)) d14_243 gY_14.2.2.2 gF_1_28 rfl hw.2.1 hw.2.2.2.2.2.2.2.2.2 (Nat.succ_ne_zero _) ?_
      refine x_iconst d14_246 rfl ?_
      refine x_iald d14_247 hw.2.2.1.2.2.2.2.2.2 (by decide) (by decide) ?_
      refine x_goto (pc2 := 252) d14_248 rfl ?_
      exact x_iret d14_252 gR_14 ⟨_, _, rfl, rfl, k⟩
  · replace c : ¬ (x2 ≤ x5) := c
    rw [if_neg c] at k
    refine x_aload_n d14_12 rfl ?_
    refine x_getR (r := (lw + 5)) d14_13 gY_14.2.2.2 gF_1_22 rfl hw.2.1 hw.2.2.2.2.2.2.2.1 (Nat.succ_ne_zero _) ?_
    refine x_iload d14_16 rfl ?_
    have e1 := k.1
    replace k := k.2
    refine x_iald d14_18 hw.2.2.1.2.2.2.2.1 e1.1 e1.2 ?_
    refine x_istore (ls2 := [some (.inr lw), u1, some (.inl x2), some (.inr 43), some (.inl x4), some (.inl x5), some (.inl (I (lw + 5) (x5).toNat)), u7]) d14_19 rfl rfl ?_
    refine x_iload d14_21 rfl ?_
    refine x_bipush d14_23 rfl ?_
    refine x_if2 (pc2 := 35) d14_25 rfl (fun c => ?_) (fun c => ?_)
    · replace c : I (lw + 5) (x5).toNat = 35 := c
      rw [if_pos c] at k
      refine x_aload_n d14_35 rfl ?_
      refine x_getR (r := (lw + 7)) d14_36 gY_14.2.2.2 gF_1_28 rfl hw.2.1 hw.2.2.2.2.2.2.2.2.2 (Nat.succ_ne_zero _) ?_
      refine x_iload d14_39 rfl ?_
      refine x_iload d14_41 rfl ?_
      refine x_bipush d14_43 rfl ?_
      refine x_if2 (pc2 := 60) d14_45 rfl (fun c => ?_) (fun c => ?_)
      · replace c : ¬ I (lw + 5) (x5).toNat = 120 := c
        rw [if_pos c] at k
        refine x_aload_n d14_60 rfl ?_
        refine x_getR (r := (lw + 6)) d14_61 gY_14.2.2.2 gF_1_25 rfl hw.2.1 hw.2.2.2.2.2.2.2.2.1 (Nat.succ_ne_zero _) ?_
        refine x_iload d14_64 rfl ?_
        refine x_iald d14_66 hw.2.2.1.2.2.2.2.2.1 e1.1 e1.2 ?_
        have e2 := k.1
        replace k := k.2
        refine x_iast d14_67 hw.2.2.1.2.2.2.2.2.2 e2.1 e2.2 ?_
        have e3 := k.1
        replace k := k.2
        refine x_iinc (ls2 := [some (.inr lw), u1, some (.inl x2), some (.inr 43), some (.inl (x4 + 1)), some (.inl x5), some (.inl (I (lw + 5) (x5).toNat)), u7]) d14_68 rfl e3 rfl ?_
        refine x_goto (pc2 := 231) d14_71 rfl ?_
        have e4 := k.1
        replace k := k.2
        refine x_iinc (ls2 := [some (.inr lw), u1, some (.inl x2), some (.inr 43), some (.inl (x4 + 1)), some (.inl (x5 + 1)), some (.inl (I (lw + 5) (x5).toNat)), u7]) d14_231 rfl e4 rfl ?_
        refine x_goto (pc2 := 6) d14_234 rfl ?_
        exact k
      · replace c : ¬ (¬ I (lw + 5) (x5).toNat = 120) := c
        rw [if_neg c] at k
        refine x_aload_n d14_48 rfl ?_
        refine x_aload_n d14_49 rfl ?_
        refine x_getR (r := (lw + 6)) d14_50 gY_14.2.2.2 gF_1_25 rfl hw.2.1 hw.2.2.2.2.2.2.2.2.1 (Nat.succ_ne_zero _) ?_
        refine x_iload d14_53 rfl ?_
        refine x_iald d14_55 hw.2.2.1.2.2.2.2.2.1 e1.1 e1.2 ?_
        have e5 := k.1
        replace k := k.2
        refine x_iald d14_56 (sh_43 hW) e5.1 e5.2 ?_
        refine x_goto (pc2 := 67) d14_57 rfl ?_
        have e6 := k.1
        replace k := k.2
        refine x_iast d14_67 hw.2.2.1.2.2.2.2.2.2 e6.1 e6.2 ?_
        have e7 := k.1
        replace k := k.2
        refine x_iinc (ls2 := [some (.inr lw), u1, some (.inl x2), some (.inr 43), some (.inl (x4 + 1)), some (.inl x5), some (.inl (I (lw + 5) (x5).toNat)), u7]) d14_68 rfl e7 rfl ?_
        refine x_goto (pc2 := 231) d14_71 rfl ?_
        have e8 := k.1
        replace k := k.2
        refine x_iinc (ls2 := [some (.inr lw), u1, some (.inl x2), some (.inr 43), some (.inl (x4 + 1)), some (.inl (x5 + 1)), some (.inl (I (lw + 5) (x5).toNat)), u7]) d14_231 rfl e8 rfl ?_
        refine x_goto (pc2 := 6) d14_234 rfl ?_
        exact k
    · replace c : ¬ (I (lw + 5) (x5).toNat = 35) := c
      rw [if_neg c] at k
      refine x_iload d14_28 rfl ?_
      refine x_bipush d14_30 rfl ?_
      refine x_if2 (pc2 := 74) d14_32 rfl (fun c => ?_) (fun c => ?_)
      · replace c : ¬ I (lw + 5) (x5).toNat = 120 := c
        rw [if_pos c] at k
        refine x_iload d14_74 rfl ?_
        refine x_bipush d14_76 rfl ?_
        refine x_if2 (pc2 := 109) d14_78 rfl (fun c => ?_) (fun c => ?_)
        · replace c : ¬ I (lw + 5) (x5).toNat = 33 := c
          rw [if_pos c] at k
          refine x_iload d14_109 rfl ?_
          refine y_insI (as := [.inl (I (lw + 5) (x5).toNat)]) (t := []) gY_15 d14_111 gY_14.2.2.2 gM_1_62 rfl rfl k (fun v9 I10 k => ?_)
          refine x_if1 (pc2 := 167) d14_114 rfl (fun c => ?_) (fun c => ?_)
          · replace c : v9 = 0 := c
            rw [if_pos c] at k
            refine x_iload d14_167 rfl ?_
            refine x_iconst d14_169 rfl ?_
            refine x_if2 (pc2 := 231) d14_170 rfl (fun c => ?_) (fun c => ?_)
            · replace c : x4 ≤ 1 := c
              rw [if_pos c] at k
              have e11 := k.1
              replace k := k.2
              refine x_iinc (ls2 := [some (.inr lw), u1, some (.inl x2), some (.inr 43), some (.inl x4), some (.inl (x5 + 1)), some (.inl (I (lw + 5) (x5).toNat)), u7]) d14_231 rfl e11 rfl ?_
              refine x_goto (pc2 := 6) d14_234 rfl ?_
              exact k
            · replace c : ¬ (x4 ≤ 1) := c
              rw [if_neg c] at k
              have e12 := k.1
              replace k := k.2
              refine x_iinc (ls2 := [some (.inr lw), u1, some (.inl x2), some (.inr 43), some (.inl (x4 + (-1))), some (.inl x5), some (.inl (I (lw + 5) (x5).toNat)), u7]) d14_173 rfl e12 rfl ?_
              refine x_aload_n d14_176 rfl ?_
              refine x_getR (r := (lw + 7)) d14_177 gY_14.2.2.2 gF_1_28 rfl hw.2.1 hw.2.2.2.2.2.2.2.2.2 (Nat.succ_ne_zero _) ?_
              refine x_iload d14_180 rfl ?_
              have e13 := k.1
              replace k := k.2
              refine x_iald d14_182 hw.2.2.1.2.2.2.2.2.2 e13.1 e13.2 ?_
              refine x_istore (ls2 := [some (.inr lw), u1, some (.inl x2), some (.inr 43), some (.inl (x4 + (-1))), some (.inl x5), some (.inl (I (lw + 5) (x5).toNat)), some (.inl (I10 (lw + 7) (x4 + (-1)).toNat))]) d14_183 rfl rfl ?_
              refine x_iload d14_185 rfl ?_
              refine x_if1 (pc2 := 206) d14_187 rfl (fun c => ?_) (fun c => ?_)
              · replace c : ¬ I10 (lw + 7) (x4 + (-1)).toNat = 0 := c
                rw [if_pos c] at k
                refine x_aload_n d14_206 rfl ?_
                refine x_getR (r := (lw + 7)) d14_207 gY_14.2.2.2 gF_1_28 rfl hw.2.1 hw.2.2.2.2.2.2.2.2.2 (Nat.succ_ne_zero _) ?_
                refine x_iload d14_210 rfl ?_
                refine x_iconst d14_212 rfl ?_
                have e14 := k.1
                replace k := k.2
                refine x_isub d14_213 e14 ?_
                refine x_iload d14_214 rfl ?_
                refine x_aload_n d14_216 rfl ?_
                refine x_getR (r := (lw + 7)) d14_217 gY_14.2.2.2 gF_1_28 rfl hw.2.1 hw.2.2.2.2.2.2.2.2.2 (Nat.succ_ne_zero _) ?_
                refine x_iload d14_220 rfl ?_
                refine x_iconst d14_222 rfl ?_
                refine x_isub d14_223 e14 ?_
                have e15 := k.1
                replace k := k.2
                refine x_iald d14_224 hw.2.2.1.2.2.2.2.2.2 e15.1 e15.2 ?_
                refine x_iload d14_225 rfl ?_
                refine y_insI (as := [.inl (I (lw + 5) (x5).toNat), .inl (I10 (lw + 7) ((x4 + (-1)) - 1).toNat), .inl (I10 (lw + 7) (x4 + (-1)).toNat)]) (t := [.inl ((x4 + (-1)) - 1), .inr (lw + 7)]) gY_16 d14_227 gY_14.2.2.2 gM_1_66 rfl rfl k (fun v16 I17 k => ?_)
                refine x_iast d14_230 hw.2.2.1.2.2.2.2.2.2 e15.1 e15.2 ?_
                have e18 := k.1
                replace k := k.2
                refine x_iinc (ls2 := [some (.inr lw), u1, some (.inl x2), some (.inr 43), some (.inl (x4 + (-1))), some (.inl (x5 + 1)), some (.inl (I (lw + 5) (x5).toNat)), some (.inl (I10 (lw + 7) (x4 + (-1)).toNat))]) d14_231 rfl e18 rfl ?_
                refine x_goto (pc2 := 6) d14_234 rfl ?_
                exact k
              · replace c : ¬ (¬ I10 (lw + 7) (x4 + (-1)).toNat = 0) := c
                rw [if_neg c] at k
                refine x_iload d14_190 rfl ?_
                refine x_bipush d14_192 rfl ?_
                refine x_if2 (pc2 := 204) d14_194 rfl (fun c => ?_) (fun c => ?_)
                · replace c : I (lw + 5) (x5).toNat = 47 := c
                  rw [if_pos c] at k
                  refine x_iconst d14_204 rfl ?_
                  exact x_iret d14_205 gR_14 ⟨_, _, rfl, rfl, k⟩
                · replace c : ¬ (I (lw + 5) (x5).toNat = 47) := c
                  rw [if_neg c] at k
                  refine x_iload d14_197 rfl ?_
                  refine x_bipush d14_199 rfl ?_
                  refine x_if2 (pc2 := 206) d14_201 rfl (fun c => ?_) (fun c => ?_)
                  · replace c : ¬ I (lw + 5) (x5).toNat = 37 := c
                    rw [if_pos c] at k
                    refine x_aload_n d14_206 rfl ?_
                    refine x_getR (r := (lw + 7)) d14_207 gY_14.2.2.2 gF_1_28 rfl hw.2.1 hw.2.2.2.2.2.2.2.2.2 (Nat.succ_ne_zero _) ?_
                    refine x_iload d14_210 rfl ?_
                    refine x_iconst d14_212 rfl ?_
                    have e19 := k.1
                    replace k := k.2
                    refine x_isub d14_213 e19 ?_
                    refine x_iload d14_214 rfl ?_
                    refine x_aload_n d14_216 rfl ?_
                    refine x_getR (r := (lw + 7)) d14_217 gY_14.2.2.2 gF_1_28 rfl hw.2.1 hw.2.2.2.2.2.2.2.2.2 (Nat.succ_ne_zero _) ?_
                    refine x_iload d14_220 rfl ?_
                    refine x_iconst d14_222 rfl ?_
                    refine x_isub d14_223 e19 ?_
                    have e20 := k.1
                    replace k := k.2
                    refine x_iald d14_224 hw.2.2.1.2.2.2.2.2.2 e20.1 e20.2 ?_
                    refine x_iload d14_225 rfl ?_
                    refine y_insI (as := [.inl (I (lw + 5) (x5).toNat), .inl (I10 (lw + 7) ((x4 + (-1)) - 1).toNat), .inl (I10 (lw + 7) (x4 + (-1)).toNat)]) (t := [.inl ((x4 + (-1)) - 1), .inr (lw + 7)]) gY_16 d14_227 gY_14.2.2.2 gM_1_66 rfl rfl k (fun v21 I22 k => ?_)
                    refine x_iast d14_230 hw.2.2.1.2.2.2.2.2.2 e20.1 e20.2 ?_
                    have e23 := k.1
                    replace k := k.2
                    refine x_iinc (ls2 := [some (.inr lw), u1, some (.inl x2), some (.inr 43), some (.inl (x4 + (-1))), some (.inl (x5 + 1)), some (.inl (I (lw + 5) (x5).toNat)), some (.inl (I10 (lw + 7) (x4 + (-1)).toNat))]) d14_231 rfl e23 rfl ?_
                    refine x_goto (pc2 := 6) d14_234 rfl ?_
                    exact k
                  · replace c : ¬ (¬ I (lw + 5) (x5).toNat = 37) := c
                    rw [if_neg c] at k
                    refine x_iconst d14_204 rfl ?_
                    exact x_iret d14_205 gR_14 ⟨_, _, rfl, rfl, k⟩
          · replace c : ¬ (v9 = 0) := c
            rw [if_neg c] at k
            refine x_iload d14_117 rfl ?_
            refine x_if1 (pc2 := 167) d14_119 rfl (fun c => ?_) (fun c => ?_)
            · replace c : x4 ≤ 0 := c
              rw [if_pos c] at k
              refine x_iload d14_167 rfl ?_
              refine x_iconst d14_169 rfl ?_
              refine x_if2 (pc2 := 231) d14_170 rfl (fun c => ?_) (fun c => ?_)
              · replace c : x4 ≤ 1 := c
                rw [if_pos c] at k
                have e24 := k.1
                replace k := k.2
                refine x_iinc (ls2 := [some (.inr lw), u1, some (.inl x2), some (.inr 43), some (.inl x4), some (.inl (x5 + 1)), some (.inl (I (lw + 5) (x5).toNat)), u7]) d14_231 rfl e24 rfl ?_
                refine x_goto (pc2 := 6) d14_234 rfl ?_
                exact k
              · replace c : ¬ (x4 ≤ 1) := c
                rw [if_neg c] at k
                have e25 := k.1
                replace k := k.2
                refine x_iinc (ls2 := [some (.inr lw), u1, some (.inl x2), some (.inr 43), some (.inl (x4 + (-1))), some (.inl x5), some (.inl (I (lw + 5) (x5).toNat)), u7]) d14_173 rfl e25 rfl ?_
                refine x_aload_n d14_176 rfl ?_
                refine x_getR (r := (lw + 7)) d14_177 gY_14.2.2.2 gF_1_28 rfl hw.2.1 hw.2.2.2.2.2.2.2.2.2 (Nat.succ_ne_zero _) ?_
                refine x_iload d14_180 rfl ?_
                have e26 := k.1
                replace k := k.2
                refine x_iald d14_182 hw.2.2.1.2.2.2.2.2.2 e26.1 e26.2 ?_
                refine x_istore (ls2 := [some (.inr lw), u1, some (.inl x2), some (.inr 43), some (.inl (x4 + (-1))), some (.inl x5), some (.inl (I (lw + 5) (x5).toNat)), some (.inl (I10 (lw + 7) (x4 + (-1)).toNat))]) d14_183 rfl rfl ?_
                refine x_iload d14_185 rfl ?_
                refine x_if1 (pc2 := 206) d14_187 rfl (fun c => ?_) (fun c => ?_)
                · replace c : ¬ I10 (lw + 7) (x4 + (-1)).toNat = 0 := c
                  rw [if_pos c] at k
                  refine x_aload_n d14_206 rfl ?_
                  refine x_getR (r := (lw + 7)) d14_207 gY_14.2.2.2 gF_1_28 rfl hw.2.1 hw.2.2.2.2.2.2.2.2.2 (Nat.succ_ne_zero _) ?_
                  refine x_iload d14_210 rfl ?_
                  refine x_iconst d14_212 rfl ?_
                  have e27 := k.1
                  replace k := k.2
                  refine x_isub d14_213 e27 ?_
                  refine x_iload d14_214 rfl ?_
                  refine x_aload_n d14_216 rfl ?_
                  refine x_getR (r := (lw + 7)) d14_217 gY_14.2.2.2 gF_1_28 rfl hw.2.1 hw.2.2.2.2.2.2.2.2.2 (Nat.succ_ne_zero _) ?_
                  refine x_iload d14_220 rfl ?_
                  refine x_iconst d14_222 rfl ?_
                  refine x_isub d14_223 e27 ?_
                  have e28 := k.1
                  replace k := k.2
                  refine x_iald d14_224 hw.2.2.1.2.2.2.2.2.2 e28.1 e28.2 ?_
                  refine x_iload d14_225 rfl ?_
                  refine y_insI (as := [.inl (I (lw + 5) (x5).toNat), .inl (I10 (lw + 7) ((x4 + (-1)) - 1).toNat), .inl (I10 (lw + 7) (x4 + (-1)).toNat)]) (t := [.inl ((x4 + (-1)) - 1), .inr (lw + 7)]) gY_16 d14_227 gY_14.2.2.2 gM_1_66 rfl rfl k (fun v29 I30 k => ?_)
                  refine x_iast d14_230 hw.2.2.1.2.2.2.2.2.2 e28.1 e28.2 ?_
                  have e31 := k.1
                  replace k := k.2
                  refine x_iinc (ls2 := [some (.inr lw), u1, some (.inl x2), some (.inr 43), some (.inl (x4 + (-1))), some (.inl (x5 + 1)), some (.inl (I (lw + 5) (x5).toNat)), some (.inl (I10 (lw + 7) (x4 + (-1)).toNat))]) d14_231 rfl e31 rfl ?_
                  refine x_goto (pc2 := 6) d14_234 rfl ?_
                  exact k
                · replace c : ¬ (¬ I10 (lw + 7) (x4 + (-1)).toNat = 0) := c
                  rw [if_neg c] at k
                  refine x_iload d14_190 rfl ?_
                  refine x_bipush d14_192 rfl ?_
                  refine x_if2 (pc2 := 204) d14_194 rfl (fun c => ?_) (fun c => ?_)
                  · replace c : I (lw + 5) (x5).toNat = 47 := c
                    rw [if_pos c] at k
                    refine x_iconst d14_204 rfl ?_
                    exact x_iret d14_205 gR_14 ⟨_, _, rfl, rfl, k⟩
                  · replace c : ¬ (I (lw + 5) (x5).toNat = 47) := c
                    rw [if_neg c] at k
                    refine x_iload d14_197 rfl ?_
                    refine x_bipush d14_199 rfl ?_
                    refine x_if2 (pc2 := 206) d14_201 rfl (fun c => ?_) (fun c => ?_)
                    · replace c : ¬ I (lw + 5) (x5).toNat = 37 := c
                      rw [if_pos c] at k
                      refine x_aload_n d14_206 rfl ?_
                      refine x_getR (r := (lw + 7)) d14_207 gY_14.2.2.2 gF_1_28 rfl hw.2.1 hw.2.2.2.2.2.2.2.2.2 (Nat.succ_ne_zero _) ?_
                      refine x_iload d14_210 rfl ?_
                      refine x_iconst d14_212 rfl ?_
                      have e32 := k.1
                      replace k := k.2
                      refine x_isub d14_213 e32 ?_
                      refine x_iload d14_214 rfl ?_
                      refine x_aload_n d14_216 rfl ?_
                      refine x_getR (r := (lw + 7)) d14_217 gY_14.2.2.2 gF_1_28 rfl hw.2.1 hw.2.2.2.2.2.2.2.2.2 (Nat.succ_ne_zero _) ?_
                      refine x_iload d14_220 rfl ?_
                      refine x_iconst d14_222 rfl ?_
                      refine x_isub d14_223 e32 ?_
                      have e33 := k.1
                      replace k := k.2
                      refine x_iald d14_224 hw.2.2.1.2.2.2.2.2.2 e33.1 e33.2 ?_
                      refine x_iload d14_225 rfl ?_
                      refine y_insI (as := [.inl (I (lw + 5) (x5).toNat), .inl (I10 (lw + 7) ((x4 + (-1)) - 1).toNat), .inl (I10 (lw + 7) (x4 + (-1)).toNat)]) (t := [.inl ((x4 + (-1)) - 1), .inr (lw + 7)]) gY_16 d14_227 gY_14.2.2.2 gM_1_66 rfl rfl k (fun v34 I35 k => ?_)
                      refine x_iast d14_230 hw.2.2.1.2.2.2.2.2.2 e33.1 e33.2 ?_
                      have e36 := k.1
                      replace k := k.2
                      refine x_iinc (ls2 := [some (.inr lw), u1, some (.inl x2), some (.inr 43), some (.inl (x4 + (-1))), some (.inl (x5 + 1)), some (.inl (I (lw + 5) (x5).toNat)), some (.inl (I10 (lw + 7) (x4 + (-1)).toNat))]) d14_231 rfl e36 rfl ?_
                      refine x_goto (pc2 := 6) d14_234 rfl ?_
                      exact k
                    · replace c : ¬ (¬ I (lw + 5) (x5).toNat = 37) := c
                      rw [if_neg c] at k
                      refine x_iconst d14_204 rfl ?_
                      exact x_iret d14_205 gR_14 ⟨_, _, rfl, rfl, k⟩
            · replace c : ¬ (x4 ≤ 0) := c
              rw [if_neg c] at k
              refine x_aload_n d14_122 rfl ?_
              refine x_getR (r := (lw + 7)) d14_123 gY_14.2.2.2 gF_1_28 rfl hw.2.1 hw.2.2.2.2.2.2.2.2.2 (Nat.succ_ne_zero _) ?_
              refine x_iload d14_126 rfl ?_
              refine x_iconst d14_128 rfl ?_
              have e37 := k.1
              replace k := k.2
              refine x_isub d14_129 e37 ?_
              have e38 := k.1
              replace k := k.2
              refine x_iald d14_130 hw.2.2.1.2.2.2.2.2.2 e38.1 e38.2 ?_
              refine x_iload d14_131 rfl ?_
              refine x_bipush d14_133 rfl ?_
              refine x_if2 (pc2 := 142) d14_135 rfl (fun c => ?_) (fun c => ?_)
              · replace c : ¬ I (lw + 5) (x5).toNat = 124 := c
                rw [if_pos c] at k
                refine x_iconst d14_142 rfl ?_
                refine x_if2 (pc2 := 161) d14_143 rfl (fun c => ?_) (fun c => ?_)
                · replace c : ¬ I10 (lw + 7) (x4 - 1).toNat = 0 := c
                  rw [if_pos c] at k
                  have e39 := k.1
                  replace k := k.2
                  refine x_iinc (ls2 := [some (.inr lw), u1, some (.inl x2), some (.inr 43), some (.inl (x4 + (-1))), some (.inl x5), some (.inl (I (lw + 5) (x5).toNat)), u7]) d14_161 rfl e39 rfl ?_
                  refine x_goto (pc2 := 231) d14_164 rfl ?_
                  have e40 := k.1
                  replace k := k.2
                  refine x_iinc (ls2 := [some (.inr lw), u1, some (.inl x2), some (.inr 43), some (.inl (x4 + (-1))), some (.inl (x5 + 1)), some (.inl (I (lw + 5) (x5).toNat)), u7]) d14_231 rfl e40 rfl ?_
                  refine x_goto (pc2 := 6) d14_234 rfl ?_
                  exact k
                · replace c : ¬ (¬ I10 (lw + 7) (x4 - 1).toNat = 0) := c
                  rw [if_neg c] at k
                  refine x_iload d14_146 rfl ?_
                  refine x_aload_n d14_148 rfl ?_
                  refine x_getR (r := (lw + 6)) d14_149 gY_14.2.2.2 gF_1_25 rfl hw.2.1 hw.2.2.2.2.2.2.2.2.1 (Nat.succ_ne_zero _) ?_
                  refine x_iload d14_152 rfl ?_
                  refine x_iald d14_154 hw.2.2.1.2.2.2.2.2.1 e1.1 e1.2 ?_
                  have e41 := k.1
                  replace k := k.2
                  refine x_iadd d14_155 e41 ?_
                  refine x_istore (ls2 := [some (.inr lw), u1, some (.inl x2), some (.inr 43), some (.inl x4), some (.inl (x5 + I10 (lw + 6) (x5).toNat)), some (.inl (I (lw + 5) (x5).toNat)), u7]) d14_156 rfl rfl ?_
                  refine x_goto (pc2 := 231) d14_158 rfl ?_
                  have e42 := k.1
                  replace k := k.2
                  refine x_iinc (ls2 := [some (.inr lw), u1, some (.inl x2), some (.inr 43), some (.inl x4), some (.inl ((x5 + I10 (lw + 6) (x5).toNat) + 1)), some (.inl (I (lw + 5) (x5).toNat)), u7]) d14_231 rfl e42 rfl ?_
                  refine x_goto (pc2 := 6) d14_234 rfl ?_
                  exact k
              · replace c : ¬ (¬ I (lw + 5) (x5).toNat = 124) := c
                rw [if_neg c] at k
                refine x_iconst d14_138 rfl ?_
                refine x_goto (pc2 := 143) d14_139 rfl ?_
                refine x_if2 (pc2 := 161) d14_143 rfl (fun c => ?_) (fun c => ?_)
                · replace c : ¬ I10 (lw + 7) (x4 - 1).toNat = 1 := c
                  rw [if_pos c] at k
                  have e43 := k.1
                  replace k := k.2
                  refine x_iinc (ls2 := [some (.inr lw), u1, some (.inl x2), some (.inr 43), some (.inl (x4 + (-1))), some (.inl x5), some (.inl (I (lw + 5) (x5).toNat)), u7]) d14_161 rfl e43 rfl ?_
                  refine x_goto (pc2 := 231) d14_164 rfl ?_
                  have e44 := k.1
                  replace k := k.2
                  refine x_iinc (ls2 := [some (.inr lw), u1, some (.inl x2), some (.inr 43), some (.inl (x4 + (-1))), some (.inl (x5 + 1)), some (.inl (I (lw + 5) (x5).toNat)), u7]) d14_231 rfl e44 rfl ?_
                  refine x_goto (pc2 := 6) d14_234 rfl ?_
                  exact k
                · replace c : ¬ (¬ I10 (lw + 7) (x4 - 1).toNat = 1) := c
                  rw [if_neg c] at k
                  refine x_iload d14_146 rfl ?_
                  refine x_aload_n d14_148 rfl ?_
                  refine x_getR (r := (lw + 6)) d14_149 gY_14.2.2.2 gF_1_25 rfl hw.2.1 hw.2.2.2.2.2.2.2.2.1 (Nat.succ_ne_zero _) ?_
                  refine x_iload d14_152 rfl ?_
                  refine x_iald d14_154 hw.2.2.1.2.2.2.2.2.1 e1.1 e1.2 ?_
                  have e45 := k.1
                  replace k := k.2
                  refine x_iadd d14_155 e45 ?_
                  refine x_istore (ls2 := [some (.inr lw), u1, some (.inl x2), some (.inr 43), some (.inl x4), some (.inl (x5 + I10 (lw + 6) (x5).toNat)), some (.inl (I (lw + 5) (x5).toNat)), u7]) d14_156 rfl rfl ?_
                  refine x_goto (pc2 := 231) d14_158 rfl ?_
                  have e46 := k.1
                  replace k := k.2
                  refine x_iinc (ls2 := [some (.inr lw), u1, some (.inl x2), some (.inr 43), some (.inl x4), some (.inl ((x5 + I10 (lw + 6) (x5).toNat) + 1)), some (.inl (I (lw + 5) (x5).toNat)), u7]) d14_231 rfl e46 rfl ?_
                  refine x_goto (pc2 := 6) d14_234 rfl ?_
                  exact k
        · replace c : ¬ (¬ I (lw + 5) (x5).toNat = 33) := c
          rw [if_neg c] at k
          refine x_iload d14_81 rfl ?_
          refine x_if1 (pc2 := 109) d14_83 rfl (fun c => ?_) (fun c => ?_)
          · replace c : x4 ≤ 0 := c
            rw [if_pos c] at k
            refine x_iload d14_109 rfl ?_
            refine y_insI (as := [.inl (I (lw + 5) (x5).toNat)]) (t := []) gY_15 d14_111 gY_14.2.2.2 gM_1_62 rfl rfl k (fun v47 I48 k => ?_)
            refine x_if1 (pc2 := 167) d14_114 rfl (fun c => ?_) (fun c => ?_)
            · replace c : v47 = 0 := c
              rw [if_pos c] at k
              refine x_iload d14_167 rfl ?_
              refine x_iconst d14_169 rfl ?_
              refine x_if2 (pc2 := 231) d14_170 rfl (fun c => ?_) (fun c => ?_)
              · replace c : x4 ≤ 1 := c
                rw [if_pos c] at k
                have e49 := k.1
                replace k := k.2
                refine x_iinc (ls2 := [some (.inr lw), u1, some (.inl x2), some (.inr 43), some (.inl x4), some (.inl (x5 + 1)), some (.inl (I (lw + 5) (x5).toNat)), u7]) d14_231 rfl e49 rfl ?_
                refine x_goto (pc2 := 6) d14_234 rfl ?_
                exact k
              · replace c : ¬ (x4 ≤ 1) := c
                rw [if_neg c] at k
                have e50 := k.1
                replace k := k.2
                refine x_iinc (ls2 := [some (.inr lw), u1, some (.inl x2), some (.inr 43), some (.inl (x4 + (-1))), some (.inl x5), some (.inl (I (lw + 5) (x5).toNat)), u7]) d14_173 rfl e50 rfl ?_
                refine x_aload_n d14_176 rfl ?_
                refine x_getR (r := (lw + 7)) d14_177 gY_14.2.2.2 gF_1_28 rfl hw.2.1 hw.2.2.2.2.2.2.2.2.2 (Nat.succ_ne_zero _) ?_
                refine x_iload d14_180 rfl ?_
                have e51 := k.1
                replace k := k.2
                refine x_iald d14_182 hw.2.2.1.2.2.2.2.2.2 e51.1 e51.2 ?_
                refine x_istore (ls2 := [some (.inr lw), u1, some (.inl x2), some (.inr 43), some (.inl (x4 + (-1))), some (.inl x5), some (.inl (I (lw + 5) (x5).toNat)), some (.inl (I48 (lw + 7) (x4 + (-1)).toNat))]) d14_183 rfl rfl ?_
                refine x_iload d14_185 rfl ?_
                refine x_if1 (pc2 := 206) d14_187 rfl (fun c => ?_) (fun c => ?_)
                · replace c : ¬ I48 (lw + 7) (x4 + (-1)).toNat = 0 := c
                  rw [if_pos c] at k
                  refine x_aload_n d14_206 rfl ?_
                  refine x_getR (r := (lw + 7)) d14_207 gY_14.2.2.2 gF_1_28 rfl hw.2.1 hw.2.2.2.2.2.2.2.2.2 (Nat.succ_ne_zero _) ?_
                  refine x_iload d14_210 rfl ?_
                  refine x_iconst d14_212 rfl ?_
                  have e52 := k.1
                  replace k := k.2
                  refine x_isub d14_213 e52 ?_
                  refine x_iload d14_214 rfl ?_
                  refine x_aload_n d14_216 rfl ?_
                  refine x_getR (r := (lw + 7)) d14_217 gY_14.2.2.2 gF_1_28 rfl hw.2.1 hw.2.2.2.2.2.2.2.2.2 (Nat.succ_ne_zero _) ?_
                  refine x_iload d14_220 rfl ?_
                  refine x_iconst d14_222 rfl ?_
                  refine x_isub d14_223 e52 ?_
                  have e53 := k.1
                  replace k := k.2
                  refine x_iald d14_224 hw.2.2.1.2.2.2.2.2.2 e53.1 e53.2 ?_
                  refine x_iload d14_225 rfl ?_
                  refine y_insI (as := [.inl (I (lw + 5) (x5).toNat), .inl (I48 (lw + 7) ((x4 + (-1)) - 1).toNat), .inl (I48 (lw + 7) (x4 + (-1)).toNat)]) (t := [.inl ((x4 + (-1)) - 1), .inr (lw + 7)]) gY_16 d14_227 gY_14.2.2.2 gM_1_66 rfl rfl k (fun v54 I55 k => ?_)
                  refine x_iast d14_230 hw.2.2.1.2.2.2.2.2.2 e53.1 e53.2 ?_
                  have e56 := k.1
                  replace k := k.2
                  refine x_iinc (ls2 := [some (.inr lw), u1, some (.inl x2), some (.inr 43), some (.inl (x4 + (-1))), some (.inl (x5 + 1)), some (.inl (I (lw + 5) (x5).toNat)), some (.inl (I48 (lw + 7) (x4 + (-1)).toNat))]) d14_231 rfl e56 rfl ?_
                  refine x_goto (pc2 := 6) d14_234 rfl ?_
                  exact k
                · replace c : ¬ (¬ I48 (lw + 7) (x4 + (-1)).toNat = 0) := c
                  rw [if_neg c] at k
                  refine x_iload d14_190 rfl ?_
                  refine x_bipush d14_192 rfl ?_
                  refine x_if2 (pc2 := 204) d14_194 rfl (fun c => ?_) (fun c => ?_)
                  · replace c : I (lw + 5) (x5).toNat = 47 := c
                    rw [if_pos c] at k
                    refine x_iconst d14_204 rfl ?_
                    exact x_iret d14_205 gR_14 ⟨_, _, rfl, rfl, k⟩
                  · replace c : ¬ (I (lw + 5) (x5).toNat = 47) := c
                    rw [if_neg c] at k
                    refine x_iload d14_197 rfl ?_
                    refine x_bipush d14_199 rfl ?_
                    refine x_if2 (pc2 := 206) d14_201 rfl (fun c => ?_) (fun c => ?_)
                    · replace c : ¬ I (lw + 5) (x5).toNat = 37 := c
                      rw [if_pos c] at k
                      refine x_aload_n d14_206 rfl ?_
                      refine x_getR (r := (lw + 7)) d14_207 gY_14.2.2.2 gF_1_28 rfl hw.2.1 hw.2.2.2.2.2.2.2.2.2 (Nat.succ_ne_zero _) ?_
                      refine x_iload d14_210 rfl ?_
                      refine x_iconst d14_212 rfl ?_
                      have e57 := k.1
                      replace k := k.2
                      refine x_isub d14_213 e57 ?_
                      refine x_iload d14_214 rfl ?_
                      refine x_aload_n d14_216 rfl ?_
                      refine x_getR (r := (lw + 7)) d14_217 gY_14.2.2.2 gF_1_28 rfl hw.2.1 hw.2.2.2.2.2.2.2.2.2 (Nat.succ_ne_zero _) ?_
                      refine x_iload d14_220 rfl ?_
                      refine x_iconst d14_222 rfl ?_
                      refine x_isub d14_223 e57 ?_
                      have e58 := k.1
                      replace k := k.2
                      refine x_iald d14_224 hw.2.2.1.2.2.2.2.2.2 e58.1 e58.2 ?_
                      refine x_iload d14_225 rfl ?_
                      refine y_insI (as := [.inl (I (lw + 5) (x5).toNat), .inl (I48 (lw + 7) ((x4 + (-1)) - 1).toNat), .inl (I48 (lw + 7) (x4 + (-1)).toNat)]) (t := [.inl ((x4 + (-1)) - 1), .inr (lw + 7)]) gY_16 d14_227 gY_14.2.2.2 gM_1_66 rfl rfl k (fun v59 I60 k => ?_)
                      refine x_iast d14_230 hw.2.2.1.2.2.2.2.2.2 e58.1 e58.2 ?_
                      have e61 := k.1
                      replace k := k.2
                      refine x_iinc (ls2 := [some (.inr lw), u1, some (.inl x2), some (.inr 43), some (.inl (x4 + (-1))), some (.inl (x5 + 1)), some (.inl (I (lw + 5) (x5).toNat)), some (.inl (I48 (lw + 7) (x4 + (-1)).toNat))]) d14_231 rfl e61 rfl ?_
                      refine x_goto (pc2 := 6) d14_234 rfl ?_
                      exact k
                    · replace c : ¬ (¬ I (lw + 5) (x5).toNat = 37) := c
                      rw [if_neg c] at k
                      refine x_iconst d14_204 rfl ?_
                      exact x_iret d14_205 gR_14 ⟨_, _, rfl, rfl, k⟩
            · replace c : ¬ (v47 = 0) := c
              rw [if_neg c] at k
              refine x_iload d14_117 rfl ?_
              refine x_if1 (pc2 := 167) d14_119 rfl (fun c => ?_) (fun c => ?_)
              · replace c : x4 ≤ 0 := c
                rw [if_pos c] at k
                refine x_iload d14_167 rfl ?_
                refine x_iconst d14_169 rfl ?_
                refine x_if2 (pc2 := 231) d14_170 rfl (fun c => ?_) (fun c => ?_)
                · replace c : x4 ≤ 1 := c
                  rw [if_pos c] at k
                  have e62 := k.1
                  replace k := k.2
                  refine x_iinc (ls2 := [some (.inr lw), u1, some (.inl x2), some (.inr 43), some (.inl x4), some (.inl (x5 + 1)), some (.inl (I (lw + 5) (x5).toNat)), u7]) d14_231 rfl e62 rfl ?_
                  refine x_goto (pc2 := 6) d14_234 rfl ?_
                  exact k
                · replace c : ¬ (x4 ≤ 1) := c
                  rw [if_neg c] at k
                  have e63 := k.1
                  replace k := k.2
                  refine x_iinc (ls2 := [some (.inr lw), u1, some (.inl x2), some (.inr 43), some (.inl (x4 + (-1))), some (.inl x5), some (.inl (I (lw + 5) (x5).toNat)), u7]) d14_173 rfl e63 rfl ?_
                  refine x_aload_n d14_176 rfl ?_
                  refine x_getR (r := (lw + 7)) d14_177 gY_14.2.2.2 gF_1_28 rfl hw.2.1 hw.2.2.2.2.2.2.2.2.2 (Nat.succ_ne_zero _) ?_
                  refine x_iload d14_180 rfl ?_
                  have e64 := k.1
                  replace k := k.2
                  refine x_iald d14_182 hw.2.2.1.2.2.2.2.2.2 e64.1 e64.2 ?_
                  refine x_istore (ls2 := [some (.inr lw), u1, some (.inl x2), some (.inr 43), some (.inl (x4 + (-1))), some (.inl x5), some (.inl (I (lw + 5) (x5).toNat)), some (.inl (I48 (lw + 7) (x4 + (-1)).toNat))]) d14_183 rfl rfl ?_
                  refine x_iload d14_185 rfl ?_
                  refine x_if1 (pc2 := 206) d14_187 rfl (fun c => ?_) (fun c => ?_)
                  · replace c : ¬ I48 (lw + 7) (x4 + (-1)).toNat = 0 := c
                    rw [if_pos c] at k
                    refine x_aload_n d14_206 rfl ?_
                    refine x_getR (r := (lw + 7)) d14_207 gY_14.2.2.2 gF_1_28 rfl hw.2.1 hw.2.2.2.2.2.2.2.2.2 (Nat.succ_ne_zero _) ?_
                    refine x_iload d14_210 rfl ?_
                    refine x_iconst d14_212 rfl ?_
                    have e65 := k.1
                    replace k := k.2
                    refine x_isub d14_213 e65 ?_
                    refine x_iload d14_214 rfl ?_
                    refine x_aload_n d14_216 rfl ?_
                    refine x_getR (r := (lw + 7)) d14_217 gY_14.2.2.2 gF_1_28 rfl hw.2.1 hw.2.2.2.2.2.2.2.2.2 (Nat.succ_ne_zero _) ?_
                    refine x_iload d14_220 rfl ?_
                    refine x_iconst d14_222 rfl ?_
                    refine x_isub d14_223 e65 ?_
                    have e66 := k.1
                    replace k := k.2
                    refine x_iald d14_224 hw.2.2.1.2.2.2.2.2.2 e66.1 e66.2 ?_
                    refine x_iload d14_225 rfl ?_
                    refine y_insI (as := [.inl (I (lw + 5) (x5).toNat), .inl (I48 (lw + 7) ((x4 + (-1)) - 1).toNat), .inl (I48 (lw + 7) (x4 + (-1)).toNat)]) (t := [.inl ((x4 + (-1)) - 1), .inr (lw + 7)]) gY_16 d14_227 gY_14.2.2.2 gM_1_66 rfl rfl k (fun v67 I68 k => ?_)
                    refine x_iast d14_230 hw.2.2.1.2.2.2.2.2.2 e66.1 e66.2 ?_
                    have e69 := k.1
                    replace k := k.2
                    refine x_iinc (ls2 := [some (.inr lw), u1, some (.inl x2), some (.inr 43), some (.inl (x4 + (-1))), some (.inl (x5 + 1)), some (.inl (I (lw + 5) (x5).toNat)), some (.inl (I48 (lw + 7) (x4 + (-1)).toNat))]) d14_231 rfl e69 rfl ?_
                    refine x_goto (pc2 := 6) d14_234 rfl ?_
                    exact k
                  · replace c : ¬ (¬ I48 (lw + 7) (x4 + (-1)).toNat = 0) := c
                    rw [if_neg c] at k
                    refine x_iload d14_190 rfl ?_
                    refine x_bipush d14_192 rfl ?_
                    refine x_if2 (pc2 := 204) d14_194 rfl (fun c => ?_) (fun c => ?_)
                    · replace c : I (lw + 5) (x5).toNat = 47 := c
                      rw [if_pos c] at k
                      refine x_iconst d14_204 rfl ?_
                      exact x_iret d14_205 gR_14 ⟨_, _, rfl, rfl, k⟩
                    · replace c : ¬ (I (lw + 5) (x5).toNat = 47) := c
                      rw [if_neg c] at k
                      refine x_iload d14_197 rfl ?_
                      refine x_bipush d14_199 rfl ?_
                      refine x_if2 (pc2 := 206) d14_201 rfl (fun c => ?_) (fun c => ?_)
                      · replace c : ¬ I (lw + 5) (x5).toNat = 37 := c
                        rw [if_pos c] at k
                        refine x_aload_n d14_206 rfl ?_
                        refine x_getR (r := (lw + 7)) d14_207 gY_14.2.2.2 gF_1_28 rfl hw.2.1 hw.2.2.2.2.2.2.2.2.2 (Nat.succ_ne_zero _) ?_
                        refine x_iload d14_210 rfl ?_
                        refine x_iconst d14_212 rfl ?_
                        have e70 := k.1
                        replace k := k.2
                        refine x_isub d14_213 e70 ?_
                        refine x_iload d14_214 rfl ?_
                        refine x_aload_n d14_216 rfl ?_
                        refine x_getR (r := (lw + 7)) d14_217 gY_14.2.2.2 gF_1_28 rfl hw.2.1 hw.2.2.2.2.2.2.2.2.2 (Nat.succ_ne_zero _) ?_
                        refine x_iload d14_220 rfl ?_
                        refine x_iconst d14_222 rfl ?_
                        refine x_isub d14_223 e70 ?_
                        have e71 := k.1
                        replace k := k.2
                        refine x_iald d14_224 hw.2.2.1.2.2.2.2.2.2 e71.1 e71.2 ?_
                        refine x_iload d14_225 rfl ?_
                        refine y_insI (as := [.inl (I (lw + 5) (x5).toNat), .inl (I48 (lw + 7) ((x4 + (-1)) - 1).toNat), .inl (I48 (lw + 7) (x4 + (-1)).toNat)]) (t := [.inl ((x4 + (-1)) - 1), .inr (lw + 7)]) gY_16 d14_227 gY_14.2.2.2 gM_1_66 rfl rfl k (fun v72 I73 k => ?_)
                        refine x_iast d14_230 hw.2.2.1.2.2.2.2.2.2 e71.1 e71.2 ?_
                        have e74 := k.1
                        replace k := k.2
                        refine x_iinc (ls2 := [some (.inr lw), u1, some (.inl x2), some (.inr 43), some (.inl (x4 + (-1))), some (.inl (x5 + 1)), some (.inl (I (lw + 5) (x5).toNat)), some (.inl (I48 (lw + 7) (x4 + (-1)).toNat))]) d14_231 rfl e74 rfl ?_
                        refine x_goto (pc2 := 6) d14_234 rfl ?_
                        exact k
                      · replace c : ¬ (¬ I (lw + 5) (x5).toNat = 37) := c
                        rw [if_neg c] at k
                        refine x_iconst d14_204 rfl ?_
                        exact x_iret d14_205 gR_14 ⟨_, _, rfl, rfl, k⟩
              · replace c : ¬ (x4 ≤ 0) := c
                rw [if_neg c] at k
                refine x_aload_n d14_122 rfl ?_
                refine x_getR (r := (lw + 7)) d14_123 gY_14.2.2.2 gF_1_28 rfl hw.2.1 hw.2.2.2.2.2.2.2.2.2 (Nat.succ_ne_zero _) ?_
                refine x_iload d14_126 rfl ?_
                refine x_iconst d14_128 rfl ?_
                have e75 := k.1
                replace k := k.2
                refine x_isub d14_129 e75 ?_
                have e76 := k.1
                replace k := k.2
                refine x_iald d14_130 hw.2.2.1.2.2.2.2.2.2 e76.1 e76.2 ?_
                refine x_iload d14_131 rfl ?_
                refine x_bipush d14_133 rfl ?_
                refine x_if2 (pc2 := 142) d14_135 rfl (fun c => ?_) (fun c => ?_)
                · replace c : ¬ I (lw + 5) (x5).toNat = 124 := c
                  rw [if_pos c] at k
                  refine x_iconst d14_142 rfl ?_
                  refine x_if2 (pc2 := 161) d14_143 rfl (fun c => ?_) (fun c => ?_)
                  · replace c : ¬ I48 (lw + 7) (x4 - 1).toNat = 0 := c
                    rw [if_pos c] at k
                    have e77 := k.1
                    replace k := k.2
                    refine x_iinc (ls2 := [some (.inr lw), u1, some (.inl x2), some (.inr 43), some (.inl (x4 + (-1))), some (.inl x5), some (.inl (I (lw + 5) (x5).toNat)), u7]) d14_161 rfl e77 rfl ?_
                    refine x_goto (pc2 := 231) d14_164 rfl ?_
                    have e78 := k.1
                    replace k := k.2
                    refine x_iinc (ls2 := [some (.inr lw), u1, some (.inl x2), some (.inr 43), some (.inl (x4 + (-1))), some (.inl (x5 + 1)), some (.inl (I (lw + 5) (x5).toNat)), u7]) d14_231 rfl e78 rfl ?_
                    refine x_goto (pc2 := 6) d14_234 rfl ?_
                    exact k
                  · replace c : ¬ (¬ I48 (lw + 7) (x4 - 1).toNat = 0) := c
                    rw [if_neg c] at k
                    refine x_iload d14_146 rfl ?_
                    refine x_aload_n d14_148 rfl ?_
                    refine x_getR (r := (lw + 6)) d14_149 gY_14.2.2.2 gF_1_25 rfl hw.2.1 hw.2.2.2.2.2.2.2.2.1 (Nat.succ_ne_zero _) ?_
                    refine x_iload d14_152 rfl ?_
                    refine x_iald d14_154 hw.2.2.1.2.2.2.2.2.1 e1.1 e1.2 ?_
                    have e79 := k.1
                    replace k := k.2
                    refine x_iadd d14_155 e79 ?_
                    refine x_istore (ls2 := [some (.inr lw), u1, some (.inl x2), some (.inr 43), some (.inl x4), some (.inl (x5 + I48 (lw + 6) (x5).toNat)), some (.inl (I (lw + 5) (x5).toNat)), u7]) d14_156 rfl rfl ?_
                    refine x_goto (pc2 := 231) d14_158 rfl ?_
                    have e80 := k.1
                    replace k := k.2
                    refine x_iinc (ls2 := [some (.inr lw), u1, some (.inl x2), some (.inr 43), some (.inl x4), some (.inl ((x5 + I48 (lw + 6) (x5).toNat) + 1)), some (.inl (I (lw + 5) (x5).toNat)), u7]) d14_231 rfl e80 rfl ?_
                    refine x_goto (pc2 := 6) d14_234 rfl ?_
                    exact k
                · replace c : ¬ (¬ I (lw + 5) (x5).toNat = 124) := c
                  rw [if_neg c] at k
                  refine x_iconst d14_138 rfl ?_
                  refine x_goto (pc2 := 143) d14_139 rfl ?_
                  refine x_if2 (pc2 := 161) d14_143 rfl (fun c => ?_) (fun c => ?_)
                  · replace c : ¬ I48 (lw + 7) (x4 - 1).toNat = 1 := c
                    rw [if_pos c] at k
                    have e81 := k.1
                    replace k := k.2
                    refine x_iinc (ls2 := [some (.inr lw), u1, some (.inl x2), some (.inr 43), some (.inl (x4 + (-1))), some (.inl x5), some (.inl (I (lw + 5) (x5).toNat)), u7]) d14_161 rfl e81 rfl ?_
                    refine x_goto (pc2 := 231) d14_164 rfl ?_
                    have e82 := k.1
                    replace k := k.2
                    refine x_iinc (ls2 := [some (.inr lw), u1, some (.inl x2), some (.inr 43), some (.inl (x4 + (-1))), some (.inl (x5 + 1)), some (.inl (I (lw + 5) (x5).toNat)), u7]) d14_231 rfl e82 rfl ?_
                    refine x_goto (pc2 := 6) d14_234 rfl ?_
                    exact k
                  · replace c : ¬ (¬ I48 (lw + 7) (x4 - 1).toNat = 1) := c
                    rw [if_neg c] at k
                    refine x_iload d14_146 rfl ?_
                    refine x_aload_n d14_148 rfl ?_
                    refine x_getR (r := (lw + 6)) d14_149 gY_14.2.2.2 gF_1_25 rfl hw.2.1 hw.2.2.2.2.2.2.2.2.1 (Nat.succ_ne_zero _) ?_
                    refine x_iload d14_152 rfl ?_
                    refine x_iald d14_154 hw.2.2.1.2.2.2.2.2.1 e1.1 e1.2 ?_
                    have e83 := k.1
                    replace k := k.2
                    refine x_iadd d14_155 e83 ?_
                    refine x_istore (ls2 := [some (.inr lw), u1, some (.inl x2), some (.inr 43), some (.inl x4), some (.inl (x5 + I48 (lw + 6) (x5).toNat)), some (.inl (I (lw + 5) (x5).toNat)), u7]) d14_156 rfl rfl ?_
                    refine x_goto (pc2 := 231) d14_158 rfl ?_
                    have e84 := k.1
                    replace k := k.2
                    refine x_iinc (ls2 := [some (.inr lw), u1, some (.inl x2), some (.inr 43), some (.inl x4), some (.inl ((x5 + I48 (lw + 6) (x5).toNat) + 1)), some (.inl (I (lw + 5) (x5).toNat)), u7]) d14_231 rfl e84 rfl ?_
                    refine x_goto (pc2 := 6) d14_234 rfl ?_
                    exact k
          · replace c : ¬ (x4 ≤ 0) := c
            rw [if_neg c] at k
            refine x_aload_n d14_86 rfl ?_
            refine x_getR (r := (lw + 7)) d14_87 gY_14.2.2.2 gF_1_28 rfl hw.2.1 hw.2.2.2.2.2.2.2.2.2 (Nat.succ_ne_zero _) ?_
            refine x_iload d14_90 rfl ?_
            refine x_iconst d14_92 rfl ?_
            have e85 := k.1
            replace k := k.2
            refine x_isub d14_93 e85 ?_
            refine x_iconst d14_94 rfl ?_
            refine x_aload_n d14_95 rfl ?_
            refine x_getR (r := (lw + 7)) d14_96 gY_14.2.2.2 gF_1_28 rfl hw.2.1 hw.2.2.2.2.2.2.2.2.2 (Nat.succ_ne_zero _) ?_
            refine x_iload d14_99 rfl ?_
            refine x_iconst d14_101 rfl ?_
            refine x_isub d14_102 e85 ?_
            have e86 := k.1
            replace k := k.2
            refine x_iald d14_103 hw.2.2.1.2.2.2.2.2.2 e86.1 e86.2 ?_
            have e87 := k.1
            replace k := k.2
            refine x_isub d14_104 e87 ?_
            refine x_iast d14_105 hw.2.2.1.2.2.2.2.2.2 e86.1 e86.2 ?_
            refine x_goto (pc2 := 231) d14_106 rfl ?_
            have e88 := k.1
            replace k := k.2
            refine x_iinc (ls2 := [some (.inr lw), u1, some (.inl x2), some (.inr 43), some (.inl x4), some (.inl (x5 + 1)), some (.inl (I (lw + 5) (x5).toNat)), u7]) d14_231 rfl e88 rfl ?_
            refine x_goto (pc2 := 6) d14_234 rfl ?_
            exact k
      · replace c : ¬ (¬ I (lw + 5) (x5).toNat = 120) := c
        rw [if_neg c] at k
        refine x_aload_n d14_35 rfl ?_
        refine x_getR (r := (lw + 7)) d14_36 gY_14.2.2.2 gF_1_28 rfl hw.2.1 hw.2.2.2.2.2.2.2.2.2 (Nat.succ_ne_zero _) ?_
        refine x_iload d14_39 rfl ?_
        refine x_iload d14_41 rfl ?_
        refine x_bipush d14_43 rfl ?_
        refine x_if2 (pc2 := 60) d14_45 rfl (fun c => ?_) (fun c => ?_)
        · replace c : ¬ I (lw + 5) (x5).toNat = 120 := c
          rw [if_pos c] at k
          refine x_aload_n d14_60 rfl ?_
          refine x_getR (r := (lw + 6)) d14_61 gY_14.2.2.2 gF_1_25 rfl hw.2.1 hw.2.2.2.2.2.2.2.2.1 (Nat.succ_ne_zero _) ?_
          refine x_iload d14_64 rfl ?_
          refine x_iald d14_66 hw.2.2.1.2.2.2.2.2.1 e1.1 e1.2 ?_
          have e89 := k.1
          replace k := k.2
          refine x_iast d14_67 hw.2.2.1.2.2.2.2.2.2 e89.1 e89.2 ?_
          have e90 := k.1
          replace k := k.2
          refine x_iinc (ls2 := [some (.inr lw), u1, some (.inl x2), some (.inr 43), some (.inl (x4 + 1)), some (.inl x5), some (.inl (I (lw + 5) (x5).toNat)), u7]) d14_68 rfl e90 rfl ?_
          refine x_goto (pc2 := 231) d14_71 rfl ?_
          have e91 := k.1
          replace k := k.2
          refine x_iinc (ls2 := [some (.inr lw), u1, some (.inl x2), some (.inr 43), some (.inl (x4 + 1)), some (.inl (x5 + 1)), some (.inl (I (lw + 5) (x5).toNat)), u7]) d14_231 rfl e91 rfl ?_
          refine x_goto (pc2 := 6) d14_234 rfl ?_
          exact k
        · replace c : ¬ (¬ I (lw + 5) (x5).toNat = 120) := c
          rw [if_neg c] at k
          refine x_aload_n d14_48 rfl ?_
          refine x_aload_n d14_49 rfl ?_
          refine x_getR (r := (lw + 6)) d14_50 gY_14.2.2.2 gF_1_25 rfl hw.2.1 hw.2.2.2.2.2.2.2.2.1 (Nat.succ_ne_zero _) ?_
          refine x_iload d14_53 rfl ?_
          refine x_iald d14_55 hw.2.2.1.2.2.2.2.2.1 e1.1 e1.2 ?_
          have e92 := k.1
          replace k := k.2
          refine x_iald d14_56 (sh_43 hW) e92.1 e92.2 ?_
          refine x_goto (pc2 := 67) d14_57 rfl ?_
          have e93 := k.1
          replace k := k.2
          refine x_iast d14_67 hw.2.2.1.2.2.2.2.2.2 e93.1 e93.2 ?_
          have e94 := k.1
          replace k := k.2
          refine x_iinc (ls2 := [some (.inr lw), u1, some (.inl x2), some (.inr 43), some (.inl (x4 + 1)), some (.inl x5), some (.inl (I (lw + 5) (x5).toNat)), u7]) d14_68 rfl e94 rfl ?_
          refine x_goto (pc2 := 231) d14_71 rfl ?_
          have e95 := k.1
          replace k := k.2
          refine x_iinc (ls2 := [some (.inr lw), u1, some (.inl x2), some (.inr 43), some (.inl (x4 + 1)), some (.inl (x5 + 1)), some (.inl (I (lw + 5) (x5).toNat)), u7]) d14_231 rfl e95 rfl ?_
          refine x_goto (pc2 := 6) d14_234 rfl ?_
          exact k
set_option maxHeartbeats 4000000 in
theorem b_W_isLeap_0 {d n : Nat} {sh : ZS} {R : ZR} {I : ZI} {Q : Int → ZI → Prop} (hW : Wf sh R) {x0 : Int}
    (k : (if x0 = 38 then Q 1 I else (if ¬ x0 = 124 then Q 0 I else Q 1 I))) : XI d 15 [.inl x0] n sh R I Q := by
  refine XI.of (ls := [some (.inl x0)]) (zloc_eq gY_15.2.2.1) ?_
  unfold XIs
  refine x_iload_n d15_0 rfl ?_
  refine x_bipush d15_1 rfl ?_
  refine x_if2 (pc2 := 12) d15_3 rfl (fun c => ?_) (fun c => ?_)
  · replace c : x0 = 38 := c
    rw [if_pos c] at k
    refine x_iconst d15_12 rfl ?_
    refine x_goto (pc2 := 17) d15_13 rfl ?_
    exact x_zret d15_17 gR_15 (by decide) ⟨_, _, rfl, rfl, k⟩
  · replace c : ¬ (x0 = 38) := c
    rw [if_neg c] at k
    refine x_iload_n d15_6 rfl ?_
    refine x_bipush d15_7 rfl ?_
    refine x_if2 (pc2 := 16) d15_9 rfl (fun c => ?_) (fun c => ?_)
    · replace c : ¬ x0 = 124 := c
      rw [if_pos c] at k
      refine x_iconst d15_16 rfl ?_
      exact x_zret d15_17 gR_15 (by decide) ⟨_, _, rfl, rfl, k⟩
    · replace c : ¬ (¬ x0 = 124) := c
      rw [if_neg c] at k
      refine x_iconst d15_12 rfl ?_
      refine x_goto (pc2 := 17) d15_13 rfl ?_
      exact x_zret d15_17 gR_15 (by decide) ⟨_, _, rfl, rfl, k⟩
set_option maxHeartbeats 4000000 in
theorem b_W_reckon_0 {d n : Nat} {sh : ZS} {R : ZR} {I : ZI} {Q : Int → ZI → Prop} (hW : Wf sh R) {x0 : Int} {x1 : Int} {x2 : Int}
    (k : (if x0 = 37 then (if ¬ x2 = 0 then (¬ x2 = 0) ∧ Q ((x1).tmod x2) I else Q 0 I) else (if x0 = 42 then Q (zw (x1 * x2)) I else (if x0 = 43 then Q (zw (x1 + x2)) I else (if x0 = 45 then Q (zw (x1 - x2)) I else (if x0 = 47 then (if ¬ x2 = 0 then (¬ x2 = 0) ∧ Q (zw ((x1).tdiv x2)) I else Q 0 I) else (if x0 = 60 then (if x2 ≤ x1 then Q 0 I else Q 1 I) else (if x0 = 62 then (if x1 ≤ x2 then Q 0 I else Q 1 I) else (if ¬ x1 = x2 then Q 0 I else Q 1 I))))))))) : XI d 16 [.inl x0, .inl x1, .inl x2] n sh R I Q := by
  refine XI.of (ls := [some (.inl x0), some (.inl x1), some (.inl x2)]) (zloc_eq gY_16.2.2.1) ?_
  unfold XIs
  refine x_iload_n d16_0 rfl ?_
  by_cases c : x0 = 37
  · rw [if_pos c] at k
    refine x_lsw (off := 91) (pc2 := 92) d16_1 (by decide) (by rw [c]; decide) rfl ?_
    refine x_iload_n d16_92 rfl ?_
    refine x_if1 (pc2 := 100) d16_93 rfl (fun c => ?_) (fun c => ?_)
    · replace c : ¬ x2 = 0 := c
      rw [if_pos c] at k
      refine x_iload_n d16_100 rfl ?_
      refine x_iload_n d16_101 rfl ?_
      have e1 := k.1
      replace k := k.2
      refine x_iremW d16_102 e1 ?_
      exact x_iret d16_103 gR_16 ⟨_, _, rfl, rfl, k⟩
    · replace c : ¬ (¬ x2 = 0) := c
      rw [if_neg c] at k
      refine x_iconst d16_96 rfl ?_
      refine x_goto (pc2 := 103) d16_97 rfl ?_
      exact x_iret d16_103 gR_16 ⟨_, _, rfl, rfl, k⟩
  rw [if_neg c] at k
  have c37 := c
  clear c
  by_cases c : x0 = 42
  · rw [if_pos c] at k
    refine x_lsw (off := 75) (pc2 := 76) d16_1 (by decide) (by rw [c]; decide) rfl ?_
    refine x_iload_n d16_76 rfl ?_
    refine x_iload_n d16_77 rfl ?_
    refine x_imulW d16_78 ?_
    exact x_iret d16_79 gR_16 ⟨_, _, rfl, rfl, k⟩
  rw [if_neg c] at k
  have c42 := c
  clear c
  by_cases c : x0 = 43
  · rw [if_pos c] at k
    refine x_lsw (off := 67) (pc2 := 68) d16_1 (by decide) (by rw [c]; decide) rfl ?_
    refine x_iload_n d16_68 rfl ?_
    refine x_iload_n d16_69 rfl ?_
    refine x_iaddW d16_70 ?_
    exact x_iret d16_71 gR_16 ⟨_, _, rfl, rfl, k⟩
  rw [if_neg c] at k
  have c43 := c
  clear c
  by_cases c : x0 = 45
  · rw [if_pos c] at k
    refine x_lsw (off := 71) (pc2 := 72) d16_1 (by decide) (by rw [c]; decide) rfl ?_
    refine x_iload_n d16_72 rfl ?_
    refine x_iload_n d16_73 rfl ?_
    refine x_isubW d16_74 ?_
    exact x_iret d16_75 gR_16 ⟨_, _, rfl, rfl, k⟩
  rw [if_neg c] at k
  have c45 := c
  clear c
  by_cases c : x0 = 47
  · rw [if_pos c] at k
    refine x_lsw (off := 79) (pc2 := 80) d16_1 (by decide) (by rw [c]; decide) rfl ?_
    refine x_iload_n d16_80 rfl ?_
    refine x_if1 (pc2 := 88) d16_81 rfl (fun c => ?_) (fun c => ?_)
    · replace c : ¬ x2 = 0 := c
      rw [if_pos c] at k
      refine x_iload_n d16_88 rfl ?_
      refine x_iload_n d16_89 rfl ?_
      have e2 := k.1
      replace k := k.2
      refine x_idivW d16_90 e2 ?_
      exact x_iret d16_91 gR_16 ⟨_, _, rfl, rfl, k⟩
    · replace c : ¬ (¬ x2 = 0) := c
      rw [if_neg c] at k
      refine x_iconst d16_84 rfl ?_
      refine x_goto (pc2 := 91) d16_85 rfl ?_
      exact x_iret d16_91 gR_16 ⟨_, _, rfl, rfl, k⟩
  rw [if_neg c] at k
  have c47 := c
  clear c
  by_cases c : x0 = 60
  · rw [if_pos c] at k
    refine x_lsw (off := 103) (pc2 := 104) d16_1 (by decide) (by rw [c]; decide) rfl ?_
    refine x_iload_n d16_104 rfl ?_
    refine x_iload_n d16_105 rfl ?_
    refine x_if2 (pc2 := 113) d16_106 rfl (fun c => ?_) (fun c => ?_)
    · replace c : x2 ≤ x1 := c
      rw [if_pos c] at k
      refine x_iconst d16_113 rfl ?_
      exact x_iret d16_114 gR_16 ⟨_, _, rfl, rfl, k⟩
    · replace c : ¬ (x2 ≤ x1) := c
      rw [if_neg c] at k
      refine x_iconst d16_109 rfl ?_
      refine x_goto (pc2 := 114) d16_110 rfl ?_
      exact x_iret d16_114 gR_16 ⟨_, _, rfl, rfl, k⟩
  rw [if_neg c] at k
  have c60 := c
  clear c
  by_cases c : x0 = 62
  · rw [if_pos c] at k
    refine x_lsw (off := 114) (pc2 := 115) d16_1 (by decide) (by rw [c]; decide) rfl ?_
    refine x_iload_n d16_115 rfl ?_
    refine x_iload_n d16_116 rfl ?_
    refine x_if2 (pc2 := 124) d16_117 rfl (fun c => ?_) (fun c => ?_)
    · replace c : x1 ≤ x2 := c
      rw [if_pos c] at k
      refine x_iconst d16_124 rfl ?_
      exact x_iret d16_125 gR_16 ⟨_, _, rfl, rfl, k⟩
    · replace c : ¬ (x1 ≤ x2) := c
      rw [if_neg c] at k
      refine x_iconst d16_120 rfl ?_
      refine x_goto (pc2 := 125) d16_121 rfl ?_
      exact x_iret d16_125 gR_16 ⟨_, _, rfl, rfl, k⟩
  rw [if_neg c] at k
  have c62 := c
  clear c
  refine x_lsw (off := 125) (pc2 := 126) d16_1 (by decide) (zls_dflt [37, 42, 43, 45, 47, 60, 62] (by decide) (by intro v hv; simp at hv; omega)) rfl ?_
  refine x_iload_n d16_126 rfl ?_
  refine x_iload_n d16_127 rfl ?_
  refine x_if2 (pc2 := 135) d16_128 rfl (fun c => ?_) (fun c => ?_)
  · replace c : ¬ x1 = x2 := c
    rw [if_pos c] at k
    refine x_iconst d16_135 rfl ?_
    exact x_iret d16_136 gR_16 ⟨_, _, rfl, rfl, k⟩
  · replace c : ¬ (¬ x1 = x2) := c
    rw [if_neg c] at k
    refine x_iconst d16_131 rfl ?_
    refine x_goto (pc2 := 136) d16_132 rfl ?_
    exact x_iret d16_136 gR_16 ⟨_, _, rfl, rfl, k⟩
set_option maxHeartbeats 4000000 in
theorem b_L_number_0 {d n : Nat} {sh : ZS} {R : ZR} {I : ZI} {Q : Int → ZI → Prop} (hW : Wf sh R) 
    (k : XIs (d + 1) 28 4 [some (.inr 4), some (.inl 0), some (.inl 0)] [] n sh R I Q) : XI (d + 1) 28 [.inr 4] n sh R I Q := by
  refine XI.of (ls := [some (.inr 4), none, none]) (zloc_eq gY_28.2.2.1) ?_
  unfold XIs
  refine x_iconst d28_0 rfl ?_
  refine x_istore_n (ls2 := [some (.inr 4), some (.inl 0), none]) d28_1 rfl rfl ?_
  refine x_iconst d28_2 rfl ?_
  refine x_istore_n (ls2 := [some (.inr 4), some (.inl 0), some (.inl 0)]) d28_3 rfl rfl ?_
  exact k
set_option maxHeartbeats 4000000 in
theorem b_L_number_4 {d n : Nat} {sh : ZS} {R : ZR} {I : ZI} {Q : Int → ZI → Prop} (hW : Wf sh R) (hM : Lw sh R (R 4 1)) {x1 : Int} {x2 : Int}
    (k : (if 5 ≤ x2 then XI d 30 [.inr 4] n sh R I (fun v1 I2 => XI d 33 [.inl v1] n sh R I2 (fun v3 I4 => (if v3 = 0 then XI d 8 [.inr (R 4 1), .inl 35, .inl x1] n sh R I4 (fun v5 I6 => Q 1 I6) else (zr ((-1000) * 2)) ∧ (zr (((-1000) * 2) - I4 4 3)) ∧ Q 0 (zup I4 4 4 (((-1000) * 2) - I4 4 3))))) else XI d 30 [.inr 4] n sh R I (fun v9 I10 => XI d 33 [.inl v9] n sh R I10 (fun v11 I12 => (if v11 = 0 then XI d 30 [.inr 4] n sh R I12 (fun v13 I14 => XI d 33 [.inl v13] n sh R I14 (fun v15 I16 => (if v15 = 0 then XI d 8 [.inr (R 4 1), .inl 35, .inl x1] n sh R I16 (fun v17 I18 => Q 1 I18) else (zr ((-1000) * 2)) ∧ (zr (((-1000) * 2) - I16 4 3)) ∧ Q 0 (zup I16 4 4 (((-1000) * 2) - I16 4 3))))) else (zr (10 * x1)) ∧ XI d 30 [.inr 4] n sh R I12 (fun v22 I23 => (zr ((10 * x1) + v22)) ∧ (zr (((10 * x1) + v22) - 48)) ∧ (zr (I23 4 3 + 1)) ∧ (zr (x2 + 1)) ∧ XIs (d + 1) 28 4 [some (.inr 4), some (.inl (((10 * x1) + v22) - 48)), some (.inl (x2 + 1))] [] n sh R (zup I23 4 3 (I23 4 3 + 1)) Q)))))) : XIs (d + 1) 28 4 [some (.inr 4), some (.inl x1), some (.inl x2)] [] n sh R I Q := by
  unfold XIs
  refine x_iload_n d28_4 rfl ?_
  refine x_iconst d28_5 rfl ?_
  refine x_if2 (pc2 := 48) d28_6 rfl (fun c => ?_) (fun c => ?_)
  · replace c : 5 ≤ x2 := c
    rw [if_pos c] at k
    refine x_aload_n d28_48 rfl ?_
    refine y_invI (as := []) (t := []) (o := 4) gY_30 d28_49 gY_28.2.2.2 gM_2_50 rfl (sh_4 hW) rfl k (fun v1 I2 k => ?_)
    refine y_insI (as := [.inl v1]) (t := []) gY_33 d28_52 gY_28.2.2.2 gM_2_96 rfl rfl k (fun v3 I4 k => ?_)
    refine x_if1 (pc2 := 64) d28_55 rfl (fun c => ?_) (fun c => ?_)
    · replace c : v3 = 0 := c
      rw [if_pos c] at k
      refine x_aload_n d28_64 rfl ?_
      refine x_getR (r := (R 4 1)) d28_65 gY_28.2.2.2 gF_2_10 rfl (sh_4 hW) rfl hM.1 ?_
      refine x_bipush d28_68 rfl ?_
      refine x_iload_n d28_70 rfl ?_
      refine y_invI (as := [.inl 35, .inl x1]) (t := []) (o := (R 4 1)) gY_8 d28_71 gY_28.2.2.2 gM_2_87 rfl hM.2.1 rfl k (fun v5 I6 k => ?_)
      refine x_pop d28_74 ?_
      refine x_iconst d28_75 rfl ?_
      exact x_zret d28_76 gR_28 (by decide) ⟨_, _, rfl, rfl, k⟩
    · replace c : ¬ (v3 = 0) := c
      rw [if_neg c] at k
      refine x_aload_n d28_58 rfl ?_
      refine x_iconst d28_59 rfl ?_
      refine y_inv (as := [.inl 2]) (t := []) (o := 4) (ls2 := [some (.inr 4), some (.inl 2)]) gY_32 d28_60 gY_28.2.2.2 gM_2_54 rfl (sh_4 hW) rfl rfl ?_
      refine x_aload_n d32_0 rfl ?_
      refine x_sipush d32_1 rfl ?_
      refine x_iload_n d32_4 rfl ?_
      have e7 := k.1
      replace k := k.2
      refine x_imul d32_5 e7 ?_
      refine x_aload_n d32_6 rfl ?_
      refine x_getI d32_7 gY_32.2.2.2 gF_2_20 rfl (sh_4 hW) ?_
      have e8 := k.1
      replace k := k.2
      refine x_isub d32_10 e8 ?_
      refine x_putI d32_11 gY_32.2.2.2 gF_2_23 rfl rfl (sh_4 hW) ?_
      refine x_iconst d32_14 rfl ?_
      refine x_zret d32_15 gR_32 (by decide) ?_
      show Ex (d + 1) 28 63 [some (.inr 4), some (.inl x1), some (.inl x2)] [.inl 0] (0, 0, n, sh, R, (zup I4 4 4 (((-1000) * 2) - I4 4 3))) _
      exact x_zret d28_63 gR_28 (by decide) ⟨_, _, rfl, rfl, k⟩
  · replace c : ¬ (5 ≤ x2) := c
    rw [if_neg c] at k
    refine x_aload_n d28_9 rfl ?_
    refine y_invI (as := []) (t := []) (o := 4) gY_30 d28_10 gY_28.2.2.2 gM_2_50 rfl (sh_4 hW) rfl k (fun v9 I10 k => ?_)
    refine y_insI (as := [.inl v9]) (t := []) gY_33 d28_13 gY_28.2.2.2 gM_2_96 rfl rfl k (fun v11 I12 k => ?_)
    refine x_if1 (pc2 := 48) d28_16 rfl (fun c => ?_) (fun c => ?_)
    · replace c : v11 = 0 := c
      rw [if_pos c] at k
      refine x_aload_n d28_48 rfl ?_
      refine y_invI (as := []) (t := []) (o := 4) gY_30 d28_49 gY_28.2.2.2 gM_2_50 rfl (sh_4 hW) rfl k (fun v13 I14 k => ?_)
      refine y_insI (as := [.inl v13]) (t := []) gY_33 d28_52 gY_28.2.2.2 gM_2_96 rfl rfl k (fun v15 I16 k => ?_)
      refine x_if1 (pc2 := 64) d28_55 rfl (fun c => ?_) (fun c => ?_)
      · replace c : v15 = 0 := c
        rw [if_pos c] at k
        refine x_aload_n d28_64 rfl ?_
        refine x_getR (r := (R 4 1)) d28_65 gY_28.2.2.2 gF_2_10 rfl (sh_4 hW) rfl hM.1 ?_
        refine x_bipush d28_68 rfl ?_
        refine x_iload_n d28_70 rfl ?_
        refine y_invI (as := [.inl 35, .inl x1]) (t := []) (o := (R 4 1)) gY_8 d28_71 gY_28.2.2.2 gM_2_87 rfl hM.2.1 rfl k (fun v17 I18 k => ?_)
        refine x_pop d28_74 ?_
        refine x_iconst d28_75 rfl ?_
        exact x_zret d28_76 gR_28 (by decide) ⟨_, _, rfl, rfl, k⟩
      · replace c : ¬ (v15 = 0) := c
        rw [if_neg c] at k
        refine x_aload_n d28_58 rfl ?_
        refine x_iconst d28_59 rfl ?_
        refine y_inv (as := [.inl 2]) (t := []) (o := 4) (ls2 := [some (.inr 4), some (.inl 2)]) gY_32 d28_60 gY_28.2.2.2 gM_2_54 rfl (sh_4 hW) rfl rfl ?_
        refine x_aload_n d32_0 rfl ?_
        refine x_sipush d32_1 rfl ?_
        refine x_iload_n d32_4 rfl ?_
        have e19 := k.1
        replace k := k.2
        refine x_imul d32_5 e19 ?_
        refine x_aload_n d32_6 rfl ?_
        refine x_getI d32_7 gY_32.2.2.2 gF_2_20 rfl (sh_4 hW) ?_
        have e20 := k.1
        replace k := k.2
        refine x_isub d32_10 e20 ?_
        refine x_putI d32_11 gY_32.2.2.2 gF_2_23 rfl rfl (sh_4 hW) ?_
        refine x_iconst d32_14 rfl ?_
        refine x_zret d32_15 gR_32 (by decide) ?_
        show Ex (d + 1) 28 63 [some (.inr 4), some (.inl x1), some (.inl x2)] [.inl 0] (0, 0, n, sh, R, (zup I16 4 4 (((-1000) * 2) - I16 4 3))) _
        exact x_zret d28_63 gR_28 (by decide) ⟨_, _, rfl, rfl, k⟩
    · replace c : ¬ (v11 = 0) := c
      rw [if_neg c] at k
      refine x_bipush d28_19 rfl ?_
      refine x_iload_n d28_21 rfl ?_
      have e21 := k.1
      replace k := k.2
      refine x_imul d28_22 e21 ?_
      refine x_aload_n d28_23 rfl ?_
      refine y_invI (as := []) (t := [.inl (10 * x1)]) (o := 4) gY_30 d28_24 gY_28.2.2.2 gM_2_50 rfl (sh_4 hW) rfl k (fun v22 I23 k => ?_)
      have e24 := k.1
      replace k := k.2
      refine x_iadd d28_27 e24 ?_
      refine x_bipush d28_28 rfl ?_
      have e25 := k.1
      replace k := k.2
      refine x_isub d28_30 e25 ?_
      refine x_istore_n (ls2 := [some (.inr 4), some (.inl (((10 * x1) + v22) - 48)), some (.inl x2)]) d28_31 rfl rfl ?_
      refine x_aload_n d28_32 rfl ?_
      refine x_dup d28_33 ?_
      refine x_getI d28_34 gY_28.2.2.2 gF_2_20 rfl (sh_4 hW) ?_
      refine x_iconst d28_37 rfl ?_
      have e26 := k.1
      replace k := k.2
      refine x_iadd d28_38 e26 ?_
      refine x_putI d28_39 gY_28.2.2.2 gF_2_20 rfl rfl (sh_4 hW) ?_
      have e27 := k.1
      replace k := k.2
      refine x_iinc (ls2 := [some (.inr 4), some (.inl (((10 * x1) + v22) - 48)), some (.inl (x2 + 1))]) d28_42 rfl e27 rfl ?_
      refine x_goto (pc2 := 4) d28_45 rfl ?_
      exact k
set_option maxHeartbeats 4000000 in
theorem b_L_operator_0 {d n : Nat} {sh : ZS} {R : ZR} {I : ZI} {Q : Int → ZI → Prop} (hW : Wf sh R) (hM : Lw sh R (R 4 1)) {x1 : Int}
    (k : (zr (I 4 3 + 1)) ∧ XI d 8 [.inr (R 4 1), .inl x1, .inl 0] n sh R (zup I 4 3 (I 4 3 + 1)) (fun v2 I3 => Q v2 I3)) : XI (d + 1) 29 [.inr 4, .inl x1] n sh R I Q := by
  refine XI.of (ls := [some (.inr 4), some (.inl x1)]) (zloc_eq gY_29.2.2.1) ?_
  unfold XIs
  refine x_aload_n d29_0 rfl ?_
  refine x_dup d29_1 ?_
  refine x_getI d29_2 gY_29.2.2.2 gF_2_20 rfl (sh_4 hW) ?_
  refine x_iconst d29_5 rfl ?_
  have e1 := k.1
  replace k := k.2
  refine x_iadd d29_6 e1 ?_
  refine x_putI d29_7 gY_29.2.2.2 gF_2_20 rfl rfl (sh_4 hW) ?_
  refine x_aload_n d29_10 rfl ?_
  refine x_getR (r := (R 4 1)) d29_11 gY_29.2.2.2 gF_2_10 rfl (sh_4 hW) rfl hM.1 ?_
  refine x_iload_n d29_14 rfl ?_
  refine x_iconst d29_15 rfl ?_
  refine y_invI (as := [.inl x1, .inl 0]) (t := []) (o := (R 4 1)) gY_8 d29_16 gY_29.2.2.2 gM_2_87 rfl hM.2.1 rfl k (fun v2 I3 k => ?_)
  exact x_iret d29_19 gR_29 ⟨_, _, rfl, rfl, k⟩
set_option maxHeartbeats 4000000 in
theorem b_L_next_0 {d n : Nat} {sh : ZS} {R : ZR} {I : ZI} {Q : Int → ZI → Prop} (hW : Wf sh R) 
    (k : (if I 4 2 ≤ I 4 3 then Q (-1) I else (0 ≤ I 4 3 ∧ I 4 3 < 220) ∧ Q (I 3 (I 4 3).toNat) I)) : XI d 30 [.inr 4] n sh R I Q := by
  refine XI.of (ls := [some (.inr 4)]) (zloc_eq gY_30.2.2.1) ?_
  unfold XIs
  refine x_aload_n d30_0 rfl ?_
  refine x_getI d30_1 gY_30.2.2.2 gF_2_20 rfl (sh_4 hW) ?_
  refine x_aload_n d30_4 rfl ?_
  refine x_getI d30_5 gY_30.2.2.2 gF_2_16 rfl (sh_4 hW) ?_
  refine x_if2 (pc2 := 23) d30_8 rfl (fun c => ?_) (fun c => ?_)
  · replace c : I 4 2 ≤ I 4 3 := c
    rw [if_pos c] at k
    refine x_iconst d30_23 rfl ?_
    exact x_iret d30_24 gR_30 ⟨_, _, rfl, rfl, k⟩
  · replace c : ¬ (I 4 2 ≤ I 4 3) := c
    rw [if_neg c] at k
    refine x_aload_n d30_11 rfl ?_
    refine x_getR (r := 3) d30_12 gY_30.2.2.2 gF_2_26 rfl (sh_4 hW) (rf_4_0 hW) (by decide) ?_
    refine x_aload_n d30_15 rfl ?_
    refine x_getI d30_16 gY_30.2.2.2 gF_2_20 rfl (sh_4 hW) ?_
    have e1 := k.1
    replace k := k.2
    refine x_iald d30_19 (sh_3 hW) e1.1 e1.2 ?_
    refine x_goto (pc2 := 24) d30_20 rfl ?_
    exact x_iret d30_24 gR_30 ⟨_, _, rfl, rfl, k⟩
set_option maxHeartbeats 4000000 in
theorem b_L_take_0 {d n : Nat} {sh : ZS} {R : ZR} {I : ZI} {Q : Int → ZI → Prop} (hW : Wf sh R) {x1 : Int}
    (k : XI d 30 [.inr 4] n sh R I (fun v1 I2 => (if v1 = x1 then (zr (I2 4 3 + 1)) ∧ Q 1 (zup I2 4 3 (I2 4 3 + 1)) else (zr ((-1000) * 1)) ∧ (zr (((-1000) * 1) - I2 4 3)) ∧ Q 0 (zup I2 4 4 (((-1000) * 1) - I2 4 3))))) : XI (d + 1) 31 [.inr 4, .inl x1] n sh R I Q := by
  refine XI.of (ls := [some (.inr 4), some (.inl x1)]) (zloc_eq gY_31.2.2.1) ?_
  unfold XIs
  refine x_aload_n d31_0 rfl ?_
  refine y_invI (as := []) (t := []) (o := 4) gY_30 d31_1 gY_31.2.2.2 gM_2_50 rfl (sh_4 hW) rfl k (fun v1 I2 k => ?_)
  refine x_iload_n d31_4 rfl ?_
  refine x_if2 (pc2 := 14) d31_5 rfl (fun c => ?_) (fun c => ?_)
  · replace c : v1 = x1 := c
    rw [if_pos c] at k
    refine x_aload_n d31_14 rfl ?_
    refine x_dup d31_15 ?_
    refine x_getI d31_16 gY_31.2.2.2 gF_2_20 rfl (sh_4 hW) ?_
    refine x_iconst d31_19 rfl ?_
    have e3 := k.1
    replace k := k.2
    refine x_iadd d31_20 e3 ?_
    refine x_putI d31_21 gY_31.2.2.2 gF_2_20 rfl rfl (sh_4 hW) ?_
    refine x_iconst d31_24 rfl ?_
    exact x_zret d31_25 gR_31 (by decide) ⟨_, _, rfl, rfl, k⟩
  · replace c : ¬ (v1 = x1) := c
    rw [if_neg c] at k
    refine x_aload_n d31_8 rfl ?_
    refine x_iconst d31_9 rfl ?_
    refine y_inv (as := [.inl 1]) (t := []) (o := 4) (ls2 := [some (.inr 4), some (.inl 1)]) gY_32 d31_10 gY_31.2.2.2 gM_2_54 rfl (sh_4 hW) rfl rfl ?_
    refine x_aload_n d32_0 rfl ?_
    refine x_sipush d32_1 rfl ?_
    refine x_iload_n d32_4 rfl ?_
    have e4 := k.1
    replace k := k.2
    refine x_imul d32_5 e4 ?_
    refine x_aload_n d32_6 rfl ?_
    refine x_getI d32_7 gY_32.2.2.2 gF_2_20 rfl (sh_4 hW) ?_
    have e5 := k.1
    replace k := k.2
    refine x_isub d32_10 e5 ?_
    refine x_putI d32_11 gY_32.2.2.2 gF_2_23 rfl rfl (sh_4 hW) ?_
    refine x_iconst d32_14 rfl ?_
    refine x_zret d32_15 gR_32 (by decide) ?_
    show Ex (d + 1) 31 13 [some (.inr 4), some (.inl x1)] [.inl 0] (0, 0, n, sh, R, (zup I2 4 4 (((-1000) * 1) - I2 4 3))) _
    exact x_zret d31_13 gR_31 (by decide) ⟨_, _, rfl, rfl, k⟩
set_option maxHeartbeats 4000000 in
theorem b_L_isDigit_0 {d n : Nat} {sh : ZS} {R : ZR} {I : ZI} {Q : Int → ZI → Prop} (hW : Wf sh R) {x0 : Int}
    (k : (if x0 < 48 then Q 0 I else (if 57 < x0 then Q 0 I else Q 1 I))) : XI d 33 [.inl x0] n sh R I Q := by
  refine XI.of (ls := [some (.inl x0)]) (zloc_eq gY_33.2.2.1) ?_
  unfold XIs
  refine x_iload_n d33_0 rfl ?_
  refine x_bipush d33_1 rfl ?_
  refine x_if2 (pc2 := 16) d33_3 rfl (fun c => ?_) (fun c => ?_)
  · replace c : x0 < 48 := c
    rw [if_pos c] at k
    refine x_iconst d33_16 rfl ?_
    exact x_zret d33_17 gR_33 (by decide) ⟨_, _, rfl, rfl, k⟩
  · replace c : ¬ (x0 < 48) := c
    rw [if_neg c] at k
    refine x_iload_n d33_6 rfl ?_
    refine x_bipush d33_7 rfl ?_
    refine x_if2 (pc2 := 16) d33_9 rfl (fun c => ?_) (fun c => ?_)
    · replace c : 57 < x0 := c
      rw [if_pos c] at k
      refine x_iconst d33_16 rfl ?_
      exact x_zret d33_17 gR_33 (by decide) ⟨_, _, rfl, rfl, k⟩
    · replace c : ¬ (57 < x0) := c
      rw [if_neg c] at k
      refine x_iconst d33_12 rfl ?_
      refine x_goto (pc2 := 17) d33_13 rfl ?_
      exact x_zret d33_17 gR_33 (by decide) ⟨_, _, rfl, rfl, k⟩
set_option maxHeartbeats 4000000 in
theorem b_P_find_0 {d n : Nat} {sh : ZS} {R : ZR} {I : ZI} {Q : Int → ZI → Prop} (hW : Wf sh R) 
    (k : XIs (d + 4) 35 7 [some (.inr 59), some (.inl 1)] [] n sh R (zup I 59 3 0) Q) : XI (d + 4) 35 [.inr 59] n sh R I Q := by
  refine XI.of (ls := [some (.inr 59), none]) (zloc_eq gY_35.2.2.1) ?_
  unfold XIs
  refine x_iconst d35_0 rfl ?_
  refine x_istore_n (ls2 := [some (.inr 59), some (.inl 1)]) d35_1 rfl rfl ?_
  refine x_aload_n d35_2 rfl ?_
  refine x_iconst d35_3 rfl ?_
  refine x_putI d35_4 gY_35.2.2.2 gF_3_15 rfl rfl (sh_59 hW) ?_
  exact k
set_option maxHeartbeats 4000000 in
theorem b_P_find_7 {d n : Nat} {sh : ZS} {R : ZR} {I : ZI} {Q : Int → ZI → Prop} (hW : Wf sh R) {x1 : Int}
    (k : (if 5 < I 59 3 then Q (-2) I else XI (d + 3) 36 [.inr 59, .inl x1] n sh R I (fun v1 I2 => (if v1 = 0 then (zr (x1 * I2 15 0)) ∧ (zr (I2 59 3 + 1)) ∧ XIs (d + 4) 35 7 [some (.inr 59), some (.inl (x1 * I2 15 0))] [] n sh R (zup I2 59 3 (I2 59 3 + 1)) Q else Q (I2 59 3) I2)))) : XIs (d + 4) 35 7 [some (.inr 59), some (.inl x1)] [] n sh R I Q := by
  unfold XIs
  refine x_aload_n d35_7 rfl ?_
  refine x_getI d35_8 gY_35.2.2.2 gF_3_15 rfl (sh_59 hW) ?_
  refine x_iconst d35_11 rfl ?_
  refine x_if2 (pc2 := 51) d35_12 rfl (fun c => ?_) (fun c => ?_)
  · replace c : 5 < I 59 3 := c
    rw [if_pos c] at k
    refine x_bipush d35_51 rfl ?_
    exact x_iret d35_53 gR_35 ⟨_, _, rfl, rfl, k⟩
  · replace c : ¬ (5 < I 59 3) := c
    rw [if_neg c] at k
    refine x_aload_n d35_15 rfl ?_
    refine x_iload_n d35_16 rfl ?_
    refine y_invI (as := [.inl x1]) (t := []) (o := 59) gY_36 d35_17 gY_35.2.2.2 gM_3_27 rfl (sh_59 hW) rfl k (fun v1 I2 k => ?_)
    refine x_if1 (pc2 := 28) d35_20 rfl (fun c => ?_) (fun c => ?_)
    · replace c : v1 = 0 := c
      rw [if_pos c] at k
      refine x_iload_n d35_28 rfl ?_
      refine x_aload_n d35_29 rfl ?_
      refine x_getR (r := 15) d35_30 gY_35.2.2.2 gF_3_19 rfl (sh_59 hW) (rf_59_0 hW) (by decide) ?_
      refine x_getI d35_33 gY_35.2.2.2 gF_3_31 rfl (sh_15 hW) ?_
      have e3 := k.1
      replace k := k.2
      refine x_imul d35_36 e3 ?_
      refine x_istore_n (ls2 := [some (.inr 59), some (.inl (x1 * I2 15 0))]) d35_37 rfl rfl ?_
      refine x_aload_n d35_38 rfl ?_
      refine x_dup d35_39 ?_
      refine x_getI d35_40 gY_35.2.2.2 gF_3_15 rfl (sh_59 hW) ?_
      refine x_iconst d35_43 rfl ?_
      have e4 := k.1
      replace k := k.2
      refine x_iadd d35_44 e4 ?_
      refine x_putI d35_45 gY_35.2.2.2 gF_3_15 rfl rfl (sh_59 hW) ?_
      refine x_goto (pc2 := 7) d35_48 rfl ?_
      exact k
    · replace c : ¬ (v1 = 0) := c
      rw [if_neg c] at k
      refine x_aload_n d35_23 rfl ?_
      refine x_getI d35_24 gY_35.2.2.2 gF_3_15 rfl (sh_59 hW) ?_
      exact x_iret d35_27 gR_35 ⟨_, _, rfl, rfl, k⟩
set_option maxHeartbeats 4000000 in
theorem b_P_putRanks_0 {d n : Nat} {sh : ZS} {R : ZR} {I : ZI} {Q : Int → ZI → Prop} (hW : Wf sh R) {x1 : Int}
    (k : XIs (d + 3) 36 4 [some (.inr 59), some (.inl x1), some (.inl 0), some (.inl 0), none] [] n sh R I Q) : XI (d + 3) 36 [.inr 59, .inl x1] n sh R I Q := by
  refine XI.of (ls := [some (.inr 59), some (.inl x1), none, none, none]) (zloc_eq gY_36.2.2.1) ?_
  unfold XIs
  refine x_iconst d36_0 rfl ?_
  refine x_istore_n (ls2 := [some (.inr 59), some (.inl x1), some (.inl 0), none, none]) d36_1 rfl rfl ?_
  refine x_iconst d36_2 rfl ?_
  refine x_istore_n (ls2 := [some (.inr 59), some (.inl x1), some (.inl 0), some (.inl 0), none]) d36_3 rfl rfl ?_
  exact k
set_option maxHeartbeats 4000000 in
theorem b_P_putRanks_4 {d n : Nat} {sh : ZS} {R : ZR} {I : ZI} {Q : Int → ZI → Prop} (hW : Wf sh R) {x1 : Int} {x2 : Int} {x3 : Int} {u4 : Option AV}
    (k : (if x1 ≤ x3 then (if x2 < I 53 2 then Q 0 I else Q 1 I) else (if I 53 2 ≤ x2 then (if x2 < I 53 2 then Q 0 I else Q 1 I) else XI (d + 2) 37 [.inr 59, .inl x3] n sh R I (fun v1 I2 => (if ¬ (zand v1 1) = 0 then (0 ≤ x2 ∧ x2 < 20) ∧ (0 ≤ I2 54 (x2).toNat ∧ I2 54 (x2).toNat < 20) ∧ (zr (x2 + 1)) ∧ XIs (d + 3) 36 55 [some (.inr 59), some (.inl x1), some (.inl (x2 + 1)), some (.inl x3), some (.inl 0)] [] n sh R (zup I2 60 (I2 54 (x2).toNat).toNat x3) Q else (0 ≤ x2 ∧ x2 < 20) ∧ (0 ≤ I2 54 (x2).toNat ∧ I2 54 (x2).toNat < 20) ∧ (zr (x2 + 1)) ∧ XIs (d + 3) 36 55 [some (.inr 59), some (.inl x1), some (.inl (x2 + 1)), some (.inl x3), some (.inl 1)] [] n sh R (zup I2 60 (I2 54 (x2).toNat).toNat x3) Q))))) : XIs (d + 3) 36 4 [some (.inr 59), some (.inl x1), some (.inl x2), some (.inl x3), u4] [] n sh R I Q := by
  unfold XIs
  refine x_iload_n d36_4 rfl ?_
  refine x_iload_n d36_5 rfl ?_
  refine x_if2 (pc2 := 109) d36_6 rfl (fun c => ?_) (fun c => ?_)
  · replace c : x1 ≤ x3 := c
    rw [if_pos c] at k
    refine x_iload_n d36_109 rfl ?_
    refine x_aload_n d36_110 rfl ?_
    refine x_getR (r := 53) d36_111 gY_36.2.2.2 gF_3_23 rfl (sh_59 hW) (rf_59_1 hW) (by decide) ?_
    refine x_getI d36_114 gY_36.2.2.2 gF_3_36 rfl (sh_53 hW) ?_
    refine x_if2 (pc2 := 124) d36_117 rfl (fun c => ?_) (fun c => ?_)
    · replace c : x2 < I 53 2 := c
      rw [if_pos c] at k
      refine x_iconst d36_124 rfl ?_
      exact x_zret d36_125 gR_36 (by decide) ⟨_, _, rfl, rfl, k⟩
    · replace c : ¬ (x2 < I 53 2) := c
      rw [if_neg c] at k
      refine x_iconst d36_120 rfl ?_
      refine x_goto (pc2 := 125) d36_121 rfl ?_
      exact x_zret d36_125 gR_36 (by decide) ⟨_, _, rfl, rfl, k⟩
  · replace c : ¬ (x1 ≤ x3) := c
    rw [if_neg c] at k
    refine x_iload_n d36_9 rfl ?_
    refine x_aload_n d36_10 rfl ?_
    refine x_getR (r := 53) d36_11 gY_36.2.2.2 gF_3_23 rfl (sh_59 hW) (rf_59_1 hW) (by decide) ?_
    refine x_getI d36_14 gY_36.2.2.2 gF_3_36 rfl (sh_53 hW) ?_
    refine x_if2 (pc2 := 109) d36_17 rfl (fun c => ?_) (fun c => ?_)
    · replace c : I 53 2 ≤ x2 := c
      rw [if_pos c] at k
      refine x_iload_n d36_109 rfl ?_
      refine x_aload_n d36_110 rfl ?_
      refine x_getR (r := 53) d36_111 gY_36.2.2.2 gF_3_23 rfl (sh_59 hW) (rf_59_1 hW) (by decide) ?_
      refine x_getI d36_114 gY_36.2.2.2 gF_3_36 rfl (sh_53 hW) ?_
      refine x_if2 (pc2 := 124) d36_117 rfl (fun c => ?_) (fun c => ?_)
      · replace c : x2 < I 53 2 := c
        rw [if_pos c] at k
        refine x_iconst d36_124 rfl ?_
        exact x_zret d36_125 gR_36 (by decide) ⟨_, _, rfl, rfl, k⟩
      · replace c : ¬ (x2 < I 53 2) := c
        rw [if_neg c] at k
        refine x_iconst d36_120 rfl ?_
        refine x_goto (pc2 := 125) d36_121 rfl ?_
        exact x_zret d36_125 gR_36 (by decide) ⟨_, _, rfl, rfl, k⟩
    · replace c : ¬ (I 53 2 ≤ x2) := c
      rw [if_neg c] at k
      refine x_aload_n d36_20 rfl ?_
      refine x_iload_n d36_21 rfl ?_
      refine y_invI (as := [.inl x3]) (t := []) (o := 59) gY_37 d36_22 gY_36.2.2.2 gM_3_41 rfl (sh_59 hW) rfl k (fun v1 I2 k => ?_)
      refine x_iconst d36_25 rfl ?_
      refine x_iand d36_26 ?_
      refine x_if1 (pc2 := 34) d36_27 rfl (fun c => ?_) (fun c => ?_)
      · replace c : ¬ (zand v1 1) = 0 := c
        rw [if_pos c] at k
        refine x_iconst d36_34 rfl ?_
        refine x_istore (ls2 := [some (.inr 59), some (.inl x1), some (.inl x2), some (.inl x3), some (.inl 0)]) d36_35 rfl rfl ?_
        refine x_aload_n d36_37 rfl ?_
        refine x_getR (r := 60) d36_38 gY_36.2.2.2 gF_3_9 rfl (sh_59 hW) (rf_59_2 hW) (by decide) ?_
        refine x_aload_n d36_41 rfl ?_
        refine x_getR (r := 53) d36_42 gY_36.2.2.2 gF_3_23 rfl (sh_59 hW) (rf_59_1 hW) (by decide) ?_
        refine x_getR (r := 54) d36_45 gY_36.2.2.2 gF_3_45 rfl (sh_53 hW) (rf_53_0 hW) (by decide) ?_
        refine x_iload_n d36_48 rfl ?_
        have e3 := k.1
        replace k := k.2
        refine x_iald d36_49 (sh_54 hW) e3.1 e3.2 ?_
        refine x_iload_n d36_50 rfl ?_
        have e4 := k.1
        replace k := k.2
        refine x_iast d36_51 (sh_60 hW) e4.1 e4.2 ?_
        have e5 := k.1
        replace k := k.2
        refine x_iinc (ls2 := [some (.inr 59), some (.inl x1), some (.inl (x2 + 1)), some (.inl x3), some (.inl 0)]) d36_52 rfl e5 rfl ?_
        exact k
      · replace c : ¬ (¬ (zand v1 1) = 0) := c
        rw [if_neg c] at k
        refine x_iconst d36_30 rfl ?_
        refine x_goto (pc2 := 35) d36_31 rfl ?_
        refine x_istore (ls2 := [some (.inr 59), some (.inl x1), some (.inl x2), some (.inl x3), some (.inl 1)]) d36_35 rfl rfl ?_
        refine x_aload_n d36_37 rfl ?_
        refine x_getR (r := 60) d36_38 gY_36.2.2.2 gF_3_9 rfl (sh_59 hW) (rf_59_2 hW) (by decide) ?_
        refine x_aload_n d36_41 rfl ?_
        refine x_getR (r := 53) d36_42 gY_36.2.2.2 gF_3_23 rfl (sh_59 hW) (rf_59_1 hW) (by decide) ?_
        refine x_getR (r := 54) d36_45 gY_36.2.2.2 gF_3_45 rfl (sh_53 hW) (rf_53_0 hW) (by decide) ?_
        refine x_iload_n d36_48 rfl ?_
        have e6 := k.1
        replace k := k.2
        refine x_iald d36_49 (sh_54 hW) e6.1 e6.2 ?_
        refine x_iload_n d36_50 rfl ?_
        have e7 := k.1
        replace k := k.2
        refine x_iast d36_51 (sh_60 hW) e7.1 e7.2 ?_
        have e8 := k.1
        replace k := k.2
        refine x_iinc (ls2 := [some (.inr 59), some (.inl x1), some (.inl (x2 + 1)), some (.inl x3), some (.inl 1)]) d36_52 rfl e8 rfl ?_
        exact k
set_option maxHeartbeats 4000000 in
theorem b_P_putRanks_55 {d n : Nat} {sh : ZS} {R : ZR} {I : ZI} {Q : Int → ZI → Prop} (hW : Wf sh R) {x1 : Int} {x2 : Int} {x3 : Int} {x4 : Int}
    (k : (if I 53 2 ≤ x2 then (zr (x3 + 1)) ∧ XIs (d + 3) 36 4 [some (.inr 59), some (.inl x1), some (.inl x2), some (.inl (x3 + 1)), some (.inl x4)] [] n sh R I Q else (zr (x2 - 1)) ∧ (if x4 = 0 then (0 ≤ (x2 - 1) ∧ (x2 - 1) < 20) ∧ (0 ≤ I 54 (x2 - 1).toNat ∧ I 54 (x2 - 1).toNat < 20) ∧ (0 ≤ x2 ∧ x2 < 20) ∧ (0 ≤ I 54 (x2).toNat ∧ I 54 (x2).toNat < 20) ∧ (if I 56 (I 54 (x2 - 1).toNat).toNat ≤ I 57 (I 54 (x2).toNat).toNat then (zr (x3 + 1)) ∧ XIs (d + 3) 36 4 [some (.inr 59), some (.inl x1), some (.inl x2), some (.inl (x3 + 1)), some (.inl x4)] [] n sh R I Q else (zr (x2 + 1)) ∧ XIs (d + 3) 36 55 [some (.inr 59), some (.inl x1), some (.inl (x2 + 1)), some (.inl x3), some (.inl x4)] [] n sh R (zup I 60 (I 54 (x2).toNat).toNat x3) Q) else (0 ≤ (x2 - 1) ∧ (x2 - 1) < 20) ∧ (0 ≤ I 54 (x2 - 1).toNat ∧ I 54 (x2 - 1).toNat < 20) ∧ (0 ≤ x2 ∧ x2 < 20) ∧ (0 ≤ I 54 (x2).toNat ∧ I 54 (x2).toNat < 20) ∧ (if I 56 (I 54 (x2).toNat).toNat ≤ I 57 (I 54 (x2 - 1).toNat).toNat then (zr (x3 + 1)) ∧ XIs (d + 3) 36 4 [some (.inr 59), some (.inl x1), some (.inl x2), some (.inl (x3 + 1)), some (.inl x4)] [] n sh R I Q else (zr (x2 + 1)) ∧ XIs (d + 3) 36 55 [some (.inr 59), some (.inl x1), some (.inl (x2 + 1)), some (.inl x3), some (.inl x4)] [] n sh R (zup I 60 (I 54 (x2).toNat).toNat x3) Q)))) : XIs (d + 3) 36 55 [some (.inr 59), some (.inl x1), some (.inl x2), some (.inl x3), some (.inl x4)] [] n sh R I Q := by
  unfold XIs
  refine x_iload_n d36_55 rfl ?_
  refine x_aload_n d36_56 rfl ?_
  refine x_getR (r := 53) d36_57 gY_36.2.2.2 gF_3_23 rfl (sh_59 hW) (rf_59_1 hW) (by decide) ?_
  refine x_getI d36_60 gY_36.2.2.2 gF_3_36 rfl (sh_53 hW) ?_
  refine x_if2 (pc2 := 103) d36_63 rfl (fun c => ?_) (fun c => ?_)
  · replace c : I 53 2 ≤ x2 := c
    rw [if_pos c] at k
    have e1 := k.1
    replace k := k.2
    refine x_iinc (ls2 := [some (.inr 59), some (.inl x1), some (.inl x2), some (.inl (x3 + 1)), some (.inl x4)]) d36_103 rfl e1 rfl ?_
    refine x_goto (pc2 := 4) d36_106 rfl ?_
    exact k
  · replace c : ¬ (I 53 2 ≤ x2) := c
    rw [if_neg c] at k
    refine x_aload_n d36_66 rfl ?_
    refine x_getR (r := 53) d36_67 gY_36.2.2.2 gF_3_23 rfl (sh_59 hW) (rf_59_1 hW) (by decide) ?_
    refine x_iload_n d36_70 rfl ?_
    refine x_iconst d36_71 rfl ?_
    have e2 := k.1
    replace k := k.2
    refine x_isub d36_72 e2 ?_
    refine x_iload_n d36_73 rfl ?_
    refine x_iload d36_74 rfl ?_
    refine y_inv (as := [.inl (x2 - 1), .inl x2, .inl x4]) (t := []) (o := 53) (ls2 := [some (.inr 53), some (.inl (x2 - 1)), some (.inl x2), some (.inl x4)]) gY_45 d36_76 gY_36.2.2.2 gM_3_48 rfl (sh_53 hW) rfl rfl ?_
    refine x_iload_n d45_0 rfl ?_
    refine x_if1 (pc2 := 37) d45_1 rfl (fun c => ?_) (fun c => ?_)
    · replace c : x4 = 0 := c
      rw [if_pos c] at k
      refine x_aload_n d45_37 rfl ?_
      refine x_getR (r := 56) d45_38 gY_45.2.2.2 gF_5_22 rfl (sh_53 hW) (rf_53_3 hW) (by decide) ?_
      refine x_aload_n d45_41 rfl ?_
      refine x_getR (r := 54) d45_42 gY_45.2.2.2 gF_5_9 rfl (sh_53 hW) (rf_53_0 hW) (by decide) ?_
      refine x_iload_n d45_45 rfl ?_
      have e3 := k.1
      replace k := k.2
      refine x_iald d45_46 (sh_54 hW) e3.1 e3.2 ?_
      have e4 := k.1
      replace k := k.2
      refine x_iald d45_47 (sh_56 hW) e4.1 e4.2 ?_
      refine x_aload_n d45_48 rfl ?_
      refine x_getR (r := 57) d45_49 gY_45.2.2.2 gF_5_25 rfl (sh_53 hW) (rf_53_4 hW) (by decide) ?_
      refine x_aload_n d45_52 rfl ?_
      refine x_getR (r := 54) d45_53 gY_45.2.2.2 gF_5_9 rfl (sh_53 hW) (rf_53_0 hW) (by decide) ?_
      refine x_iload_n d45_56 rfl ?_
      have e5 := k.1
      replace k := k.2
      refine x_iald d45_57 (sh_54 hW) e5.1 e5.2 ?_
      have e6 := k.1
      replace k := k.2
      refine x_iald d45_58 (sh_57 hW) e6.1 e6.2 ?_
      refine x_if2 (pc2 := 66) d45_59 rfl (fun c => ?_) (fun c => ?_)
      · replace c : I 56 (I 54 (x2 - 1).toNat).toNat ≤ I 57 (I 54 (x2).toNat).toNat := c
        rw [if_pos c] at k
        refine x_iconst d45_66 rfl ?_
        refine x_zret d45_67 gR_45 (by decide) ?_
        show Ex (d + 3) 36 79 [some (.inr 59), some (.inl x1), some (.inl x2), some (.inl x3), some (.inl x4)] [.inl 0] (0, 0, n, sh, R, I) _
        refine x_if1 (pc2 := 103) d36_79 rfl (fun _ => ?_) (fun c => absurd (show (0 : Int) = 0 by decide) c)
        have e7 := k.1
        replace k := k.2
        refine x_iinc (ls2 := [some (.inr 59), some (.inl x1), some (.inl x2), some (.inl (x3 + 1)), some (.inl x4)]) d36_103 rfl e7 rfl ?_
        refine x_goto (pc2 := 4) d36_106 rfl ?_
        exact k
      · replace c : ¬ (I 56 (I 54 (x2 - 1).toNat).toNat ≤ I 57 (I 54 (x2).toNat).toNat) := c
        rw [if_neg c] at k
        refine x_iconst d45_62 rfl ?_
        refine x_goto (pc2 := 67) d45_63 rfl ?_
        refine x_zret d45_67 gR_45 (by decide) ?_
        show Ex (d + 3) 36 79 [some (.inr 59), some (.inl x1), some (.inl x2), some (.inl x3), some (.inl x4)] [.inl 1] (0, 0, n, sh, R, I) _
        refine x_if1 (pc2 := 103) d36_79 rfl (fun c => absurd (show (1 : Int) = 0 from c) (by decide)) (fun _ => ?_)
        refine x_aload_n d36_82 rfl ?_
        refine x_getR (r := 60) d36_83 gY_36.2.2.2 gF_3_9 rfl (sh_59 hW) (rf_59_2 hW) (by decide) ?_
        refine x_aload_n d36_86 rfl ?_
        refine x_getR (r := 53) d36_87 gY_36.2.2.2 gF_3_23 rfl (sh_59 hW) (rf_59_1 hW) (by decide) ?_
        refine x_getR (r := 54) d36_90 gY_36.2.2.2 gF_3_45 rfl (sh_53 hW) (rf_53_0 hW) (by decide) ?_
        refine x_iload_n d36_93 rfl ?_
        refine x_iald d36_94 (sh_54 hW) e5.1 e5.2 ?_
        refine x_iload_n d36_95 rfl ?_
        refine x_iast d36_96 (sh_60 hW) e6.1 e6.2 ?_
        have e8 := k.1
        replace k := k.2
        refine x_iinc (ls2 := [some (.inr 59), some (.inl x1), some (.inl (x2 + 1)), some (.inl x3), some (.inl x4)]) d36_97 rfl e8 rfl ?_
        refine x_goto (pc2 := 55) d36_100 rfl ?_
        exact k
    · replace c : ¬ (x4 = 0) := c
      rw [if_neg c] at k
      refine x_aload_n d45_4 rfl ?_
      refine x_getR (r := 57) d45_5 gY_45.2.2.2 gF_5_25 rfl (sh_53 hW) (rf_53_4 hW) (by decide) ?_
      refine x_aload_n d45_8 rfl ?_
      refine x_getR (r := 54) d45_9 gY_45.2.2.2 gF_5_9 rfl (sh_53 hW) (rf_53_0 hW) (by decide) ?_
      refine x_iload_n d45_12 rfl ?_
      have e9 := k.1
      replace k := k.2
      refine x_iald d45_13 (sh_54 hW) e9.1 e9.2 ?_
      have e10 := k.1
      replace k := k.2
      refine x_iald d45_14 (sh_57 hW) e10.1 e10.2 ?_
      refine x_aload_n d45_15 rfl ?_
      refine x_getR (r := 56) d45_16 gY_45.2.2.2 gF_5_22 rfl (sh_53 hW) (rf_53_3 hW) (by decide) ?_
      refine x_aload_n d45_19 rfl ?_
      refine x_getR (r := 54) d45_20 gY_45.2.2.2 gF_5_9 rfl (sh_53 hW) (rf_53_0 hW) (by decide) ?_
      refine x_iload_n d45_23 rfl ?_
      have e11 := k.1
      replace k := k.2
      refine x_iald d45_24 (sh_54 hW) e11.1 e11.2 ?_
      have e12 := k.1
      replace k := k.2
      refine x_iald d45_25 (sh_56 hW) e12.1 e12.2 ?_
      refine x_if2 (pc2 := 33) d45_26 rfl (fun c => ?_) (fun c => ?_)
      · replace c : I 56 (I 54 (x2).toNat).toNat ≤ I 57 (I 54 (x2 - 1).toNat).toNat := c
        rw [if_pos c] at k
        refine x_iconst d45_33 rfl ?_
        refine x_goto (pc2 := 67) d45_34 rfl ?_
        refine x_zret d45_67 gR_45 (by decide) ?_
        show Ex (d + 3) 36 79 [some (.inr 59), some (.inl x1), some (.inl x2), some (.inl x3), some (.inl x4)] [.inl 0] (0, 0, n, sh, R, I) _
        refine x_if1 (pc2 := 103) d36_79 rfl (fun _ => ?_) (fun c => absurd (show (0 : Int) = 0 by decide) c)
        have e13 := k.1
        replace k := k.2
        refine x_iinc (ls2 := [some (.inr 59), some (.inl x1), some (.inl x2), some (.inl (x3 + 1)), some (.inl x4)]) d36_103 rfl e13 rfl ?_
        refine x_goto (pc2 := 4) d36_106 rfl ?_
        exact k
      · replace c : ¬ (I 56 (I 54 (x2).toNat).toNat ≤ I 57 (I 54 (x2 - 1).toNat).toNat) := c
        rw [if_neg c] at k
        refine x_iconst d45_29 rfl ?_
        refine x_goto (pc2 := 67) d45_30 rfl ?_
        refine x_zret d45_67 gR_45 (by decide) ?_
        show Ex (d + 3) 36 79 [some (.inr 59), some (.inl x1), some (.inl x2), some (.inl x3), some (.inl x4)] [.inl 1] (0, 0, n, sh, R, I) _
        refine x_if1 (pc2 := 103) d36_79 rfl (fun c => absurd (show (1 : Int) = 0 from c) (by decide)) (fun _ => ?_)
        refine x_aload_n d36_82 rfl ?_
        refine x_getR (r := 60) d36_83 gY_36.2.2.2 gF_3_9 rfl (sh_59 hW) (rf_59_2 hW) (by decide) ?_
        refine x_aload_n d36_86 rfl ?_
        refine x_getR (r := 53) d36_87 gY_36.2.2.2 gF_3_23 rfl (sh_59 hW) (rf_59_1 hW) (by decide) ?_
        refine x_getR (r := 54) d36_90 gY_36.2.2.2 gF_3_45 rfl (sh_53 hW) (rf_53_0 hW) (by decide) ?_
        refine x_iload_n d36_93 rfl ?_
        refine x_iald d36_94 (sh_54 hW) e11.1 e11.2 ?_
        refine x_iload_n d36_95 rfl ?_
        refine x_iast d36_96 (sh_60 hW) e12.1 e12.2 ?_
        have e14 := k.1
        replace k := k.2
        refine x_iinc (ls2 := [some (.inr 59), some (.inl x1), some (.inl (x2 + 1)), some (.inl x3), some (.inl x4)]) d36_97 rfl e14 rfl ?_
        refine x_goto (pc2 := 55) d36_100 rfl ?_
        exact k
set_option maxHeartbeats 4000000 in
theorem b_P_pipesOn_0 {d n : Nat} {sh : ZS} {R : ZR} {I : ZI} {Q : Int → ZI → Prop} (hW : Wf sh R) {x1 : Int}
    (k : XIs (d + 2) 37 4 [some (.inr 59), some (.inl x1), some (.inl 0), some (.inl 0)] [] n sh R I Q) : XI (d + 2) 37 [.inr 59, .inl x1] n sh R I Q := by
  refine XI.of (ls := [some (.inr 59), some (.inl x1), none, none]) (zloc_eq gY_37.2.2.1) ?_
  unfold XIs
  refine x_iconst d37_0 rfl ?_
  refine x_istore_n (ls2 := [some (.inr 59), some (.inl x1), some (.inl 0), none]) d37_1 rfl rfl ?_
  refine x_iconst d37_2 rfl ?_
  refine x_istore_n (ls2 := [some (.inr 59), some (.inl x1), some (.inl 0), some (.inl 0)]) d37_3 rfl rfl ?_
  exact k
set_option maxHeartbeats 4000000 in
theorem b_P_pipesOn_4 {d n : Nat} {sh : ZS} {R : ZR} {I : ZI} {Q : Int → ZI → Prop} (hW : Wf sh R) {x1 : Int} {x2 : Int} {x3 : Int}
    (k : (if I 59 3 ≤ x3 then Q x2 I else XI (d + 1) 39 [.inr 59, .inl x1, .inl x3] n sh R I (fun v1 I2 => (if v1 < 0 then (zr (x2 + 0)) ∧ (zr (x3 + 1)) ∧ XIs (d + 2) 37 4 [some (.inr 59), some (.inl x1), some (.inl (x2 + 0)), some (.inl (x3 + 1))] [] n sh R I2 Q else (if (zand (zshr (I2 15 1) v1) 1) = 0 then (zr (x2 + 0)) ∧ (zr (x3 + 1)) ∧ XIs (d + 2) 37 4 [some (.inr 59), some (.inl x1), some (.inl (x2 + 0)), some (.inl (x3 + 1))] [] n sh R I2 Q else (zr (x2 + 1)) ∧ (zr (x3 + 1)) ∧ XIs (d + 2) 37 4 [some (.inr 59), some (.inl x1), some (.inl (x2 + 1)), some (.inl (x3 + 1))] [] n sh R I2 Q))))) : XIs (d + 2) 37 4 [some (.inr 59), some (.inl x1), some (.inl x2), some (.inl x3)] [] n sh R I Q := by
  unfold XIs
  refine x_iload_n d37_4 rfl ?_
  refine x_aload_n d37_5 rfl ?_
  refine x_getI d37_6 gY_37.2.2.2 gF_3_15 rfl (sh_59 hW) ?_
  refine x_if2 (pc2 := 42) d37_9 rfl (fun c => ?_) (fun c => ?_)
  · replace c : I 59 3 ≤ x3 := c
    rw [if_pos c] at k
    refine x_iload_n d37_42 rfl ?_
    exact x_iret d37_43 gR_37 ⟨_, _, rfl, rfl, k⟩
  · replace c : ¬ (I 59 3 ≤ x3) := c
    rw [if_neg c] at k
    refine x_iload_n d37_12 rfl ?_
    refine x_aload_n d37_13 rfl ?_
    refine x_getR (r := 15) d37_14 gY_37.2.2.2 gF_3_19 rfl (sh_59 hW) (rf_59_0 hW) (by decide) ?_
    refine x_aload_n d37_17 rfl ?_
    refine x_iload_n d37_18 rfl ?_
    refine x_iload_n d37_19 rfl ?_
    refine y_invI (as := [.inl x1, .inl x3]) (t := [.inr 15, .inl x2]) (o := 59) gY_39 d37_20 gY_37.2.2.2 gM_3_52 rfl (sh_59 hW) rfl k (fun v1 I2 k => ?_)
    refine y_inv (as := [.inl v1]) (t := [.inl x2]) (o := 15) (ls2 := [some (.inr 15), some (.inl v1)]) gY_41 d37_23 gY_37.2.2.2 gM_3_56 rfl (sh_15 hW) rfl rfl ?_
    refine x_iload_n d41_0 rfl ?_
    refine x_if1 (pc2 := 19) d41_1 rfl (fun c => ?_) (fun c => ?_)
    · replace c : v1 < 0 := c
      rw [if_pos c] at k
      refine x_iconst d41_19 rfl ?_
      refine x_zret d41_20 gR_41 (by decide) ?_
      show Ex (d + 2) 37 26 [some (.inr 59), some (.inl x1), some (.inl x2), some (.inl x3)] [.inl 0, .inl x2] (0, 0, n, sh, R, I2) _
      refine x_if1 (pc2 := 33) d37_26 rfl (fun _ => ?_) (fun c => absurd (show (0 : Int) = 0 by decide) c)
      refine x_iconst d37_33 rfl ?_
      have e3 := k.1
      replace k := k.2
      refine x_iadd d37_34 e3 ?_
      refine x_istore_n (ls2 := [some (.inr 59), some (.inl x1), some (.inl (x2 + 0)), some (.inl x3)]) d37_35 rfl rfl ?_
      have e4 := k.1
      replace k := k.2
      refine x_iinc (ls2 := [some (.inr 59), some (.inl x1), some (.inl (x2 + 0)), some (.inl (x3 + 1))]) d37_36 rfl e4 rfl ?_
      refine x_goto (pc2 := 4) d37_39 rfl ?_
      exact k
    · replace c : ¬ (v1 < 0) := c
      rw [if_neg c] at k
      refine x_aload_n d41_4 rfl ?_
      refine x_getI d41_5 gY_41.2.2.2 gF_4_15 rfl (sh_15 hW) ?_
      refine x_iload_n d41_8 rfl ?_
      refine x_ishr d41_9 ?_
      refine x_iconst d41_10 rfl ?_
      refine x_iand d41_11 ?_
      refine x_if1 (pc2 := 19) d41_12 rfl (fun c => ?_) (fun c => ?_)
      · replace c : (zand (zshr (I2 15 1) v1) 1) = 0 := c
        rw [if_pos c] at k
        refine x_iconst d41_19 rfl ?_
        refine x_zret d41_20 gR_41 (by decide) ?_
        show Ex (d + 2) 37 26 [some (.inr 59), some (.inl x1), some (.inl x2), some (.inl x3)] [.inl 0, .inl x2] (0, 0, n, sh, R, I2) _
        refine x_if1 (pc2 := 33) d37_26 rfl (fun _ => ?_) (fun c => absurd (show (0 : Int) = 0 by decide) c)
        refine x_iconst d37_33 rfl ?_
        have e5 := k.1
        replace k := k.2
        refine x_iadd d37_34 e5 ?_
        refine x_istore_n (ls2 := [some (.inr 59), some (.inl x1), some (.inl (x2 + 0)), some (.inl x3)]) d37_35 rfl rfl ?_
        have e6 := k.1
        replace k := k.2
        refine x_iinc (ls2 := [some (.inr 59), some (.inl x1), some (.inl (x2 + 0)), some (.inl (x3 + 1))]) d37_36 rfl e6 rfl ?_
        refine x_goto (pc2 := 4) d37_39 rfl ?_
        exact k
      · replace c : ¬ ((zand (zshr (I2 15 1) v1) 1) = 0) := c
        rw [if_neg c] at k
        refine x_iconst d41_15 rfl ?_
        refine x_goto (pc2 := 20) d41_16 rfl ?_
        refine x_zret d41_20 gR_41 (by decide) ?_
        show Ex (d + 2) 37 26 [some (.inr 59), some (.inl x1), some (.inl x2), some (.inl x3)] [.inl 1, .inl x2] (0, 0, n, sh, R, I2) _
        refine x_if1 (pc2 := 33) d37_26 rfl (fun c => absurd (show (1 : Int) = 0 from c) (by decide)) (fun _ => ?_)
        refine x_iconst d37_29 rfl ?_
        refine x_goto (pc2 := 34) d37_30 rfl ?_
        have e7 := k.1
        replace k := k.2
        refine x_iadd d37_34 e7 ?_
        refine x_istore_n (ls2 := [some (.inr 59), some (.inl x1), some (.inl (x2 + 1)), some (.inl x3)]) d37_35 rfl rfl ?_
        have e8 := k.1
        replace k := k.2
        refine x_iinc (ls2 := [some (.inr 59), some (.inl x1), some (.inl (x2 + 1)), some (.inl (x3 + 1))]) d37_36 rfl e8 rfl ?_
        refine x_goto (pc2 := 4) d37_39 rfl ?_
        exact k
set_option maxHeartbeats 4000000 in
theorem b_P_holeFor_0 {d n : Nat} {sh : ZS} {R : ZR} {I : ZI} {Q : Int → ZI → Prop} (hW : Wf sh R) {x1 : Int} {x2 : Int}
    (k : (0 ≤ x1 ∧ x1 < 20) ∧ XI (d + 1) 39 [.inr 59, .inl (I 60 (x1).toNat), .inl x2] n sh R I (fun v2 I3 => Q v2 I3)) : XI (d + 2) 38 [.inr 59, .inl x1, .inl x2] n sh R I Q := by
  refine XI.of (ls := [some (.inr 59), some (.inl x1), some (.inl x2)]) (zloc_eq gY_38.2.2.1) ?_
  unfold XIs
  refine x_aload_n d38_0 rfl ?_
  refine x_aload_n d38_1 rfl ?_
  refine x_getR (r := 60) d38_2 gY_38.2.2.2 gF_3_9 rfl (sh_59 hW) (rf_59_2 hW) (by decide) ?_
  refine x_iload_n d38_5 rfl ?_
  have e1 := k.1
  replace k := k.2
  refine x_iald d38_6 (sh_60 hW) e1.1 e1.2 ?_
  refine x_iload_n d38_7 rfl ?_
  refine y_invI (as := [.inl (I 60 (x1).toNat), .inl x2]) (t := []) (o := 59) gY_39 d38_8 gY_38.2.2.2 gM_3_52 rfl (sh_59 hW) rfl k (fun v2 I3 k => ?_)
  exact x_iret d38_11 gR_38 ⟨_, _, rfl, rfl, k⟩
set_option maxHeartbeats 4000000 in
theorem b_P_holeOn_0 {d n : Nat} {sh : ZS} {R : ZR} {I : ZI} {Q : Int → ZI → Prop} (hW : Wf sh R) {x1 : Int} {x2 : Int}
    (k : XIs (d + 1) 39 5 [some (.inr 59), some (.inl x1), some (.inl x2), some (.inl 1), some (.inl 1), none, none] [] n sh R I Q) : XI (d + 1) 39 [.inr 59, .inl x1, .inl x2] n sh R I Q := by
  refine XI.of (ls := [some (.inr 59), some (.inl x1), some (.inl x2), none, none, none, none]) (zloc_eq gY_39.2.2.1) ?_
  unfold XIs
  refine x_iconst d39_0 rfl ?_
  refine x_istore_n (ls2 := [some (.inr 59), some (.inl x1), some (.inl x2), some (.inl 1), none, none, none]) d39_1 rfl rfl ?_
  refine x_iconst d39_2 rfl ?_
  refine x_istore (ls2 := [some (.inr 59), some (.inl x1), some (.inl x2), some (.inl 1), some (.inl 1), none, none]) d39_3 rfl rfl ?_
  exact k
set_option maxHeartbeats 4000000 in
theorem b_P_holeOn_5 {d n : Nat} {sh : ZS} {R : ZR} {I : ZI} {Q : Int → ZI → Prop} (hW : Wf sh R) {x1 : Int} {x2 : Int} {x3 : Int} {x4 : Int} {u5 : Option AV} {u6 : Option AV}
    (k : (if I 59 3 ≤ x4 then (zr (I 59 3 - 1)) ∧ XIs (d + 1) 39 48 [some (.inr 59), some (.inl x1), some (.inl x2), some (.inl x3), some (.inl 0), some (.inl x1), some (.inl (I 59 3 - 1))] [] n sh R I Q else (zr (x3 * (if 1 < I 15 0 then I 15 0 else 1))) ∧ (zr (x4 + 1)) ∧ XIs (d + 1) 39 5 [some (.inr 59), some (.inl x1), some (.inl x2), some (.inl (x3 * (if 1 < I 15 0 then I 15 0 else 1))), some (.inl (x4 + 1)), u5, u6] [] n sh R I Q)) : XIs (d + 1) 39 5 [some (.inr 59), some (.inl x1), some (.inl x2), some (.inl x3), some (.inl x4), u5, u6] [] n sh R I Q := by
  unfold XIs
  refine x_iload d39_5 rfl ?_
  refine x_aload_n d39_7 rfl ?_
  refine x_getI d39_8 gY_39.2.2.2 gF_3_15 rfl (sh_59 hW) ?_
  refine x_if2 (pc2 := 34) d39_11 rfl (fun c => ?_) (fun c => ?_)
  · replace c : I 59 3 ≤ x4 := c
    rw [if_pos c] at k
    refine x_iconst d39_34 rfl ?_
    refine x_istore (ls2 := [some (.inr 59), some (.inl x1), some (.inl x2), some (.inl x3), some (.inl 0), u5, u6]) d39_35 rfl rfl ?_
    refine x_iload_n d39_37 rfl ?_
    refine x_istore (ls2 := [some (.inr 59), some (.inl x1), some (.inl x2), some (.inl x3), some (.inl 0), some (.inl x1), u6]) d39_38 rfl rfl ?_
    refine x_aload_n d39_40 rfl ?_
    refine x_getI d39_41 gY_39.2.2.2 gF_3_15 rfl (sh_59 hW) ?_
    refine x_iconst d39_44 rfl ?_
    have e1 := k.1
    replace k := k.2
    refine x_isub d39_45 e1 ?_
    refine x_istore (ls2 := [some (.inr 59), some (.inl x1), some (.inl x2), some (.inl x3), some (.inl 0), some (.inl x1), some (.inl (I 59 3 - 1))]) d39_46 rfl rfl ?_
    exact k
  · replace c : ¬ (I 59 3 ≤ x4) := c
    rw [if_neg c] at k
    refine x_iload_n d39_14 rfl ?_
    refine x_iconst d39_15 rfl ?_
    refine x_aload_n d39_16 rfl ?_
    refine x_getR (r := 15) d39_17 gY_39.2.2.2 gF_3_19 rfl (sh_59 hW) (rf_59_0 hW) (by decide) ?_
    refine x_getI d39_20 gY_39.2.2.2 gF_3_31 rfl (sh_15 hW) ?_
    refine x_max d39_23 gY_39.2.2.2 gM_3_59 (of_decide_eq_true rfl) ?_
    have e2 := k.1
    replace k := k.2
    refine x_imul d39_26 e2 ?_
    refine x_istore_n (ls2 := [some (.inr 59), some (.inl x1), some (.inl x2), some (.inl (x3 * (if 1 < I 15 0 then I 15 0 else 1))), some (.inl x4), u5, u6]) d39_27 rfl rfl ?_
    have e3 := k.1
    replace k := k.2
    refine x_iinc (ls2 := [some (.inr 59), some (.inl x1), some (.inl x2), some (.inl (x3 * (if 1 < I 15 0 then I 15 0 else 1))), some (.inl (x4 + 1)), u5, u6]) d39_28 rfl e3 rfl ?_
    refine x_goto (pc2 := 5) d39_31 rfl ?_
    exact k
set_option maxHeartbeats 4000000 in
theorem b_P_holeOn_48 {d n : Nat} {sh : ZS} {R : ZR} {I : ZI} {Q : Int → ZI → Prop} (hW : Wf sh R) {u1 : Option AV} {x2 : Int} {x3 : Int} {x4 : Int} {x5 : Int} {x6 : Int}
    (k : (if x6 < x2 then Q x4 I else (if x3 < 1 then Q x4 I else (0 ≤ x5 ∧ x5 < 2147483648) ∧ (0 < x3) ∧ (0 ≤ x5) ∧ (if (x5 / x3) < 0 then (0 ≤ x3 ∧ x3 < 2147483648) ∧ (0 < (if 1 < I 15 0 then I 15 0 else 1)) ∧ (zr (x6 + (-1))) ∧ XIs (d + 1) 39 48 [some (.inr 59), u1, some (.inl x2), some (.inl (x3 / (if 1 < I 15 0 then I 15 0 else 1))), some (.inl (x5 / x3)), some (.inl (x5 % x3)), some (.inl (x6 + (-1)))] [] n sh R I Q else (if (zand (zshr (I 15 1) (x5 / x3)) 1) = 0 then (0 ≤ x3 ∧ x3 < 2147483648) ∧ (0 < (if 1 < I 15 0 then I 15 0 else 1)) ∧ (zr (x6 + (-1))) ∧ XIs (d + 1) 39 48 [some (.inr 59), u1, some (.inl x2), some (.inl (x3 / (if 1 < I 15 0 then I 15 0 else 1))), some (.inl (x5 / x3)), some (.inl (x5 % x3)), some (.inl (x6 + (-1)))] [] n sh R I Q else (zr (x3 - 1)) ∧ (zr ((x3 - 1) - (x5 % x3))) ∧ (0 ≤ x3 ∧ x3 < 2147483648) ∧ (0 < (if 1 < I 15 0 then I 15 0 else 1)) ∧ (zr (x6 + (-1))) ∧ XIs (d + 1) 39 48 [some (.inr 59), u1, some (.inl x2), some (.inl (x3 / (if 1 < I 15 0 then I 15 0 else 1))), some (.inl (x5 / x3)), some (.inl ((x3 - 1) - (x5 % x3))), some (.inl (x6 + (-1)))] [] n sh R I Q))))) : XIs (d + 1) 39 48 [some (.inr 59), u1, some (.inl x2), some (.inl x3), some (.inl x4), some (.inl x5), some (.inl x6)] [] n sh R I Q := by
  unfold XIs
  refine x_iload d39_48 rfl ?_
  refine x_iload_n d39_50 rfl ?_
  refine x_if2 (pc2 := 111) d39_51 rfl (fun c => ?_) (fun c => ?_)
  · replace c : x6 < x2 := c
    rw [if_pos c] at k
    refine x_iload d39_111 rfl ?_
    exact x_iret d39_113 gR_39 ⟨_, _, rfl, rfl, k⟩
  · replace c : ¬ (x6 < x2) := c
    rw [if_neg c] at k
    refine x_iload_n d39_54 rfl ?_
    refine x_iconst d39_55 rfl ?_
    refine x_if2 (pc2 := 111) d39_56 rfl (fun c => ?_) (fun c => ?_)
    · replace c : x3 < 1 := c
      rw [if_pos c] at k
      refine x_iload d39_111 rfl ?_
      exact x_iret d39_113 gR_39 ⟨_, _, rfl, rfl, k⟩
    · replace c : ¬ (x3 < 1) := c
      rw [if_neg c] at k
      refine x_iload d39_59 rfl ?_
      refine x_iload_n d39_61 rfl ?_
      have e1 := k.1
      replace k := k.2
      have e2 := k.1
      replace k := k.2
      refine x_idiv d39_62 e1 e2 ?_
      refine x_istore (ls2 := [some (.inr 59), u1, some (.inl x2), some (.inl x3), some (.inl (x5 / x3)), some (.inl x5), some (.inl x6)]) d39_63 rfl rfl ?_
      refine x_iload d39_65 rfl ?_
      refine x_iload_n d39_67 rfl ?_
      have e3 := k.1
      replace k := k.2
      refine x_irem d39_68 e3 e2 ?_
      refine x_istore (ls2 := [some (.inr 59), u1, some (.inl x2), some (.inl x3), some (.inl (x5 / x3)), some (.inl (x5 % x3)), some (.inl x6)]) d39_69 rfl rfl ?_
      refine x_aload_n d39_71 rfl ?_
      refine x_getR (r := 15) d39_72 gY_39.2.2.2 gF_3_19 rfl (sh_59 hW) (rf_59_0 hW) (by decide) ?_
      refine x_iload d39_75 rfl ?_
      refine y_inv (as := [.inl (x5 / x3)]) (t := []) (o := 15) (ls2 := [some (.inr 15), some (.inl (x5 / x3))]) gY_41 d39_77 gY_39.2.2.2 gM_3_56 rfl (sh_15 hW) rfl rfl ?_
      refine x_iload_n d41_0 rfl ?_
      refine x_if1 (pc2 := 19) d41_1 rfl (fun c => ?_) (fun c => ?_)
      · replace c : (x5 / x3) < 0 := c
        rw [if_pos c] at k
        refine x_iconst d41_19 rfl ?_
        refine x_zret d41_20 gR_41 (by decide) ?_
        show Ex (d + 1) 39 80 [some (.inr 59), u1, some (.inl x2), some (.inl x3), some (.inl (x5 / x3)), some (.inl (x5 % x3)), some (.inl x6)] [.inl 0] (0, 0, n, sh, R, I) _
        refine x_if1 (pc2 := 91) d39_80 rfl (fun _ => ?_) (fun c => absurd (show (0 : Int) = 0 by decide) c)
        refine x_iload_n d39_91 rfl ?_
        refine x_iconst d39_92 rfl ?_
        refine x_aload_n d39_93 rfl ?_
        refine x_getR (r := 15) d39_94 gY_39.2.2.2 gF_3_19 rfl (sh_59 hW) (rf_59_0 hW) (by decide) ?_
        refine x_getI d39_97 gY_39.2.2.2 gF_3_31 rfl (sh_15 hW) ?_
        refine x_max d39_100 gY_39.2.2.2 gM_3_59 (of_decide_eq_true rfl) ?_
        have e4 := k.1
        replace k := k.2
        have e5 := k.1
        replace k := k.2
        refine x_idiv d39_103 e4 e5 ?_
        refine x_istore_n (ls2 := [some (.inr 59), u1, some (.inl x2), some (.inl (x3 / (if 1 < I 15 0 then I 15 0 else 1))), some (.inl (x5 / x3)), some (.inl (x5 % x3)), some (.inl x6)]) d39_104 rfl rfl ?_
        have e6 := k.1
        replace k := k.2
        refine x_iinc (ls2 := [some (.inr 59), u1, some (.inl x2), some (.inl (x3 / (if 1 < I 15 0 then I 15 0 else 1))), some (.inl (x5 / x3)), some (.inl (x5 % x3)), some (.inl (x6 + (-1)))]) d39_105 rfl e6 rfl ?_
        refine x_goto (pc2 := 48) d39_108 rfl ?_
        exact k
      · replace c : ¬ ((x5 / x3) < 0) := c
        rw [if_neg c] at k
        refine x_aload_n d41_4 rfl ?_
        refine x_getI d41_5 gY_41.2.2.2 gF_4_15 rfl (sh_15 hW) ?_
        refine x_iload_n d41_8 rfl ?_
        refine x_ishr d41_9 ?_
        refine x_iconst d41_10 rfl ?_
        refine x_iand d41_11 ?_
        refine x_if1 (pc2 := 19) d41_12 rfl (fun c => ?_) (fun c => ?_)
        · replace c : (zand (zshr (I 15 1) (x5 / x3)) 1) = 0 := c
          rw [if_pos c] at k
          refine x_iconst d41_19 rfl ?_
          refine x_zret d41_20 gR_41 (by decide) ?_
          show Ex (d + 1) 39 80 [some (.inr 59), u1, some (.inl x2), some (.inl x3), some (.inl (x5 / x3)), some (.inl (x5 % x3)), some (.inl x6)] [.inl 0] (0, 0, n, sh, R, I) _
          refine x_if1 (pc2 := 91) d39_80 rfl (fun _ => ?_) (fun c => absurd (show (0 : Int) = 0 by decide) c)
          refine x_iload_n d39_91 rfl ?_
          refine x_iconst d39_92 rfl ?_
          refine x_aload_n d39_93 rfl ?_
          refine x_getR (r := 15) d39_94 gY_39.2.2.2 gF_3_19 rfl (sh_59 hW) (rf_59_0 hW) (by decide) ?_
          refine x_getI d39_97 gY_39.2.2.2 gF_3_31 rfl (sh_15 hW) ?_
          refine x_max d39_100 gY_39.2.2.2 gM_3_59 (of_decide_eq_true rfl) ?_
          have e7 := k.1
          replace k := k.2
          have e8 := k.1
          replace k := k.2
          refine x_idiv d39_103 e7 e8 ?_
          refine x_istore_n (ls2 := [some (.inr 59), u1, some (.inl x2), some (.inl (x3 / (if 1 < I 15 0 then I 15 0 else 1))), some (.inl (x5 / x3)), some (.inl (x5 % x3)), some (.inl x6)]) d39_104 rfl rfl ?_
          have e9 := k.1
          replace k := k.2
          refine x_iinc (ls2 := [some (.inr 59), u1, some (.inl x2), some (.inl (x3 / (if 1 < I 15 0 then I 15 0 else 1))), some (.inl (x5 / x3)), some (.inl (x5 % x3)), some (.inl (x6 + (-1)))]) d39_105 rfl e9 rfl ?_
          refine x_goto (pc2 := 48) d39_108 rfl ?_
          exact k
        · replace c : ¬ ((zand (zshr (I 15 1) (x5 / x3)) 1) = 0) := c
          rw [if_neg c] at k
          refine x_iconst d41_15 rfl ?_
          refine x_goto (pc2 := 20) d41_16 rfl ?_
          refine x_zret d41_20 gR_41 (by decide) ?_
          show Ex (d + 1) 39 80 [some (.inr 59), u1, some (.inl x2), some (.inl x3), some (.inl (x5 / x3)), some (.inl (x5 % x3)), some (.inl x6)] [.inl 1] (0, 0, n, sh, R, I) _
          refine x_if1 (pc2 := 91) d39_80 rfl (fun c => absurd (show (1 : Int) = 0 from c) (by decide)) (fun _ => ?_)
          refine x_iload_n d39_83 rfl ?_
          refine x_iconst d39_84 rfl ?_
          have e10 := k.1
          replace k := k.2
          refine x_isub d39_85 e10 ?_
          refine x_iload d39_86 rfl ?_
          have e11 := k.1
          replace k := k.2
          refine x_isub d39_88 e11 ?_
          refine x_istore (ls2 := [some (.inr 59), u1, some (.inl x2), some (.inl x3), some (.inl (x5 / x3)), some (.inl ((x3 - 1) - (x5 % x3))), some (.inl x6)]) d39_89 rfl rfl ?_
          refine x_iload_n d39_91 rfl ?_
          refine x_iconst d39_92 rfl ?_
          refine x_aload_n d39_93 rfl ?_
          refine x_getR (r := 15) d39_94 gY_39.2.2.2 gF_3_19 rfl (sh_59 hW) (rf_59_0 hW) (by decide) ?_
          refine x_getI d39_97 gY_39.2.2.2 gF_3_31 rfl (sh_15 hW) ?_
          refine x_max d39_100 gY_39.2.2.2 gM_3_59 (of_decide_eq_true rfl) ?_
          have e12 := k.1
          replace k := k.2
          have e13 := k.1
          replace k := k.2
          refine x_idiv d39_103 e12 e13 ?_
          refine x_istore_n (ls2 := [some (.inr 59), u1, some (.inl x2), some (.inl (x3 / (if 1 < I 15 0 then I 15 0 else 1))), some (.inl (x5 / x3)), some (.inl ((x3 - 1) - (x5 % x3))), some (.inl x6)]) d39_104 rfl rfl ?_
          have e14 := k.1
          replace k := k.2
          refine x_iinc (ls2 := [some (.inr 59), u1, some (.inl x2), some (.inl (x3 / (if 1 < I 15 0 then I 15 0 else 1))), some (.inl (x5 / x3)), some (.inl ((x3 - 1) - (x5 % x3))), some (.inl (x6 + (-1)))]) d39_105 rfl e14 rfl ?_
          refine x_goto (pc2 := 48) d39_108 rfl ?_
          exact k
set_option maxHeartbeats 4000000 in
theorem b_K_giveBack_0 {d n : Nat} {sh : ZS} {R : ZR} {I : ZI} {Q : ZI → Prop} (hW : Wf sh R) {s1 : Nat} (hS1 : St sh R s1)
    (k : XV d 251 [.inr 16, .inl 0] n sh R I (fun I2 => XVs (d + 1) 42 10 [some (.inr 15), some (.inr s1), some (.inr 44), some (.inl 0), none, none] [] n sh R I2 Q)) : XV (d + 1) 42 [.inr 15, .inr s1, .inr 44] n sh R I Q := by
  refine XV.of (ls := [some (.inr 15), some (.inr s1), some (.inr 44), none, none, none]) (zloc_eq gY_42.2.2.1) ?_
  unfold XVs
  refine x_aload_n d42_0 rfl ?_
  refine x_getR (r := 16) d42_1 gY_42.2.2.2 gF_4_18 rfl (sh_15 hW) (rf_15_2 hW) (by decide) ?_
  refine x_iconst d42_4 rfl ?_
  refine y_insV (as := [.inr 16, .inl 0]) (t := []) gY_251 d42_5 gY_42.2.2.2 gM_4_25 rfl rfl k (fun I2 k => ?_)
  refine x_iconst d42_8 rfl ?_
  refine x_istore_n (ls2 := [some (.inr 15), some (.inr s1), some (.inr 44), some (.inl 0), none, none]) d42_9 rfl rfl ?_
  exact k
set_option maxHeartbeats 4000000 in
theorem b_K_giveBack_10 {d n : Nat} {sh : ZS} {R : ZR} {I : ZI} {Q : ZI → Prop} (hW : Wf sh R) {s1 : Nat} (hS1 : St sh R s1) {x3 : Int} {u4 : Option AV} {u5 : Option AV}
    (k : (if I s1 6 ≤ x3 then XVs (d + 1) 42 43 [some (.inr 15), some (.inr s1), some (.inr 44), some (.inl 0), some (.inl (-1)), u5] [] n sh R I Q else (0 ≤ x3 ∧ x3 < 32) ∧ (zr (I 44 (x3).toNat + 1)) ∧ (0 ≤ (I 44 (x3).toNat + 1) ∧ (I 44 (x3).toNat + 1) < 10) ∧ (zr (I 16 (I 44 (x3).toNat + 1).toNat + 1)) ∧ (zr (x3 + 1)) ∧ XVs (d + 1) 42 10 [some (.inr 15), some (.inr s1), some (.inr 44), some (.inl (x3 + 1)), u4, u5] [] n sh R (zup I 16 (I 44 (x3).toNat + 1).toNat (I 16 (I 44 (x3).toNat + 1).toNat + 1)) Q)) : XVs (d + 1) 42 10 [some (.inr 15), some (.inr s1), some (.inr 44), some (.inl x3), u4, u5] [] n sh R I Q := by
  unfold XVs
  refine x_iload_n d42_10 rfl ?_
  refine x_aload_n d42_11 rfl ?_
  refine x_getI d42_12 gY_42.2.2.2 gF_4_31 rfl hS1.1 ?_
  refine x_if2 (pc2 := 38) d42_15 rfl (fun c => ?_) (fun c => ?_)
  · replace c : I s1 6 ≤ x3 := c
    rw [if_pos c] at k
    refine x_iconst d42_38 rfl ?_
    refine x_istore_n (ls2 := [some (.inr 15), some (.inr s1), some (.inr 44), some (.inl 0), u4, u5]) d42_39 rfl rfl ?_
    refine x_iconst d42_40 rfl ?_
    refine x_istore (ls2 := [some (.inr 15), some (.inr s1), some (.inr 44), some (.inl 0), some (.inl (-1)), u5]) d42_41 rfl rfl ?_
    exact k
  · replace c : ¬ (I s1 6 ≤ x3) := c
    rw [if_neg c] at k
    refine x_aload_n d42_18 rfl ?_
    refine x_getR (r := 16) d42_19 gY_42.2.2.2 gF_4_18 rfl (sh_15 hW) (rf_15_2 hW) (by decide) ?_
    refine x_aload_n d42_22 rfl ?_
    refine x_iload_n d42_23 rfl ?_
    have e1 := k.1
    replace k := k.2
    refine x_iald d42_24 (sh_44 hW) e1.1 e1.2 ?_
    refine x_iconst d42_25 rfl ?_
    have e2 := k.1
    replace k := k.2
    refine x_iadd d42_26 e2 ?_
    refine x_dup2 d42_27 ?_
    have e3 := k.1
    replace k := k.2
    refine x_iald d42_28 (sh_16 hW) e3.1 e3.2 ?_
    refine x_iconst d42_29 rfl ?_
    have e4 := k.1
    replace k := k.2
    refine x_iadd d42_30 e4 ?_
    refine x_iast d42_31 (sh_16 hW) e3.1 e3.2 ?_
    have e5 := k.1
    replace k := k.2
    refine x_iinc (ls2 := [some (.inr 15), some (.inr s1), some (.inr 44), some (.inl (x3 + 1)), u4, u5]) d42_32 rfl e5 rfl ?_
    refine x_goto (pc2 := 10) d42_35 rfl ?_
    exact k
set_option maxHeartbeats 4000000 in
theorem b_K_giveBack_43 {d n : Nat} {sh : ZS} {R : ZR} {I : ZI} {Q : ZI → Prop} (hW : Wf sh R) {s1 : Nat} (hS1 : St sh R s1) {x3 : Int} {x4 : Int} {u5 : Option AV}
    (k : (if I 15 0 ≤ x4 then XVs (d + 1) 42 105 [some (.inr 15), some (.inr s1), some (.inr 44), some (.inl x3), some (.inl 0), u5] [] n sh R I Q else (zr (x4 + 1)) ∧ (0 ≤ (x4 + 1) ∧ (x4 + 1) < 10) ∧ (if x4 < 0 then (zr (x3 + I 16 (x4 + 1).toNat)) ∧ XVs (d + 1) 42 43 [some (.inr 15), some (.inr s1), some (.inr 44), some (.inl (x3 + I 16 (x4 + 1).toNat)), some (.inl (x4 + 1)), some (.inl (I 16 (x4 + 1).toNat))] [] n sh R (zup I 16 (x4 + 1).toNat x3) Q else (if (zand (zshr (I 15 1) x4) 1) = 0 then (zr (x3 + I 16 (x4 + 1).toNat)) ∧ XVs (d + 1) 42 43 [some (.inr 15), some (.inr s1), some (.inr 44), some (.inl (x3 + I 16 (x4 + 1).toNat)), some (.inl (x4 + 1)), some (.inl (I 16 (x4 + 1).toNat))] [] n sh R (zup I 16 (x4 + 1).toNat x3) Q else (zr (x3 + I 16 (x4 + 1).toNat)) ∧ (zr ((x3 + I 16 (x4 + 1).toNat) - 1)) ∧ XVs (d + 1) 42 43 [some (.inr 15), some (.inr s1), some (.inr 44), some (.inl (x3 + I 16 (x4 + 1).toNat)), some (.inl (x4 + 1)), some (.inl (I 16 (x4 + 1).toNat))] [] n sh R (zup I 16 (x4 + 1).toNat ((x3 + I 16 (x4 + 1).toNat) - 1)) Q)))) : XVs (d + 1) 42 43 [some (.inr 15), some (.inr s1), some (.inr 44), some (.inl x3), some (.inl x4), u5] [] n sh R I Q := by
  unfold XVs
  refine x_iload d42_43 rfl ?_
  refine x_aload_n d42_45 rfl ?_
  refine x_getI d42_46 gY_42.2.2.2 gF_4_9 rfl (sh_15 hW) ?_
  refine x_if2 (pc2 := 102) d42_49 rfl (fun c => ?_) (fun c => ?_)
  · replace c : I 15 0 ≤ x4 := c
    rw [if_pos c] at k
    refine x_iconst d42_102 rfl ?_
    refine x_istore (ls2 := [some (.inr 15), some (.inr s1), some (.inr 44), some (.inl x3), some (.inl 0), u5]) d42_103 rfl rfl ?_
    exact k
  · replace c : ¬ (I 15 0 ≤ x4) := c
    rw [if_neg c] at k
    refine x_aload_n d42_52 rfl ?_
    refine x_getR (r := 16) d42_53 gY_42.2.2.2 gF_4_18 rfl (sh_15 hW) (rf_15_2 hW) (by decide) ?_
    refine x_iload d42_56 rfl ?_
    refine x_iconst d42_58 rfl ?_
    have e1 := k.1
    replace k := k.2
    refine x_iadd d42_59 e1 ?_
    have e2 := k.1
    replace k := k.2
    refine x_iald d42_60 (sh_16 hW) e2.1 e2.2 ?_
    refine x_istore (ls2 := [some (.inr 15), some (.inr s1), some (.inr 44), some (.inl x3), some (.inl x4), some (.inl (I 16 (x4 + 1).toNat))]) d42_61 rfl rfl ?_
    refine x_aload_n d42_63 rfl ?_
    refine x_getR (r := 16) d42_64 gY_42.2.2.2 gF_4_18 rfl (sh_15 hW) (rf_15_2 hW) (by decide) ?_
    refine x_iload d42_67 rfl ?_
    refine x_iconst d42_69 rfl ?_
    refine x_iadd d42_70 e1 ?_
    refine x_aload_n d42_71 rfl ?_
    refine x_iload d42_72 rfl ?_
    refine y_inv (as := [.inl x4]) (t := [.inl (x4 + 1), .inr 16]) (o := 15) (ls2 := [some (.inr 15), some (.inl x4)]) gY_41 d42_74 gY_42.2.2.2 gM_4_36 rfl (sh_15 hW) rfl rfl ?_
    refine x_iload_n d41_0 rfl ?_
    refine x_if1 (pc2 := 19) d41_1 rfl (fun c => ?_) (fun c => ?_)
    · replace c : x4 < 0 := c
      rw [if_pos c] at k
      refine x_iconst d41_19 rfl ?_
      refine x_zret d41_20 gR_41 (by decide) ?_
      show Ex (d + 1) 42 77 [some (.inr 15), some (.inr s1), some (.inr 44), some (.inl x3), some (.inl x4), some (.inl (I 16 (x4 + 1).toNat))] [.inl 0, .inl (x4 + 1), .inr 16] (0, 0, n, sh, R, I) _
      refine x_if1 (pc2 := 89) d42_77 rfl (fun _ => ?_) (fun c => absurd (show (0 : Int) = 0 by decide) c)
      refine x_iload_n d42_89 rfl ?_
      refine x_iast d42_90 (sh_16 hW) e2.1 e2.2 ?_
      refine x_iload_n d42_91 rfl ?_
      refine x_iload d42_92 rfl ?_
      have e3 := k.1
      replace k := k.2
      refine x_iadd d42_94 e3 ?_
      refine x_istore_n (ls2 := [some (.inr 15), some (.inr s1), some (.inr 44), some (.inl (x3 + I 16 (x4 + 1).toNat)), some (.inl x4), some (.inl (I 16 (x4 + 1).toNat))]) d42_95 rfl rfl ?_
      refine x_iinc (ls2 := [some (.inr 15), some (.inr s1), some (.inr 44), some (.inl (x3 + I 16 (x4 + 1).toNat)), some (.inl (x4 + 1)), some (.inl (I 16 (x4 + 1).toNat))]) d42_96 rfl e1 rfl ?_
      refine x_goto (pc2 := 43) d42_99 rfl ?_
      exact k
    · replace c : ¬ (x4 < 0) := c
      rw [if_neg c] at k
      refine x_aload_n d41_4 rfl ?_
      refine x_getI d41_5 gY_41.2.2.2 gF_4_15 rfl (sh_15 hW) ?_
      refine x_iload_n d41_8 rfl ?_
      refine x_ishr d41_9 ?_
      refine x_iconst d41_10 rfl ?_
      refine x_iand d41_11 ?_
      refine x_if1 (pc2 := 19) d41_12 rfl (fun c => ?_) (fun c => ?_)
      · replace c : (zand (zshr (I 15 1) x4) 1) = 0 := c
        rw [if_pos c] at k
        refine x_iconst d41_19 rfl ?_
        refine x_zret d41_20 gR_41 (by decide) ?_
        show Ex (d + 1) 42 77 [some (.inr 15), some (.inr s1), some (.inr 44), some (.inl x3), some (.inl x4), some (.inl (I 16 (x4 + 1).toNat))] [.inl 0, .inl (x4 + 1), .inr 16] (0, 0, n, sh, R, I) _
        refine x_if1 (pc2 := 89) d42_77 rfl (fun _ => ?_) (fun c => absurd (show (0 : Int) = 0 by decide) c)
        refine x_iload_n d42_89 rfl ?_
        refine x_iast d42_90 (sh_16 hW) e2.1 e2.2 ?_
        refine x_iload_n d42_91 rfl ?_
        refine x_iload d42_92 rfl ?_
        have e4 := k.1
        replace k := k.2
        refine x_iadd d42_94 e4 ?_
        refine x_istore_n (ls2 := [some (.inr 15), some (.inr s1), some (.inr 44), some (.inl (x3 + I 16 (x4 + 1).toNat)), some (.inl x4), some (.inl (I 16 (x4 + 1).toNat))]) d42_95 rfl rfl ?_
        refine x_iinc (ls2 := [some (.inr 15), some (.inr s1), some (.inr 44), some (.inl (x3 + I 16 (x4 + 1).toNat)), some (.inl (x4 + 1)), some (.inl (I 16 (x4 + 1).toNat))]) d42_96 rfl e1 rfl ?_
        refine x_goto (pc2 := 43) d42_99 rfl ?_
        exact k
      · replace c : ¬ ((zand (zshr (I 15 1) x4) 1) = 0) := c
        rw [if_neg c] at k
        refine x_iconst d41_15 rfl ?_
        refine x_goto (pc2 := 20) d41_16 rfl ?_
        refine x_zret d41_20 gR_41 (by decide) ?_
        show Ex (d + 1) 42 77 [some (.inr 15), some (.inr s1), some (.inr 44), some (.inl x3), some (.inl x4), some (.inl (I 16 (x4 + 1).toNat))] [.inl 1, .inl (x4 + 1), .inr 16] (0, 0, n, sh, R, I) _
        refine x_if1 (pc2 := 89) d42_77 rfl (fun c => absurd (show (1 : Int) = 0 from c) (by decide)) (fun _ => ?_)
        refine x_iload_n d42_80 rfl ?_
        refine x_iload d42_81 rfl ?_
        have e5 := k.1
        replace k := k.2
        refine x_iadd d42_83 e5 ?_
        refine x_iconst d42_84 rfl ?_
        have e6 := k.1
        replace k := k.2
        refine x_isub d42_85 e6 ?_
        refine x_goto (pc2 := 90) d42_86 rfl ?_
        refine x_iast d42_90 (sh_16 hW) e2.1 e2.2 ?_
        refine x_iload_n d42_91 rfl ?_
        refine x_iload d42_92 rfl ?_
        refine x_iadd d42_94 e5 ?_
        refine x_istore_n (ls2 := [some (.inr 15), some (.inr s1), some (.inr 44), some (.inl (x3 + I 16 (x4 + 1).toNat)), some (.inl x4), some (.inl (I 16 (x4 + 1).toNat))]) d42_95 rfl rfl ?_
        refine x_iinc (ls2 := [some (.inr 15), some (.inr s1), some (.inr 44), some (.inl (x3 + I 16 (x4 + 1).toNat)), some (.inl (x4 + 1)), some (.inl (I 16 (x4 + 1).toNat))]) d42_96 rfl e1 rfl ?_
        refine x_goto (pc2 := 43) d42_99 rfl ?_
        exact k
set_option maxHeartbeats 4000000 in
theorem b_K_giveBack_105 {d n : Nat} {sh : ZS} {R : ZR} {I : ZI} {Q : ZI → Prop} (hW : Wf sh R) {s1 : Nat} (hS1 : St sh R s1) {u3 : Option AV} {x4 : Int} {u5 : Option AV}
    (k : (if I s1 6 ≤ x4 then (0 ≤ I s1 6 ∧ I s1 6 ≤ 32) ∧ Q (zcpy I 17 0 (s1 + 5) 0 (I s1 6).toNat) else (0 ≤ x4 ∧ x4 < 32) ∧ (zr (I 44 (x4).toNat + 1)) ∧ (0 ≤ (I 44 (x4).toNat + 1) ∧ (I 44 (x4).toNat + 1) < 10) ∧ (0 ≤ I 16 (I 44 (x4).toNat + 1).toNat ∧ I 16 (I 44 (x4).toNat + 1).toNat < 32) ∧ (if I 44 (x4).toNat < 0 then (zr (I 16 (I 44 (x4).toNat + 1).toNat + 1)) ∧ (zr (x4 + 1)) ∧ XVs (d + 1) 42 105 [some (.inr 15), some (.inr s1), some (.inr 44), u3, some (.inl (x4 + 1)), some (.inl (I 44 (x4).toNat))] [] n sh R (zup (zup I 17 (I 16 (I 44 (x4).toNat + 1).toNat).toNat (I (s1 + 5) (x4).toNat)) 16 (I 44 (x4).toNat + 1).toNat (I 16 (I 44 (x4).toNat + 1).toNat + 1)) Q else (if (zand (zshr (I 15 1) (I 44 (x4).toNat)) 1) = 0 then (zr (I 16 (I 44 (x4).toNat + 1).toNat + 1)) ∧ (zr (x4 + 1)) ∧ XVs (d + 1) 42 105 [some (.inr 15), some (.inr s1), some (.inr 44), u3, some (.inl (x4 + 1)), some (.inl (I 44 (x4).toNat))] [] n sh R (zup (zup I 17 (I 16 (I 44 (x4).toNat + 1).toNat).toNat (I (s1 + 5) (x4).toNat)) 16 (I 44 (x4).toNat + 1).toNat (I 16 (I 44 (x4).toNat + 1).toNat + 1)) Q else (zr (I 16 (I 44 (x4).toNat + 1).toNat + (-1))) ∧ (zr (x4 + 1)) ∧ XVs (d + 1) 42 105 [some (.inr 15), some (.inr s1), some (.inr 44), u3, some (.inl (x4 + 1)), some (.inl (I 44 (x4).toNat))] [] n sh R (zup (zup I 17 (I 16 (I 44 (x4).toNat + 1).toNat).toNat (I (s1 + 5) (x4).toNat)) 16 (I 44 (x4).toNat + 1).toNat (I 16 (I 44 (x4).toNat + 1).toNat + (-1))) Q)))) : XVs (d + 1) 42 105 [some (.inr 15), some (.inr s1), some (.inr 44), u3, some (.inl x4), u5] [] n sh R I Q := by
  unfold XVs
  refine x_iload d42_105 rfl ?_
  refine x_aload_n d42_107 rfl ?_
  refine x_getI d42_108 gY_42.2.2.2 gF_4_31 rfl hS1.1 ?_
  refine x_if2 (pc2 := 173) d42_111 rfl (fun c => ?_) (fun c => ?_)
  · replace c : I s1 6 ≤ x4 := c
    rw [if_pos c] at k
    refine x_aload_n d42_173 rfl ?_
    refine x_getR (r := 17) d42_174 gY_42.2.2.2 gF_4_22 rfl (sh_15 hW) (rf_15_3 hW) (by decide) ?_
    refine x_iconst d42_177 rfl ?_
    refine x_aload_n d42_178 rfl ?_
    refine x_getR (r := (s1 + 5)) d42_179 gY_42.2.2.2 gF_4_40 rfl hS1.1 hS1.2.2.2.2.2.2.2.2.2.2 (Nat.succ_ne_zero _) ?_
    refine x_iconst d42_182 rfl ?_
    refine x_aload_n d42_183 rfl ?_
    refine x_getI d42_184 gY_42.2.2.2 gF_4_31 rfl hS1.1 ?_
    have e1 := k.1
    replace k := k.2
    refine x_cpy d42_187 gY_42.2.2.2 gM_4_43 (of_decide_eq_true rfl) (sh_17 hW) hS1.2.2.2.2.2.1 (by decide) (by decide) e1.1 (by omega) (by omega) ?_
    exact x_vret d42_190 gR_42 ⟨_, rfl, rfl, k⟩
  · replace c : ¬ (I s1 6 ≤ x4) := c
    rw [if_neg c] at k
    refine x_aload_n d42_114 rfl ?_
    refine x_iload d42_115 rfl ?_
    have e2 := k.1
    replace k := k.2
    refine x_iald d42_117 (sh_44 hW) e2.1 e2.2 ?_
    refine x_istore (ls2 := [some (.inr 15), some (.inr s1), some (.inr 44), u3, some (.inl x4), some (.inl (I 44 (x4).toNat))]) d42_118 rfl rfl ?_
    refine x_aload_n d42_120 rfl ?_
    refine x_getR (r := 17) d42_121 gY_42.2.2.2 gF_4_22 rfl (sh_15 hW) (rf_15_3 hW) (by decide) ?_
    refine x_aload_n d42_124 rfl ?_
    refine x_getR (r := 16) d42_125 gY_42.2.2.2 gF_4_18 rfl (sh_15 hW) (rf_15_2 hW) (by decide) ?_
    refine x_iload d42_128 rfl ?_
    refine x_iconst d42_130 rfl ?_
    have e3 := k.1
    replace k := k.2
    refine x_iadd d42_131 e3 ?_
    have e4 := k.1
    replace k := k.2
    refine x_iald d42_132 (sh_16 hW) e4.1 e4.2 ?_
    refine x_aload_n d42_133 rfl ?_
    refine x_getR (r := (s1 + 5)) d42_134 gY_42.2.2.2 gF_4_40 rfl hS1.1 hS1.2.2.2.2.2.2.2.2.2.2 (Nat.succ_ne_zero _) ?_
    refine x_iload d42_137 rfl ?_
    refine x_iald d42_139 hS1.2.2.2.2.2.1 e2.1 e2.2 ?_
    have e5 := k.1
    replace k := k.2
    refine x_iast d42_140 (sh_17 hW) e5.1 e5.2 ?_
    refine x_aload_n d42_141 rfl ?_
    refine x_getR (r := 16) d42_142 gY_42.2.2.2 gF_4_18 rfl (sh_15 hW) (rf_15_2 hW) (by decide) ?_
    refine x_iload d42_145 rfl ?_
    refine x_iconst d42_147 rfl ?_
    refine x_iadd d42_148 e3 ?_
    refine x_dup2 d42_149 ?_
    refine x_iald d42_150 (sh_16 hW) e4.1 e4.2 ?_
    refine x_aload_n d42_151 rfl ?_
    refine x_iload d42_152 rfl ?_
    refine y_inv (as := [.inl (I 44 (x4).toNat)]) (t := [.inl (I 16 (I 44 (x4).toNat + 1).toNat), .inl (I 44 (x4).toNat + 1), .inr 16]) (o := 15) (ls2 := [some (.inr 15), some (.inl (I 44 (x4).toNat))]) gY_41 d42_154 gY_42.2.2.2 gM_4_36 rfl (sh_15 hW) rfl rfl ?_
    refine x_iload_n d41_0 rfl ?_
    refine x_if1 (pc2 := 19) d41_1 rfl (fun c => ?_) (fun c => ?_)
    · replace c : I 44 (x4).toNat < 0 := c
      rw [if_pos c] at k
      refine x_iconst d41_19 rfl ?_
      refine x_zret d41_20 gR_41 (by decide) ?_
      show Ex (d + 1) 42 157 [some (.inr 15), some (.inr s1), some (.inr 44), u3, some (.inl x4), some (.inl (I 44 (x4).toNat))] [.inl 0, .inl (I 16 (I 44 (x4).toNat + 1).toNat), .inl (I 44 (x4).toNat + 1), .inr 16] (0, 0, n, sh, R, (zup I 17 (I 16 (I 44 (x4).toNat + 1).toNat).toNat (I (s1 + 5) (x4).toNat))) _
      refine x_if1 (pc2 := 164) d42_157 rfl (fun _ => ?_) (fun c => absurd (show (0 : Int) = 0 by decide) c)
      refine x_iconst d42_164 rfl ?_
      have e6 := k.1
      replace k := k.2
      refine x_iadd d42_165 e6 ?_
      refine x_iast d42_166 (sh_16 hW) e4.1 e4.2 ?_
      have e7 := k.1
      replace k := k.2
      refine x_iinc (ls2 := [some (.inr 15), some (.inr s1), some (.inr 44), u3, some (.inl (x4 + 1)), some (.inl (I 44 (x4).toNat))]) d42_167 rfl e7 rfl ?_
      refine x_goto (pc2 := 105) d42_170 rfl ?_
      exact k
    · replace c : ¬ (I 44 (x4).toNat < 0) := c
      rw [if_neg c] at k
      refine x_aload_n d41_4 rfl ?_
      refine x_getI d41_5 gY_41.2.2.2 gF_4_15 rfl (sh_15 hW) ?_
      refine x_iload_n d41_8 rfl ?_
      refine x_ishr d41_9 ?_
      refine x_iconst d41_10 rfl ?_
      refine x_iand d41_11 ?_
      refine x_if1 (pc2 := 19) d41_12 rfl (fun c => ?_) (fun c => ?_)
      · replace c : (zand (zshr (I 15 1) (I 44 (x4).toNat)) 1) = 0 := c
        rw [if_pos c] at k
        refine x_iconst d41_19 rfl ?_
        refine x_zret d41_20 gR_41 (by decide) ?_
        show Ex (d + 1) 42 157 [some (.inr 15), some (.inr s1), some (.inr 44), u3, some (.inl x4), some (.inl (I 44 (x4).toNat))] [.inl 0, .inl (I 16 (I 44 (x4).toNat + 1).toNat), .inl (I 44 (x4).toNat + 1), .inr 16] (0, 0, n, sh, R, (zup I 17 (I 16 (I 44 (x4).toNat + 1).toNat).toNat (I (s1 + 5) (x4).toNat))) _
        refine x_if1 (pc2 := 164) d42_157 rfl (fun _ => ?_) (fun c => absurd (show (0 : Int) = 0 by decide) c)
        refine x_iconst d42_164 rfl ?_
        have e8 := k.1
        replace k := k.2
        refine x_iadd d42_165 e8 ?_
        refine x_iast d42_166 (sh_16 hW) e4.1 e4.2 ?_
        have e9 := k.1
        replace k := k.2
        refine x_iinc (ls2 := [some (.inr 15), some (.inr s1), some (.inr 44), u3, some (.inl (x4 + 1)), some (.inl (I 44 (x4).toNat))]) d42_167 rfl e9 rfl ?_
        refine x_goto (pc2 := 105) d42_170 rfl ?_
        exact k
      · replace c : ¬ ((zand (zshr (I 15 1) (I 44 (x4).toNat)) 1) = 0) := c
        rw [if_neg c] at k
        refine x_iconst d41_15 rfl ?_
        refine x_goto (pc2 := 20) d41_16 rfl ?_
        refine x_zret d41_20 gR_41 (by decide) ?_
        show Ex (d + 1) 42 157 [some (.inr 15), some (.inr s1), some (.inr 44), u3, some (.inl x4), some (.inl (I 44 (x4).toNat))] [.inl 1, .inl (I 16 (I 44 (x4).toNat + 1).toNat), .inl (I 44 (x4).toNat + 1), .inr 16] (0, 0, n, sh, R, (zup I 17 (I 16 (I 44 (x4).toNat + 1).toNat).toNat (I (s1 + 5) (x4).toNat))) _
        refine x_if1 (pc2 := 164) d42_157 rfl (fun c => absurd (show (1 : Int) = 0 from c) (by decide)) (fun _ => ?_)
        refine x_iconst d42_160 rfl ?_
        refine x_goto (pc2 := 165) d42_161 rfl ?_
        have e10 := k.1
        replace k := k.2
        refine x_iadd d42_165 e10 ?_
        refine x_iast d42_166 (sh_16 hW) e4.1 e4.2 ?_
        have e11 := k.1
        replace k := k.2
        refine x_iinc (ls2 := [some (.inr 15), some (.inr s1), some (.inr 44), u3, some (.inl (x4 + 1)), some (.inl (I 44 (x4).toNat))]) d42_167 rfl e11 rfl ?_
        refine x_goto (pc2 := 105) d42_170 rfl ?_
        exact k
set_option maxHeartbeats 4000000 in
theorem b_O_read_0 {d n : Nat} {sh : ZS} {R : ZR} {I : ZI} {Q : ZI → Prop} (hW : Wf sh R) {x2 : Int}
    (k : XV d 251 [.inr 57, .inl (-1)] n sh R I (fun I2 => (zr (x2 - 1)) ∧ XVs (d + 1) 44 12 [some (.inr 53), some (.inr 14), some (.inl x2), some (.inl (x2 - 1)), none] [] n sh R I2 Q)) : XV (d + 1) 44 [.inr 53, .inr 14, .inl x2] n sh R I Q := by
  refine XV.of (ls := [some (.inr 53), some (.inr 14), some (.inl x2), none, none]) (zloc_eq gY_44.2.2.1) ?_
  unfold XVs
  refine x_aload_n d44_0 rfl ?_
  refine x_getR (r := 57) d44_1 gY_44.2.2.2 gF_5_25 rfl (sh_53 hW) (rf_53_4 hW) (by decide) ?_
  refine x_iconst d44_4 rfl ?_
  refine y_insV (as := [.inr 57, .inl (-1)]) (t := []) gY_251 d44_5 gY_44.2.2.2 gM_5_31 rfl rfl k (fun I2 k => ?_)
  refine x_iload_n d44_8 rfl ?_
  refine x_iconst d44_9 rfl ?_
  have e3 := k.1
  replace k := k.2
  refine x_isub d44_10 e3 ?_
  refine x_istore_n (ls2 := [some (.inr 53), some (.inr 14), some (.inl x2), some (.inl (x2 - 1)), none]) d44_11 rfl rfl ?_
  exact k
set_option maxHeartbeats 4000000 in
theorem b_O_read_12 {d n : Nat} {sh : ZS} {R : ZR} {I : ZI} {Q : ZI → Prop} (hW : Wf sh R) {u2 : Option AV} {x3 : Int} {u4 : Option AV}
    (k : (if x3 < 0 then XVs (d + 1) 44 60 [some (.inr 53), some (.inr 14), u2, some (.inl 0), u4] [] n sh R (zup I 53 2 0) Q else (0 ≤ x3 ∧ x3 < 32) ∧ (0 ≤ I 14 (x3).toNat ∧ I 14 (x3).toNat < 20) ∧ (zr (x3 + (-1))) ∧ XVs (d + 1) 44 12 [some (.inr 53), some (.inr 14), u2, some (.inl (x3 + (-1))), some (.inl (I 14 (x3).toNat))] [] n sh R (zup (zup I 56 (I 14 (x3).toNat).toNat x3) 57 (I 14 (x3).toNat).toNat (if I 57 (I 14 (x3).toNat).toNat < x3 then x3 else I 57 (I 14 (x3).toNat).toNat)) Q)) : XVs (d + 1) 44 12 [some (.inr 53), some (.inr 14), u2, some (.inl x3), u4] [] n sh R I Q := by
  unfold XVs
  refine x_iload_n d44_12 rfl ?_
  refine x_if1 (pc2 := 53) d44_13 rfl (fun c => ?_) (fun c => ?_)
  · replace c : x3 < 0 := c
    rw [if_pos c] at k
    refine x_aload_n d44_53 rfl ?_
    refine x_iconst d44_54 rfl ?_
    refine x_putI d44_55 gY_44.2.2.2 gF_5_18 rfl rfl (sh_53 hW) ?_
    refine x_iconst d44_58 rfl ?_
    refine x_istore_n (ls2 := [some (.inr 53), some (.inr 14), u2, some (.inl 0), u4]) d44_59 rfl rfl ?_
    exact k
  · replace c : ¬ (x3 < 0) := c
    rw [if_neg c] at k
    refine x_aload_n d44_16 rfl ?_
    refine x_iload_n d44_17 rfl ?_
    have e1 := k.1
    replace k := k.2
    refine x_iald d44_18 (sh_14 hW) e1.1 e1.2 ?_
    refine x_istore (ls2 := [some (.inr 53), some (.inr 14), u2, some (.inl x3), some (.inl (I 14 (x3).toNat))]) d44_19 rfl rfl ?_
    refine x_aload_n d44_21 rfl ?_
    refine x_getR (r := 56) d44_22 gY_44.2.2.2 gF_5_22 rfl (sh_53 hW) (rf_53_3 hW) (by decide) ?_
    refine x_iload d44_25 rfl ?_
    refine x_iload_n d44_27 rfl ?_
    have e2 := k.1
    replace k := k.2
    refine x_iast d44_28 (sh_56 hW) e2.1 e2.2 ?_
    refine x_aload_n d44_29 rfl ?_
    refine x_getR (r := 57) d44_30 gY_44.2.2.2 gF_5_25 rfl (sh_53 hW) (rf_53_4 hW) (by decide) ?_
    refine x_iload d44_33 rfl ?_
    refine x_aload_n d44_35 rfl ?_
    refine x_getR (r := 57) d44_36 gY_44.2.2.2 gF_5_25 rfl (sh_53 hW) (rf_53_4 hW) (by decide) ?_
    refine x_iload d44_39 rfl ?_
    refine x_iald d44_41 (sh_57 hW) e2.1 e2.2 ?_
    refine x_iload_n d44_42 rfl ?_
    refine x_max d44_43 gY_44.2.2.2 gM_5_37 (of_decide_eq_true rfl) ?_
    refine x_iast d44_46 (sh_57 hW) e2.1 e2.2 ?_
    have e3 := k.1
    replace k := k.2
    refine x_iinc (ls2 := [some (.inr 53), some (.inr 14), u2, some (.inl (x3 + (-1))), some (.inl (I 14 (x3).toNat))]) d44_47 rfl e3 rfl ?_
    refine x_goto (pc2 := 12) d44_50 rfl ?_
    exact k
set_option maxHeartbeats 4000000 in
theorem b_O_read_60 {d n : Nat} {sh : ZS} {R : ZR} {I : ZI} {Q : ZI → Prop} (hW : Wf sh R) {u1 : Option AV} {u2 : Option AV} {x3 : Int} {u4 : Option AV}
    (k : (if 20 ≤ x3 then Q I else (0 ≤ x3 ∧ x3 < 20) ∧ (if I 57 (x3).toNat < 0 then (zr (x3 + 1)) ∧ XVs (d + 1) 44 60 [some (.inr 53), u1, u2, some (.inl (x3 + 1)), u4] [] n sh R I Q else (0 ≤ I 53 2 ∧ I 53 2 < 20) ∧ (zr (I 53 2 + 1)) ∧ (zr (x3 + 1)) ∧ XVs (d + 1) 44 60 [some (.inr 53), u1, u2, some (.inl (x3 + 1)), u4] [] n sh R (zup (zup I 54 (I 53 2).toNat x3) 53 2 (I 53 2 + 1)) Q))) : XVs (d + 1) 44 60 [some (.inr 53), u1, u2, some (.inl x3), u4] [] n sh R I Q := by
  unfold XVs
  refine x_iload_n d44_60 rfl ?_
  refine x_bipush d44_61 rfl ?_
  refine x_if2 (pc2 := 101) d44_63 rfl (fun c => ?_) (fun c => ?_)
  · replace c : 20 ≤ x3 := c
    rw [if_pos c] at k
    exact x_vret d44_101 gR_44 ⟨_, rfl, rfl, k⟩
  · replace c : ¬ (20 ≤ x3) := c
    rw [if_neg c] at k
    refine x_aload_n d44_66 rfl ?_
    refine x_getR (r := 57) d44_67 gY_44.2.2.2 gF_5_25 rfl (sh_53 hW) (rf_53_4 hW) (by decide) ?_
    refine x_iload_n d44_70 rfl ?_
    have e1 := k.1
    replace k := k.2
    refine x_iald d44_71 (sh_57 hW) e1.1 e1.2 ?_
    refine x_if1 (pc2 := 95) d44_72 rfl (fun c => ?_) (fun c => ?_)
    · replace c : I 57 (x3).toNat < 0 := c
      rw [if_pos c] at k
      have e2 := k.1
      replace k := k.2
      refine x_iinc (ls2 := [some (.inr 53), u1, u2, some (.inl (x3 + 1)), u4]) d44_95 rfl e2 rfl ?_
      refine x_goto (pc2 := 60) d44_98 rfl ?_
      exact k
    · replace c : ¬ (I 57 (x3).toNat < 0) := c
      rw [if_neg c] at k
      refine x_aload_n d44_75 rfl ?_
      refine x_getR (r := 54) d44_76 gY_44.2.2.2 gF_5_9 rfl (sh_53 hW) (rf_53_0 hW) (by decide) ?_
      refine x_aload_n d44_79 rfl ?_
      refine x_getI d44_80 gY_44.2.2.2 gF_5_18 rfl (sh_53 hW) ?_
      refine x_iload_n d44_83 rfl ?_
      have e3 := k.1
      replace k := k.2
      refine x_iast d44_84 (sh_54 hW) e3.1 e3.2 ?_
      refine x_aload_n d44_85 rfl ?_
      refine x_dup d44_86 ?_
      refine x_getI d44_87 gY_44.2.2.2 gF_5_18 rfl (sh_53 hW) ?_
      refine x_iconst d44_90 rfl ?_
      have e4 := k.1
      replace k := k.2
      refine x_iadd d44_91 e4 ?_
      refine x_putI d44_92 gY_44.2.2.2 gF_5_18 rfl rfl (sh_53 hW) ?_
      have e5 := k.1
      replace k := k.2
      refine x_iinc (ls2 := [some (.inr 53), u1, u2, some (.inl (x3 + 1)), u4]) d44_95 rfl e5 rfl ?_
      refine x_goto (pc2 := 60) d44_98 rfl ?_
      exact k
set_option maxHeartbeats 4000000 in
theorem b_O_fewest_0 {d n : Nat} {sh : ZS} {R : ZR} {I : ZI} {Q : Int → ZI → Prop} (hW : Wf sh R) {x1 : Int}
    (k : (if I 53 2 ≤ 0 then XIs (d + 1) 46 15 [some (.inr 53), some (.inl x1), some (.inl 0), some (.inl 1)] [] n sh R I Q else XIs (d + 1) 46 15 [some (.inr 53), some (.inl x1), some (.inl 1), some (.inl 1)] [] n sh R I Q)) : XI (d + 1) 46 [.inr 53, .inl x1] n sh R I Q := by
  refine XI.of (ls := [some (.inr 53), some (.inl x1), none, none]) (zloc_eq gY_46.2.2.1) ?_
  unfold XIs
  refine x_aload_n d46_0 rfl ?_
  refine x_getI d46_1 gY_46.2.2.2 gF_5_18 rfl (sh_53 hW) ?_
  refine x_if1 (pc2 := 11) d46_4 rfl (fun c => ?_) (fun c => ?_)
  · replace c : I 53 2 ≤ 0 := c
    rw [if_pos c] at k
    refine x_iconst d46_11 rfl ?_
    refine x_istore_n (ls2 := [some (.inr 53), some (.inl x1), some (.inl 0), none]) d46_12 rfl rfl ?_
    refine x_iconst d46_13 rfl ?_
    refine x_istore_n (ls2 := [some (.inr 53), some (.inl x1), some (.inl 0), some (.inl 1)]) d46_14 rfl rfl ?_
    exact k
  · replace c : ¬ (I 53 2 ≤ 0) := c
    rw [if_neg c] at k
    refine x_iconst d46_7 rfl ?_
    refine x_goto (pc2 := 12) d46_8 rfl ?_
    refine x_istore_n (ls2 := [some (.inr 53), some (.inl x1), some (.inl 1), none]) d46_12 rfl rfl ?_
    refine x_iconst d46_13 rfl ?_
    refine x_istore_n (ls2 := [some (.inr 53), some (.inl x1), some (.inl 1), some (.inl 1)]) d46_14 rfl rfl ?_
    exact k
set_option maxHeartbeats 4000000 in
theorem b_O_fewest_15 {d n : Nat} {sh : ZS} {R : ZR} {I : ZI} {Q : Int → ZI → Prop} (hW : Wf sh R) {x1 : Int} {x2 : Int} {x3 : Int}
    (k : (if I 53 2 ≤ x3 then Q x2 I else (zr (x3 - 1)) ∧ (if x1 = 0 then (0 ≤ (x3 - 1) ∧ (x3 - 1) < 20) ∧ (0 ≤ I 54 (x3 - 1).toNat ∧ I 54 (x3 - 1).toNat < 20) ∧ (0 ≤ x3 ∧ x3 < 20) ∧ (0 ≤ I 54 (x3).toNat ∧ I 54 (x3).toNat < 20) ∧ (if I 56 (I 54 (x3 - 1).toNat).toNat ≤ I 57 (I 54 (x3).toNat).toNat then (zr (x2 + 1)) ∧ (zr (x3 + 1)) ∧ XIs (d + 1) 46 15 [some (.inr 53), some (.inl x1), some (.inl (x2 + 1)), some (.inl (x3 + 1))] [] n sh R I Q else (zr (x3 + 1)) ∧ XIs (d + 1) 46 15 [some (.inr 53), some (.inl x1), some (.inl x2), some (.inl (x3 + 1))] [] n sh R I Q) else (0 ≤ (x3 - 1) ∧ (x3 - 1) < 20) ∧ (0 ≤ I 54 (x3 - 1).toNat ∧ I 54 (x3 - 1).toNat < 20) ∧ (0 ≤ x3 ∧ x3 < 20) ∧ (0 ≤ I 54 (x3).toNat ∧ I 54 (x3).toNat < 20) ∧ (if I 56 (I 54 (x3).toNat).toNat ≤ I 57 (I 54 (x3 - 1).toNat).toNat then (zr (x2 + 1)) ∧ (zr (x3 + 1)) ∧ XIs (d + 1) 46 15 [some (.inr 53), some (.inl x1), some (.inl (x2 + 1)), some (.inl (x3 + 1))] [] n sh R I Q else (zr (x3 + 1)) ∧ XIs (d + 1) 46 15 [some (.inr 53), some (.inl x1), some (.inl x2), some (.inl (x3 + 1))] [] n sh R I Q)))) : XIs (d + 1) 46 15 [some (.inr 53), some (.inl x1), some (.inl x2), some (.inl x3)] [] n sh R I Q := by
  unfold XIs
  refine x_iload_n d46_15 rfl ?_
  refine x_aload_n d46_16 rfl ?_
  refine x_getI d46_17 gY_46.2.2.2 gF_5_18 rfl (sh_53 hW) ?_
  refine x_if2 (pc2 := 44) d46_20 rfl (fun c => ?_) (fun c => ?_)
  · replace c : I 53 2 ≤ x3 := c
    rw [if_pos c] at k
    refine x_iload_n d46_44 rfl ?_
    exact x_iret d46_45 gR_46 ⟨_, _, rfl, rfl, k⟩
  · replace c : ¬ (I 53 2 ≤ x3) := c
    rw [if_neg c] at k
    refine x_aload_n d46_23 rfl ?_
    refine x_iload_n d46_24 rfl ?_
    refine x_iconst d46_25 rfl ?_
    have e1 := k.1
    replace k := k.2
    refine x_isub d46_26 e1 ?_
    refine x_iload_n d46_27 rfl ?_
    refine x_iload_n d46_28 rfl ?_
    refine y_inv (as := [.inl (x3 - 1), .inl x3, .inl x1]) (t := []) (o := 53) (ls2 := [some (.inr 53), some (.inl (x3 - 1)), some (.inl x3), some (.inl x1)]) gY_45 d46_29 gY_46.2.2.2 gM_5_43 rfl (sh_53 hW) rfl rfl ?_
    refine x_iload_n d45_0 rfl ?_
    refine x_if1 (pc2 := 37) d45_1 rfl (fun c => ?_) (fun c => ?_)
    · replace c : x1 = 0 := c
      rw [if_pos c] at k
      refine x_aload_n d45_37 rfl ?_
      refine x_getR (r := 56) d45_38 gY_45.2.2.2 gF_5_22 rfl (sh_53 hW) (rf_53_3 hW) (by decide) ?_
      refine x_aload_n d45_41 rfl ?_
      refine x_getR (r := 54) d45_42 gY_45.2.2.2 gF_5_9 rfl (sh_53 hW) (rf_53_0 hW) (by decide) ?_
      refine x_iload_n d45_45 rfl ?_
      have e2 := k.1
      replace k := k.2
      refine x_iald d45_46 (sh_54 hW) e2.1 e2.2 ?_
      have e3 := k.1
      replace k := k.2
      refine x_iald d45_47 (sh_56 hW) e3.1 e3.2 ?_
      refine x_aload_n d45_48 rfl ?_
      refine x_getR (r := 57) d45_49 gY_45.2.2.2 gF_5_25 rfl (sh_53 hW) (rf_53_4 hW) (by decide) ?_
      refine x_aload_n d45_52 rfl ?_
      refine x_getR (r := 54) d45_53 gY_45.2.2.2 gF_5_9 rfl (sh_53 hW) (rf_53_0 hW) (by decide) ?_
      refine x_iload_n d45_56 rfl ?_
      have e4 := k.1
      replace k := k.2
      refine x_iald d45_57 (sh_54 hW) e4.1 e4.2 ?_
      have e5 := k.1
      replace k := k.2
      refine x_iald d45_58 (sh_57 hW) e5.1 e5.2 ?_
      refine x_if2 (pc2 := 66) d45_59 rfl (fun c => ?_) (fun c => ?_)
      · replace c : I 56 (I 54 (x3 - 1).toNat).toNat ≤ I 57 (I 54 (x3).toNat).toNat := c
        rw [if_pos c] at k
        refine x_iconst d45_66 rfl ?_
        refine x_zret d45_67 gR_45 (by decide) ?_
        show Ex (d + 1) 46 32 [some (.inr 53), some (.inl x1), some (.inl x2), some (.inl x3)] [.inl 0] (0, 0, n, sh, R, I) _
        refine x_if1 (pc2 := 38) d46_32 rfl (fun c => absurd (show ¬ (0 : Int) = 0 from c) (by decide)) (fun _ => ?_)
        have e6 := k.1
        replace k := k.2
        refine x_iinc (ls2 := [some (.inr 53), some (.inl x1), some (.inl (x2 + 1)), some (.inl x3)]) d46_35 rfl e6 rfl ?_
        have e7 := k.1
        replace k := k.2
        refine x_iinc (ls2 := [some (.inr 53), some (.inl x1), some (.inl (x2 + 1)), some (.inl (x3 + 1))]) d46_38 rfl e7 rfl ?_
        refine x_goto (pc2 := 15) d46_41 rfl ?_
        exact k
      · replace c : ¬ (I 56 (I 54 (x3 - 1).toNat).toNat ≤ I 57 (I 54 (x3).toNat).toNat) := c
        rw [if_neg c] at k
        refine x_iconst d45_62 rfl ?_
        refine x_goto (pc2 := 67) d45_63 rfl ?_
        refine x_zret d45_67 gR_45 (by decide) ?_
        show Ex (d + 1) 46 32 [some (.inr 53), some (.inl x1), some (.inl x2), some (.inl x3)] [.inl 1] (0, 0, n, sh, R, I) _
        refine x_if1 (pc2 := 38) d46_32 rfl (fun _ => ?_) (fun c => absurd (show ¬ (1 : Int) = 0 by decide) c)
        have e8 := k.1
        replace k := k.2
        refine x_iinc (ls2 := [some (.inr 53), some (.inl x1), some (.inl x2), some (.inl (x3 + 1))]) d46_38 rfl e8 rfl ?_
        refine x_goto (pc2 := 15) d46_41 rfl ?_
        exact k
    · replace c : ¬ (x1 = 0) := c
      rw [if_neg c] at k
      refine x_aload_n d45_4 rfl ?_
      refine x_getR (r := 57) d45_5 gY_45.2.2.2 gF_5_25 rfl (sh_53 hW) (rf_53_4 hW) (by decide) ?_
      refine x_aload_n d45_8 rfl ?_
      refine x_getR (r := 54) d45_9 gY_45.2.2.2 gF_5_9 rfl (sh_53 hW) (rf_53_0 hW) (by decide) ?_
      refine x_iload_n d45_12 rfl ?_
      have e9 := k.1
      replace k := k.2
      refine x_iald d45_13 (sh_54 hW) e9.1 e9.2 ?_
      have e10 := k.1
      replace k := k.2
      refine x_iald d45_14 (sh_57 hW) e10.1 e10.2 ?_
      refine x_aload_n d45_15 rfl ?_
      refine x_getR (r := 56) d45_16 gY_45.2.2.2 gF_5_22 rfl (sh_53 hW) (rf_53_3 hW) (by decide) ?_
      refine x_aload_n d45_19 rfl ?_
      refine x_getR (r := 54) d45_20 gY_45.2.2.2 gF_5_9 rfl (sh_53 hW) (rf_53_0 hW) (by decide) ?_
      refine x_iload_n d45_23 rfl ?_
      have e11 := k.1
      replace k := k.2
      refine x_iald d45_24 (sh_54 hW) e11.1 e11.2 ?_
      have e12 := k.1
      replace k := k.2
      refine x_iald d45_25 (sh_56 hW) e12.1 e12.2 ?_
      refine x_if2 (pc2 := 33) d45_26 rfl (fun c => ?_) (fun c => ?_)
      · replace c : I 56 (I 54 (x3).toNat).toNat ≤ I 57 (I 54 (x3 - 1).toNat).toNat := c
        rw [if_pos c] at k
        refine x_iconst d45_33 rfl ?_
        refine x_goto (pc2 := 67) d45_34 rfl ?_
        refine x_zret d45_67 gR_45 (by decide) ?_
        show Ex (d + 1) 46 32 [some (.inr 53), some (.inl x1), some (.inl x2), some (.inl x3)] [.inl 0] (0, 0, n, sh, R, I) _
        refine x_if1 (pc2 := 38) d46_32 rfl (fun c => absurd (show ¬ (0 : Int) = 0 from c) (by decide)) (fun _ => ?_)
        have e13 := k.1
        replace k := k.2
        refine x_iinc (ls2 := [some (.inr 53), some (.inl x1), some (.inl (x2 + 1)), some (.inl x3)]) d46_35 rfl e13 rfl ?_
        have e14 := k.1
        replace k := k.2
        refine x_iinc (ls2 := [some (.inr 53), some (.inl x1), some (.inl (x2 + 1)), some (.inl (x3 + 1))]) d46_38 rfl e14 rfl ?_
        refine x_goto (pc2 := 15) d46_41 rfl ?_
        exact k
      · replace c : ¬ (I 56 (I 54 (x3).toNat).toNat ≤ I 57 (I 54 (x3 - 1).toNat).toNat) := c
        rw [if_neg c] at k
        refine x_iconst d45_29 rfl ?_
        refine x_goto (pc2 := 67) d45_30 rfl ?_
        refine x_zret d45_67 gR_45 (by decide) ?_
        show Ex (d + 1) 46 32 [some (.inr 53), some (.inl x1), some (.inl x2), some (.inl x3)] [.inl 1] (0, 0, n, sh, R, I) _
        refine x_if1 (pc2 := 38) d46_32 rfl (fun _ => ?_) (fun c => absurd (show ¬ (1 : Int) = 0 by decide) c)
        have e15 := k.1
        replace k := k.2
        refine x_iinc (ls2 := [some (.inr 53), some (.inl x1), some (.inl x2), some (.inl (x3 + 1))]) d46_38 rfl e15 rfl ?_
        refine x_goto (pc2 := 15) d46_41 rfl ?_
        exact k
set_option maxHeartbeats 4000000 in
theorem b_O_freest_0 {d n : Nat} {sh : ZS} {R : ZR} {I : ZI} {Q : Int → ZI → Prop} (hW : Wf sh R) 
    (k : (zr ((zshl 1 (I 53 2)) - 1)) ∧ XIs (d + 3) 47 11 [some (.inr 53), some (.inl ((zshl 1 (I 53 2)) - 1)), some (.inl ((zshl 1 (I 53 2)) - 1)), none, none] [] n sh R I Q) : XI (d + 3) 47 [.inr 53] n sh R I Q := by
  refine XI.of (ls := [some (.inr 53), none, none, none, none]) (zloc_eq gY_47.2.2.1) ?_
  unfold XIs
  refine x_iconst d47_0 rfl ?_
  refine x_aload_n d47_1 rfl ?_
  refine x_getI d47_2 gY_47.2.2.2 gF_5_18 rfl (sh_53 hW) ?_
  refine x_ishl d47_5 ?_
  refine x_iconst d47_6 rfl ?_
  have e1 := k.1
  replace k := k.2
  refine x_isub d47_7 e1 ?_
  refine x_istore_n (ls2 := [some (.inr 53), some (.inl ((zshl 1 (I 53 2)) - 1)), none, none, none]) d47_8 rfl rfl ?_
  refine x_iload_n d47_9 rfl ?_
  refine x_istore_n (ls2 := [some (.inr 53), some (.inl ((zshl 1 (I 53 2)) - 1)), some (.inl ((zshl 1 (I 53 2)) - 1)), none, none]) d47_10 rfl rfl ?_
  exact k
set_option maxHeartbeats 4000000 in
theorem b_O_freest_11 {d n : Nat} {sh : ZS} {R : ZR} {I : ZI} {Q : Int → ZI → Prop} (hW : Wf sh R) {x1 : Int} {x2 : Int} {u3 : Option AV} {u4 : Option AV}
    (k : (if x2 < 1 then (zr (I 53 2 - 1)) ∧ XIs (d + 3) 47 82 [some (.inr 53), some (.inl x1), some (.inl 8), some (.inl (I 53 2 - 1)), u4] [] n sh R I Q else XIs (d + 3) 47 18 [some (.inr 53), some (.inl x1), some (.inl x2), some (.inl 0), u4] [] n sh R I Q)) : XIs (d + 3) 47 11 [some (.inr 53), some (.inl x1), some (.inl x2), u3, u4] [] n sh R I Q := by
  unfold XIs
  refine x_iload_n d47_11 rfl ?_
  refine x_iconst d47_12 rfl ?_
  refine x_if2 (pc2 := 72) d47_13 rfl (fun c => ?_) (fun c => ?_)
  · replace c : x2 < 1 := c
    rw [if_pos c] at k
    refine x_bipush d47_72 rfl ?_
    refine x_istore_n (ls2 := [some (.inr 53), some (.inl x1), some (.inl 8), u3, u4]) d47_74 rfl rfl ?_
    refine x_aload_n d47_75 rfl ?_
    refine x_getI d47_76 gY_47.2.2.2 gF_5_18 rfl (sh_53 hW) ?_
    refine x_iconst d47_79 rfl ?_
    have e1 := k.1
    replace k := k.2
    refine x_isub d47_80 e1 ?_
    refine x_istore_n (ls2 := [some (.inr 53), some (.inl x1), some (.inl 8), some (.inl (I 53 2 - 1)), u4]) d47_81 rfl rfl ?_
    exact k
  · replace c : ¬ (x2 < 1) := c
    rw [if_neg c] at k
    refine x_iconst d47_16 rfl ?_
    refine x_istore_n (ls2 := [some (.inr 53), some (.inl x1), some (.inl x2), some (.inl 0), u4]) d47_17 rfl rfl ?_
    exact k
set_option maxHeartbeats 4000000 in
theorem b_O_freest_18 {d n : Nat} {sh : ZS} {R : ZR} {I : ZI} {Q : Int → ZI → Prop} (hW : Wf sh R) {x1 : Int} {x2 : Int} {x3 : Int} {u4 : Option AV}
    (k : (if I 53 2 ≤ x3 then (zr (x2 + (-1))) ∧ XIs (d + 3) 47 11 [some (.inr 53), some (.inl x1), some (.inl (x2 + (-1))), some (.inl x3), u4] [] n sh R I Q else (if (zand (zshr x2 x3) 1) = 0 then (zr (x3 + 1)) ∧ XIs (d + 3) 47 18 [some (.inr 53), some (.inl x1), some (.inl x2), some (.inl (x3 + 1)), u4] [] n sh R I Q else (zr (x2 * 8)) ∧ (zr ((x2 * 8) + x3)) ∧ (if ¬ x2 = x1 then XI (d + 2) 49 [.inr 53, .inl x2, .inl x3] n sh R I (fun v5 I6 => (0 ≤ ((x2 * 8) + x3) ∧ ((x2 * 8) + x3) < 2048) ∧ (zr (x3 + 1)) ∧ XIs (d + 3) 47 18 [some (.inr 53), some (.inl x1), some (.inl x2), some (.inl (x3 + 1)), u4] [] n sh R (zup I6 58 ((x2 * 8) + x3).toNat v5) Q) else (0 ≤ ((x2 * 8) + x3) ∧ ((x2 * 8) + x3) < 2048) ∧ (zr (x3 + 1)) ∧ XIs (d + 3) 47 18 [some (.inr 53), some (.inl x1), some (.inl x2), some (.inl (x3 + 1)), u4] [] n sh R (zup I 58 ((x2 * 8) + x3).toNat 0) Q)))) : XIs (d + 3) 47 18 [some (.inr 53), some (.inl x1), some (.inl x2), some (.inl x3), u4] [] n sh R I Q := by
  unfold XIs
  refine x_iload_n d47_18 rfl ?_
  refine x_aload_n d47_19 rfl ?_
  refine x_getI d47_20 gY_47.2.2.2 gF_5_18 rfl (sh_53 hW) ?_
  refine x_if2 (pc2 := 66) d47_23 rfl (fun c => ?_) (fun c => ?_)
  · replace c : I 53 2 ≤ x3 := c
    rw [if_pos c] at k
    have e1 := k.1
    replace k := k.2
    refine x_iinc (ls2 := [some (.inr 53), some (.inl x1), some (.inl (x2 + (-1))), some (.inl x3), u4]) d47_66 rfl e1 rfl ?_
    refine x_goto (pc2 := 11) d47_69 rfl ?_
    exact k
  · replace c : ¬ (I 53 2 ≤ x3) := c
    rw [if_neg c] at k
    refine x_iload_n d47_26 rfl ?_
    refine x_iload_n d47_27 rfl ?_
    refine x_ishr d47_28 ?_
    refine x_iconst d47_29 rfl ?_
    refine x_iand d47_30 ?_
    refine x_if1 (pc2 := 60) d47_31 rfl (fun c => ?_) (fun c => ?_)
    · replace c : (zand (zshr x2 x3) 1) = 0 := c
      rw [if_pos c] at k
      have e2 := k.1
      replace k := k.2
      refine x_iinc (ls2 := [some (.inr 53), some (.inl x1), some (.inl x2), some (.inl (x3 + 1)), u4]) d47_60 rfl e2 rfl ?_
      refine x_goto (pc2 := 18) d47_63 rfl ?_
      exact k
    · replace c : ¬ ((zand (zshr x2 x3) 1) = 0) := c
      rw [if_neg c] at k
      refine x_aload_n d47_34 rfl ?_
      refine x_getR (r := 58) d47_35 gY_47.2.2.2 gF_5_28 rfl (sh_53 hW) (rf_53_5 hW) (by decide) ?_
      refine x_iload_n d47_38 rfl ?_
      refine x_bipush d47_39 rfl ?_
      have e3 := k.1
      replace k := k.2
      refine x_imul d47_41 e3 ?_
      refine x_iload_n d47_42 rfl ?_
      have e4 := k.1
      replace k := k.2
      refine x_iadd d47_43 e4 ?_
      refine x_iload_n d47_44 rfl ?_
      refine x_iload_n d47_45 rfl ?_
      refine x_if2 (pc2 := 53) d47_46 rfl (fun c => ?_) (fun c => ?_)
      · replace c : ¬ x2 = x1 := c
        rw [if_pos c] at k
        refine x_aload_n d47_53 rfl ?_
        refine x_iload_n d47_54 rfl ?_
        refine x_iload_n d47_55 rfl ?_
        refine y_invI (as := [.inl x2, .inl x3]) (t := [.inl ((x2 * 8) + x3), .inr 58]) (o := 53) gY_49 d47_56 gY_47.2.2.2 gM_5_47 rfl (sh_53 hW) rfl k (fun v5 I6 k => ?_)
        have e7 := k.1
        replace k := k.2
        refine x_iast d47_59 (sh_58 hW) e7.1 e7.2 ?_
        have e8 := k.1
        replace k := k.2
        refine x_iinc (ls2 := [some (.inr 53), some (.inl x1), some (.inl x2), some (.inl (x3 + 1)), u4]) d47_60 rfl e8 rfl ?_
        refine x_goto (pc2 := 18) d47_63 rfl ?_
        exact k
      · replace c : ¬ (¬ x2 = x1) := c
        rw [if_neg c] at k
        refine x_iconst d47_49 rfl ?_
        refine x_goto (pc2 := 59) d47_50 rfl ?_
        have e9 := k.1
        replace k := k.2
        refine x_iast d47_59 (sh_58 hW) e9.1 e9.2 ?_
        have e10 := k.1
        replace k := k.2
        refine x_iinc (ls2 := [some (.inr 53), some (.inl x1), some (.inl x2), some (.inl (x3 + 1)), u4]) d47_60 rfl e10 rfl ?_
        refine x_goto (pc2 := 18) d47_63 rfl ?_
        exact k
set_option maxHeartbeats 4000000 in
theorem b_O_freest_82 {d n : Nat} {sh : ZS} {R : ZR} {I : ZI} {Q : Int → ZI → Prop} (hW : Wf sh R) {u1 : Option AV} {x2 : Int} {x3 : Int} {u4 : Option AV}
    (k : (if x3 < 0 then XV (d + 2) 50 [.inr 53] n sh R I (fun I2 => Q x2 I2) else (zr ((zshl 1 x3) * 8)) ∧ (zr (((zshl 1 x3) * 8) + x3)) ∧ (0 ≤ (((zshl 1 x3) * 8) + x3) ∧ (((zshl 1 x3) * 8) + x3) < 2048) ∧ (zr (1 + I 58 (((zshl 1 x3) * 8) + x3).toNat)) ∧ (if x2 < (1 + I 58 (((zshl 1 x3) * 8) + x3).toNat) then (zr (x3 + (-1))) ∧ XIs (d + 3) 47 82 [some (.inr 53), u1, some (.inl x2), some (.inl (x3 + (-1))), some (.inl (1 + I 58 (((zshl 1 x3) * 8) + x3).toNat))] [] n sh R I Q else (zr (x3 + (-1))) ∧ XIs (d + 3) 47 82 [some (.inr 53), u1, some (.inl (1 + I 58 (((zshl 1 x3) * 8) + x3).toNat)), some (.inl (x3 + (-1))), some (.inl (1 + I 58 (((zshl 1 x3) * 8) + x3).toNat))] [] n sh R (zup I 55 0 x3) Q))) : XIs (d + 3) 47 82 [some (.inr 53), u1, some (.inl x2), some (.inl x3), u4] [] n sh R I Q := by
  unfold XIs
  refine x_iload_n d47_82 rfl ?_
  refine x_if1 (pc2 := 125) d47_83 rfl (fun c => ?_) (fun c => ?_)
  · replace c : x3 < 0 := c
    rw [if_pos c] at k
    refine x_aload_n d47_125 rfl ?_
    refine y_invV (as := []) (t := []) (o := 53) gY_50 d47_126 gY_47.2.2.2 gM_5_50 rfl (sh_53 hW) rfl k (fun I2 k => ?_)
    refine x_iload_n d47_129 rfl ?_
    exact x_iret d47_130 gR_47 ⟨_, _, rfl, rfl, k⟩
  · replace c : ¬ (x3 < 0) := c
    rw [if_neg c] at k
    refine x_iconst d47_86 rfl ?_
    refine x_aload_n d47_87 rfl ?_
    refine x_getR (r := 58) d47_88 gY_47.2.2.2 gF_5_28 rfl (sh_53 hW) (rf_53_5 hW) (by decide) ?_
    refine x_iconst d47_91 rfl ?_
    refine x_iload_n d47_92 rfl ?_
    refine x_ishl d47_93 ?_
    refine x_bipush d47_94 rfl ?_
    have e3 := k.1
    replace k := k.2
    refine x_imul d47_96 e3 ?_
    refine x_iload_n d47_97 rfl ?_
    have e4 := k.1
    replace k := k.2
    refine x_iadd d47_98 e4 ?_
    have e5 := k.1
    replace k := k.2
    refine x_iald d47_99 (sh_58 hW) e5.1 e5.2 ?_
    have e6 := k.1
    replace k := k.2
    refine x_iadd d47_100 e6 ?_
    refine x_istore (ls2 := [some (.inr 53), u1, some (.inl x2), some (.inl x3), some (.inl (1 + I 58 (((zshl 1 x3) * 8) + x3).toNat))]) d47_101 rfl rfl ?_
    refine x_iload d47_103 rfl ?_
    refine x_iload_n d47_105 rfl ?_
    refine x_if2 (pc2 := 119) d47_106 rfl (fun c => ?_) (fun c => ?_)
    · replace c : x2 < (1 + I 58 (((zshl 1 x3) * 8) + x3).toNat) := c
      rw [if_pos c] at k
      have e7 := k.1
      replace k := k.2
      refine x_iinc (ls2 := [some (.inr 53), u1, some (.inl x2), some (.inl (x3 + (-1))), some (.inl (1 + I 58 (((zshl 1 x3) * 8) + x3).toNat))]) d47_119 rfl e7 rfl ?_
      refine x_goto (pc2 := 82) d47_122 rfl ?_
      exact k
    · replace c : ¬ (x2 < (1 + I 58 (((zshl 1 x3) * 8) + x3).toNat)) := c
      rw [if_neg c] at k
      refine x_iload d47_109 rfl ?_
      refine x_istore_n (ls2 := [some (.inr 53), u1, some (.inl (1 + I 58 (((zshl 1 x3) * 8) + x3).toNat)), some (.inl x3), some (.inl (1 + I 58 (((zshl 1 x3) * 8) + x3).toNat))]) d47_111 rfl rfl ?_
      refine x_aload_n d47_112 rfl ?_
      refine x_getR (r := 55) d47_113 gY_47.2.2.2 gF_5_15 rfl (sh_53 hW) (rf_53_1 hW) (by decide) ?_
      refine x_iconst d47_116 rfl ?_
      refine x_iload_n d47_117 rfl ?_
      refine x_iast d47_118 (sh_55 hW) (by decide) (by decide) ?_
      have e8 := k.1
      replace k := k.2
      refine x_iinc (ls2 := [some (.inr 53), u1, some (.inl (1 + I 58 (((zshl 1 x3) * 8) + x3).toNat)), some (.inl (x3 + (-1))), some (.inl (1 + I 58 (((zshl 1 x3) * 8) + x3).toNat))]) d47_119 rfl e8 rfl ?_
      refine x_goto (pc2 := 82) d47_122 rfl ?_
      exact k
set_option maxHeartbeats 4000000 in
theorem b_O_breakWith_0 {d n : Nat} {sh : ZS} {R : ZR} {I : ZI} {Q : Int → ZI → Prop} (hW : Wf sh R) {x1 : Int} {x2 : Int} {x3 : Int}
    (k : (0 ≤ x2 ∧ x2 < 20) ∧ (0 ≤ I 54 (x2).toNat ∧ I 54 (x2).toNat < 20) ∧ (0 ≤ x3 ∧ x3 < 20) ∧ (0 ≤ I 54 (x3).toNat ∧ I 54 (x3).toNat < 20) ∧ (if I 56 (I 54 (x3).toNat).toNat ≤ I 57 (I 54 (x2).toNat).toNat then (zr ((zor x1 (zshl 1 x3)) * 8)) ∧ (zr (((zor x1 (zshl 1 x3)) * 8) + x3)) ∧ (0 ≤ (((zor x1 (zshl 1 x3)) * 8) + x3) ∧ (((zor x1 (zshl 1 x3)) * 8) + x3) < 2048) ∧ (zr (1 + I 58 (((zor x1 (zshl 1 x3)) * 8) + x3).toNat)) ∧ Q (1 + I 58 (((zor x1 (zshl 1 x3)) * 8) + x3).toNat) I else (zr ((zor x1 (zshl 1 x3)) * 8)) ∧ (zr (((zor x1 (zshl 1 x3)) * 8) + x3)) ∧ (0 ≤ (((zor x1 (zshl 1 x3)) * 8) + x3) ∧ (((zor x1 (zshl 1 x3)) * 8) + x3) < 2048) ∧ (zr (0 + I 58 (((zor x1 (zshl 1 x3)) * 8) + x3).toNat)) ∧ Q (0 + I 58 (((zor x1 (zshl 1 x3)) * 8) + x3).toNat) I)) : XI (d + 1) 48 [.inr 53, .inl x1, .inl x2, .inl x3] n sh R I Q := by
  refine XI.of (ls := [some (.inr 53), some (.inl x1), some (.inl x2), some (.inl x3)]) (zloc_eq gY_48.2.2.1) ?_
  unfold XIs
  refine x_aload_n d48_0 rfl ?_
  refine x_iload_n d48_1 rfl ?_
  refine x_iload_n d48_2 rfl ?_
  refine x_iconst d48_3 rfl ?_
  refine y_inv (as := [.inl x2, .inl x3, .inl 1]) (t := []) (o := 53) (ls2 := [some (.inr 53), some (.inl x2), some (.inl x3), some (.inl 1)]) gY_45 d48_4 gY_48.2.2.2 gM_5_43 rfl (sh_53 hW) rfl rfl ?_
  refine x_iload_n d45_0 rfl ?_
  refine x_if1 (pc2 := 37) d45_1 rfl (fun c => absurd (show (1 : Int) = 0 from c) (by decide)) (fun _ => ?_)
  refine x_aload_n d45_4 rfl ?_
  refine x_getR (r := 57) d45_5 gY_45.2.2.2 gF_5_25 rfl (sh_53 hW) (rf_53_4 hW) (by decide) ?_
  refine x_aload_n d45_8 rfl ?_
  refine x_getR (r := 54) d45_9 gY_45.2.2.2 gF_5_9 rfl (sh_53 hW) (rf_53_0 hW) (by decide) ?_
  refine x_iload_n d45_12 rfl ?_
  have e1 := k.1
  replace k := k.2
  refine x_iald d45_13 (sh_54 hW) e1.1 e1.2 ?_
  have e2 := k.1
  replace k := k.2
  refine x_iald d45_14 (sh_57 hW) e2.1 e2.2 ?_
  refine x_aload_n d45_15 rfl ?_
  refine x_getR (r := 56) d45_16 gY_45.2.2.2 gF_5_22 rfl (sh_53 hW) (rf_53_3 hW) (by decide) ?_
  refine x_aload_n d45_19 rfl ?_
  refine x_getR (r := 54) d45_20 gY_45.2.2.2 gF_5_9 rfl (sh_53 hW) (rf_53_0 hW) (by decide) ?_
  refine x_iload_n d45_23 rfl ?_
  have e3 := k.1
  replace k := k.2
  refine x_iald d45_24 (sh_54 hW) e3.1 e3.2 ?_
  have e4 := k.1
  replace k := k.2
  refine x_iald d45_25 (sh_56 hW) e4.1 e4.2 ?_
  refine x_if2 (pc2 := 33) d45_26 rfl (fun c => ?_) (fun c => ?_)
  · replace c : I 56 (I 54 (x3).toNat).toNat ≤ I 57 (I 54 (x2).toNat).toNat := c
    rw [if_pos c] at k
    refine x_iconst d45_33 rfl ?_
    refine x_goto (pc2 := 67) d45_34 rfl ?_
    refine x_zret d45_67 gR_45 (by decide) ?_
    show Ex (d + 1) 48 7 [some (.inr 53), some (.inl x1), some (.inl x2), some (.inl x3)] [.inl 0] (0, 0, n, sh, R, I) _
    refine x_if1 (pc2 := 14) d48_7 rfl (fun _ => ?_) (fun c => absurd (show (0 : Int) = 0 by decide) c)
    refine x_iconst d48_14 rfl ?_
    refine x_aload_n d48_15 rfl ?_
    refine x_getR (r := 58) d48_16 gY_48.2.2.2 gF_5_28 rfl (sh_53 hW) (rf_53_5 hW) (by decide) ?_
    refine x_iload_n d48_19 rfl ?_
    refine x_iconst d48_20 rfl ?_
    refine x_iload_n d48_21 rfl ?_
    refine x_ishl d48_22 ?_
    refine x_ior d48_23 ?_
    refine x_bipush d48_24 rfl ?_
    have e5 := k.1
    replace k := k.2
    refine x_imul d48_26 e5 ?_
    refine x_iload_n d48_27 rfl ?_
    have e6 := k.1
    replace k := k.2
    refine x_iadd d48_28 e6 ?_
    have e7 := k.1
    replace k := k.2
    refine x_iald d48_29 (sh_58 hW) e7.1 e7.2 ?_
    have e8 := k.1
    replace k := k.2
    refine x_iadd d48_30 e8 ?_
    exact x_iret d48_31 gR_48 ⟨_, _, rfl, rfl, k⟩
  · replace c : ¬ (I 56 (I 54 (x3).toNat).toNat ≤ I 57 (I 54 (x2).toNat).toNat) := c
    rw [if_neg c] at k
    refine x_iconst d45_29 rfl ?_
    refine x_goto (pc2 := 67) d45_30 rfl ?_
    refine x_zret d45_67 gR_45 (by decide) ?_
    show Ex (d + 1) 48 7 [some (.inr 53), some (.inl x1), some (.inl x2), some (.inl x3)] [.inl 1] (0, 0, n, sh, R, I) _
    refine x_if1 (pc2 := 14) d48_7 rfl (fun c => absurd (show (1 : Int) = 0 from c) (by decide)) (fun _ => ?_)
    refine x_iconst d48_10 rfl ?_
    refine x_goto (pc2 := 15) d48_11 rfl ?_
    refine x_aload_n d48_15 rfl ?_
    refine x_getR (r := 58) d48_16 gY_48.2.2.2 gF_5_28 rfl (sh_53 hW) (rf_53_5 hW) (by decide) ?_
    refine x_iload_n d48_19 rfl ?_
    refine x_iconst d48_20 rfl ?_
    refine x_iload_n d48_21 rfl ?_
    refine x_ishl d48_22 ?_
    refine x_ior d48_23 ?_
    refine x_bipush d48_24 rfl ?_
    have e9 := k.1
    replace k := k.2
    refine x_imul d48_26 e9 ?_
    refine x_iload_n d48_27 rfl ?_
    have e10 := k.1
    replace k := k.2
    refine x_iadd d48_28 e10 ?_
    have e11 := k.1
    replace k := k.2
    refine x_iald d48_29 (sh_58 hW) e11.1 e11.2 ?_
    have e12 := k.1
    replace k := k.2
    refine x_iadd d48_30 e12 ?_
    exact x_iret d48_31 gR_48 ⟨_, _, rfl, rfl, k⟩
set_option maxHeartbeats 4000000 in
theorem b_O_fewestFrom_0 {d n : Nat} {sh : ZS} {R : ZR} {I : ZI} {Q : Int → ZI → Prop} (hW : Wf sh R) {x1 : Int} {x2 : Int}
    (k : XIs (d + 2) 49 6 [some (.inr 53), some (.inl x1), some (.inl x2), some (.inl 8), some (.inl 0)] [] n sh R I Q) : XI (d + 2) 49 [.inr 53, .inl x1, .inl x2] n sh R I Q := by
  refine XI.of (ls := [some (.inr 53), some (.inl x1), some (.inl x2), none, none]) (zloc_eq gY_49.2.2.1) ?_
  unfold XIs
  refine x_bipush d49_0 rfl ?_
  refine x_istore_n (ls2 := [some (.inr 53), some (.inl x1), some (.inl x2), some (.inl 8), none]) d49_2 rfl rfl ?_
  refine x_iconst d49_3 rfl ?_
  refine x_istore (ls2 := [some (.inr 53), some (.inl x1), some (.inl x2), some (.inl 8), some (.inl 0)]) d49_4 rfl rfl ?_
  exact k
set_option maxHeartbeats 4000000 in
theorem b_O_fewestFrom_6 {d n : Nat} {sh : ZS} {R : ZR} {I : ZI} {Q : Int → ZI → Prop} (hW : Wf sh R) {x1 : Int} {x2 : Int} {x3 : Int} {x4 : Int}
    (k : (if I 53 2 ≤ x4 then Q x3 I else (if ¬ (zand (zshr x1 x4) 1) = 0 then (zr (x4 + 1)) ∧ XIs (d + 2) 49 6 [some (.inr 53), some (.inl x1), some (.inl x2), some (.inl x3), some (.inl (x4 + 1))] [] n sh R I Q else XI (d + 1) 48 [.inr 53, .inl x1, .inl x2, .inl x4] n sh R I (fun v2 I3 => (zr (x4 + 1)) ∧ XIs (d + 2) 49 6 [some (.inr 53), some (.inl x1), some (.inl x2), some (.inl (if v2 < x3 then v2 else x3)), some (.inl (x4 + 1))] [] n sh R I3 Q)))) : XIs (d + 2) 49 6 [some (.inr 53), some (.inl x1), some (.inl x2), some (.inl x3), some (.inl x4)] [] n sh R I Q := by
  unfold XIs
  refine x_iload d49_6 rfl ?_
  refine x_aload_n d49_8 rfl ?_
  refine x_getI d49_9 gY_49.2.2.2 gF_5_18 rfl (sh_53 hW) ?_
  refine x_if2 (pc2 := 43) d49_12 rfl (fun c => ?_) (fun c => ?_)
  · replace c : I 53 2 ≤ x4 := c
    rw [if_pos c] at k
    refine x_iload_n d49_43 rfl ?_
    exact x_iret d49_44 gR_49 ⟨_, _, rfl, rfl, k⟩
  · replace c : ¬ (I 53 2 ≤ x4) := c
    rw [if_neg c] at k
    refine x_iload_n d49_15 rfl ?_
    refine x_iload d49_16 rfl ?_
    refine x_ishr d49_18 ?_
    refine x_iconst d49_19 rfl ?_
    refine x_iand d49_20 ?_
    refine x_if1 (pc2 := 37) d49_21 rfl (fun c => ?_) (fun c => ?_)
    · replace c : ¬ (zand (zshr x1 x4) 1) = 0 := c
      rw [if_pos c] at k
      have e1 := k.1
      replace k := k.2
      refine x_iinc (ls2 := [some (.inr 53), some (.inl x1), some (.inl x2), some (.inl x3), some (.inl (x4 + 1))]) d49_37 rfl e1 rfl ?_
      refine x_goto (pc2 := 6) d49_40 rfl ?_
      exact k
    · replace c : ¬ (¬ (zand (zshr x1 x4) 1) = 0) := c
      rw [if_neg c] at k
      refine x_iload_n d49_24 rfl ?_
      refine x_aload_n d49_25 rfl ?_
      refine x_iload_n d49_26 rfl ?_
      refine x_iload_n d49_27 rfl ?_
      refine x_iload d49_28 rfl ?_
      refine y_invI (as := [.inl x1, .inl x2, .inl x4]) (t := [.inl x3]) (o := 53) gY_48 d49_30 gY_49.2.2.2 gM_5_53 rfl (sh_53 hW) rfl k (fun v2 I3 k => ?_)
      refine x_min d49_33 gY_49.2.2.2 gM_5_57 (of_decide_eq_true rfl) ?_
      refine x_istore_n (ls2 := [some (.inr 53), some (.inl x1), some (.inl x2), some (.inl (if v2 < x3 then v2 else x3)), some (.inl x4)]) d49_36 rfl rfl ?_
      have e4 := k.1
      replace k := k.2
      refine x_iinc (ls2 := [some (.inr 53), some (.inl x1), some (.inl x2), some (.inl (if v2 < x3 then v2 else x3)), some (.inl (x4 + 1))]) d49_37 rfl e4 rfl ?_
      refine x_goto (pc2 := 6) d49_40 rfl ?_
      exact k
set_option maxHeartbeats 4000000 in
theorem b_O_putRow_0 {d n : Nat} {sh : ZS} {R : ZR} {I : ZI} {Q : ZI → Prop} (hW : Wf sh R) 
    (k : XVs (d + 2) 50 11 [some (.inr 53), some (.inl (zshl 1 (I 55 0))), some (.inl 1), none, none] [] n sh R I Q) : XV (d + 2) 50 [.inr 53] n sh R I Q := by
  refine XV.of (ls := [some (.inr 53), none, none, none, none]) (zloc_eq gY_50.2.2.1) ?_
  unfold XVs
  refine x_iconst d50_0 rfl ?_
  refine x_aload_n d50_1 rfl ?_
  refine x_getR (r := 55) d50_2 gY_50.2.2.2 gF_5_15 rfl (sh_53 hW) (rf_53_1 hW) (by decide) ?_
  refine x_iconst d50_5 rfl ?_
  refine x_iald d50_6 (sh_55 hW) (by decide) (by decide) ?_
  refine x_ishl d50_7 ?_
  refine x_istore_n (ls2 := [some (.inr 53), some (.inl (zshl 1 (I 55 0))), none, none, none]) d50_8 rfl rfl ?_
  refine x_iconst d50_9 rfl ?_
  refine x_istore_n (ls2 := [some (.inr 53), some (.inl (zshl 1 (I 55 0))), some (.inl 1), none, none]) d50_10 rfl rfl ?_
  exact k
set_option maxHeartbeats 4000000 in
theorem b_O_putRow_11 {d n : Nat} {sh : ZS} {R : ZR} {I : ZI} {Q : ZI → Prop} (hW : Wf sh R) {x1 : Int} {x2 : Int} {u3 : Option AV} {u4 : Option AV}
    (k : (if I 53 2 ≤ x2 then Q I else (zr (x1 * 8)) ∧ (zr (x2 - 1)) ∧ (0 ≤ (x2 - 1) ∧ (x2 - 1) < 8) ∧ (zr ((x1 * 8) + I 55 (x2 - 1).toNat)) ∧ (0 ≤ ((x1 * 8) + I 55 (x2 - 1).toNat) ∧ ((x1 * 8) + I 55 (x2 - 1).toNat) < 2048) ∧ (zr (I 53 2 - 1)) ∧ XVs (d + 2) 50 46 [some (.inr 53), some (.inl x1), some (.inl x2), some (.inl (I 58 ((x1 * 8) + I 55 (x2 - 1).toNat).toNat)), some (.inl (I 53 2 - 1))] [] n sh R I Q)) : XVs (d + 2) 50 11 [some (.inr 53), some (.inl x1), some (.inl x2), u3, u4] [] n sh R I Q := by
  unfold XVs
  refine x_iload_n d50_11 rfl ?_
  refine x_aload_n d50_12 rfl ?_
  refine x_getI d50_13 gY_50.2.2.2 gF_5_18 rfl (sh_53 hW) ?_
  refine x_if2 (pc2 := 110) d50_16 rfl (fun c => ?_) (fun c => ?_)
  · replace c : I 53 2 ≤ x2 := c
    rw [if_pos c] at k
    exact x_vret d50_110 gR_50 ⟨_, rfl, rfl, k⟩
  · replace c : ¬ (I 53 2 ≤ x2) := c
    rw [if_neg c] at k
    refine x_aload_n d50_19 rfl ?_
    refine x_getR (r := 58) d50_20 gY_50.2.2.2 gF_5_28 rfl (sh_53 hW) (rf_53_5 hW) (by decide) ?_
    refine x_iload_n d50_23 rfl ?_
    refine x_bipush d50_24 rfl ?_
    have e1 := k.1
    replace k := k.2
    refine x_imul d50_26 e1 ?_
    refine x_aload_n d50_27 rfl ?_
    refine x_getR (r := 55) d50_28 gY_50.2.2.2 gF_5_15 rfl (sh_53 hW) (rf_53_1 hW) (by decide) ?_
    refine x_iload_n d50_31 rfl ?_
    refine x_iconst d50_32 rfl ?_
    have e2 := k.1
    replace k := k.2
    refine x_isub d50_33 e2 ?_
    have e3 := k.1
    replace k := k.2
    refine x_iald d50_34 (sh_55 hW) e3.1 e3.2 ?_
    have e4 := k.1
    replace k := k.2
    refine x_iadd d50_35 e4 ?_
    have e5 := k.1
    replace k := k.2
    refine x_iald d50_36 (sh_58 hW) e5.1 e5.2 ?_
    refine x_istore_n (ls2 := [some (.inr 53), some (.inl x1), some (.inl x2), some (.inl (I 58 ((x1 * 8) + I 55 (x2 - 1).toNat).toNat)), u4]) d50_37 rfl rfl ?_
    refine x_aload_n d50_38 rfl ?_
    refine x_getI d50_39 gY_50.2.2.2 gF_5_18 rfl (sh_53 hW) ?_
    refine x_iconst d50_42 rfl ?_
    have e6 := k.1
    replace k := k.2
    refine x_isub d50_43 e6 ?_
    refine x_istore (ls2 := [some (.inr 53), some (.inl x1), some (.inl x2), some (.inl (I 58 ((x1 * 8) + I 55 (x2 - 1).toNat).toNat)), some (.inl (I 53 2 - 1))]) d50_44 rfl rfl ?_
    exact k
set_option maxHeartbeats 4000000 in
theorem b_O_putRow_46 {d n : Nat} {sh : ZS} {R : ZR} {I : ZI} {Q : ZI → Prop} (hW : Wf sh R) {x1 : Int} {x2 : Int} {x3 : Int} {x4 : Int}
    (k : (if x4 < 0 then (0 ≤ x2 ∧ x2 < 8) ∧ (zr (x2 + 1)) ∧ XVs (d + 2) 50 11 [some (.inr 53), some (.inl (zor x1 (zshl 1 (I 55 (x2).toNat)))), some (.inl (x2 + 1)), some (.inl x3), some (.inl x4)] [] n sh R I Q else (if ¬ (zand (zshr x1 x4) 1) = 0 then (zr (x4 + (-1))) ∧ XVs (d + 2) 50 46 [some (.inr 53), some (.inl x1), some (.inl x2), some (.inl x3), some (.inl (x4 + (-1)))] [] n sh R I Q else (zr (x2 - 1)) ∧ (0 ≤ (x2 - 1) ∧ (x2 - 1) < 8) ∧ XI (d + 1) 48 [.inr 53, .inl x1, .inl (I 55 (x2 - 1).toNat), .inl x4] n sh R I (fun v6 I7 => (if ¬ v6 = x3 then (zr (x4 + (-1))) ∧ XVs (d + 2) 50 46 [some (.inr 53), some (.inl x1), some (.inl x2), some (.inl x3), some (.inl (x4 + (-1)))] [] n sh R I7 Q else (0 ≤ x2 ∧ x2 < 8) ∧ (zr (x4 + (-1))) ∧ XVs (d + 2) 50 46 [some (.inr 53), some (.inl x1), some (.inl x2), some (.inl x3), some (.inl (x4 + (-1)))] [] n sh R (zup I7 55 (x2).toNat x4) Q))))) : XVs (d + 2) 50 46 [some (.inr 53), some (.inl x1), some (.inl x2), some (.inl x3), some (.inl x4)] [] n sh R I Q := by
  unfold XVs
  refine x_iload d50_46 rfl ?_
  refine x_if1 (pc2 := 93) d50_48 rfl (fun c => ?_) (fun c => ?_)
  · replace c : x4 < 0 := c
    rw [if_pos c] at k
    refine x_iload_n d50_93 rfl ?_
    refine x_iconst d50_94 rfl ?_
    refine x_aload_n d50_95 rfl ?_
    refine x_getR (r := 55) d50_96 gY_50.2.2.2 gF_5_15 rfl (sh_53 hW) (rf_53_1 hW) (by decide) ?_
    refine x_iload_n d50_99 rfl ?_
    have e1 := k.1
    replace k := k.2
    refine x_iald d50_100 (sh_55 hW) e1.1 e1.2 ?_
    refine x_ishl d50_101 ?_
    refine x_ior d50_102 ?_
    refine x_istore_n (ls2 := [some (.inr 53), some (.inl (zor x1 (zshl 1 (I 55 (x2).toNat)))), some (.inl x2), some (.inl x3), some (.inl x4)]) d50_103 rfl rfl ?_
    have e2 := k.1
    replace k := k.2
    refine x_iinc (ls2 := [some (.inr 53), some (.inl (zor x1 (zshl 1 (I 55 (x2).toNat)))), some (.inl (x2 + 1)), some (.inl x3), some (.inl x4)]) d50_104 rfl e2 rfl ?_
    refine x_goto (pc2 := 11) d50_107 rfl ?_
    exact k
  · replace c : ¬ (x4 < 0) := c
    rw [if_neg c] at k
    refine x_iload_n d50_51 rfl ?_
    refine x_iload d50_52 rfl ?_
    refine x_ishr d50_54 ?_
    refine x_iconst d50_55 rfl ?_
    refine x_iand d50_56 ?_
    refine x_if1 (pc2 := 87) d50_57 rfl (fun c => ?_) (fun c => ?_)
    · replace c : ¬ (zand (zshr x1 x4) 1) = 0 := c
      rw [if_pos c] at k
      have e3 := k.1
      replace k := k.2
      refine x_iinc (ls2 := [some (.inr 53), some (.inl x1), some (.inl x2), some (.inl x3), some (.inl (x4 + (-1)))]) d50_87 rfl e3 rfl ?_
      refine x_goto (pc2 := 46) d50_90 rfl ?_
      exact k
    · replace c : ¬ (¬ (zand (zshr x1 x4) 1) = 0) := c
      rw [if_neg c] at k
      refine x_aload_n d50_60 rfl ?_
      refine x_iload_n d50_61 rfl ?_
      refine x_aload_n d50_62 rfl ?_
      refine x_getR (r := 55) d50_63 gY_50.2.2.2 gF_5_15 rfl (sh_53 hW) (rf_53_1 hW) (by decide) ?_
      refine x_iload_n d50_66 rfl ?_
      refine x_iconst d50_67 rfl ?_
      have e4 := k.1
      replace k := k.2
      refine x_isub d50_68 e4 ?_
      have e5 := k.1
      replace k := k.2
      refine x_iald d50_69 (sh_55 hW) e5.1 e5.2 ?_
      refine x_iload d50_70 rfl ?_
      refine y_invI (as := [.inl x1, .inl (I 55 (x2 - 1).toNat), .inl x4]) (t := []) (o := 53) gY_48 d50_72 gY_50.2.2.2 gM_5_53 rfl (sh_53 hW) rfl k (fun v6 I7 k => ?_)
      refine x_iload_n d50_75 rfl ?_
      refine x_if2 (pc2 := 87) d50_76 rfl (fun c => ?_) (fun c => ?_)
      · replace c : ¬ v6 = x3 := c
        rw [if_pos c] at k
        have e8 := k.1
        replace k := k.2
        refine x_iinc (ls2 := [some (.inr 53), some (.inl x1), some (.inl x2), some (.inl x3), some (.inl (x4 + (-1)))]) d50_87 rfl e8 rfl ?_
        refine x_goto (pc2 := 46) d50_90 rfl ?_
        exact k
      · replace c : ¬ (¬ v6 = x3) := c
        rw [if_neg c] at k
        refine x_aload_n d50_79 rfl ?_
        refine x_getR (r := 55) d50_80 gY_50.2.2.2 gF_5_15 rfl (sh_53 hW) (rf_53_1 hW) (by decide) ?_
        refine x_iload_n d50_83 rfl ?_
        refine x_iload d50_84 rfl ?_
        have e9 := k.1
        replace k := k.2
        refine x_iast d50_86 (sh_55 hW) e9.1 e9.2 ?_
        have e10 := k.1
        replace k := k.2
        refine x_iinc (ls2 := [some (.inr 53), some (.inl x1), some (.inl x2), some (.inl x3), some (.inl (x4 + (-1)))]) d50_87 rfl e10 rfl ?_
        refine x_goto (pc2 := 46) d50_90 rfl ?_
        exact k
set_option maxHeartbeats 4000000 in
theorem b_G_holeFor_0 {d n : Nat} {sh : ZS} {R : ZR} {I : ZI} {Q : Int → ZI → Prop} (hW : Wf sh R) {s1 : Nat} (hS1 : St sh R s1) (hL : Lw sh R (R 42 4)) {x2 : Int}
    (k : XV (d + 2) 54 [.inr 42, .inr s1, .inl x2] n sh R I (fun I2 => XI (d + 2) 12 [.inr (R 42 4), .inr 43] n sh R I2 (fun v3 I4 => (if v3 = 0 then (zr (I4 15 0 - 1)) ∧ XI (d + 2) 13 [.inr (R 42 4), .inl 104, .inr 43, .inl (I4 15 0 - 1)] n sh R I4 (fun v6 I7 => Q v6 I7) else Q (-1) I4)))) : XI (d + 3) 52 [.inr 42, .inr s1, .inl x2] n sh R I Q := by
  refine XI.of (ls := [some (.inr 42), some (.inr s1), some (.inl x2)]) (zloc_eq gY_52.2.2.1) ?_
  unfold XIs
  refine x_aload_n d52_0 rfl ?_
  refine x_aload_n d52_1 rfl ?_
  refine x_iload_n d52_2 rfl ?_
  refine y_invV (as := [.inr s1, .inl x2]) (t := []) (o := 42) gY_54 d52_3 gY_52.2.2.2 gM_6_50 rfl (sh_42 hW) rfl k (fun I2 k => ?_)
  refine x_aload_n d52_6 rfl ?_
  refine x_getR (r := (R 42 4)) d52_7 gY_52.2.2.2 gF_6_29 rfl (sh_42 hW) rfl hL.1 ?_
  refine x_aload_n d52_10 rfl ?_
  refine x_getR (r := 43) d52_11 gY_52.2.2.2 gF_6_19 rfl (sh_42 hW) (rf_42_2 hW) (by decide) ?_
  refine y_invI (as := [.inr 43]) (t := []) (o := (R 42 4)) gY_12 d52_14 gY_52.2.2.2 gM_6_54 rfl hL.2.1 rfl k (fun v3 I4 k => ?_)
  refine x_if1 (pc2 := 24) d52_17 rfl (fun c => ?_) (fun c => ?_)
  · replace c : v3 = 0 := c
    rw [if_pos c] at k
    refine x_aload_n d52_24 rfl ?_
    refine x_getR (r := (R 42 4)) d52_25 gY_52.2.2.2 gF_6_29 rfl (sh_42 hW) rfl hL.1 ?_
    refine x_bipush d52_28 rfl ?_
    refine x_aload_n d52_30 rfl ?_
    refine x_getR (r := 43) d52_31 gY_52.2.2.2 gF_6_19 rfl (sh_42 hW) (rf_42_2 hW) (by decide) ?_
    refine x_aload_n d52_34 rfl ?_
    refine x_getR (r := 15) d52_35 gY_52.2.2.2 gF_6_46 rfl (sh_42 hW) (rf_42_1 hW) (by decide) ?_
    refine x_getI d52_38 gY_52.2.2.2 gF_6_58 rfl (sh_15 hW) ?_
    refine x_iconst d52_41 rfl ?_
    have e5 := k.1
    replace k := k.2
    refine x_isub d52_42 e5 ?_
    refine y_invI (as := [.inl 104, .inr 43, .inl (I4 15 0 - 1)]) (t := []) (o := (R 42 4)) gY_13 d52_43 gY_52.2.2.2 gM_6_63 rfl hL.2.1 rfl k (fun v6 I7 k => ?_)
    exact x_iret d52_46 gR_52 ⟨_, _, rfl, rfl, k⟩
  · replace c : ¬ (v3 = 0) := c
    rw [if_neg c] at k
    refine x_iconst d52_20 rfl ?_
    refine x_goto (pc2 := 46) d52_21 rfl ?_
    exact x_iret d52_46 gR_52 ⟨_, _, rfl, rfl, k⟩
set_option maxHeartbeats 4000000 in
theorem b_G_secondsFor_0 {d n : Nat} {sh : ZS} {R : ZR} {I : ZI} {Q : Int → ZI → Prop} (hW : Wf sh R) {s1 : Nat} (hS1 : St sh R s1) (hL : Lw sh R (R 42 4)) {x2 : Int}
    (k : XV (d + 2) 54 [.inr 42, .inr s1, .inl x2] n sh R I (fun I2 => XI (d + 2) 13 [.inr (R 42 4), .inl 116, .inr 43, .inl 99] n sh R I2 (fun v3 I4 => Q v3 I4))) : XI (d + 3) 53 [.inr 42, .inr s1, .inl x2] n sh R I Q := by
  refine XI.of (ls := [some (.inr 42), some (.inr s1), some (.inl x2)]) (zloc_eq gY_53.2.2.1) ?_
  unfold XIs
  refine x_aload_n d53_0 rfl ?_
  refine x_aload_n d53_1 rfl ?_
  refine x_iload_n d53_2 rfl ?_
  refine y_invV (as := [.inr s1, .inl x2]) (t := []) (o := 42) gY_54 d53_3 gY_53.2.2.2 gM_6_50 rfl (sh_42 hW) rfl k (fun I2 k => ?_)
  refine x_aload_n d53_6 rfl ?_
  refine x_getR (r := (R 42 4)) d53_7 gY_53.2.2.2 gF_6_29 rfl (sh_42 hW) rfl hL.1 ?_
  refine x_bipush d53_10 rfl ?_
  refine x_aload_n d53_12 rfl ?_
  refine x_getR (r := 43) d53_13 gY_53.2.2.2 gF_6_19 rfl (sh_42 hW) (rf_42_2 hW) (by decide) ?_
  refine x_bipush d53_16 rfl ?_
  refine y_invI (as := [.inl 116, .inr 43, .inl 99]) (t := []) (o := (R 42 4)) gY_13 d53_18 gY_53.2.2.2 gM_6_63 rfl hL.2.1 rfl k (fun v3 I4 k => ?_)
  exact x_iret d53_21 gR_53 ⟨_, _, rfl, rfl, k⟩
set_option maxHeartbeats 4000000 in
theorem b_G_putSigns_0 {d n : Nat} {sh : ZS} {R : ZR} {I : ZI} {Q : ZI → Prop} (hW : Wf sh R) {s1 : Nat} (hS1 : St sh R s1) {x2 : Int}
    (k : (0 ≤ x2 ∧ x2 < 32) ∧ (0 ≤ I (s1 + 5) (x2).toNat ∧ I (s1 + 5) (x2).toNat < 32) ∧ (0 ≤ (zup I 43 0 (I (s1 + 1) (I (s1 + 5) (x2).toNat).toNat)) (s1 + 1) (I (s1 + 5) (x2).toNat).toNat ∧ (zup I 43 0 (I (s1 + 1) (I (s1 + 5) (x2).toNat).toNat)) (s1 + 1) (I (s1 + 5) (x2).toNat).toNat < 20) ∧ Q (zup (zup (zup (zup (zup (zup (zup (zup I 43 0 (I (s1 + 1) (I (s1 + 5) (x2).toNat).toNat)) 43 1 (I 13 ((zup I 43 0 (I (s1 + 1) (I (s1 + 5) (x2).toNat).toNat)) (s1 + 1) (I (s1 + 5) (x2).toNat).toNat).toNat)) 43 2 ((zup (zup I 43 0 (I (s1 + 1) (I (s1 + 5) (x2).toNat).toNat)) 43 1 (I 13 ((zup I 43 0 (I (s1 + 1) (I (s1 + 5) (x2).toNat).toNat)) (s1 + 1) (I (s1 + 5) (x2).toNat).toNat).toNat)) (s1 + 2) (I (s1 + 5) (x2).toNat).toNat)) 43 3 (I (s1 + 5) (x2).toNat)) 43 4 x2) 43 5 ((zup (zup (zup (zup (zup I 43 0 (I (s1 + 1) (I (s1 + 5) (x2).toNat).toNat)) 43 1 (I 13 ((zup I 43 0 (I (s1 + 1) (I (s1 + 5) (x2).toNat).toNat)) (s1 + 1) (I (s1 + 5) (x2).toNat).toNat).toNat)) 43 2 ((zup (zup I 43 0 (I (s1 + 1) (I (s1 + 5) (x2).toNat).toNat)) 43 1 (I 13 ((zup I 43 0 (I (s1 + 1) (I (s1 + 5) (x2).toNat).toNat)) (s1 + 1) (I (s1 + 5) (x2).toNat).toNat).toNat)) (s1 + 2) (I (s1 + 5) (x2).toNat).toNat)) 43 3 (I (s1 + 5) (x2).toNat)) 43 4 x2) s1 7)) 43 6 ((zup (zup (zup (zup (zup (zup I 43 0 (I (s1 + 1) (I (s1 + 5) (x2).toNat).toNat)) 43 1 (I 13 ((zup I 43 0 (I (s1 + 1) (I (s1 + 5) (x2).toNat).toNat)) (s1 + 1) (I (s1 + 5) (x2).toNat).toNat).toNat)) 43 2 ((zup (zup I 43 0 (I (s1 + 1) (I (s1 + 5) (x2).toNat).toNat)) 43 1 (I 13 ((zup I 43 0 (I (s1 + 1) (I (s1 + 5) (x2).toNat).toNat)) (s1 + 1) (I (s1 + 5) (x2).toNat).toNat).toNat)) (s1 + 2) (I (s1 + 5) (x2).toNat).toNat)) 43 3 (I (s1 + 5) (x2).toNat)) 43 4 x2) 43 5 ((zup (zup (zup (zup (zup I 43 0 (I (s1 + 1) (I (s1 + 5) (x2).toNat).toNat)) 43 1 (I 13 ((zup I 43 0 (I (s1 + 1) (I (s1 + 5) (x2).toNat).toNat)) (s1 + 1) (I (s1 + 5) (x2).toNat).toNat).toNat)) 43 2 ((zup (zup I 43 0 (I (s1 + 1) (I (s1 + 5) (x2).toNat).toNat)) 43 1 (I 13 ((zup I 43 0 (I (s1 + 1) (I (s1 + 5) (x2).toNat).toNat)) (s1 + 1) (I (s1 + 5) (x2).toNat).toNat).toNat)) (s1 + 2) (I (s1 + 5) (x2).toNat).toNat)) 43 3 (I (s1 + 5) (x2).toNat)) 43 4 x2) s1 7)) (s1 + 4) (I (s1 + 5) (x2).toNat).toNat)) 43 7 (I 15 0))) : XV d 54 [.inr 42, .inr s1, .inl x2] n sh R I Q := by
  refine XV.of (ls := [some (.inr 42), some (.inr s1), some (.inl x2), none]) (zloc_eq gY_54.2.2.1) ?_
  unfold XVs
  refine x_aload_n d54_0 rfl ?_
  refine x_getR (r := (s1 + 5)) d54_1 gY_54.2.2.2 gF_6_67 rfl hS1.1 hS1.2.2.2.2.2.2.2.2.2.2 (Nat.succ_ne_zero _) ?_
  refine x_iload_n d54_4 rfl ?_
  have e1 := k.1
  replace k := k.2
  refine x_iald d54_5 hS1.2.2.2.2.2.1 e1.1 e1.2 ?_
  refine x_istore_n (ls2 := [some (.inr 42), some (.inr s1), some (.inl x2), some (.inl (I (s1 + 5) (x2).toNat))]) d54_6 rfl rfl ?_
  refine x_aload_n d54_7 rfl ?_
  refine x_getR (r := 43) d54_8 gY_54.2.2.2 gF_6_19 rfl (sh_42 hW) (rf_42_2 hW) (by decide) ?_
  refine x_iconst d54_11 rfl ?_
  refine x_aload_n d54_12 rfl ?_
  refine x_getR (r := (s1 + 1)) d54_13 gY_54.2.2.2 gF_6_72 rfl hS1.1 hS1.2.2.2.2.2.2.1 (Nat.succ_ne_zero _) ?_
  refine x_iload_n d54_16 rfl ?_
  have e2 := k.1
  replace k := k.2
  refine x_iald d54_17 hS1.2.1 e2.1 e2.2 ?_
  refine x_iast d54_18 (sh_43 hW) (by decide) (by decide) ?_
  refine x_aload_n d54_19 rfl ?_
  refine x_getR (r := 43) d54_20 gY_54.2.2.2 gF_6_19 rfl (sh_42 hW) (rf_42_2 hW) (by decide) ?_
  refine x_iconst d54_23 rfl ?_
  refine x_aload_n d54_24 rfl ?_
  refine x_getR (r := 13) d54_25 gY_54.2.2.2 gF_6_43 rfl (sh_42 hW) (rf_42_0 hW) (by decide) ?_
  refine x_aload_n d54_28 rfl ?_
  refine x_getR (r := (s1 + 1)) d54_29 gY_54.2.2.2 gF_6_72 rfl hS1.1 hS1.2.2.2.2.2.2.1 (Nat.succ_ne_zero _) ?_
  refine x_iload_n d54_32 rfl ?_
  refine x_iald d54_33 hS1.2.1 e2.1 e2.2 ?_
  have e3 := k.1
  replace k := k.2
  refine x_iald d54_34 (sh_13 hW) e3.1 e3.2 ?_
  refine x_iast d54_35 (sh_43 hW) (by decide) (by decide) ?_
  refine x_aload_n d54_36 rfl ?_
  refine x_getR (r := 43) d54_37 gY_54.2.2.2 gF_6_19 rfl (sh_42 hW) (rf_42_2 hW) (by decide) ?_
  refine x_iconst d54_40 rfl ?_
  refine x_aload_n d54_41 rfl ?_
  refine x_getR (r := (s1 + 2)) d54_42 gY_54.2.2.2 gF_6_75 rfl hS1.1 hS1.2.2.2.2.2.2.2.1 (Nat.succ_ne_zero _) ?_
  refine x_iload_n d54_45 rfl ?_
  refine x_iald d54_46 hS1.2.2.1 e2.1 e2.2 ?_
  refine x_iast d54_47 (sh_43 hW) (by decide) (by decide) ?_
  refine x_aload_n d54_48 rfl ?_
  refine x_getR (r := 43) d54_49 gY_54.2.2.2 gF_6_19 rfl (sh_42 hW) (rf_42_2 hW) (by decide) ?_
  refine x_iconst d54_52 rfl ?_
  refine x_iload_n d54_53 rfl ?_
  refine x_iast d54_54 (sh_43 hW) (by decide) (by decide) ?_
  refine x_aload_n d54_55 rfl ?_
  refine x_getR (r := 43) d54_56 gY_54.2.2.2 gF_6_19 rfl (sh_42 hW) (rf_42_2 hW) (by decide) ?_
  refine x_iconst d54_59 rfl ?_
  refine x_iload_n d54_60 rfl ?_
  refine x_iast d54_61 (sh_43 hW) (by decide) (by decide) ?_
  refine x_aload_n d54_62 rfl ?_
  refine x_getR (r := 43) d54_63 gY_54.2.2.2 gF_6_19 rfl (sh_42 hW) (rf_42_2 hW) (by decide) ?_
  refine x_iconst d54_66 rfl ?_
  refine x_aload_n d54_67 rfl ?_
  refine x_getI d54_68 gY_54.2.2.2 gF_6_78 rfl hS1.1 ?_
  refine x_iast d54_71 (sh_43 hW) (by decide) (by decide) ?_
  refine x_aload_n d54_72 rfl ?_
  refine x_getR (r := 43) d54_73 gY_54.2.2.2 gF_6_19 rfl (sh_42 hW) (rf_42_2 hW) (by decide) ?_
  refine x_bipush d54_76 rfl ?_
  refine x_aload_n d54_78 rfl ?_
  refine x_getR (r := (s1 + 4)) d54_79 gY_54.2.2.2 gF_6_81 rfl hS1.1 hS1.2.2.2.2.2.2.2.2.2.1 (Nat.succ_ne_zero _) ?_
  refine x_iload_n d54_82 rfl ?_
  refine x_iald d54_83 hS1.2.2.2.2.1 e2.1 e2.2 ?_
  refine x_iast d54_84 (sh_43 hW) (by decide) (by decide) ?_
  refine x_aload_n d54_85 rfl ?_
  refine x_getR (r := 43) d54_86 gY_54.2.2.2 gF_6_19 rfl (sh_42 hW) (rf_42_2 hW) (by decide) ?_
  refine x_bipush d54_89 rfl ?_
  refine x_aload_n d54_91 rfl ?_
  refine x_getR (r := 15) d54_92 gY_54.2.2.2 gF_6_46 rfl (sh_42 hW) (rf_42_1 hW) (by decide) ?_
  refine x_getI d54_95 gY_54.2.2.2 gF_6_58 rfl (sh_15 hW) ?_
  refine x_iast d54_98 (sh_43 hW) (by decide) (by decide) ?_
  exact x_vret d54_99 gR_54 ⟨_, rfl, rfl, k⟩
set_option maxHeartbeats 4000000 in
theorem b_G_doGoes_0 {d n : Nat} {sh : ZS} {R : ZR} {I : ZI} {Q : ZI → Prop} (hW : Wf sh R) {s1 : Nat} (hS1 : St sh R s1) {x2 : Int}
    (k : XVs (d + 5) 55 17 [some (.inr 42), some (.inr s1), some (.inl x2), some (.inl 0)] [] n sh R (zup (zup (zup I 42 5 0) 42 6 0) 42 7 0) Q) : XV (d + 5) 55 [.inr 42, .inr s1, .inl x2] n sh R I Q := by
  refine XV.of (ls := [some (.inr 42), some (.inr s1), some (.inl x2), none]) (zloc_eq gY_55.2.2.1) ?_
  unfold XVs
  refine x_aload_n d55_0 rfl ?_
  refine x_iconst d55_1 rfl ?_
  refine x_putI d55_2 gY_55.2.2.2 gF_6_33 rfl rfl (sh_42 hW) ?_
  refine x_aload_n d55_5 rfl ?_
  refine x_iconst d55_6 rfl ?_
  refine x_putI d55_7 gY_55.2.2.2 gF_6_37 rfl rfl (sh_42 hW) ?_
  refine x_aload_n d55_10 rfl ?_
  refine x_iconst d55_11 rfl ?_
  refine x_putI d55_12 gY_55.2.2.2 gF_6_40 rfl rfl (sh_42 hW) ?_
  refine x_iconst d55_15 rfl ?_
  refine x_istore_n (ls2 := [some (.inr 42), some (.inr s1), some (.inl x2), some (.inl 0)]) d55_16 rfl rfl ?_
  exact k
set_option maxHeartbeats 4000000 in
theorem b_G_doGoes_17 {d n : Nat} {sh : ZS} {R : ZR} {I : ZI} {Q : ZI → Prop} (hW : Wf sh R) {s1 : Nat} (hS1 : St sh R s1) {x2 : Int} {x3 : Int}
    (k : (if x2 ≤ x3 then Q I else XV (d + 4) 65 [.inr s1] n sh R I (fun I2 => XV (d + 4) 57 [.inr 42, .inr s1] n sh R I2 (fun I4 => XV (d + 4) 58 [.inr 42, .inr s1] n sh R I4 (fun I6 => XV (d + 4) 59 [.inr 42, .inr s1] n sh R I6 (fun I8 => (zr (x3 + 1)) ∧ XVs (d + 5) 55 17 [some (.inr 42), some (.inr s1), some (.inl x2), some (.inl (x3 + 1))] [] n sh R I8 Q)))))) : XVs (d + 5) 55 17 [some (.inr 42), some (.inr s1), some (.inl x2), some (.inl x3)] [] n sh R I Q := by
  unfold XVs
  refine x_iload_n d55_17 rfl ?_
  refine x_iload_n d55_18 rfl ?_
  refine x_if2 (pc2 := 47) d55_19 rfl (fun c => ?_) (fun c => ?_)
  · replace c : x2 ≤ x3 := c
    rw [if_pos c] at k
    exact x_vret d55_47 gR_55 ⟨_, rfl, rfl, k⟩
  · replace c : ¬ (x2 ≤ x3) := c
    rw [if_neg c] at k
    refine x_aload_n d55_22 rfl ?_
    refine y_invV (as := []) (t := []) (o := s1) gY_65 d55_23 gY_55.2.2.2 gM_6_84 rfl hS1.1 rfl k (fun I2 k => ?_)
    refine x_aload_n d55_26 rfl ?_
    refine x_aload_n d55_27 rfl ?_
    refine y_invV (as := [.inr s1]) (t := []) (o := 42) gY_57 d55_28 gY_55.2.2.2 gM_6_87 rfl (sh_42 hW) rfl k (fun I4 k => ?_)
    refine x_aload_n d55_31 rfl ?_
    refine x_aload_n d55_32 rfl ?_
    refine y_invV (as := [.inr s1]) (t := []) (o := 42) gY_58 d55_33 gY_55.2.2.2 gM_6_91 rfl (sh_42 hW) rfl k (fun I6 k => ?_)
    refine x_aload_n d55_36 rfl ?_
    refine x_aload_n d55_37 rfl ?_
    refine y_invV (as := [.inr s1]) (t := []) (o := 42) gY_59 d55_38 gY_55.2.2.2 gM_6_94 rfl (sh_42 hW) rfl k (fun I8 k => ?_)
    have e9 := k.1
    replace k := k.2
    refine x_iinc (ls2 := [some (.inr 42), some (.inr s1), some (.inl x2), some (.inl (x3 + 1))]) d55_41 rfl e9 rfl ?_
    refine x_goto (pc2 := 17) d55_44 rfl ?_
    exact k
set_option maxHeartbeats 4000000 in
theorem b_G_blunderGo_0 {d n : Nat} {sh : ZS} {R : ZR} {I : ZI} {Q : Int → ZI → Prop} (hW : Wf sh R) {s1 : Nat} (hS1 : St sh R s1) {x2 : Int} {x3 : Int}
    (k : XV (d + 4) 65 [.inr s1] n sh R I (fun I2 => XV (d + 4) 57 [.inr 42, .inr s1] n sh R I2 (fun I4 => XI (d + 4) 66 [.inr s1, .inl x2] n sh R I4 (fun v5 I6 => (if v5 < 0 then Q 0 I6 else (0 ≤ v5 ∧ v5 < 32) ∧ (if I6 44 (v5).toNat = (-1) then Q 0 I6 else (if ¬ I6 44 (v5).toNat = x3 then XV (d + 4) 59 [.inr 42, .inr s1] n sh R (zup I6 44 (v5).toNat x3) (fun I9 => Q 1 I9) else Q 0 I6))))))) : XI (d + 5) 56 [.inr 42, .inr s1, .inl x2, .inl x3] n sh R I Q := by
  refine XI.of (ls := [some (.inr 42), some (.inr s1), some (.inl x2), some (.inl x3), none]) (zloc_eq gY_56.2.2.1) ?_
  unfold XIs
  refine x_aload_n d56_0 rfl ?_
  refine y_invV (as := []) (t := []) (o := s1) gY_65 d56_1 gY_56.2.2.2 gM_6_84 rfl hS1.1 rfl k (fun I2 k => ?_)
  refine x_aload_n d56_4 rfl ?_
  refine x_aload_n d56_5 rfl ?_
  refine y_invV (as := [.inr s1]) (t := []) (o := 42) gY_57 d56_6 gY_56.2.2.2 gM_6_87 rfl (sh_42 hW) rfl k (fun I4 k => ?_)
  refine x_aload_n d56_9 rfl ?_
  refine x_iload_n d56_10 rfl ?_
  refine y_invI (as := [.inl x2]) (t := []) (o := s1) gY_66 d56_11 gY_56.2.2.2 gM_6_97 rfl hS1.1 rfl k (fun v5 I6 k => ?_)
  refine x_istore (ls2 := [some (.inr 42), some (.inr s1), some (.inl x2), some (.inl x3), some (.inl v5)]) d56_14 rfl rfl ?_
  refine x_iload d56_16 rfl ?_
  refine x_if1 (pc2 := 43) d56_18 rfl (fun c => ?_) (fun c => ?_)
  · replace c : v5 < 0 := c
    rw [if_pos c] at k
    refine x_iconst d56_43 rfl ?_
    exact x_zret d56_44 gR_56 (by decide) ⟨_, _, rfl, rfl, k⟩
  · replace c : ¬ (v5 < 0) := c
    rw [if_neg c] at k
    refine x_aload_n d56_21 rfl ?_
    refine x_getR (r := 44) d56_22 gY_56.2.2.2 gF_6_25 rfl (sh_42 hW) (rf_42_3 hW) (by decide) ?_
    refine x_iload d56_25 rfl ?_
    have e7 := k.1
    replace k := k.2
    refine x_iald d56_27 (sh_44 hW) e7.1 e7.2 ?_
    refine x_iconst d56_28 rfl ?_
    refine x_if2 (pc2 := 43) d56_29 rfl (fun c => ?_) (fun c => ?_)
    · replace c : I6 44 (v5).toNat = (-1) := c
      rw [if_pos c] at k
      refine x_iconst d56_43 rfl ?_
      exact x_zret d56_44 gR_56 (by decide) ⟨_, _, rfl, rfl, k⟩
    · replace c : ¬ (I6 44 (v5).toNat = (-1)) := c
      rw [if_neg c] at k
      refine x_aload_n d56_32 rfl ?_
      refine x_getR (r := 44) d56_33 gY_56.2.2.2 gF_6_25 rfl (sh_42 hW) (rf_42_3 hW) (by decide) ?_
      refine x_iload d56_36 rfl ?_
      refine x_iald d56_38 (sh_44 hW) e7.1 e7.2 ?_
      refine x_iload_n d56_39 rfl ?_
      refine x_if2 (pc2 := 45) d56_40 rfl (fun c => ?_) (fun c => ?_)
      · replace c : ¬ I6 44 (v5).toNat = x3 := c
        rw [if_pos c] at k
        refine x_aload_n d56_45 rfl ?_
        refine x_getR (r := 44) d56_46 gY_56.2.2.2 gF_6_25 rfl (sh_42 hW) (rf_42_3 hW) (by decide) ?_
        refine x_iload d56_49 rfl ?_
        refine x_iload_n d56_51 rfl ?_
        refine x_iast d56_52 (sh_44 hW) e7.1 e7.2 ?_
        refine x_aload_n d56_53 rfl ?_
        refine x_aload_n d56_54 rfl ?_
        refine y_invV (as := [.inr s1]) (t := []) (o := 42) gY_59 d56_55 gY_56.2.2.2 gM_6_94 rfl (sh_42 hW) rfl k (fun I9 k => ?_)
        refine x_iconst d56_58 rfl ?_
        exact x_zret d56_59 gR_56 (by decide) ⟨_, _, rfl, rfl, k⟩
      · replace c : ¬ (¬ I6 44 (v5).toNat = x3) := c
        rw [if_neg c] at k
        refine x_iconst d56_43 rfl ?_
        exact x_zret d56_44 gR_56 (by decide) ⟨_, _, rfl, rfl, k⟩
set_option maxHeartbeats 4000000 in
theorem b_G_askAll_0 {d n : Nat} {sh : ZS} {R : ZR} {I : ZI} {Q : ZI → Prop} (hW : Wf sh R) {s1 : Nat} (hS1 : St sh R s1)
    (k : XVs (d + 4) 57 2 [some (.inr 42), some (.inr s1), some (.inl 0)] [] n sh R I Q) : XV (d + 4) 57 [.inr 42, .inr s1] n sh R I Q := by
  refine XV.of (ls := [some (.inr 42), some (.inr s1), none]) (zloc_eq gY_57.2.2.1) ?_
  unfold XVs
  refine x_iconst d57_0 rfl ?_
  refine x_istore_n (ls2 := [some (.inr 42), some (.inr s1), some (.inl 0)]) d57_1 rfl rfl ?_
  exact k
set_option maxHeartbeats 4000000 in
theorem b_G_askAll_2 {d n : Nat} {sh : ZS} {R : ZR} {I : ZI} {Q : ZI → Prop} (hW : Wf sh R) {s1 : Nat} (hS1 : St sh R s1) {x2 : Int}
    (k : (if I s1 6 ≤ x2 then Q I else XI (d + 3) 52 [.inr 42, .inr s1, .inl x2] n sh R I (fun v1 I2 => (0 ≤ x2 ∧ x2 < 32) ∧ (zr (x2 + 1)) ∧ XVs (d + 4) 57 2 [some (.inr 42), some (.inr s1), some (.inl (x2 + 1))] [] n sh R (zup I2 44 (x2).toNat v1) Q))) : XVs (d + 4) 57 2 [some (.inr 42), some (.inr s1), some (.inl x2)] [] n sh R I Q := by
  unfold XVs
  refine x_iload_n d57_2 rfl ?_
  refine x_aload_n d57_3 rfl ?_
  refine x_getI d57_4 gY_57.2.2.2 gF_6_101 rfl hS1.1 ?_
  refine x_if2 (pc2 := 28) d57_7 rfl (fun c => ?_) (fun c => ?_)
  · replace c : I s1 6 ≤ x2 := c
    rw [if_pos c] at k
    exact x_vret d57_28 gR_57 ⟨_, rfl, rfl, k⟩
  · replace c : ¬ (I s1 6 ≤ x2) := c
    rw [if_neg c] at k
    refine x_aload_n d57_10 rfl ?_
    refine x_getR (r := 44) d57_11 gY_57.2.2.2 gF_6_25 rfl (sh_42 hW) (rf_42_3 hW) (by decide) ?_
    refine x_iload_n d57_14 rfl ?_
    refine x_aload_n d57_15 rfl ?_
    refine x_aload_n d57_16 rfl ?_
    refine x_iload_n d57_17 rfl ?_
    refine y_invI (as := [.inr s1, .inl x2]) (t := [.inl x2, .inr 44]) (o := 42) gY_52 d57_18 gY_57.2.2.2 gM_6_104 rfl (sh_42 hW) rfl k (fun v1 I2 k => ?_)
    have e3 := k.1
    replace k := k.2
    refine x_iast d57_21 (sh_44 hW) e3.1 e3.2 ?_
    have e4 := k.1
    replace k := k.2
    refine x_iinc (ls2 := [some (.inr 42), some (.inr s1), some (.inl (x2 + 1))]) d57_22 rfl e4 rfl ?_
    refine x_goto (pc2 := 2) d57_25 rfl ?_
    exact k
set_option maxHeartbeats 4000000 in
theorem b_G_tally_0 {d n : Nat} {sh : ZS} {R : ZR} {I : ZI} {Q : ZI → Prop} (hW : Wf sh R) {s1 : Nat} (hS1 : St sh R s1)
    (k : XVs (d + 4) 58 2 [some (.inr 42), some (.inr s1), some (.inl 0)] [] n sh R I Q) : XV (d + 4) 58 [.inr 42, .inr s1] n sh R I Q := by
  refine XV.of (ls := [some (.inr 42), some (.inr s1), none]) (zloc_eq gY_58.2.2.1) ?_
  unfold XVs
  refine x_iconst d58_0 rfl ?_
  refine x_istore_n (ls2 := [some (.inr 42), some (.inr s1), some (.inl 0)]) d58_1 rfl rfl ?_
  exact k
set_option maxHeartbeats 4000000 in
theorem b_G_tally_2 {d n : Nat} {sh : ZS} {R : ZR} {I : ZI} {Q : ZI → Prop} (hW : Wf sh R) {s1 : Nat} (hS1 : St sh R s1) {x2 : Int}
    (k : (if I s1 6 ≤ x2 then Q I else (0 ≤ x2 ∧ x2 < 32) ∧ (if I 44 (x2).toNat = (-1) then (zr (x2 + 1)) ∧ XVs (d + 4) 58 2 [some (.inr 42), some (.inr s1), some (.inl (x2 + 1))] [] n sh R I Q else XI (d + 3) 53 [.inr 42, .inr s1, .inl x2] n sh R I (fun v3 I4 => (zr (I 42 5 + v3)) ∧ (0 ≤ (zup I4 42 5 (I 42 5 + v3)) (s1 + 5) (x2).toNat ∧ (zup I4 42 5 (I 42 5 + v3)) (s1 + 5) (x2).toNat < 32) ∧ (zr (I4 42 6 + (zup I4 42 5 (I 42 5 + v3)) (s1 + 2) ((zup I4 42 5 (I 42 5 + v3)) (s1 + 5) (x2).toNat).toNat)) ∧ (zr (I4 42 7 + 1)) ∧ (zr (x2 + 1)) ∧ XVs (d + 4) 58 2 [some (.inr 42), some (.inr s1), some (.inl (x2 + 1))] [] n sh R (zup (zup (zup I4 42 5 (I 42 5 + v3)) 42 6 (I4 42 6 + (zup I4 42 5 (I 42 5 + v3)) (s1 + 2) ((zup I4 42 5 (I 42 5 + v3)) (s1 + 5) (x2).toNat).toNat)) 42 7 (I4 42 7 + 1)) Q)))) : XVs (d + 4) 58 2 [some (.inr 42), some (.inr s1), some (.inl x2)] [] n sh R I Q := by
  unfold XVs
  refine x_iload_n d58_2 rfl ?_
  refine x_aload_n d58_3 rfl ?_
  refine x_getI d58_4 gY_58.2.2.2 gF_6_101 rfl hS1.1 ?_
  refine x_if2 (pc2 := 71) d58_7 rfl (fun c => ?_) (fun c => ?_)
  · replace c : I s1 6 ≤ x2 := c
    rw [if_pos c] at k
    exact x_vret d58_71 gR_58 ⟨_, rfl, rfl, k⟩
  · replace c : ¬ (I s1 6 ≤ x2) := c
    rw [if_neg c] at k
    refine x_aload_n d58_10 rfl ?_
    refine x_getR (r := 44) d58_11 gY_58.2.2.2 gF_6_25 rfl (sh_42 hW) (rf_42_3 hW) (by decide) ?_
    refine x_iload_n d58_14 rfl ?_
    have e1 := k.1
    replace k := k.2
    refine x_iald d58_15 (sh_44 hW) e1.1 e1.2 ?_
    refine x_iconst d58_16 rfl ?_
    refine x_if2 (pc2 := 65) d58_17 rfl (fun c => ?_) (fun c => ?_)
    · replace c : I 44 (x2).toNat = (-1) := c
      rw [if_pos c] at k
      have e2 := k.1
      replace k := k.2
      refine x_iinc (ls2 := [some (.inr 42), some (.inr s1), some (.inl (x2 + 1))]) d58_65 rfl e2 rfl ?_
      refine x_goto (pc2 := 2) d58_68 rfl ?_
      exact k
    · replace c : ¬ (I 44 (x2).toNat = (-1)) := c
      rw [if_neg c] at k
      refine x_aload_n d58_20 rfl ?_
      refine x_dup d58_21 ?_
      refine x_getI d58_22 gY_58.2.2.2 gF_6_33 rfl (sh_42 hW) ?_
      refine x_aload_n d58_25 rfl ?_
      refine x_aload_n d58_26 rfl ?_
      refine x_iload_n d58_27 rfl ?_
      refine y_invI (as := [.inr s1, .inl x2]) (t := [.inl (I 42 5), .inr 42]) (o := 42) gY_53 d58_28 gY_58.2.2.2 gM_6_108 rfl (sh_42 hW) rfl k (fun v3 I4 k => ?_)
      have e5 := k.1
      replace k := k.2
      refine x_iadd d58_31 e5 ?_
      refine x_putI d58_32 gY_58.2.2.2 gF_6_33 rfl rfl (sh_42 hW) ?_
      refine x_aload_n d58_35 rfl ?_
      refine x_dup d58_36 ?_
      refine x_getI d58_37 gY_58.2.2.2 gF_6_37 rfl (sh_42 hW) ?_
      refine x_aload_n d58_40 rfl ?_
      refine x_getR (r := (s1 + 2)) d58_41 gY_58.2.2.2 gF_6_75 rfl hS1.1 hS1.2.2.2.2.2.2.2.1 (Nat.succ_ne_zero _) ?_
      refine x_aload_n d58_44 rfl ?_
      refine x_getR (r := (s1 + 5)) d58_45 gY_58.2.2.2 gF_6_67 rfl hS1.1 hS1.2.2.2.2.2.2.2.2.2.2 (Nat.succ_ne_zero _) ?_
      refine x_iload_n d58_48 rfl ?_
      refine x_iald d58_49 hS1.2.2.2.2.2.1 e1.1 e1.2 ?_
      have e6 := k.1
      replace k := k.2
      refine x_iald d58_50 hS1.2.2.1 e6.1 e6.2 ?_
      have e7 := k.1
      replace k := k.2
      refine x_iadd d58_51 e7 ?_
      refine x_putI d58_52 gY_58.2.2.2 gF_6_37 rfl rfl (sh_42 hW) ?_
      refine x_aload_n d58_55 rfl ?_
      refine x_dup d58_56 ?_
      refine x_getI d58_57 gY_58.2.2.2 gF_6_40 rfl (sh_42 hW) ?_
      refine x_iconst d58_60 rfl ?_
      have e8 := k.1
      replace k := k.2
      refine x_iadd d58_61 e8 ?_
      refine x_putI d58_62 gY_58.2.2.2 gF_6_40 rfl rfl (sh_42 hW) ?_
      have e9 := k.1
      replace k := k.2
      refine x_iinc (ls2 := [some (.inr 42), some (.inr s1), some (.inl (x2 + 1))]) d58_65 rfl e9 rfl ?_
      refine x_goto (pc2 := 2) d58_68 rfl ?_
      exact k
set_option maxHeartbeats 4000000 in
theorem b_G_throwAll_0 {d n : Nat} {sh : ZS} {R : ZR} {I : ZI} {Q : ZI → Prop} (hW : Wf sh R) {s1 : Nat} (hS1 : St sh R s1)
    (k : XVs (d + 2) 59 2 [some (.inr 42), some (.inr s1), some (.inl 0)] [] n sh R I Q) : XV (d + 2) 59 [.inr 42, .inr s1] n sh R I Q := by
  refine XV.of (ls := [some (.inr 42), some (.inr s1), none]) (zloc_eq gY_59.2.2.1) ?_
  unfold XVs
  refine x_iconst d59_0 rfl ?_
  refine x_istore_n (ls2 := [some (.inr 42), some (.inr s1), some (.inl 0)]) d59_1 rfl rfl ?_
  exact k
set_option maxHeartbeats 4000000 in
theorem b_G_throwAll_2 {d n : Nat} {sh : ZS} {R : ZR} {I : ZI} {Q : ZI → Prop} (hW : Wf sh R) {s1 : Nat} (hS1 : St sh R s1) {x2 : Int}
    (k : (if I s1 6 ≤ x2 then XV (d + 1) 42 [.inr 15, .inr s1, .inr 44] n sh R I (fun I2 => (zr (I2 s1 7 + 1)) ∧ Q (zup I2 s1 7 (I2 s1 7 + 1))) else (0 ≤ x2 ∧ x2 < 32) ∧ (if I 44 (x2).toNat = (-1) then (zr (x2 + 1)) ∧ XVs (d + 2) 59 2 [some (.inr 42), some (.inr s1), some (.inl (x2 + 1))] [] n sh R I Q else (0 ≤ I (s1 + 5) (x2).toNat ∧ I (s1 + 5) (x2).toNat < 32) ∧ (zr (x2 + 1)) ∧ XVs (d + 2) 59 2 [some (.inr 42), some (.inr s1), some (.inl (x2 + 1))] [] n sh R (zup I (s1 + 4) (I (s1 + 5) (x2).toNat).toNat (I 44 (x2).toNat)) Q))) : XVs (d + 2) 59 2 [some (.inr 42), some (.inr s1), some (.inl x2)] [] n sh R I Q := by
  unfold XVs
  refine x_iload_n d59_2 rfl ?_
  refine x_aload_n d59_3 rfl ?_
  refine x_getI d59_4 gY_59.2.2.2 gF_6_101 rfl hS1.1 ?_
  refine x_if2 (pc2 := 43) d59_7 rfl (fun c => ?_) (fun c => ?_)
  · replace c : I s1 6 ≤ x2 := c
    rw [if_pos c] at k
    refine x_aload_n d59_43 rfl ?_
    refine x_getR (r := 15) d59_44 gY_59.2.2.2 gF_6_46 rfl (sh_42 hW) (rf_42_1 hW) (by decide) ?_
    refine x_aload_n d59_47 rfl ?_
    refine x_aload_n d59_48 rfl ?_
    refine x_getR (r := 44) d59_49 gY_59.2.2.2 gF_6_25 rfl (sh_42 hW) (rf_42_3 hW) (by decide) ?_
    refine y_invV (as := [.inr s1, .inr 44]) (t := []) (o := 15) gY_42 d59_52 gY_59.2.2.2 gM_6_111 rfl (sh_15 hW) rfl k (fun I2 k => ?_)
    refine x_aload_n d59_55 rfl ?_
    refine x_dup d59_56 ?_
    refine x_getI d59_57 gY_59.2.2.2 gF_6_78 rfl hS1.1 ?_
    refine x_iconst d59_60 rfl ?_
    have e3 := k.1
    replace k := k.2
    refine x_iadd d59_61 e3 ?_
    refine x_putI d59_62 gY_59.2.2.2 gF_6_78 rfl rfl hS1.1 ?_
    exact x_vret d59_65 gR_59 ⟨_, rfl, rfl, k⟩
  · replace c : ¬ (I s1 6 ≤ x2) := c
    rw [if_neg c] at k
    refine x_aload_n d59_10 rfl ?_
    refine x_getR (r := 44) d59_11 gY_59.2.2.2 gF_6_25 rfl (sh_42 hW) (rf_42_3 hW) (by decide) ?_
    refine x_iload_n d59_14 rfl ?_
    have e4 := k.1
    replace k := k.2
    refine x_iald d59_15 (sh_44 hW) e4.1 e4.2 ?_
    refine x_iconst d59_16 rfl ?_
    refine x_if2 (pc2 := 37) d59_17 rfl (fun c => ?_) (fun c => ?_)
    · replace c : I 44 (x2).toNat = (-1) := c
      rw [if_pos c] at k
      have e5 := k.1
      replace k := k.2
      refine x_iinc (ls2 := [some (.inr 42), some (.inr s1), some (.inl (x2 + 1))]) d59_37 rfl e5 rfl ?_
      refine x_goto (pc2 := 2) d59_40 rfl ?_
      exact k
    · replace c : ¬ (I 44 (x2).toNat = (-1)) := c
      rw [if_neg c] at k
      refine x_aload_n d59_20 rfl ?_
      refine x_getR (r := (s1 + 4)) d59_21 gY_59.2.2.2 gF_6_81 rfl hS1.1 hS1.2.2.2.2.2.2.2.2.2.1 (Nat.succ_ne_zero _) ?_
      refine x_aload_n d59_24 rfl ?_
      refine x_getR (r := (s1 + 5)) d59_25 gY_59.2.2.2 gF_6_67 rfl hS1.1 hS1.2.2.2.2.2.2.2.2.2.2 (Nat.succ_ne_zero _) ?_
      refine x_iload_n d59_28 rfl ?_
      refine x_iald d59_29 hS1.2.2.2.2.2.1 e4.1 e4.2 ?_
      refine x_aload_n d59_30 rfl ?_
      refine x_getR (r := 44) d59_31 gY_59.2.2.2 gF_6_25 rfl (sh_42 hW) (rf_42_3 hW) (by decide) ?_
      refine x_iload_n d59_34 rfl ?_
      refine x_iald d59_35 (sh_44 hW) e4.1 e4.2 ?_
      have e6 := k.1
      replace k := k.2
      refine x_iast d59_36 hS1.2.2.2.2.1 e6.1 e6.2 ?_
      have e7 := k.1
      replace k := k.2
      refine x_iinc (ls2 := [some (.inr 42), some (.inr s1), some (.inl (x2 + 1))]) d59_37 rfl e7 rfl ?_
      refine x_goto (pc2 := 2) d59_40 rfl ?_
      exact k
set_option maxHeartbeats 4000000 in
theorem b_S_copyFrom_0 {d n : Nat} {sh : ZS} {R : ZR} {I : ZI} {Q : ZI → Prop} (hW : Wf sh R) {o : Nat} (hO : St sh R o) {s1 : Nat} (hS1 : St sh R s1)
    (k : XV d 62 [.inr o, .inr s1] n sh R (zup (zup (zcpy (zcpy (zcpy I (s1 + 1) 0 (o + 1) 0 32) (s1 + 2) 0 (o + 2) 0 32) (s1 + 3) 0 (o + 3) 0 32) o 5 ((zcpy (zcpy (zcpy I (s1 + 1) 0 (o + 1) 0 32) (s1 + 2) 0 (o + 2) 0 32) (s1 + 3) 0 (o + 3) 0 32) s1 5)) o 8 ((zup ((zcpy (zcpy (zcpy I (s1 + 1) 0 (o + 1) 0 32) (s1 + 2) 0 (o + 2) 0 32) (s1 + 3) 0 (o + 3) 0 32)) o 5 ((zcpy (zcpy (zcpy I (s1 + 1) 0 (o + 1) 0 32) (s1 + 2) 0 (o + 2) 0 32) (s1 + 3) 0 (o + 3) 0 32) s1 5)) s1 8)) (fun I2 => Q I2)) : XV (d + 1) 61 [.inr o, .inr s1] n sh R I Q := by
  refine XV.of (ls := [some (.inr o), some (.inr s1)]) (zloc_eq gY_61.2.2.1) ?_
  unfold XVs
  refine x_aload_n d61_0 rfl ?_
  refine x_getR (r := (s1 + 1)) d61_1 gY_61.2.2.2 gF_7_9 rfl hS1.1 hS1.2.2.2.2.2.2.1 (Nat.succ_ne_zero _) ?_
  refine x_iconst d61_4 rfl ?_
  refine x_aload_n d61_5 rfl ?_
  refine x_getR (r := (o + 1)) d61_6 gY_61.2.2.2 gF_7_9 rfl hO.1 hO.2.2.2.2.2.2.1 (Nat.succ_ne_zero _) ?_
  refine x_iconst d61_9 rfl ?_
  refine x_bipush d61_10 rfl ?_
  refine x_cpy d61_12 gY_61.2.2.2 gM_7_40 (of_decide_eq_true rfl) hS1.2.1 hO.2.1 (by decide) (by decide) (by decide) (by decide) (by decide) ?_
  refine x_aload_n d61_15 rfl ?_
  refine x_getR (r := (s1 + 2)) d61_16 gY_61.2.2.2 gF_7_15 rfl hS1.1 hS1.2.2.2.2.2.2.2.1 (Nat.succ_ne_zero _) ?_
  refine x_iconst d61_19 rfl ?_
  refine x_aload_n d61_20 rfl ?_
  refine x_getR (r := (o + 2)) d61_21 gY_61.2.2.2 gF_7_15 rfl hO.1 hO.2.2.2.2.2.2.2.1 (Nat.succ_ne_zero _) ?_
  refine x_iconst d61_24 rfl ?_
  refine x_bipush d61_25 rfl ?_
  refine x_cpy d61_27 gY_61.2.2.2 gM_7_40 (of_decide_eq_true rfl) hS1.2.2.1 hO.2.2.1 (by decide) (by decide) (by decide) (by decide) (by decide) ?_
  refine x_aload_n d61_30 rfl ?_
  refine x_getR (r := (s1 + 3)) d61_31 gY_61.2.2.2 gF_7_18 rfl hS1.1 hS1.2.2.2.2.2.2.2.2.1 (Nat.succ_ne_zero _) ?_
  refine x_iconst d61_34 rfl ?_
  refine x_aload_n d61_35 rfl ?_
  refine x_getR (r := (o + 3)) d61_36 gY_61.2.2.2 gF_7_18 rfl hO.1 hO.2.2.2.2.2.2.2.2.1 (Nat.succ_ne_zero _) ?_
  refine x_iconst d61_39 rfl ?_
  refine x_bipush d61_40 rfl ?_
  refine x_cpy d61_42 gY_61.2.2.2 gM_7_40 (of_decide_eq_true rfl) hS1.2.2.2.1 hO.2.2.2.1 (by decide) (by decide) (by decide) (by decide) (by decide) ?_
  refine x_aload_n d61_45 rfl ?_
  refine x_aload_n d61_46 rfl ?_
  refine x_getI d61_47 gY_61.2.2.2 gF_7_27 rfl hS1.1 ?_
  refine x_putI d61_50 gY_61.2.2.2 gF_7_27 rfl rfl hO.1 ?_
  refine x_aload_n d61_53 rfl ?_
  refine x_aload_n d61_54 rfl ?_
  refine x_getI d61_55 gY_61.2.2.2 gF_7_37 rfl hS1.1 ?_
  refine x_putI d61_58 gY_61.2.2.2 gF_7_37 rfl rfl hO.1 ?_
  refine x_aload_n d61_61 rfl ?_
  refine x_aload_n d61_62 rfl ?_
  refine y_invV (as := [.inr s1]) (t := []) (o := o) gY_62 d61_63 gY_61.2.2.2 gM_7_46 rfl hO.1 rfl k (fun I2 k => ?_)
  exact x_vret d61_66 gR_61 ⟨_, rfl, rfl, k⟩
set_option maxHeartbeats 4000000 in
theorem b_S_copyGoesFrom_0 {d n : Nat} {sh : ZS} {R : ZR} {I : ZI} {Q : ZI → Prop} (hW : Wf sh R) {o : Nat} (hO : St sh R o) {s1 : Nat} (hS1 : St sh R s1)
    (k : Q (zup (zup (zcpy (zcpy I (s1 + 4) 0 (o + 4) 0 32) (s1 + 5) 0 (o + 5) 0 32) o 6 ((zcpy (zcpy I (s1 + 4) 0 (o + 4) 0 32) (s1 + 5) 0 (o + 5) 0 32) s1 6)) o 7 ((zup ((zcpy (zcpy I (s1 + 4) 0 (o + 4) 0 32) (s1 + 5) 0 (o + 5) 0 32)) o 6 ((zcpy (zcpy I (s1 + 4) 0 (o + 4) 0 32) (s1 + 5) 0 (o + 5) 0 32) s1 6)) s1 7))) : XV d 62 [.inr o, .inr s1] n sh R I Q := by
  refine XV.of (ls := [some (.inr o), some (.inr s1)]) (zloc_eq gY_62.2.2.1) ?_
  unfold XVs
  refine x_aload_n d62_0 rfl ?_
  refine x_getR (r := (s1 + 4)) d62_1 gY_62.2.2.2 gF_7_21 rfl hS1.1 hS1.2.2.2.2.2.2.2.2.2.1 (Nat.succ_ne_zero _) ?_
  refine x_iconst d62_4 rfl ?_
  refine x_aload_n d62_5 rfl ?_
  refine x_getR (r := (o + 4)) d62_6 gY_62.2.2.2 gF_7_21 rfl hO.1 hO.2.2.2.2.2.2.2.2.2.1 (Nat.succ_ne_zero _) ?_
  refine x_iconst d62_9 rfl ?_
  refine x_bipush d62_10 rfl ?_
  refine x_cpy d62_12 gY_62.2.2.2 gM_7_40 (of_decide_eq_true rfl) hS1.2.2.2.2.1 hO.2.2.2.2.1 (by decide) (by decide) (by decide) (by decide) (by decide) ?_
  refine x_aload_n d62_15 rfl ?_
  refine x_getR (r := (s1 + 5)) d62_16 gY_62.2.2.2 gF_7_24 rfl hS1.1 hS1.2.2.2.2.2.2.2.2.2.2 (Nat.succ_ne_zero _) ?_
  refine x_iconst d62_19 rfl ?_
  refine x_aload_n d62_20 rfl ?_
  refine x_getR (r := (o + 5)) d62_21 gY_62.2.2.2 gF_7_24 rfl hO.1 hO.2.2.2.2.2.2.2.2.2.2 (Nat.succ_ne_zero _) ?_
  refine x_iconst d62_24 rfl ?_
  refine x_bipush d62_25 rfl ?_
  refine x_cpy d62_27 gY_62.2.2.2 gM_7_40 (of_decide_eq_true rfl) hS1.2.2.2.2.2.1 hO.2.2.2.2.2.1 (by decide) (by decide) (by decide) (by decide) (by decide) ?_
  refine x_aload_n d62_30 rfl ?_
  refine x_aload_n d62_31 rfl ?_
  refine x_getI d62_32 gY_62.2.2.2 gF_7_31 rfl hS1.1 ?_
  refine x_putI d62_35 gY_62.2.2.2 gF_7_31 rfl rfl hO.1 ?_
  refine x_aload_n d62_38 rfl ?_
  refine x_aload_n d62_39 rfl ?_
  refine x_getI d62_40 gY_62.2.2.2 gF_7_34 rfl hS1.1 ?_
  refine x_putI d62_43 gY_62.2.2.2 gF_7_34 rfl rfl hO.1 ?_
  exact x_vret d62_46 gR_62 ⟨_, rfl, rfl, k⟩
set_option maxHeartbeats 4000000 in
theorem b_S_add_0 {d n : Nat} {sh : ZS} {R : ZR} {I : ZI} {Q : Int → ZI → Prop} (hW : Wf sh R) {o : Nat} (hO : St sh R o) {x1 : Int} {x2 : Int} {x3 : Int}
    (k : (if I o 5 < 32 then (0 ≤ I o 5 ∧ I o 5 < 32) ∧ (zr ((zup (zup (zup (zup I (o + 1) (I o 5).toNat x1) (o + 2) (I o 5).toNat x2) (o + 3) (I o 5).toNat x3) (o + 4) (I o 5).toNat 9) o 5 + 1)) ∧ (if ¬ x3 = 0 then Q (I o 5) (zup (zup (zup (zup (zup I (o + 1) (I o 5).toNat x1) (o + 2) (I o 5).toNat x2) (o + 3) (I o 5).toNat x3) (o + 4) (I o 5).toNat 9) o 5 ((zup (zup (zup (zup I (o + 1) (I o 5).toNat x1) (o + 2) (I o 5).toNat x2) (o + 3) (I o 5).toNat x3) (o + 4) (I o 5).toNat 9) o 5 + 1)) else (if 32 ≤ (zup (zup (zup (zup (zup I (o + 1) (I o 5).toNat x1) (o + 2) (I o 5).toNat x2) (o + 3) (I o 5).toNat x3) (o + 4) (I o 5).toNat 9) o 5 ((zup (zup (zup (zup I (o + 1) (I o 5).toNat x1) (o + 2) (I o 5).toNat x2) (o + 3) (I o 5).toNat x3) (o + 4) (I o 5).toNat 9) o 5 + 1)) o 6 then Q (I o 5) (zup (zup (zup (zup (zup I (o + 1) (I o 5).toNat x1) (o + 2) (I o 5).toNat x2) (o + 3) (I o 5).toNat x3) (o + 4) (I o 5).toNat 9) o 5 ((zup (zup (zup (zup I (o + 1) (I o 5).toNat x1) (o + 2) (I o 5).toNat x2) (o + 3) (I o 5).toNat x3) (o + 4) (I o 5).toNat 9) o 5 + 1)) else (0 ≤ (zup (zup (zup (zup (zup I (o + 1) (I o 5).toNat x1) (o + 2) (I o 5).toNat x2) (o + 3) (I o 5).toNat x3) (o + 4) (I o 5).toNat 9) o 5 ((zup (zup (zup (zup I (o + 1) (I o 5).toNat x1) (o + 2) (I o 5).toNat x2) (o + 3) (I o 5).toNat x3) (o + 4) (I o 5).toNat 9) o 5 + 1)) o 6 ∧ (zup (zup (zup (zup (zup I (o + 1) (I o 5).toNat x1) (o + 2) (I o 5).toNat x2) (o + 3) (I o 5).toNat x3) (o + 4) (I o 5).toNat 9) o 5 ((zup (zup (zup (zup I (o + 1) (I o 5).toNat x1) (o + 2) (I o 5).toNat x2) (o + 3) (I o 5).toNat x3) (o + 4) (I o 5).toNat 9) o 5 + 1)) o 6 < 32) ∧ (zr ((zup (zup (zup (zup (zup (zup I (o + 1) (I o 5).toNat x1) (o + 2) (I o 5).toNat x2) (o + 3) (I o 5).toNat x3) (o + 4) (I o 5).toNat 9) o 5 ((zup (zup (zup (zup I (o + 1) (I o 5).toNat x1) (o + 2) (I o 5).toNat x2) (o + 3) (I o 5).toNat x3) (o + 4) (I o 5).toNat 9) o 5 + 1)) (o + 5) ((zup (zup (zup (zup (zup I (o + 1) (I o 5).toNat x1) (o + 2) (I o 5).toNat x2) (o + 3) (I o 5).toNat x3) (o + 4) (I o 5).toNat 9) o 5 ((zup (zup (zup (zup I (o + 1) (I o 5).toNat x1) (o + 2) (I o 5).toNat x2) (o + 3) (I o 5).toNat x3) (o + 4) (I o 5).toNat 9) o 5 + 1)) o 6).toNat (I o 5)) o 6 + 1)) ∧ Q (I o 5) (zup (zup (zup (zup (zup (zup (zup I (o + 1) (I o 5).toNat x1) (o + 2) (I o 5).toNat x2) (o + 3) (I o 5).toNat x3) (o + 4) (I o 5).toNat 9) o 5 ((zup (zup (zup (zup I (o + 1) (I o 5).toNat x1) (o + 2) (I o 5).toNat x2) (o + 3) (I o 5).toNat x3) (o + 4) (I o 5).toNat 9) o 5 + 1)) (o + 5) ((zup (zup (zup (zup (zup I (o + 1) (I o 5).toNat x1) (o + 2) (I o 5).toNat x2) (o + 3) (I o 5).toNat x3) (o + 4) (I o 5).toNat 9) o 5 ((zup (zup (zup (zup I (o + 1) (I o 5).toNat x1) (o + 2) (I o 5).toNat x2) (o + 3) (I o 5).toNat x3) (o + 4) (I o 5).toNat 9) o 5 + 1)) o 6).toNat (I o 5)) o 6 ((zup (zup (zup (zup (zup (zup I (o + 1) (I o 5).toNat x1) (o + 2) (I o 5).toNat x2) (o + 3) (I o 5).toNat x3) (o + 4) (I o 5).toNat 9) o 5 ((zup (zup (zup (zup I (o + 1) (I o 5).toNat x1) (o + 2) (I o 5).toNat x2) (o + 3) (I o 5).toNat x3) (o + 4) (I o 5).toNat 9) o 5 + 1)) (o + 5) ((zup (zup (zup (zup (zup I (o + 1) (I o 5).toNat x1) (o + 2) (I o 5).toNat x2) (o + 3) (I o 5).toNat x3) (o + 4) (I o 5).toNat 9) o 5 ((zup (zup (zup (zup I (o + 1) (I o 5).toNat x1) (o + 2) (I o 5).toNat x2) (o + 3) (I o 5).toNat x3) (o + 4) (I o 5).toNat 9) o 5 + 1)) o 6).toNat (I o 5)) o 6 + 1)))) else Q (-1) I)) : XI (d + 1) 63 [.inr o, .inl x1, .inl x2, .inl x3] n sh R I Q := by
  refine XI.of (ls := [some (.inr o), some (.inl x1), some (.inl x2), some (.inl x3), none]) (zloc_eq gY_63.2.2.1) ?_
  unfold XIs
  refine x_aload_n d63_0 rfl ?_
  refine x_getI d63_1 gY_63.2.2.2 gF_7_27 rfl hO.1 ?_
  refine x_istore (ls2 := [some (.inr o), some (.inl x1), some (.inl x2), some (.inl x3), some (.inl (I o 5))]) d63_4 rfl rfl ?_
  refine x_iload d63_6 rfl ?_
  refine x_bipush d63_8 rfl ?_
  refine x_if2 (pc2 := 15) d63_10 rfl (fun c => ?_) (fun c => ?_)
  · replace c : I o 5 < 32 := c
    rw [if_pos c] at k
    refine x_aload_n d63_15 rfl ?_
    refine x_getR (r := (o + 1)) d63_16 gY_63.2.2.2 gF_7_9 rfl hO.1 hO.2.2.2.2.2.2.1 (Nat.succ_ne_zero _) ?_
    refine x_iload d63_19 rfl ?_
    refine x_iload_n d63_21 rfl ?_
    have e1 := k.1
    replace k := k.2
    refine x_iast d63_22 hO.2.1 e1.1 e1.2 ?_
    refine x_aload_n d63_23 rfl ?_
    refine x_getR (r := (o + 2)) d63_24 gY_63.2.2.2 gF_7_15 rfl hO.1 hO.2.2.2.2.2.2.2.1 (Nat.succ_ne_zero _) ?_
    refine x_iload d63_27 rfl ?_
    refine x_iload_n d63_29 rfl ?_
    refine x_iast d63_30 hO.2.2.1 e1.1 e1.2 ?_
    refine x_aload_n d63_31 rfl ?_
    refine x_getR (r := (o + 3)) d63_32 gY_63.2.2.2 gF_7_18 rfl hO.1 hO.2.2.2.2.2.2.2.2.1 (Nat.succ_ne_zero _) ?_
    refine x_iload d63_35 rfl ?_
    refine x_iload_n d63_37 rfl ?_
    refine x_iast d63_38 hO.2.2.2.1 e1.1 e1.2 ?_
    refine x_aload_n d63_39 rfl ?_
    refine x_getR (r := (o + 4)) d63_40 gY_63.2.2.2 gF_7_21 rfl hO.1 hO.2.2.2.2.2.2.2.2.2.1 (Nat.succ_ne_zero _) ?_
    refine x_iload d63_43 rfl ?_
    refine x_bipush d63_45 rfl ?_
    refine x_iast d63_47 hO.2.2.2.2.1 e1.1 e1.2 ?_
    refine x_aload_n d63_48 rfl ?_
    refine x_dup d63_49 ?_
    refine x_getI d63_50 gY_63.2.2.2 gF_7_27 rfl hO.1 ?_
    refine x_iconst d63_53 rfl ?_
    have e2 := k.1
    replace k := k.2
    refine x_iadd d63_54 e2 ?_
    refine x_putI d63_55 gY_63.2.2.2 gF_7_27 rfl rfl hO.1 ?_
    refine x_iload_n d63_58 rfl ?_
    refine x_if1 (pc2 := 68) d63_59 rfl (fun c => ?_) (fun c => ?_)
    · replace c : ¬ x3 = 0 := c
      rw [if_pos c] at k
      refine x_iload d63_68 rfl ?_
      exact x_iret d63_70 gR_63 ⟨_, _, rfl, rfl, k⟩
    · replace c : ¬ (¬ x3 = 0) := c
      rw [if_neg c] at k
      refine x_aload_n d63_62 rfl ?_
      refine x_iload d63_63 rfl ?_
      refine y_inv (as := [.inl (I o 5)]) (t := []) (o := o) (ls2 := [some (.inr o), some (.inl (I o 5))]) gY_64 d63_65 gY_63.2.2.2 gM_7_50 rfl hO.1 rfl rfl ?_
      refine x_aload_n d64_0 rfl ?_
      refine x_getI d64_1 gY_64.2.2.2 gF_7_31 rfl hO.1 ?_
      refine x_bipush d64_4 rfl ?_
      refine x_if2 (pc2 := 29) d64_6 rfl (fun c => ?_) (fun c => ?_)
      · replace c : 32 ≤ (zup (zup (zup (zup (zup I (o + 1) (I o 5).toNat x1) (o + 2) (I o 5).toNat x2) (o + 3) (I o 5).toNat x3) (o + 4) (I o 5).toNat 9) o 5 ((zup (zup (zup (zup I (o + 1) (I o 5).toNat x1) (o + 2) (I o 5).toNat x2) (o + 3) (I o 5).toNat x3) (o + 4) (I o 5).toNat 9) o 5 + 1)) o 6 := c
        rw [if_pos c] at k
        refine x_vret d64_29 gR_64 ?_
        show Ex (d + 1) 63 68 [some (.inr o), some (.inl x1), some (.inl x2), some (.inl x3), some (.inl (I o 5))] [] (0, 0, n, sh, R, (zup (zup (zup (zup (zup I (o + 1) (I o 5).toNat x1) (o + 2) (I o 5).toNat x2) (o + 3) (I o 5).toNat x3) (o + 4) (I o 5).toNat 9) o 5 ((zup (zup (zup (zup I (o + 1) (I o 5).toNat x1) (o + 2) (I o 5).toNat x2) (o + 3) (I o 5).toNat x3) (o + 4) (I o 5).toNat 9) o 5 + 1))) _
        refine x_iload d63_68 rfl ?_
        exact x_iret d63_70 gR_63 ⟨_, _, rfl, rfl, k⟩
      · replace c : ¬ (32 ≤ (zup (zup (zup (zup (zup I (o + 1) (I o 5).toNat x1) (o + 2) (I o 5).toNat x2) (o + 3) (I o 5).toNat x3) (o + 4) (I o 5).toNat 9) o 5 ((zup (zup (zup (zup I (o + 1) (I o 5).toNat x1) (o + 2) (I o 5).toNat x2) (o + 3) (I o 5).toNat x3) (o + 4) (I o 5).toNat 9) o 5 + 1)) o 6) := c
        rw [if_neg c] at k
        refine x_aload_n d64_9 rfl ?_
        refine x_getR (r := (o + 5)) d64_10 gY_64.2.2.2 gF_7_24 rfl hO.1 hO.2.2.2.2.2.2.2.2.2.2 (Nat.succ_ne_zero _) ?_
        refine x_aload_n d64_13 rfl ?_
        refine x_getI d64_14 gY_64.2.2.2 gF_7_31 rfl hO.1 ?_
        refine x_iload_n d64_17 rfl ?_
        have e3 := k.1
        replace k := k.2
        refine x_iast d64_18 hO.2.2.2.2.2.1 e3.1 e3.2 ?_
        refine x_aload_n d64_19 rfl ?_
        refine x_dup d64_20 ?_
        refine x_getI d64_21 gY_64.2.2.2 gF_7_31 rfl hO.1 ?_
        refine x_iconst d64_24 rfl ?_
        have e4 := k.1
        replace k := k.2
        refine x_iadd d64_25 e4 ?_
        refine x_putI d64_26 gY_64.2.2.2 gF_7_31 rfl rfl hO.1 ?_
        refine x_vret d64_29 gR_64 ?_
        show Ex (d + 1) 63 68 [some (.inr o), some (.inl x1), some (.inl x2), some (.inl x3), some (.inl (I o 5))] [] (0, 0, n, sh, R, (zup (zup (zup (zup (zup (zup (zup I (o + 1) (I o 5).toNat x1) (o + 2) (I o 5).toNat x2) (o + 3) (I o 5).toNat x3) (o + 4) (I o 5).toNat 9) o 5 ((zup (zup (zup (zup I (o + 1) (I o 5).toNat x1) (o + 2) (I o 5).toNat x2) (o + 3) (I o 5).toNat x3) (o + 4) (I o 5).toNat 9) o 5 + 1)) (o + 5) ((zup (zup (zup (zup (zup I (o + 1) (I o 5).toNat x1) (o + 2) (I o 5).toNat x2) (o + 3) (I o 5).toNat x3) (o + 4) (I o 5).toNat 9) o 5 ((zup (zup (zup (zup I (o + 1) (I o 5).toNat x1) (o + 2) (I o 5).toNat x2) (o + 3) (I o 5).toNat x3) (o + 4) (I o 5).toNat 9) o 5 + 1)) o 6).toNat (I o 5)) o 6 ((zup (zup (zup (zup (zup (zup I (o + 1) (I o 5).toNat x1) (o + 2) (I o 5).toNat x2) (o + 3) (I o 5).toNat x3) (o + 4) (I o 5).toNat 9) o 5 ((zup (zup (zup (zup I (o + 1) (I o 5).toNat x1) (o + 2) (I o 5).toNat x2) (o + 3) (I o 5).toNat x3) (o + 4) (I o 5).toNat 9) o 5 + 1)) (o + 5) ((zup (zup (zup (zup (zup I (o + 1) (I o 5).toNat x1) (o + 2) (I o 5).toNat x2) (o + 3) (I o 5).toNat x3) (o + 4) (I o 5).toNat 9) o 5 ((zup (zup (zup (zup I (o + 1) (I o 5).toNat x1) (o + 2) (I o 5).toNat x2) (o + 3) (I o 5).toNat x3) (o + 4) (I o 5).toNat 9) o 5 + 1)) o 6).toNat (I o 5)) o 6 + 1))) _
        refine x_iload d63_68 rfl ?_
        exact x_iret d63_70 gR_63 ⟨_, _, rfl, rfl, k⟩
  · replace c : ¬ (I o 5 < 32) := c
    rw [if_neg c] at k
    refine x_iconst d63_13 rfl ?_
    exact x_iret d63_14 gR_63 ⟨_, _, rfl, rfl, k⟩
set_option maxHeartbeats 4000000 in
theorem b_S_comeIn_0 {d n : Nat} {sh : ZS} {R : ZR} {I : ZI} {Q : ZI → Prop} (hW : Wf sh R) {o : Nat} (hO : St sh R o)
    (k : XVs (d + 1) 65 2 [some (.inr o), some (.inl 0)] [] n sh R I Q) : XV (d + 1) 65 [.inr o] n sh R I Q := by
  refine XV.of (ls := [some (.inr o), none]) (zloc_eq gY_65.2.2.1) ?_
  unfold XVs
  refine x_iconst d65_0 rfl ?_
  refine x_istore_n (ls2 := [some (.inr o), some (.inl 0)]) d65_1 rfl rfl ?_
  exact k
set_option maxHeartbeats 4000000 in
theorem b_S_comeIn_2 {d n : Nat} {sh : ZS} {R : ZR} {I : ZI} {Q : ZI → Prop} (hW : Wf sh R) {o : Nat} (hO : St sh R o) {x1 : Int}
    (k : (if I o 5 ≤ x1 then Q I else (if I o 5 ≤ I o 6 then Q I else (0 ≤ x1 ∧ x1 < 32) ∧ (zr (I o 7 + 1)) ∧ (if ¬ I (o + 3) (x1).toNat = (I o 7 + 1) then (zr (x1 + 1)) ∧ XVs (d + 1) 65 2 [some (.inr o), some (.inl (x1 + 1))] [] n sh R I Q else (if 32 ≤ I o 6 then (zr (x1 + 1)) ∧ XVs (d + 1) 65 2 [some (.inr o), some (.inl (x1 + 1))] [] n sh R I Q else (0 ≤ I o 6 ∧ I o 6 < 32) ∧ (zr ((zup I (o + 5) (I o 6).toNat x1) o 6 + 1)) ∧ (zr (x1 + 1)) ∧ XVs (d + 1) 65 2 [some (.inr o), some (.inl (x1 + 1))] [] n sh R (zup (zup I (o + 5) (I o 6).toNat x1) o 6 ((zup I (o + 5) (I o 6).toNat x1) o 6 + 1)) Q))))) : XVs (d + 1) 65 2 [some (.inr o), some (.inl x1)] [] n sh R I Q := by
  unfold XVs
  refine x_iload_n d65_2 rfl ?_
  refine x_aload_n d65_3 rfl ?_
  refine x_getI d65_4 gY_65.2.2.2 gF_7_27 rfl hO.1 ?_
  refine x_if2 (pc2 := 47) d65_7 rfl (fun c => ?_) (fun c => ?_)
  · replace c : I o 5 ≤ x1 := c
    rw [if_pos c] at k
    exact x_vret d65_47 gR_65 ⟨_, rfl, rfl, k⟩
  · replace c : ¬ (I o 5 ≤ x1) := c
    rw [if_neg c] at k
    refine x_aload_n d65_10 rfl ?_
    refine x_getI d65_11 gY_65.2.2.2 gF_7_31 rfl hO.1 ?_
    refine x_aload_n d65_14 rfl ?_
    refine x_getI d65_15 gY_65.2.2.2 gF_7_27 rfl hO.1 ?_
    refine x_if2 (pc2 := 47) d65_18 rfl (fun c => ?_) (fun c => ?_)
    · replace c : I o 5 ≤ I o 6 := c
      rw [if_pos c] at k
      exact x_vret d65_47 gR_65 ⟨_, rfl, rfl, k⟩
    · replace c : ¬ (I o 5 ≤ I o 6) := c
      rw [if_neg c] at k
      refine x_aload_n d65_21 rfl ?_
      refine x_getR (r := (o + 3)) d65_22 gY_65.2.2.2 gF_7_18 rfl hO.1 hO.2.2.2.2.2.2.2.2.1 (Nat.succ_ne_zero _) ?_
      refine x_iload_n d65_25 rfl ?_
      have e1 := k.1
      replace k := k.2
      refine x_iald d65_26 hO.2.2.2.1 e1.1 e1.2 ?_
      refine x_aload_n d65_27 rfl ?_
      refine x_getI d65_28 gY_65.2.2.2 gF_7_34 rfl hO.1 ?_
      refine x_iconst d65_31 rfl ?_
      have e2 := k.1
      replace k := k.2
      refine x_iadd d65_32 e2 ?_
      refine x_if2 (pc2 := 41) d65_33 rfl (fun c => ?_) (fun c => ?_)
      · replace c : ¬ I (o + 3) (x1).toNat = (I o 7 + 1) := c
        rw [if_pos c] at k
        have e3 := k.1
        replace k := k.2
        refine x_iinc (ls2 := [some (.inr o), some (.inl (x1 + 1))]) d65_41 rfl e3 rfl ?_
        refine x_goto (pc2 := 2) d65_44 rfl ?_
        exact k
      · replace c : ¬ (¬ I (o + 3) (x1).toNat = (I o 7 + 1)) := c
        rw [if_neg c] at k
        refine x_aload_n d65_36 rfl ?_
        refine x_iload_n d65_37 rfl ?_
        refine y_inv (as := [.inl x1]) (t := []) (o := o) (ls2 := [some (.inr o), some (.inl x1)]) gY_64 d65_38 gY_65.2.2.2 gM_7_50 rfl hO.1 rfl rfl ?_
        refine x_aload_n d64_0 rfl ?_
        refine x_getI d64_1 gY_64.2.2.2 gF_7_31 rfl hO.1 ?_
        refine x_bipush d64_4 rfl ?_
        refine x_if2 (pc2 := 29) d64_6 rfl (fun c => ?_) (fun c => ?_)
        · replace c : 32 ≤ I o 6 := c
          rw [if_pos c] at k
          refine x_vret d64_29 gR_64 ?_
          show Ex (d + 1) 65 41 [some (.inr o), some (.inl x1)] [] (0, 0, n, sh, R, I) _
          have e4 := k.1
          replace k := k.2
          refine x_iinc (ls2 := [some (.inr o), some (.inl (x1 + 1))]) d65_41 rfl e4 rfl ?_
          refine x_goto (pc2 := 2) d65_44 rfl ?_
          exact k
        · replace c : ¬ (32 ≤ I o 6) := c
          rw [if_neg c] at k
          refine x_aload_n d64_9 rfl ?_
          refine x_getR (r := (o + 5)) d64_10 gY_64.2.2.2 gF_7_24 rfl hO.1 hO.2.2.2.2.2.2.2.2.2.2 (Nat.succ_ne_zero _) ?_
          refine x_aload_n d64_13 rfl ?_
          refine x_getI d64_14 gY_64.2.2.2 gF_7_31 rfl hO.1 ?_
          refine x_iload_n d64_17 rfl ?_
          have e5 := k.1
          replace k := k.2
          refine x_iast d64_18 hO.2.2.2.2.2.1 e5.1 e5.2 ?_
          refine x_aload_n d64_19 rfl ?_
          refine x_dup d64_20 ?_
          refine x_getI d64_21 gY_64.2.2.2 gF_7_31 rfl hO.1 ?_
          refine x_iconst d64_24 rfl ?_
          have e6 := k.1
          replace k := k.2
          refine x_iadd d64_25 e6 ?_
          refine x_putI d64_26 gY_64.2.2.2 gF_7_31 rfl rfl hO.1 ?_
          refine x_vret d64_29 gR_64 ?_
          show Ex (d + 1) 65 41 [some (.inr o), some (.inl x1)] [] (0, 0, n, sh, R, (zup (zup I (o + 5) (I o 6).toNat x1) o 6 ((zup I (o + 5) (I o 6).toNat x1) o 6 + 1))) _
          have e7 := k.1
          replace k := k.2
          refine x_iinc (ls2 := [some (.inr o), some (.inl (x1 + 1))]) d65_41 rfl e7 rfl ?_
          refine x_goto (pc2 := 2) d65_44 rfl ?_
          exact k
set_option maxHeartbeats 4000000 in
theorem b_S_placeOf_0 {d n : Nat} {sh : ZS} {R : ZR} {I : ZI} {Q : Int → ZI → Prop} (hW : Wf sh R) {o : Nat} (hO : St sh R o) {x1 : Int}
    (k : XIs d 66 2 [some (.inr o), some (.inl x1), some (.inl 0)] [] n sh R I Q) : XI d 66 [.inr o, .inl x1] n sh R I Q := by
  refine XI.of (ls := [some (.inr o), some (.inl x1), none]) (zloc_eq gY_66.2.2.1) ?_
  unfold XIs
  refine x_iconst d66_0 rfl ?_
  refine x_istore_n (ls2 := [some (.inr o), some (.inl x1), some (.inl 0)]) d66_1 rfl rfl ?_
  exact k
set_option maxHeartbeats 4000000 in
theorem b_S_placeOf_2 {d n : Nat} {sh : ZS} {R : ZR} {I : ZI} {Q : Int → ZI → Prop} (hW : Wf sh R) {o : Nat} (hO : St sh R o) {x1 : Int} {x2 : Int}
    (k : (if I o 6 ≤ x2 then Q (-1) I else (0 ≤ x2 ∧ x2 < 32) ∧ (if ¬ I (o + 5) (x2).toNat = x1 then (zr (x2 + 1)) ∧ XIs d 66 2 [some (.inr o), some (.inl x1), some (.inl (x2 + 1))] [] n sh R I Q else Q x2 I))) : XIs d 66 2 [some (.inr o), some (.inl x1), some (.inl x2)] [] n sh R I Q := by
  unfold XIs
  refine x_iload_n d66_2 rfl ?_
  refine x_aload_n d66_3 rfl ?_
  refine x_getI d66_4 gY_66.2.2.2 gF_7_31 rfl hO.1 ?_
  refine x_if2 (pc2 := 28) d66_7 rfl (fun c => ?_) (fun c => ?_)
  · replace c : I o 6 ≤ x2 := c
    rw [if_pos c] at k
    refine x_iconst d66_28 rfl ?_
    exact x_iret d66_29 gR_66 ⟨_, _, rfl, rfl, k⟩
  · replace c : ¬ (I o 6 ≤ x2) := c
    rw [if_neg c] at k
    refine x_aload_n d66_10 rfl ?_
    refine x_getR (r := (o + 5)) d66_11 gY_66.2.2.2 gF_7_24 rfl hO.1 hO.2.2.2.2.2.2.2.2.2.2 (Nat.succ_ne_zero _) ?_
    refine x_iload_n d66_14 rfl ?_
    have e1 := k.1
    replace k := k.2
    refine x_iald d66_15 hO.2.2.2.2.2.1 e1.1 e1.2 ?_
    refine x_iload_n d66_16 rfl ?_
    refine x_if2 (pc2 := 22) d66_17 rfl (fun c => ?_) (fun c => ?_)
    · replace c : ¬ I (o + 5) (x2).toNat = x1 := c
      rw [if_pos c] at k
      have e2 := k.1
      replace k := k.2
      refine x_iinc (ls2 := [some (.inr o), some (.inl x1), some (.inl (x2 + 1))]) d66_22 rfl e2 rfl ?_
      refine x_goto (pc2 := 2) d66_25 rfl ?_
      exact k
    · replace c : ¬ (¬ I (o + 5) (x2).toNat = x1) := c
      rw [if_neg c] at k
      refine x_iload_n d66_20 rfl ?_
      exact x_iret d66_21 gR_66 ⟨_, _, rfl, rfl, k⟩
set_option maxHeartbeats 4000000 in
theorem b_S_othersElsewhere_0 {d n : Nat} {sh : ZS} {R : ZR} {I : ZI} {Q : Int → ZI → Prop} (hW : Wf sh R) {o : Nat} (hO : St sh R o) {s1 : Nat} (hS1 : St sh R s1) {x2 : Int}
    (k : XIs d 68 5 [some (.inr o), some (.inr s1), some (.inl x2), some (.inl 0), some (.inl 0)] [] n sh R I Q) : XI d 68 [.inr o, .inr s1, .inl x2] n sh R I Q := by
  refine XI.of (ls := [some (.inr o), some (.inr s1), some (.inl x2), none, none]) (zloc_eq gY_68.2.2.1) ?_
  unfold XIs
  refine x_iconst d68_0 rfl ?_
  refine x_istore_n (ls2 := [some (.inr o), some (.inr s1), some (.inl x2), some (.inl 0), none]) d68_1 rfl rfl ?_
  refine x_iconst d68_2 rfl ?_
  refine x_istore (ls2 := [some (.inr o), some (.inr s1), some (.inl x2), some (.inl 0), some (.inl 0)]) d68_3 rfl rfl ?_
  exact k
set_option maxHeartbeats 4000000 in
theorem b_S_othersElsewhere_5 {d n : Nat} {sh : ZS} {R : ZR} {I : ZI} {Q : Int → ZI → Prop} (hW : Wf sh R) {o : Nat} (hO : St sh R o) {s1 : Nat} (hS1 : St sh R s1) {x2 : Int} {x3 : Int} {x4 : Int}
    (k : (if I o 6 ≤ x4 then Q x3 I else (0 ≤ x4 ∧ x4 < 32) ∧ (if I (o + 5) (x4).toNat = I (s1 + 5) (x4).toNat then (zr (x4 + 1)) ∧ XIs d 68 5 [some (.inr o), some (.inr s1), some (.inl x2), some (.inl x3), some (.inl (x4 + 1))] [] n sh R I Q else (if I (o + 5) (x4).toNat = x2 then (zr (x4 + 1)) ∧ XIs d 68 5 [some (.inr o), some (.inr s1), some (.inl x2), some (.inl x3), some (.inl (x4 + 1))] [] n sh R I Q else (zr (x3 + 1)) ∧ (zr (x4 + 1)) ∧ XIs d 68 5 [some (.inr o), some (.inr s1), some (.inl x2), some (.inl (x3 + 1)), some (.inl (x4 + 1))] [] n sh R I Q)))) : XIs d 68 5 [some (.inr o), some (.inr s1), some (.inl x2), some (.inl x3), some (.inl x4)] [] n sh R I Q := by
  unfold XIs
  refine x_iload d68_5 rfl ?_
  refine x_aload_n d68_7 rfl ?_
  refine x_getI d68_8 gY_68.2.2.2 gF_7_31 rfl hO.1 ?_
  refine x_if2 (pc2 := 51) d68_11 rfl (fun c => ?_) (fun c => ?_)
  · replace c : I o 6 ≤ x4 := c
    rw [if_pos c] at k
    refine x_iload_n d68_51 rfl ?_
    exact x_iret d68_52 gR_68 ⟨_, _, rfl, rfl, k⟩
  · replace c : ¬ (I o 6 ≤ x4) := c
    rw [if_neg c] at k
    refine x_aload_n d68_14 rfl ?_
    refine x_getR (r := (o + 5)) d68_15 gY_68.2.2.2 gF_7_24 rfl hO.1 hO.2.2.2.2.2.2.2.2.2.2 (Nat.succ_ne_zero _) ?_
    refine x_iload d68_18 rfl ?_
    have e1 := k.1
    replace k := k.2
    refine x_iald d68_20 hO.2.2.2.2.2.1 e1.1 e1.2 ?_
    refine x_aload_n d68_21 rfl ?_
    refine x_getR (r := (s1 + 5)) d68_22 gY_68.2.2.2 gF_7_24 rfl hS1.1 hS1.2.2.2.2.2.2.2.2.2.2 (Nat.succ_ne_zero _) ?_
    refine x_iload d68_25 rfl ?_
    refine x_iald d68_27 hS1.2.2.2.2.2.1 e1.1 e1.2 ?_
    refine x_if2 (pc2 := 45) d68_28 rfl (fun c => ?_) (fun c => ?_)
    · replace c : I (o + 5) (x4).toNat = I (s1 + 5) (x4).toNat := c
      rw [if_pos c] at k
      have e2 := k.1
      replace k := k.2
      refine x_iinc (ls2 := [some (.inr o), some (.inr s1), some (.inl x2), some (.inl x3), some (.inl (x4 + 1))]) d68_45 rfl e2 rfl ?_
      refine x_goto (pc2 := 5) d68_48 rfl ?_
      exact k
    · replace c : ¬ (I (o + 5) (x4).toNat = I (s1 + 5) (x4).toNat) := c
      rw [if_neg c] at k
      refine x_aload_n d68_31 rfl ?_
      refine x_getR (r := (o + 5)) d68_32 gY_68.2.2.2 gF_7_24 rfl hO.1 hO.2.2.2.2.2.2.2.2.2.2 (Nat.succ_ne_zero _) ?_
      refine x_iload d68_35 rfl ?_
      refine x_iald d68_37 hO.2.2.2.2.2.1 e1.1 e1.2 ?_
      refine x_iload_n d68_38 rfl ?_
      refine x_if2 (pc2 := 45) d68_39 rfl (fun c => ?_) (fun c => ?_)
      · replace c : I (o + 5) (x4).toNat = x2 := c
        rw [if_pos c] at k
        have e3 := k.1
        replace k := k.2
        refine x_iinc (ls2 := [some (.inr o), some (.inr s1), some (.inl x2), some (.inl x3), some (.inl (x4 + 1))]) d68_45 rfl e3 rfl ?_
        refine x_goto (pc2 := 5) d68_48 rfl ?_
        exact k
      · replace c : ¬ (I (o + 5) (x4).toNat = x2) := c
        rw [if_neg c] at k
        have e4 := k.1
        replace k := k.2
        refine x_iinc (ls2 := [some (.inr o), some (.inr s1), some (.inl x2), some (.inl (x3 + 1)), some (.inl x4)]) d68_42 rfl e4 rfl ?_
        have e5 := k.1
        replace k := k.2
        refine x_iinc (ls2 := [some (.inr o), some (.inr s1), some (.inl x2), some (.inl (x3 + 1)), some (.inl (x4 + 1))]) d68_45 rfl e5 rfl ?_
        refine x_goto (pc2 := 5) d68_48 rfl ?_
        exact k
set_option maxHeartbeats 4000000 in
theorem b_S_streetBits_0 {d n : Nat} {sh : ZS} {R : ZR} {I : ZI} {Q : Int → ZI → Prop} (hW : Wf sh R) {o : Nat} (hO : St sh R o)
    (k : XIs (d + 1) 69 4 [some (.inr o), some (.inl 0), some (.inl 0)] [] n sh R I Q) : XI (d + 1) 69 [.inr o] n sh R I Q := by
  refine XI.of (ls := [some (.inr o), none, none]) (zloc_eq gY_69.2.2.1) ?_
  unfold XIs
  refine x_iconst d69_0 rfl ?_
  refine x_istore_n (ls2 := [some (.inr o), some (.inl 0), none]) d69_1 rfl rfl ?_
  refine x_iconst d69_2 rfl ?_
  refine x_istore_n (ls2 := [some (.inr o), some (.inl 0), some (.inl 0)]) d69_3 rfl rfl ?_
  exact k
set_option maxHeartbeats 4000000 in
theorem b_S_streetBits_4 {d n : Nat} {sh : ZS} {R : ZR} {I : ZI} {Q : Int → ZI → Prop} (hW : Wf sh R) {o : Nat} (hO : St sh R o) {x1 : Int} {x2 : Int}
    (k : (if I o 6 ≤ x2 then Q x1 I else (0 ≤ x2 ∧ x2 < 32) ∧ (0 ≤ I (o + 5) (x2).toNat ∧ I (o + 5) (x2).toNat < 32) ∧ (zr (x2 + 1)) ∧ XIs (d + 1) 69 4 [some (.inr o), some (.inl (zor x1 (zshl 1 (I (o + 1) (I (o + 5) (x2).toNat).toNat)))), some (.inl (x2 + 1))] [] n sh R I Q)) : XIs (d + 1) 69 4 [some (.inr o), some (.inl x1), some (.inl x2)] [] n sh R I Q := by
  unfold XIs
  refine x_iload_n d69_4 rfl ?_
  refine x_aload_n d69_5 rfl ?_
  refine x_getI d69_6 gY_69.2.2.2 gF_7_31 rfl hO.1 ?_
  refine x_if2 (pc2 := 28) d69_9 rfl (fun c => ?_) (fun c => ?_)
  · replace c : I o 6 ≤ x2 := c
    rw [if_pos c] at k
    refine x_iload_n d69_28 rfl ?_
    exact x_iret d69_29 gR_69 ⟨_, _, rfl, rfl, k⟩
  · replace c : ¬ (I o 6 ≤ x2) := c
    rw [if_neg c] at k
    refine x_iload_n d69_12 rfl ?_
    refine x_iconst d69_13 rfl ?_
    refine x_aload_n d69_14 rfl ?_
    refine x_iload_n d69_15 rfl ?_
    refine y_inv (as := [.inl x2]) (t := [.inl 1, .inl x1]) (o := o) (ls2 := [some (.inr o), some (.inl x2)]) gY_67 d69_16 gY_69.2.2.2 gM_7_54 rfl hO.1 rfl rfl ?_
    refine x_aload_n d67_0 rfl ?_
    refine x_getR (r := (o + 1)) d67_1 gY_67.2.2.2 gF_7_9 rfl hO.1 hO.2.2.2.2.2.2.1 (Nat.succ_ne_zero _) ?_
    refine x_aload_n d67_4 rfl ?_
    refine x_getR (r := (o + 5)) d67_5 gY_67.2.2.2 gF_7_24 rfl hO.1 hO.2.2.2.2.2.2.2.2.2.2 (Nat.succ_ne_zero _) ?_
    refine x_iload_n d67_8 rfl ?_
    have e1 := k.1
    replace k := k.2
    refine x_iald d67_9 hO.2.2.2.2.2.1 e1.1 e1.2 ?_
    have e2 := k.1
    replace k := k.2
    refine x_iald d67_10 hO.2.1 e2.1 e2.2 ?_
    refine x_iret d67_11 gR_67 ?_
    show Ex (d + 1) 69 19 [some (.inr o), some (.inl x1), some (.inl x2)] [.inl (I (o + 1) (I (o + 5) (x2).toNat).toNat), .inl 1, .inl x1] (0, 0, n, sh, R, I) _
    refine x_ishl d69_19 ?_
    refine x_ior d69_20 ?_
    refine x_istore_n (ls2 := [some (.inr o), some (.inl (zor x1 (zshl 1 (I (o + 1) (I (o + 5) (x2).toNat).toNat)))), some (.inl x2)]) d69_21 rfl rfl ?_
    have e3 := k.1
    replace k := k.2
    refine x_iinc (ls2 := [some (.inr o), some (.inl (zor x1 (zshl 1 (I (o + 1) (I (o + 5) (x2).toNat).toNat)))), some (.inl (x2 + 1))]) d69_22 rfl e3 rfl ?_
    refine x_goto (pc2 := 4) d69_25 rfl ?_
    exact k
set_option maxHeartbeats 4000000 in
theorem b_S_weights_0 {d n : Nat} {sh : ZS} {R : ZR} {I : ZI} {Q : Int → ZI → Prop} (hW : Wf sh R) {o : Nat} (hO : St sh R o)
    (k : XIs d 70 4 [some (.inr o), some (.inl 0), some (.inl 0)] [] n sh R I Q) : XI d 70 [.inr o] n sh R I Q := by
  refine XI.of (ls := [some (.inr o), none, none]) (zloc_eq gY_70.2.2.1) ?_
  unfold XIs
  refine x_iconst d70_0 rfl ?_
  refine x_istore_n (ls2 := [some (.inr o), some (.inl 0), none]) d70_1 rfl rfl ?_
  refine x_iconst d70_2 rfl ?_
  refine x_istore_n (ls2 := [some (.inr o), some (.inl 0), some (.inl 0)]) d70_3 rfl rfl ?_
  exact k
set_option maxHeartbeats 4000000 in
theorem b_S_weights_4 {d n : Nat} {sh : ZS} {R : ZR} {I : ZI} {Q : Int → ZI → Prop} (hW : Wf sh R) {o : Nat} (hO : St sh R o) {x1 : Int} {x2 : Int}
    (k : (if I o 6 ≤ x2 then Q x1 I else (0 ≤ x2 ∧ x2 < 32) ∧ (0 ≤ I (o + 5) (x2).toNat ∧ I (o + 5) (x2).toNat < 32) ∧ (zr (x1 + I (o + 2) (I (o + 5) (x2).toNat).toNat)) ∧ (zr (x2 + 1)) ∧ XIs d 70 4 [some (.inr o), some (.inl (x1 + I (o + 2) (I (o + 5) (x2).toNat).toNat)), some (.inl (x2 + 1))] [] n sh R I Q)) : XIs d 70 4 [some (.inr o), some (.inl x1), some (.inl x2)] [] n sh R I Q := by
  unfold XIs
  refine x_iload_n d70_4 rfl ?_
  refine x_aload_n d70_5 rfl ?_
  refine x_getI d70_6 gY_70.2.2.2 gF_7_31 rfl hO.1 ?_
  refine x_if2 (pc2 := 32) d70_9 rfl (fun c => ?_) (fun c => ?_)
  · replace c : I o 6 ≤ x2 := c
    rw [if_pos c] at k
    refine x_iload_n d70_32 rfl ?_
    exact x_iret d70_33 gR_70 ⟨_, _, rfl, rfl, k⟩
  · replace c : ¬ (I o 6 ≤ x2) := c
    rw [if_neg c] at k
    refine x_iload_n d70_12 rfl ?_
    refine x_aload_n d70_13 rfl ?_
    refine x_getR (r := (o + 2)) d70_14 gY_70.2.2.2 gF_7_15 rfl hO.1 hO.2.2.2.2.2.2.2.1 (Nat.succ_ne_zero _) ?_
    refine x_aload_n d70_17 rfl ?_
    refine x_getR (r := (o + 5)) d70_18 gY_70.2.2.2 gF_7_24 rfl hO.1 hO.2.2.2.2.2.2.2.2.2.2 (Nat.succ_ne_zero _) ?_
    refine x_iload_n d70_21 rfl ?_
    have e1 := k.1
    replace k := k.2
    refine x_iald d70_22 hO.2.2.2.2.2.1 e1.1 e1.2 ?_
    have e2 := k.1
    replace k := k.2
    refine x_iald d70_23 hO.2.2.1 e2.1 e2.2 ?_
    have e3 := k.1
    replace k := k.2
    refine x_iadd d70_24 e3 ?_
    refine x_istore_n (ls2 := [some (.inr o), some (.inl (x1 + I (o + 2) (I (o + 5) (x2).toNat).toNat)), some (.inl x2)]) d70_25 rfl rfl ?_
    have e4 := k.1
    replace k := k.2
    refine x_iinc (ls2 := [some (.inr o), some (.inl (x1 + I (o + 2) (I (o + 5) (x2).toNat).toNat)), some (.inl (x2 + 1))]) d70_26 rfl e4 rfl ?_
    refine x_goto (pc2 := 4) d70_29 rfl ?_
    exact k
set_option maxHeartbeats 4000000 in
theorem b_A_countLetters_0 {d n : Nat} {sh : ZS} {R : ZR} {I : ZI} {Q : ZI → Prop} (hW : Wf sh R) {s1 : Nat} (hS1 : St sh R s1)
    (k : XV d 251 [.inr 62, .inl 0] n sh R I (fun I2 => XVs (d + 1) 73 10 [some (.inr 61), some (.inr s1), some (.inl 0)] [] n sh R I2 Q)) : XV (d + 1) 73 [.inr 61, .inr s1] n sh R I Q := by
  refine XV.of (ls := [some (.inr 61), some (.inr s1), none]) (zloc_eq gY_73.2.2.1) ?_
  unfold XVs
  refine x_aload_n d73_0 rfl ?_
  refine x_getR (r := 62) d73_1 gY_73.2.2.2 gF_8_9 rfl (sh_61 hW) (rf_61_1 hW) (by decide) ?_
  refine x_iconst d73_4 rfl ?_
  refine y_insV (as := [.inr 62, .inl 0]) (t := []) gY_251 d73_5 gY_73.2.2.2 gM_8_53 rfl rfl k (fun I2 k => ?_)
  refine x_iconst d73_8 rfl ?_
  refine x_istore_n (ls2 := [some (.inr 61), some (.inr s1), some (.inl 0)]) d73_9 rfl rfl ?_
  exact k
set_option maxHeartbeats 4000000 in
theorem b_A_countLetters_10 {d n : Nat} {sh : ZS} {R : ZR} {I : ZI} {Q : ZI → Prop} (hW : Wf sh R) {s1 : Nat} (hS1 : St sh R s1) {x2 : Int}
    (k : (if I s1 6 ≤ x2 then XVs (d + 1) 73 42 [some (.inr 61), some (.inr s1), some (.inl 0)] [] n sh R I Q else (0 ≤ x2 ∧ x2 < 32) ∧ (0 ≤ I (s1 + 5) (x2).toNat ∧ I (s1 + 5) (x2).toNat < 32) ∧ (zr (I (s1 + 1) (I (s1 + 5) (x2).toNat).toNat + 1)) ∧ (0 ≤ (I (s1 + 1) (I (s1 + 5) (x2).toNat).toNat + 1) ∧ (I (s1 + 1) (I (s1 + 5) (x2).toNat).toNat + 1) < 21) ∧ (zr (I 62 (I (s1 + 1) (I (s1 + 5) (x2).toNat).toNat + 1).toNat + 1)) ∧ (zr (x2 + 1)) ∧ XVs (d + 1) 73 10 [some (.inr 61), some (.inr s1), some (.inl (x2 + 1))] [] n sh R (zup I 62 (I (s1 + 1) (I (s1 + 5) (x2).toNat).toNat + 1).toNat (I 62 (I (s1 + 1) (I (s1 + 5) (x2).toNat).toNat + 1).toNat + 1)) Q)) : XVs (d + 1) 73 10 [some (.inr 61), some (.inr s1), some (.inl x2)] [] n sh R I Q := by
  unfold XVs
  refine x_iload_n d73_10 rfl ?_
  refine x_aload_n d73_11 rfl ?_
  refine x_getI d73_12 gY_73.2.2.2 gF_8_59 rfl hS1.1 ?_
  refine x_if2 (pc2 := 40) d73_15 rfl (fun c => ?_) (fun c => ?_)
  · replace c : I s1 6 ≤ x2 := c
    rw [if_pos c] at k
    refine x_iconst d73_40 rfl ?_
    refine x_istore_n (ls2 := [some (.inr 61), some (.inr s1), some (.inl 0)]) d73_41 rfl rfl ?_
    exact k
  · replace c : ¬ (I s1 6 ≤ x2) := c
    rw [if_neg c] at k
    refine x_aload_n d73_18 rfl ?_
    refine x_getR (r := 62) d73_19 gY_73.2.2.2 gF_8_9 rfl (sh_61 hW) (rf_61_1 hW) (by decide) ?_
    refine x_aload_n d73_22 rfl ?_
    refine x_iload_n d73_23 rfl ?_
    refine y_inv (as := [.inl x2]) (t := [.inr 62]) (o := s1) (ls2 := [some (.inr s1), some (.inl x2)]) gY_67 d73_24 gY_73.2.2.2 gM_8_65 rfl hS1.1 rfl rfl ?_
    refine x_aload_n d67_0 rfl ?_
    refine x_getR (r := (s1 + 1)) d67_1 gY_67.2.2.2 gF_7_9 rfl hS1.1 hS1.2.2.2.2.2.2.1 (Nat.succ_ne_zero _) ?_
    refine x_aload_n d67_4 rfl ?_
    refine x_getR (r := (s1 + 5)) d67_5 gY_67.2.2.2 gF_7_24 rfl hS1.1 hS1.2.2.2.2.2.2.2.2.2.2 (Nat.succ_ne_zero _) ?_
    refine x_iload_n d67_8 rfl ?_
    have e1 := k.1
    replace k := k.2
    refine x_iald d67_9 hS1.2.2.2.2.2.1 e1.1 e1.2 ?_
    have e2 := k.1
    replace k := k.2
    refine x_iald d67_10 hS1.2.1 e2.1 e2.2 ?_
    refine x_iret d67_11 gR_67 ?_
    show Ex (d + 1) 73 27 [some (.inr 61), some (.inr s1), some (.inl x2)] [.inl (I (s1 + 1) (I (s1 + 5) (x2).toNat).toNat), .inr 62] (0, 0, n, sh, R, I) _
    refine x_iconst d73_27 rfl ?_
    have e3 := k.1
    replace k := k.2
    refine x_iadd d73_28 e3 ?_
    refine x_dup2 d73_29 ?_
    have e4 := k.1
    replace k := k.2
    refine x_iald d73_30 (sh_62 hW) e4.1 e4.2 ?_
    refine x_iconst d73_31 rfl ?_
    have e5 := k.1
    replace k := k.2
    refine x_iadd d73_32 e5 ?_
    refine x_iast d73_33 (sh_62 hW) e4.1 e4.2 ?_
    have e6 := k.1
    replace k := k.2
    refine x_iinc (ls2 := [some (.inr 61), some (.inr s1), some (.inl (x2 + 1))]) d73_34 rfl e6 rfl ?_
    refine x_goto (pc2 := 10) d73_37 rfl ?_
    exact k
set_option maxHeartbeats 4000000 in
theorem b_A_countLetters_42 {d n : Nat} {sh : ZS} {R : ZR} {I : ZI} {Q : ZI → Prop} (hW : Wf sh R) {s1 : Nat} (hS1 : St sh R s1) {u1 : Option AV} {x2 : Int}
    (k : (if 20 ≤ x2 then Q I else (zr (x2 + 1)) ∧ (0 ≤ x2 ∧ x2 < 21) ∧ (0 ≤ (x2 + 1) ∧ (x2 + 1) < 21) ∧ (zr (I 63 (x2).toNat + (if I 62 (x2 + 1).toNat < 1 then I 62 (x2 + 1).toNat else 1))) ∧ (zr (I 62 (x2 + 1).toNat + I 62 (x2).toNat)) ∧ XVs (d + 1) 73 42 [some (.inr 61), u1, some (.inl (x2 + 1))] [] n sh R (zup (zup I 63 (x2 + 1).toNat (I 63 (x2).toNat + (if I 62 (x2 + 1).toNat < 1 then I 62 (x2 + 1).toNat else 1))) 62 (x2 + 1).toNat (I 62 (x2 + 1).toNat + I 62 (x2).toNat)) Q)) : XVs (d + 1) 73 42 [some (.inr 61), u1, some (.inl x2)] [] n sh R I Q := by
  unfold XVs
  refine x_iload_n d73_42 rfl ?_
  refine x_bipush d73_43 rfl ?_
  refine x_if2 (pc2 := 98) d73_45 rfl (fun c => ?_) (fun c => ?_)
  · replace c : 20 ≤ x2 := c
    rw [if_pos c] at k
    exact x_vret d73_98 gR_73 ⟨_, rfl, rfl, k⟩
  · replace c : ¬ (20 ≤ x2) := c
    rw [if_neg c] at k
    refine x_aload_n d73_48 rfl ?_
    refine x_getR (r := 63) d73_49 gY_73.2.2.2 gF_8_15 rfl (sh_61 hW) (rf_61_2 hW) (by decide) ?_
    refine x_iload_n d73_52 rfl ?_
    refine x_iconst d73_53 rfl ?_
    have e1 := k.1
    replace k := k.2
    refine x_iadd d73_54 e1 ?_
    refine x_aload_n d73_55 rfl ?_
    refine x_getR (r := 63) d73_56 gY_73.2.2.2 gF_8_15 rfl (sh_61 hW) (rf_61_2 hW) (by decide) ?_
    refine x_iload_n d73_59 rfl ?_
    have e2 := k.1
    replace k := k.2
    refine x_iald d73_60 (sh_63 hW) e2.1 e2.2 ?_
    refine x_iconst d73_61 rfl ?_
    refine x_aload_n d73_62 rfl ?_
    refine x_getR (r := 62) d73_63 gY_73.2.2.2 gF_8_9 rfl (sh_61 hW) (rf_61_1 hW) (by decide) ?_
    refine x_iload_n d73_66 rfl ?_
    refine x_iconst d73_67 rfl ?_
    refine x_iadd d73_68 e1 ?_
    have e3 := k.1
    replace k := k.2
    refine x_iald d73_69 (sh_62 hW) e3.1 e3.2 ?_
    refine x_min d73_70 gY_73.2.2.2 gM_8_69 (of_decide_eq_true rfl) ?_
    have e4 := k.1
    replace k := k.2
    refine x_iadd d73_73 e4 ?_
    refine x_iast d73_74 (sh_63 hW) e3.1 e3.2 ?_
    refine x_aload_n d73_75 rfl ?_
    refine x_getR (r := 62) d73_76 gY_73.2.2.2 gF_8_9 rfl (sh_61 hW) (rf_61_1 hW) (by decide) ?_
    refine x_iload_n d73_79 rfl ?_
    refine x_iconst d73_80 rfl ?_
    refine x_iadd d73_81 e1 ?_
    refine x_dup2 d73_82 ?_
    refine x_iald d73_83 (sh_62 hW) e3.1 e3.2 ?_
    refine x_aload_n d73_84 rfl ?_
    refine x_getR (r := 62) d73_85 gY_73.2.2.2 gF_8_9 rfl (sh_61 hW) (rf_61_1 hW) (by decide) ?_
    refine x_iload_n d73_88 rfl ?_
    refine x_iald d73_89 (sh_62 hW) e2.1 e2.2 ?_
    have e5 := k.1
    replace k := k.2
    refine x_iadd d73_90 e5 ?_
    refine x_iast d73_91 (sh_62 hW) e3.1 e3.2 ?_
    refine x_iinc (ls2 := [some (.inr 61), u1, some (.inl (x2 + 1))]) d73_92 rfl e1 rfl ?_
    refine x_goto (pc2 := 42) d73_95 rfl ?_
    exact k
set_option maxHeartbeats 4000000 in
theorem b_A_splitUpTo_0 {d n : Nat} {sh : ZS} {R : ZR} {I : ZI} {Q : ZI → Prop} (hW : Wf sh R) {x1 : Int} {x2 : Int}
    (k : XVs d 77 2 [some (.inr 61), some (.inl x1), some (.inl x2), some (.inl x1), none, none, none] [] n sh R I Q) : XV d 77 [.inr 61, .inl x1, .inl x2] n sh R I Q := by
  refine XV.of (ls := [some (.inr 61), some (.inl x1), some (.inl x2), none, none, none, none]) (zloc_eq gY_77.2.2.1) ?_
  unfold XVs
  refine x_iload_n d77_0 rfl ?_
  refine x_istore_n (ls2 := [some (.inr 61), some (.inl x1), some (.inl x2), some (.inl x1), none, none, none]) d77_1 rfl rfl ?_
  exact k
set_option maxHeartbeats 4000000 in
theorem b_A_splitUpTo_2 {d n : Nat} {sh : ZS} {R : ZR} {I : ZI} {Q : ZI → Prop} (hW : Wf sh R) (hKn : Kn sh R (R 61 4) 20 20) {x1 : Int} {x2 : Int} {x3 : Int} {u4 : Option AV} {u5 : Option AV} {u6 : Option AV}
    (k : (if x2 < x3 then XVs d 77 31 [some (.inr 61), some (.inl x1), some (.inl x2), some (.inl 2), u4, u5, u6] [] n sh R I Q else (0 ≤ x3 ∧ x3 < 20) ∧ (0 ≤ x2 ∧ x2 < 20) ∧ (0 ≤ x3 ∧ x3 < 21) ∧ (zr (x3 + 1)) ∧ XVs d 77 2 [some (.inr 61), some (.inl x1), some (.inl x2), some (.inl (x3 + 1)), u4, u5, u6] [] n sh R (zup I (64 + 1 + 1) (x3).toNat (I ((R 61 4) + 1 + (x3).toNat) (x2).toNat)) Q)) : XVs d 77 2 [some (.inr 61), some (.inl x1), some (.inl x2), some (.inl x3), u4, u5, u6] [] n sh R I Q := by
  unfold XVs
  refine x_iload_n d77_2 rfl ?_
  refine x_iload_n d77_3 rfl ?_
  refine x_if2 (pc2 := 29) d77_4 rfl (fun c => ?_) (fun c => ?_)
  · replace c : x2 < x3 := c
    rw [if_pos c] at k
    refine x_iconst d77_29 rfl ?_
    refine x_istore_n (ls2 := [some (.inr 61), some (.inl x1), some (.inl x2), some (.inl 2), u4, u5, u6]) d77_30 rfl rfl ?_
    exact k
  · replace c : ¬ (x2 < x3) := c
    rw [if_neg c] at k
    refine x_aload_n d77_7 rfl ?_
    refine x_getR (r := 64) d77_8 gY_77.2.2.2 gF_8_20 rfl (sh_61 hW) (rf_61_3 hW) (by decide) ?_
    refine x_iconst d77_11 rfl ?_
    refine x_aald (q := (64 + 1 + 1)) d77_12 (Kn_64 hW).1 (by decide) (by decide) ((Kn_64 hW).2.1 1 (by decide)).1 (by omega) ?_
    refine x_iload_n d77_13 rfl ?_
    refine x_aload_n d77_14 rfl ?_
    refine x_getR (r := (R 61 4)) d77_15 gY_77.2.2.2 gF_8_23 rfl (sh_61 hW) rfl hKn.2.2 ?_
    refine x_iload_n d77_18 rfl ?_
    have e2 := k.1
    replace k := k.2
    have hj1 := hKn.2.1 (x3).toNat (by omega)
    refine x_aald (q := ((R 61 4) + 1 + (x3).toNat)) d77_19 hKn.1 e2.1 e2.2 hj1.1 (by omega) ?_
    refine x_iload_n d77_20 rfl ?_
    have e3 := k.1
    replace k := k.2
    refine x_iald d77_21 hj1.2 e3.1 e3.2 ?_
    have e4 := k.1
    replace k := k.2
    refine x_iast d77_22 ((Kn_64 hW).2.1 1 (by decide)).2 e4.1 e4.2 ?_
    have e5 := k.1
    replace k := k.2
    refine x_iinc (ls2 := [some (.inr 61), some (.inl x1), some (.inl x2), some (.inl (x3 + 1)), u4, u5, u6]) d77_23 rfl e5 rfl ?_
    refine x_goto (pc2 := 2) d77_26 rfl ?_
    exact k
set_option maxHeartbeats 4000000 in
theorem b_A_splitUpTo_31 {d n : Nat} {sh : ZS} {R : ZR} {I : ZI} {Q : ZI → Prop} (hW : Wf sh R) {x1 : Int} {x2 : Int} {x3 : Int} {u4 : Option AV} {u5 : Option AV} {u6 : Option AV}
    (k : (if I 15 0 < x3 then Q I else XVs d 77 45 [some (.inr 61), some (.inl x1), some (.inl x2), some (.inl x3), some (.inl x1), u5, u6] [] n sh R I Q)) : XVs d 77 31 [some (.inr 61), some (.inl x1), some (.inl x2), some (.inl x3), u4, u5, u6] [] n sh R I Q := by
  unfold XVs
  refine x_iload_n d77_31 rfl ?_
  refine x_aload_n d77_32 rfl ?_
  refine x_getR (r := 15) d77_33 gY_77.2.2.2 gF_8_29 rfl (sh_61 hW) (rf_61_0 hW) (by decide) ?_
  refine x_getI d77_36 gY_77.2.2.2 gF_8_74 rfl (sh_15 hW) ?_
  refine x_if2 (pc2 := 140) d77_39 rfl (fun c => ?_) (fun c => ?_)
  · replace c : I 15 0 < x3 := c
    rw [if_pos c] at k
    exact x_vret d77_140 gR_77 ⟨_, rfl, rfl, k⟩
  · replace c : ¬ (I 15 0 < x3) := c
    rw [if_neg c] at k
    refine x_iload_n d77_42 rfl ?_
    refine x_istore (ls2 := [some (.inr 61), some (.inl x1), some (.inl x2), some (.inl x3), some (.inl x1), u5, u6]) d77_43 rfl rfl ?_
    exact k
set_option maxHeartbeats 4000000 in
theorem b_A_splitUpTo_45 {d n : Nat} {sh : ZS} {R : ZR} {I : ZI} {Q : ZI → Prop} (hW : Wf sh R) {x1 : Int} {x2 : Int} {x3 : Int} {x4 : Int} {u5 : Option AV} {u6 : Option AV}
    (k : (if x2 < x4 then (zr (x3 + 1)) ∧ XVs d 77 31 [some (.inr 61), some (.inl x1), some (.inl x2), some (.inl (x3 + 1)), some (.inl x4), u5, u6] [] n sh R I Q else XVs d 77 59 [some (.inr 61), some (.inl x1), some (.inl x2), some (.inl x3), some (.inl x4), some (.inl 1000000), some (.inl x4)] [] n sh R I Q)) : XVs d 77 45 [some (.inr 61), some (.inl x1), some (.inl x2), some (.inl x3), some (.inl x4), u5, u6] [] n sh R I Q := by
  unfold XVs
  refine x_iload d77_45 rfl ?_
  refine x_iload_n d77_47 rfl ?_
  refine x_if2 (pc2 := 134) d77_48 rfl (fun c => ?_) (fun c => ?_)
  · replace c : x2 < x4 := c
    rw [if_pos c] at k
    have e1 := k.1
    replace k := k.2
    refine x_iinc (ls2 := [some (.inr 61), some (.inl x1), some (.inl x2), some (.inl (x3 + 1)), some (.inl x4), u5, u6]) d77_134 rfl e1 rfl ?_
    refine x_goto (pc2 := 31) d77_137 rfl ?_
    exact k
  · replace c : ¬ (x2 < x4) := c
    rw [if_neg c] at k
    refine x_ldc d77_51 gY_77.2.2.2 gK_8_41 rfl ?_
    refine x_istore (ls2 := [some (.inr 61), some (.inl x1), some (.inl x2), some (.inl x3), some (.inl x4), some (.inl 1000000), u6]) d77_53 rfl rfl ?_
    refine x_iload d77_55 rfl ?_
    refine x_istore (ls2 := [some (.inr 61), some (.inl x1), some (.inl x2), some (.inl x3), some (.inl x4), some (.inl 1000000), some (.inl x4)]) d77_57 rfl rfl ?_
    exact k
set_option maxHeartbeats 4000000 in
theorem b_A_splitUpTo_59 {d n : Nat} {sh : ZS} {R : ZR} {I : ZI} {Q : ZI → Prop} (hW : Wf sh R) (hKn : Kn sh R (R 61 4) 20 20) {x1 : Int} {x2 : Int} {x3 : Int} {x4 : Int} {x5 : Int} {x6 : Int}
    (k : (if x2 ≤ x6 then (0 ≤ x3 ∧ x3 < 10) ∧ (0 ≤ x4 ∧ x4 < 21) ∧ (zr (x4 + 1)) ∧ XVs d 77 45 [some (.inr 61), some (.inl x1), some (.inl x2), some (.inl x3), some (.inl (x4 + 1)), some (.inl x5), some (.inl x6)] [] n sh R (zup I (64 + 1 + (x3).toNat) (x4).toNat x5) Q else (0 ≤ x4 ∧ x4 < 20) ∧ (0 ≤ x6 ∧ x6 < 20) ∧ (if 1000000 ≤ I ((R 61 4) + 1 + (x4).toNat) (x6).toNat then (0 ≤ x3 ∧ x3 < 10) ∧ (0 ≤ x4 ∧ x4 < 21) ∧ (zr (x4 + 1)) ∧ XVs d 77 45 [some (.inr 61), some (.inl x1), some (.inl x2), some (.inl x3), some (.inl (x4 + 1)), some (.inl x5), some (.inl x6)] [] n sh R (zup I (64 + 1 + (x3).toNat) (x4).toNat x5) Q else (zr (x3 - 1)) ∧ (0 ≤ (x3 - 1) ∧ (x3 - 1) < 10) ∧ (zr (x6 + 1)) ∧ (0 ≤ (x6 + 1) ∧ (x6 + 1) < 21) ∧ (zr (I ((R 61 4) + 1 + (x4).toNat) (x6).toNat + I (64 + 1 + (x3 - 1).toNat) (x6 + 1).toNat)) ∧ XVs d 77 59 [some (.inr 61), some (.inl x1), some (.inl x2), some (.inl x3), some (.inl x4), some (.inl (if (I ((R 61 4) + 1 + (x4).toNat) (x6).toNat + I (64 + 1 + (x3 - 1).toNat) (x6 + 1).toNat) < x5 then (I ((R 61 4) + 1 + (x4).toNat) (x6).toNat + I (64 + 1 + (x3 - 1).toNat) (x6 + 1).toNat) else x5)), some (.inl (x6 + 1))] [] n sh R I Q))) : XVs d 77 59 [some (.inr 61), some (.inl x1), some (.inl x2), some (.inl x3), some (.inl x4), some (.inl x5), some (.inl x6)] [] n sh R I Q := by
  unfold XVs
  refine x_iload d77_59 rfl ?_
  refine x_iload_n d77_61 rfl ?_
  refine x_if2 (pc2 := 117) d77_62 rfl (fun c => ?_) (fun c => ?_)
  · replace c : x2 ≤ x6 := c
    rw [if_pos c] at k
    refine x_aload_n d77_117 rfl ?_
    refine x_getR (r := 64) d77_118 gY_77.2.2.2 gF_8_20 rfl (sh_61 hW) (rf_61_3 hW) (by decide) ?_
    refine x_iload_n d77_121 rfl ?_
    have e2 := k.1
    replace k := k.2
    have hj1 := (Kn_64 hW).2.1 (x3).toNat (by omega)
    refine x_aald (q := (64 + 1 + (x3).toNat)) d77_122 (Kn_64 hW).1 e2.1 e2.2 hj1.1 (by omega) ?_
    refine x_iload d77_123 rfl ?_
    refine x_iload d77_125 rfl ?_
    have e3 := k.1
    replace k := k.2
    refine x_iast d77_127 hj1.2 e3.1 e3.2 ?_
    have e4 := k.1
    replace k := k.2
    refine x_iinc (ls2 := [some (.inr 61), some (.inl x1), some (.inl x2), some (.inl x3), some (.inl (x4 + 1)), some (.inl x5), some (.inl x6)]) d77_128 rfl e4 rfl ?_
    refine x_goto (pc2 := 45) d77_131 rfl ?_
    exact k
  · replace c : ¬ (x2 ≤ x6) := c
    rw [if_neg c] at k
    refine x_aload_n d77_65 rfl ?_
    refine x_getR (r := (R 61 4)) d77_66 gY_77.2.2.2 gF_8_23 rfl (sh_61 hW) rfl hKn.2.2 ?_
    refine x_iload d77_69 rfl ?_
    have e6 := k.1
    replace k := k.2
    have hj5 := hKn.2.1 (x4).toNat (by omega)
    refine x_aald (q := ((R 61 4) + 1 + (x4).toNat)) d77_71 hKn.1 e6.1 e6.2 hj5.1 (by omega) ?_
    refine x_iload d77_72 rfl ?_
    have e7 := k.1
    replace k := k.2
    refine x_iald d77_74 hj5.2 e7.1 e7.2 ?_
    refine x_ldc d77_75 gY_77.2.2.2 gK_8_41 rfl ?_
    refine x_if2 (pc2 := 117) d77_77 rfl (fun c => ?_) (fun c => ?_)
    · replace c : 1000000 ≤ I ((R 61 4) + 1 + (x4).toNat) (x6).toNat := c
      rw [if_pos c] at k
      refine x_aload_n d77_117 rfl ?_
      refine x_getR (r := 64) d77_118 gY_77.2.2.2 gF_8_20 rfl (sh_61 hW) (rf_61_3 hW) (by decide) ?_
      refine x_iload_n d77_121 rfl ?_
      have e9 := k.1
      replace k := k.2
      have hj8 := (Kn_64 hW).2.1 (x3).toNat (by omega)
      refine x_aald (q := (64 + 1 + (x3).toNat)) d77_122 (Kn_64 hW).1 e9.1 e9.2 hj8.1 (by omega) ?_
      refine x_iload d77_123 rfl ?_
      refine x_iload d77_125 rfl ?_
      have e10 := k.1
      replace k := k.2
      refine x_iast d77_127 hj8.2 e10.1 e10.2 ?_
      have e11 := k.1
      replace k := k.2
      refine x_iinc (ls2 := [some (.inr 61), some (.inl x1), some (.inl x2), some (.inl x3), some (.inl (x4 + 1)), some (.inl x5), some (.inl x6)]) d77_128 rfl e11 rfl ?_
      refine x_goto (pc2 := 45) d77_131 rfl ?_
      exact k
    · replace c : ¬ (1000000 ≤ I ((R 61 4) + 1 + (x4).toNat) (x6).toNat) := c
      rw [if_neg c] at k
      refine x_iload d77_80 rfl ?_
      refine x_aload_n d77_82 rfl ?_
      refine x_getR (r := (R 61 4)) d77_83 gY_77.2.2.2 gF_8_23 rfl (sh_61 hW) rfl hKn.2.2 ?_
      refine x_iload d77_86 rfl ?_
      have hj12 := hKn.2.1 (x4).toNat (by omega)
      refine x_aald (q := ((R 61 4) + 1 + (x4).toNat)) d77_88 hKn.1 e6.1 e6.2 hj12.1 (by omega) ?_
      refine x_iload d77_89 rfl ?_
      refine x_iald d77_91 hj12.2 e7.1 e7.2 ?_
      refine x_aload_n d77_92 rfl ?_
      refine x_getR (r := 64) d77_93 gY_77.2.2.2 gF_8_20 rfl (sh_61 hW) (rf_61_3 hW) (by decide) ?_
      refine x_iload_n d77_96 rfl ?_
      refine x_iconst d77_97 rfl ?_
      have e13 := k.1
      replace k := k.2
      refine x_isub d77_98 e13 ?_
      have e15 := k.1
      replace k := k.2
      have hj14 := (Kn_64 hW).2.1 (x3 - 1).toNat (by omega)
      refine x_aald (q := (64 + 1 + (x3 - 1).toNat)) d77_99 (Kn_64 hW).1 e15.1 e15.2 hj14.1 (by omega) ?_
      refine x_iload d77_100 rfl ?_
      refine x_iconst d77_102 rfl ?_
      have e16 := k.1
      replace k := k.2
      refine x_iadd d77_103 e16 ?_
      have e17 := k.1
      replace k := k.2
      refine x_iald d77_104 hj14.2 e17.1 e17.2 ?_
      have e18 := k.1
      replace k := k.2
      refine x_iadd d77_105 e18 ?_
      refine x_min d77_106 gY_77.2.2.2 gM_8_69 (of_decide_eq_true rfl) ?_
      refine x_istore (ls2 := [some (.inr 61), some (.inl x1), some (.inl x2), some (.inl x3), some (.inl x4), some (.inl (if (I ((R 61 4) + 1 + (x4).toNat) (x6).toNat + I (64 + 1 + (x3 - 1).toNat) (x6 + 1).toNat) < x5 then (I ((R 61 4) + 1 + (x4).toNat) (x6).toNat + I (64 + 1 + (x3 - 1).toNat) (x6 + 1).toNat) else x5)), some (.inl x6)]) d77_109 rfl rfl ?_
      refine x_iinc (ls2 := [some (.inr 61), some (.inl x1), some (.inl x2), some (.inl x3), some (.inl x4), some (.inl (if (I ((R 61 4) + 1 + (x4).toNat) (x6).toNat + I (64 + 1 + (x3 - 1).toNat) (x6 + 1).toNat) < x5 then (I ((R 61 4) + 1 + (x4).toNat) (x6).toNat + I (64 + 1 + (x3 - 1).toNat) (x6 + 1).toNat) else x5)), some (.inl (x6 + 1))]) d77_111 rfl e16 rfl ?_
      refine x_goto (pc2 := 59) d77_114 rfl ?_
      exact k
set_option maxHeartbeats 4000000 in
theorem b_A_fewestHoles_0 {d n : Nat} {sh : ZS} {R : ZR} {I : ZI} {Q : Int → ZI → Prop} (hW : Wf sh R) {x1 : Int}
    (k : XIs d 78 4 [some (.inr 61), some (.inl x1), some (.inl 1), some (.inl 2)] [] n sh R I Q) : XI d 78 [.inr 61, .inl x1] n sh R I Q := by
  refine XI.of (ls := [some (.inr 61), some (.inl x1), none, none]) (zloc_eq gY_78.2.2.1) ?_
  unfold XIs
  refine x_iconst d78_0 rfl ?_
  refine x_istore_n (ls2 := [some (.inr 61), some (.inl x1), some (.inl 1), none]) d78_1 rfl rfl ?_
  refine x_iconst d78_2 rfl ?_
  refine x_istore_n (ls2 := [some (.inr 61), some (.inl x1), some (.inl 1), some (.inl 2)]) d78_3 rfl rfl ?_
  exact k
set_option maxHeartbeats 4000000 in
theorem b_A_fewestHoles_4 {d n : Nat} {sh : ZS} {R : ZR} {I : ZI} {Q : Int → ZI → Prop} (hW : Wf sh R) {x1 : Int} {x2 : Int} {x3 : Int}
    (k : (if I 15 0 < x3 then Q x2 I else (0 ≤ x3 ∧ x3 < 10) ∧ (0 ≤ x1 ∧ x1 < 21) ∧ (0 ≤ x2 ∧ x2 < 10) ∧ (if I (64 + 1 + (x2).toNat) (x1).toNat ≤ I (64 + 1 + (x3).toNat) (x1).toNat then (zr (x3 + 1)) ∧ XIs d 78 4 [some (.inr 61), some (.inl x1), some (.inl x2), some (.inl (x3 + 1))] [] n sh R I Q else (zr (x3 + 1)) ∧ XIs d 78 4 [some (.inr 61), some (.inl x1), some (.inl x3), some (.inl (x3 + 1))] [] n sh R I Q))) : XIs d 78 4 [some (.inr 61), some (.inl x1), some (.inl x2), some (.inl x3)] [] n sh R I Q := by
  unfold XIs
  refine x_iload_n d78_4 rfl ?_
  refine x_aload_n d78_5 rfl ?_
  refine x_getR (r := 15) d78_6 gY_78.2.2.2 gF_8_29 rfl (sh_61 hW) (rf_61_0 hW) (by decide) ?_
  refine x_getI d78_9 gY_78.2.2.2 gF_8_74 rfl (sh_15 hW) ?_
  refine x_if2 (pc2 := 42) d78_12 rfl (fun c => ?_) (fun c => ?_)
  · replace c : I 15 0 < x3 := c
    rw [if_pos c] at k
    refine x_iload_n d78_42 rfl ?_
    exact x_iret d78_43 gR_78 ⟨_, _, rfl, rfl, k⟩
  · replace c : ¬ (I 15 0 < x3) := c
    rw [if_neg c] at k
    refine x_aload_n d78_15 rfl ?_
    refine x_getR (r := 64) d78_16 gY_78.2.2.2 gF_8_20 rfl (sh_61 hW) (rf_61_3 hW) (by decide) ?_
    refine x_iload_n d78_19 rfl ?_
    have e2 := k.1
    replace k := k.2
    have hj1 := (Kn_64 hW).2.1 (x3).toNat (by omega)
    refine x_aald (q := (64 + 1 + (x3).toNat)) d78_20 (Kn_64 hW).1 e2.1 e2.2 hj1.1 (by omega) ?_
    refine x_iload_n d78_21 rfl ?_
    have e3 := k.1
    replace k := k.2
    refine x_iald d78_22 hj1.2 e3.1 e3.2 ?_
    refine x_aload_n d78_23 rfl ?_
    refine x_getR (r := 64) d78_24 gY_78.2.2.2 gF_8_20 rfl (sh_61 hW) (rf_61_3 hW) (by decide) ?_
    refine x_iload_n d78_27 rfl ?_
    have e5 := k.1
    replace k := k.2
    have hj4 := (Kn_64 hW).2.1 (x2).toNat (by omega)
    refine x_aald (q := (64 + 1 + (x2).toNat)) d78_28 (Kn_64 hW).1 e5.1 e5.2 hj4.1 (by omega) ?_
    refine x_iload_n d78_29 rfl ?_
    refine x_iald d78_30 hj4.2 e3.1 e3.2 ?_
    refine x_if2 (pc2 := 36) d78_31 rfl (fun c => ?_) (fun c => ?_)
    · replace c : I (64 + 1 + (x2).toNat) (x1).toNat ≤ I (64 + 1 + (x3).toNat) (x1).toNat := c
      rw [if_pos c] at k
      have e6 := k.1
      replace k := k.2
      refine x_iinc (ls2 := [some (.inr 61), some (.inl x1), some (.inl x2), some (.inl (x3 + 1))]) d78_36 rfl e6 rfl ?_
      refine x_goto (pc2 := 4) d78_39 rfl ?_
      exact k
    · replace c : ¬ (I (64 + 1 + (x2).toNat) (x1).toNat ≤ I (64 + 1 + (x3).toNat) (x1).toNat) := c
      rw [if_neg c] at k
      refine x_iload_n d78_34 rfl ?_
      refine x_istore_n (ls2 := [some (.inr 61), some (.inl x1), some (.inl x3), some (.inl x3)]) d78_35 rfl rfl ?_
      have e7 := k.1
      replace k := k.2
      refine x_iinc (ls2 := [some (.inr 61), some (.inl x1), some (.inl x3), some (.inl (x3 + 1))]) d78_36 rfl e7 rfl ?_
      refine x_goto (pc2 := 4) d78_39 rfl ?_
      exact k
set_option maxHeartbeats 4000000 in
theorem b_A_throwsWith_0 {d n : Nat} {sh : ZS} {R : ZR} {I : ZI} {Q : Int → ZI → Prop} (hW : Wf sh R) {x1 : Int} {x2 : Int}
    (k : (zr (x2 + 1)) ∧ (0 ≤ (x2 + 1) ∧ (x2 + 1) < 21) ∧ (0 ≤ x1 ∧ x1 < 21) ∧ (zr (I 62 (x2 + 1).toNat - I 62 (x1).toNat)) ∧ XI d 78 [.inr 61, .inl x1] n sh R I (fun v5 I6 => (0 ≤ v5 ∧ v5 < 10) ∧ (zr ((I 62 (x2 + 1).toNat - I 62 (x1).toNat) + I6 (64 + 1 + (v5).toNat) (x1).toNat)) ∧ Q (if ((I 62 (x2 + 1).toNat - I 62 (x1).toNat) + I6 (64 + 1 + (v5).toNat) (x1).toNat) < 1000000 then ((I 62 (x2 + 1).toNat - I 62 (x1).toNat) + I6 (64 + 1 + (v5).toNat) (x1).toNat) else 1000000) I6)) : XI (d + 1) 79 [.inr 61, .inl x1, .inl x2] n sh R I Q := by
  refine XI.of (ls := [some (.inr 61), some (.inl x1), some (.inl x2)]) (zloc_eq gY_79.2.2.1) ?_
  unfold XIs
  refine x_ldc d79_0 gY_79.2.2.2 gK_8_41 rfl ?_
  refine x_aload_n d79_2 rfl ?_
  refine x_iload_n d79_3 rfl ?_
  refine x_iload_n d79_4 rfl ?_
  refine y_inv (as := [.inl x1, .inl x2]) (t := [.inl 1000000]) (o := 61) (ls2 := [some (.inr 61), some (.inl x1), some (.inl x2)]) gY_75 d79_5 gY_79.2.2.2 gM_8_79 rfl (sh_61 hW) rfl rfl ?_
  refine x_aload_n d75_0 rfl ?_
  refine x_getR (r := 62) d75_1 gY_75.2.2.2 gF_8_9 rfl (sh_61 hW) (rf_61_1 hW) (by decide) ?_
  refine x_iload_n d75_4 rfl ?_
  refine x_iconst d75_5 rfl ?_
  have e1 := k.1
  replace k := k.2
  refine x_iadd d75_6 e1 ?_
  have e2 := k.1
  replace k := k.2
  refine x_iald d75_7 (sh_62 hW) e2.1 e2.2 ?_
  refine x_aload_n d75_8 rfl ?_
  refine x_getR (r := 62) d75_9 gY_75.2.2.2 gF_8_9 rfl (sh_61 hW) (rf_61_1 hW) (by decide) ?_
  refine x_iload_n d75_12 rfl ?_
  have e3 := k.1
  replace k := k.2
  refine x_iald d75_13 (sh_62 hW) e3.1 e3.2 ?_
  have e4 := k.1
  replace k := k.2
  refine x_isub d75_14 e4 ?_
  refine x_iret d75_15 gR_75 ?_
  show Ex (d + 1) 79 8 [some (.inr 61), some (.inl x1), some (.inl x2)] [.inl (I 62 (x2 + 1).toNat - I 62 (x1).toNat), .inl 1000000] (0, 0, n, sh, R, I) _
  refine x_aload_n d79_8 rfl ?_
  refine x_getR (r := 64) d79_9 gY_79.2.2.2 gF_8_20 rfl (sh_61 hW) (rf_61_3 hW) (by decide) ?_
  refine x_aload_n d79_12 rfl ?_
  refine x_iload_n d79_13 rfl ?_
  refine y_invI (as := [.inl x1]) (t := [.inr 64, .inl (I 62 (x2 + 1).toNat - I 62 (x1).toNat), .inl 1000000]) (o := 61) gY_78 d79_14 gY_79.2.2.2 gM_8_82 rfl (sh_61 hW) rfl k (fun v5 I6 k => ?_)
  have e8 := k.1
  replace k := k.2
  have hj7 := (Kn_64 hW).2.1 (v5).toNat (by omega)
  refine x_aald (q := (64 + 1 + (v5).toNat)) d79_17 (Kn_64 hW).1 e8.1 e8.2 hj7.1 (by omega) ?_
  refine x_iload_n d79_18 rfl ?_
  refine x_iald d79_19 hj7.2 e3.1 e3.2 ?_
  have e9 := k.1
  replace k := k.2
  refine x_iadd d79_20 e9 ?_
  refine x_min d79_21 gY_79.2.2.2 gM_8_69 (of_decide_eq_true rfl) ?_
  exact x_iret d79_24 gR_79 ⟨_, _, rfl, rfl, k⟩
set_option maxHeartbeats 4000000 in
theorem b_A_firstIn_0 {d n : Nat} {sh : ZS} {R : ZR} {I : ZI} {Q : Int → ZI → Prop} (hW : Wf sh R) {x1 : Int} {x2 : Int} {x3 : Int}
    (k : XI d 78 [.inr 61, .inl x1] n sh R I (fun v1 I2 => (if x3 < v1 then XIs (d + 1) 80 22 [some (.inr 61), some (.inl x1), some (.inl x2), some (.inl x3), some (.inl v1), some (.inl x1), some (.inl 0), none, none] [] n sh R I2 Q else Q (-2) I2))) : XI (d + 1) 80 [.inr 61, .inl x1, .inl x2, .inl x3] n sh R I Q := by
  refine XI.of (ls := [some (.inr 61), some (.inl x1), some (.inl x2), some (.inl x3), none, none, none, none, none]) (zloc_eq gY_80.2.2.1) ?_
  unfold XIs
  refine x_aload_n d80_0 rfl ?_
  refine x_iload_n d80_1 rfl ?_
  refine y_invI (as := [.inl x1]) (t := []) (o := 61) gY_78 d80_2 gY_80.2.2.2 gM_8_82 rfl (sh_61 hW) rfl k (fun v1 I2 k => ?_)
  refine x_istore (ls2 := [some (.inr 61), some (.inl x1), some (.inl x2), some (.inl x3), some (.inl v1), none, none, none, none]) d80_5 rfl rfl ?_
  refine x_iload_n d80_7 rfl ?_
  refine x_iload d80_8 rfl ?_
  refine x_if2 (pc2 := 16) d80_10 rfl (fun c => ?_) (fun c => ?_)
  · replace c : x3 < v1 := c
    rw [if_pos c] at k
    refine x_iload_n d80_16 rfl ?_
    refine x_istore (ls2 := [some (.inr 61), some (.inl x1), some (.inl x2), some (.inl x3), some (.inl v1), some (.inl x1), none, none, none]) d80_17 rfl rfl ?_
    refine x_iconst d80_19 rfl ?_
    refine x_istore (ls2 := [some (.inr 61), some (.inl x1), some (.inl x2), some (.inl x3), some (.inl v1), some (.inl x1), some (.inl 0), none, none]) d80_20 rfl rfl ?_
    exact k
  · replace c : ¬ (x3 < v1) := c
    rw [if_neg c] at k
    refine x_bipush d80_13 rfl ?_
    exact x_iret d80_15 gR_80 ⟨_, _, rfl, rfl, k⟩
set_option maxHeartbeats 4000000 in
theorem b_A_firstIn_22 {d n : Nat} {sh : ZS} {R : ZR} {I : ZI} {Q : Int → ZI → Prop} (hW : Wf sh R) {u1 : Option AV} {x2 : Int} {x3 : Int} {x4 : Int} {x5 : Int} {x6 : Int} {u7 : Option AV} {u8 : Option AV}
    (k : (if x3 ≤ x6 then Q x5 I else (zr (x4 - x6)) ∧ XIs (d + 1) 80 39 [some (.inr 61), u1, some (.inl x2), some (.inl x3), some (.inl x4), some (.inl x5), some (.inl x6), some (.inl (x4 - x6)), some (.inl x5)] [] n sh R I Q)) : XIs (d + 1) 80 22 [some (.inr 61), u1, some (.inl x2), some (.inl x3), some (.inl x4), some (.inl x5), some (.inl x6), u7, u8] [] n sh R I Q := by
  unfold XIs
  refine x_iload d80_22 rfl ?_
  refine x_iload_n d80_24 rfl ?_
  refine x_if2 (pc2 := 103) d80_25 rfl (fun c => ?_) (fun c => ?_)
  · replace c : x3 ≤ x6 := c
    rw [if_pos c] at k
    refine x_iload d80_103 rfl ?_
    exact x_iret d80_105 gR_80 ⟨_, _, rfl, rfl, k⟩
  · replace c : ¬ (x3 ≤ x6) := c
    rw [if_neg c] at k
    refine x_iload d80_28 rfl ?_
    refine x_iload d80_30 rfl ?_
    have e1 := k.1
    replace k := k.2
    refine x_isub d80_32 e1 ?_
    refine x_istore (ls2 := [some (.inr 61), u1, some (.inl x2), some (.inl x3), some (.inl x4), some (.inl x5), some (.inl x6), some (.inl (x4 - x6)), u8]) d80_33 rfl rfl ?_
    refine x_iload d80_35 rfl ?_
    refine x_istore (ls2 := [some (.inr 61), u1, some (.inl x2), some (.inl x3), some (.inl x4), some (.inl x5), some (.inl x6), some (.inl (x4 - x6)), some (.inl x5)]) d80_37 rfl rfl ?_
    exact k
set_option maxHeartbeats 4000000 in
theorem b_A_firstIn_39 {d n : Nat} {sh : ZS} {R : ZR} {I : ZI} {Q : Int → ZI → Prop} (hW : Wf sh R) (hKn : Kn sh R (R 61 4) 20 20) {u1 : Option AV} {x2 : Int} {x3 : Int} {x4 : Int} {x5 : Int} {x6 : Int} {x7 : Int} {x8 : Int}
    (k : (zr (x2 - 1)) ∧ (if (x2 - 1) ≤ x8 then (zr (x8 + 1)) ∧ (zr (x6 + 1)) ∧ XIs (d + 1) 80 22 [some (.inr 61), u1, some (.inl x2), some (.inl x3), some (.inl x4), some (.inl (x8 + 1)), some (.inl (x6 + 1)), some (.inl x7), some (.inl x8)] [] n sh R I Q else (0 ≤ x5 ∧ x5 < 20) ∧ (0 ≤ x8 ∧ x8 < 20) ∧ (zr (x7 - 1)) ∧ (0 ≤ (x7 - 1) ∧ (x7 - 1) < 10) ∧ (zr (x8 + 1)) ∧ (0 ≤ (x8 + 1) ∧ (x8 + 1) < 21) ∧ (zr (I ((R 61 4) + 1 + (x5).toNat) (x8).toNat + I (64 + 1 + (x7 - 1).toNat) (x8 + 1).toNat)) ∧ (0 ≤ x7 ∧ x7 < 10) ∧ (0 ≤ x5 ∧ x5 < 21) ∧ (if (I ((R 61 4) + 1 + (x5).toNat) (x8).toNat + I (64 + 1 + (x7 - 1).toNat) (x8 + 1).toNat) ≤ I (64 + 1 + (x7).toNat) (x5).toNat then (zr (x6 + 1)) ∧ XIs (d + 1) 80 22 [some (.inr 61), u1, some (.inl x2), some (.inl x3), some (.inl x4), some (.inl (x8 + 1)), some (.inl (x6 + 1)), some (.inl x7), some (.inl x8)] [] n sh R I Q else XIs (d + 1) 80 39 [some (.inr 61), u1, some (.inl x2), some (.inl x3), some (.inl x4), some (.inl x5), some (.inl x6), some (.inl x7), some (.inl (x8 + 1))] [] n sh R I Q))) : XIs (d + 1) 80 39 [some (.inr 61), u1, some (.inl x2), some (.inl x3), some (.inl x4), some (.inl x5), some (.inl x6), some (.inl x7), some (.inl x8)] [] n sh R I Q := by
  unfold XIs
  refine x_iload d80_39 rfl ?_
  refine x_iload_n d80_41 rfl ?_
  refine x_iconst d80_42 rfl ?_
  have e1 := k.1
  replace k := k.2
  refine x_isub d80_43 e1 ?_
  refine x_if2 (pc2 := 91) d80_44 rfl (fun c => ?_) (fun c => ?_)
  · replace c : (x2 - 1) ≤ x8 := c
    rw [if_pos c] at k
    refine x_iload d80_91 rfl ?_
    refine x_iconst d80_93 rfl ?_
    have e2 := k.1
    replace k := k.2
    refine x_iadd d80_94 e2 ?_
    refine x_istore (ls2 := [some (.inr 61), u1, some (.inl x2), some (.inl x3), some (.inl x4), some (.inl (x8 + 1)), some (.inl x6), some (.inl x7), some (.inl x8)]) d80_95 rfl rfl ?_
    have e3 := k.1
    replace k := k.2
    refine x_iinc (ls2 := [some (.inr 61), u1, some (.inl x2), some (.inl x3), some (.inl x4), some (.inl (x8 + 1)), some (.inl (x6 + 1)), some (.inl x7), some (.inl x8)]) d80_97 rfl e3 rfl ?_
    refine x_goto (pc2 := 22) d80_100 rfl ?_
    exact k
  · replace c : ¬ ((x2 - 1) ≤ x8) := c
    rw [if_neg c] at k
    refine x_aload_n d80_47 rfl ?_
    refine x_getR (r := (R 61 4)) d80_48 gY_80.2.2.2 gF_8_23 rfl (sh_61 hW) rfl hKn.2.2 ?_
    refine x_iload d80_51 rfl ?_
    have e5 := k.1
    replace k := k.2
    have hj4 := hKn.2.1 (x5).toNat (by omega)
    refine x_aald (q := ((R 61 4) + 1 + (x5).toNat)) d80_53 hKn.1 e5.1 e5.2 hj4.1 (by omega) ?_
    refine x_iload d80_54 rfl ?_
    have e6 := k.1
    replace k := k.2
    refine x_iald d80_56 hj4.2 e6.1 e6.2 ?_
    refine x_aload_n d80_57 rfl ?_
    refine x_getR (r := 64) d80_58 gY_80.2.2.2 gF_8_20 rfl (sh_61 hW) (rf_61_3 hW) (by decide) ?_
    refine x_iload d80_61 rfl ?_
    refine x_iconst d80_63 rfl ?_
    have e7 := k.1
    replace k := k.2
    refine x_isub d80_64 e7 ?_
    have e9 := k.1
    replace k := k.2
    have hj8 := (Kn_64 hW).2.1 (x7 - 1).toNat (by omega)
    refine x_aald (q := (64 + 1 + (x7 - 1).toNat)) d80_65 (Kn_64 hW).1 e9.1 e9.2 hj8.1 (by omega) ?_
    refine x_iload d80_66 rfl ?_
    refine x_iconst d80_68 rfl ?_
    have e10 := k.1
    replace k := k.2
    refine x_iadd d80_69 e10 ?_
    have e11 := k.1
    replace k := k.2
    refine x_iald d80_70 hj8.2 e11.1 e11.2 ?_
    have e12 := k.1
    replace k := k.2
    refine x_iadd d80_71 e12 ?_
    refine x_aload_n d80_72 rfl ?_
    refine x_getR (r := 64) d80_73 gY_80.2.2.2 gF_8_20 rfl (sh_61 hW) (rf_61_3 hW) (by decide) ?_
    refine x_iload d80_76 rfl ?_
    have e14 := k.1
    replace k := k.2
    have hj13 := (Kn_64 hW).2.1 (x7).toNat (by omega)
    refine x_aald (q := (64 + 1 + (x7).toNat)) d80_78 (Kn_64 hW).1 e14.1 e14.2 hj13.1 (by omega) ?_
    refine x_iload d80_79 rfl ?_
    have e15 := k.1
    replace k := k.2
    refine x_iald d80_81 hj13.2 e15.1 e15.2 ?_
    refine x_if2 (pc2 := 91) d80_82 rfl (fun c => ?_) (fun c => ?_)
    · replace c : (I ((R 61 4) + 1 + (x5).toNat) (x8).toNat + I (64 + 1 + (x7 - 1).toNat) (x8 + 1).toNat) ≤ I (64 + 1 + (x7).toNat) (x5).toNat := c
      rw [if_pos c] at k
      refine x_iload d80_91 rfl ?_
      refine x_iconst d80_93 rfl ?_
      refine x_iadd d80_94 e10 ?_
      refine x_istore (ls2 := [some (.inr 61), u1, some (.inl x2), some (.inl x3), some (.inl x4), some (.inl (x8 + 1)), some (.inl x6), some (.inl x7), some (.inl x8)]) d80_95 rfl rfl ?_
      have e16 := k.1
      replace k := k.2
      refine x_iinc (ls2 := [some (.inr 61), u1, some (.inl x2), some (.inl x3), some (.inl x4), some (.inl (x8 + 1)), some (.inl (x6 + 1)), some (.inl x7), some (.inl x8)]) d80_97 rfl e16 rfl ?_
      refine x_goto (pc2 := 22) d80_100 rfl ?_
      exact k
    · replace c : ¬ ((I ((R 61 4) + 1 + (x5).toNat) (x8).toNat + I (64 + 1 + (x7 - 1).toNat) (x8 + 1).toNat) ≤ I (64 + 1 + (x7).toNat) (x5).toNat) := c
      rw [if_neg c] at k
      refine x_iinc (ls2 := [some (.inr 61), u1, some (.inl x2), some (.inl x3), some (.inl x4), some (.inl x5), some (.inl x6), some (.inl x7), some (.inl (x8 + 1))]) d80_85 rfl e10 rfl ?_
      refine x_goto (pc2 := 39) d80_88 rfl ?_
      exact k
set_option maxHeartbeats 4000000 in
theorem b_T_append_0 {d n : Nat} {sh : ZS} {R : ZR} {I : ZI} {Q : ZI → Prop} (hW : Wf sh R) {x1 : Int}
    (k : XVs d 83 3 [some (.inr 2), some (.inl x1), some (.inl 24)] [] n sh R I Q) : XV d 83 [.inr 2, .inl x1] n sh R I Q := by
  refine XV.of (ls := [some (.inr 2), some (.inl x1), none]) (zloc_eq gY_83.2.2.1) ?_
  unfold XVs
  refine x_bipush d83_0 rfl ?_
  refine x_istore_n (ls2 := [some (.inr 2), some (.inl x1), some (.inl 24)]) d83_2 rfl rfl ?_
  exact k
set_option maxHeartbeats 4000000 in
theorem b_T_append_3 {d n : Nat} {sh : ZS} {R : ZR} {I : ZI} {Q : ZI → Prop} (hW : Wf sh R) {x1 : Int} {x2 : Int}
    (k : (if x2 < 0 then Q I else (if 220 ≤ I 2 1 then Q I else (0 ≤ I 2 1 ∧ I 2 1 < 220) ∧ (zr (I 2 1 + 1)) ∧ (zr (x2 + (-8))) ∧ XVs d 83 3 [some (.inr 2), some (.inl x1), some (.inl (x2 + (-8)))] [] n sh R (zup (zup I 3 (I 2 1).toNat (zand (zshr x1 x2) 255)) 2 1 (I 2 1 + 1)) Q))) : XVs d 83 3 [some (.inr 2), some (.inl x1), some (.inl x2)] [] n sh R I Q := by
  unfold XVs
  refine x_iload_n d83_3 rfl ?_
  refine x_if1 (pc2 := 49) d83_4 rfl (fun c => ?_) (fun c => ?_)
  · replace c : x2 < 0 := c
    rw [if_pos c] at k
    exact x_vret d83_49 gR_83 ⟨_, rfl, rfl, k⟩
  · replace c : ¬ (x2 < 0) := c
    rw [if_neg c] at k
    refine x_aload_n d83_7 rfl ?_
    refine x_getI d83_8 gY_83.2.2.2 gF_9_13 rfl (sh_2 hW) ?_
    refine x_sipush d83_11 rfl ?_
    refine x_if2 (pc2 := 49) d83_14 rfl (fun c => ?_) (fun c => ?_)
    · replace c : 220 ≤ I 2 1 := c
      rw [if_pos c] at k
      exact x_vret d83_49 gR_83 ⟨_, rfl, rfl, k⟩
    · replace c : ¬ (220 ≤ I 2 1) := c
      rw [if_neg c] at k
      refine x_aload_n d83_17 rfl ?_
      refine x_getR (r := 3) d83_18 gY_83.2.2.2 gF_9_9 rfl (sh_2 hW) (rf_2_0 hW) (by decide) ?_
      refine x_aload_n d83_21 rfl ?_
      refine x_getI d83_22 gY_83.2.2.2 gF_9_13 rfl (sh_2 hW) ?_
      refine x_iload_n d83_25 rfl ?_
      refine x_iload_n d83_26 rfl ?_
      refine x_ishr d83_27 ?_
      refine x_sipush d83_28 rfl ?_
      refine x_iand d83_31 ?_
      have e1 := k.1
      replace k := k.2
      refine x_iast d83_32 (sh_3 hW) e1.1 e1.2 ?_
      refine x_aload_n d83_33 rfl ?_
      refine x_dup d83_34 ?_
      refine x_getI d83_35 gY_83.2.2.2 gF_9_13 rfl (sh_2 hW) ?_
      refine x_iconst d83_38 rfl ?_
      have e2 := k.1
      replace k := k.2
      refine x_iadd d83_39 e2 ?_
      refine x_putI d83_40 gY_83.2.2.2 gF_9_13 rfl rfl (sh_2 hW) ?_
      have e3 := k.1
      replace k := k.2
      refine x_iinc (ls2 := [some (.inr 2), some (.inl x1), some (.inl (x2 + (-8)))]) d83_43 rfl e3 rfl ?_
      refine x_goto (pc2 := 3) d83_46 rfl ?_
      exact k
set_option maxHeartbeats 4000000 in
theorem b_T_numberAt_0 {d n : Nat} {sh : ZS} {R : ZR} {I : ZI} {Q : Int → ZI → Prop} (hW : Wf sh R) {x1 : Int}
    (k : (zr (4 * x1)) ∧ XIs (d + 1) 85 6 [some (.inr 2), some (.inl x1), some (.inl 0), some (.inl (4 * x1))] [] n sh R I Q) : XI (d + 1) 85 [.inr 2, .inl x1] n sh R I Q := by
  refine XI.of (ls := [some (.inr 2), some (.inl x1), none, none]) (zloc_eq gY_85.2.2.1) ?_
  unfold XIs
  refine x_iconst d85_0 rfl ?_
  refine x_istore_n (ls2 := [some (.inr 2), some (.inl x1), some (.inl 0), none]) d85_1 rfl rfl ?_
  refine x_iconst d85_2 rfl ?_
  refine x_iload_n d85_3 rfl ?_
  have e1 := k.1
  replace k := k.2
  refine x_imul d85_4 e1 ?_
  refine x_istore_n (ls2 := [some (.inr 2), some (.inl x1), some (.inl 0), some (.inl (4 * x1))]) d85_5 rfl rfl ?_
  exact k
set_option maxHeartbeats 4000000 in
theorem b_T_numberAt_6 {d n : Nat} {sh : ZS} {R : ZR} {I : ZI} {Q : Int → ZI → Prop} (hW : Wf sh R) {x1 : Int} {x2 : Int} {x3 : Int}
    (k : (zr (4 * x1)) ∧ (zr ((4 * x1) + 4)) ∧ (if ((4 * x1) + 4) ≤ x3 then Q x2 I else (if x3 < 0 then (zr (x3 + 1)) ∧ XIs (d + 1) 85 6 [some (.inr 2), some (.inl x1), some (.inl (zor (zshl x2 8) (zand (-1) 255))), some (.inl (x3 + 1))] [] n sh R I Q else (if I 2 1 ≤ x3 then (zr (x3 + 1)) ∧ XIs (d + 1) 85 6 [some (.inr 2), some (.inl x1), some (.inl (zor (zshl x2 8) (zand (-1) 255))), some (.inl (x3 + 1))] [] n sh R I Q else (0 ≤ x3 ∧ x3 < 220) ∧ (zr (x3 + 1)) ∧ XIs (d + 1) 85 6 [some (.inr 2), some (.inl x1), some (.inl (zor (zshl x2 8) (zand (I 3 (x3).toNat) 255))), some (.inl (x3 + 1))] [] n sh R I Q)))) : XIs (d + 1) 85 6 [some (.inr 2), some (.inl x1), some (.inl x2), some (.inl x3)] [] n sh R I Q := by
  unfold XIs
  refine x_iload_n d85_6 rfl ?_
  refine x_iconst d85_7 rfl ?_
  refine x_iload_n d85_8 rfl ?_
  have e1 := k.1
  replace k := k.2
  refine x_imul d85_9 e1 ?_
  refine x_iconst d85_10 rfl ?_
  have e2 := k.1
  replace k := k.2
  refine x_iadd d85_11 e2 ?_
  refine x_if2 (pc2 := 36) d85_12 rfl (fun c => ?_) (fun c => ?_)
  · replace c : ((4 * x1) + 4) ≤ x3 := c
    rw [if_pos c] at k
    refine x_iload_n d85_36 rfl ?_
    exact x_iret d85_37 gR_85 ⟨_, _, rfl, rfl, k⟩
  · replace c : ¬ (((4 * x1) + 4) ≤ x3) := c
    rw [if_neg c] at k
    refine x_iload_n d85_15 rfl ?_
    refine x_bipush d85_16 rfl ?_
    refine x_ishl d85_18 ?_
    refine x_aload_n d85_19 rfl ?_
    refine x_iload_n d85_20 rfl ?_
    refine y_inv (as := [.inl x3]) (t := [.inl (zshl x2 8)]) (o := 2) (ls2 := [some (.inr 2), some (.inl x3)]) gY_84 d85_21 gY_85.2.2.2 gM_9_17 rfl (sh_2 hW) rfl rfl ?_
    refine x_iload_n d84_0 rfl ?_
    refine x_if1 (pc2 := 21) d84_1 rfl (fun c => ?_) (fun c => ?_)
    · replace c : x3 < 0 := c
      rw [if_pos c] at k
      refine x_iconst d84_21 rfl ?_
      refine x_iret d84_22 gR_84 ?_
      show Ex (d + 1) 85 24 [some (.inr 2), some (.inl x1), some (.inl x2), some (.inl x3)] [.inl (-1), .inl (zshl x2 8)] (0, 0, n, sh, R, I) _
      refine x_sipush d85_24 rfl ?_
      refine x_iand d85_27 ?_
      refine x_ior d85_28 ?_
      refine x_istore_n (ls2 := [some (.inr 2), some (.inl x1), some (.inl (zor (zshl x2 8) (zand (-1) 255))), some (.inl x3)]) d85_29 rfl rfl ?_
      have e3 := k.1
      replace k := k.2
      refine x_iinc (ls2 := [some (.inr 2), some (.inl x1), some (.inl (zor (zshl x2 8) (zand (-1) 255))), some (.inl (x3 + 1))]) d85_30 rfl e3 rfl ?_
      refine x_goto (pc2 := 6) d85_33 rfl ?_
      exact k
    · replace c : ¬ (x3 < 0) := c
      rw [if_neg c] at k
      refine x_iload_n d84_4 rfl ?_
      refine x_aload_n d84_5 rfl ?_
      refine x_getI d84_6 gY_84.2.2.2 gF_9_13 rfl (sh_2 hW) ?_
      refine x_if2 (pc2 := 21) d84_9 rfl (fun c => ?_) (fun c => ?_)
      · replace c : I 2 1 ≤ x3 := c
        rw [if_pos c] at k
        refine x_iconst d84_21 rfl ?_
        refine x_iret d84_22 gR_84 ?_
        show Ex (d + 1) 85 24 [some (.inr 2), some (.inl x1), some (.inl x2), some (.inl x3)] [.inl (-1), .inl (zshl x2 8)] (0, 0, n, sh, R, I) _
        refine x_sipush d85_24 rfl ?_
        refine x_iand d85_27 ?_
        refine x_ior d85_28 ?_
        refine x_istore_n (ls2 := [some (.inr 2), some (.inl x1), some (.inl (zor (zshl x2 8) (zand (-1) 255))), some (.inl x3)]) d85_29 rfl rfl ?_
        have e4 := k.1
        replace k := k.2
        refine x_iinc (ls2 := [some (.inr 2), some (.inl x1), some (.inl (zor (zshl x2 8) (zand (-1) 255))), some (.inl (x3 + 1))]) d85_30 rfl e4 rfl ?_
        refine x_goto (pc2 := 6) d85_33 rfl ?_
        exact k
      · replace c : ¬ (I 2 1 ≤ x3) := c
        rw [if_neg c] at k
        refine x_aload_n d84_12 rfl ?_
        refine x_getR (r := 3) d84_13 gY_84.2.2.2 gF_9_9 rfl (sh_2 hW) (rf_2_0 hW) (by decide) ?_
        refine x_iload_n d84_16 rfl ?_
        have e5 := k.1
        replace k := k.2
        refine x_iald d84_17 (sh_3 hW) e5.1 e5.2 ?_
        refine x_goto (pc2 := 22) d84_18 rfl ?_
        refine x_iret d84_22 gR_84 ?_
        show Ex (d + 1) 85 24 [some (.inr 2), some (.inl x1), some (.inl x2), some (.inl x3)] [.inl (I 3 (x3).toNat), .inl (zshl x2 8)] (0, 0, n, sh, R, I) _
        refine x_sipush d85_24 rfl ?_
        refine x_iand d85_27 ?_
        refine x_ior d85_28 ?_
        refine x_istore_n (ls2 := [some (.inr 2), some (.inl x1), some (.inl (zor (zshl x2 8) (zand (I 3 (x3).toNat) 255))), some (.inl x3)]) d85_29 rfl rfl ?_
        have e6 := k.1
        replace k := k.2
        refine x_iinc (ls2 := [some (.inr 2), some (.inl x1), some (.inl (zor (zshl x2 8) (zand (I 3 (x3).toNat) 255))), some (.inl (x3 + 1))]) d85_30 rfl e6 rfl ?_
        refine x_goto (pc2 := 6) d85_33 rfl ?_
        exact k
set_option maxHeartbeats 4000000 in
theorem b_T_tells_0 {d n : Nat} {sh : ZS} {R : ZR} {I : ZI} {Q : Int → ZI → Prop} (hW : Wf sh R) {s1 : Nat} (hS1 : St sh R s1)
    (k : XIs (d + 1) 86 2 [some (.inr 2), some (.inr s1), some (.inl 0)] [] n sh R I Q) : XI (d + 1) 86 [.inr 2, .inr s1] n sh R I Q := by
  refine XI.of (ls := [some (.inr 2), some (.inr s1), none]) (zloc_eq gY_86.2.2.1) ?_
  unfold XIs
  refine x_iconst d86_0 rfl ?_
  refine x_istore_n (ls2 := [some (.inr 2), some (.inr s1), some (.inl 0)]) d86_1 rfl rfl ?_
  exact k
set_option maxHeartbeats 4000000 in
theorem b_T_tells_2 {d n : Nat} {sh : ZS} {R : ZR} {I : ZI} {Q : Int → ZI → Prop} (hW : Wf sh R) {s1 : Nat} (hS1 : St sh R s1) {x2 : Int}
    (k : (if I s1 6 ≤ x2 then Q 1 I else (if x2 < 0 then (0 ≤ x2 ∧ x2 < 32) ∧ (if (-1) = I (s1 + 5) (x2).toNat then (zr (x2 + 1)) ∧ XIs (d + 1) 86 2 [some (.inr 2), some (.inr s1), some (.inl (x2 + 1))] [] n sh R I Q else Q 0 I) else (if I 2 1 ≤ x2 then (0 ≤ x2 ∧ x2 < 32) ∧ (if (-1) = I (s1 + 5) (x2).toNat then (zr (x2 + 1)) ∧ XIs (d + 1) 86 2 [some (.inr 2), some (.inr s1), some (.inl (x2 + 1))] [] n sh R I Q else Q 0 I) else (0 ≤ x2 ∧ x2 < 220) ∧ (0 ≤ x2 ∧ x2 < 32) ∧ (if I 3 (x2).toNat = I (s1 + 5) (x2).toNat then (zr (x2 + 1)) ∧ XIs (d + 1) 86 2 [some (.inr 2), some (.inr s1), some (.inl (x2 + 1))] [] n sh R I Q else Q 0 I))))) : XIs (d + 1) 86 2 [some (.inr 2), some (.inr s1), some (.inl x2)] [] n sh R I Q := by
  unfold XIs
  refine x_iload_n d86_2 rfl ?_
  refine x_aload_n d86_3 rfl ?_
  refine x_getI d86_4 gY_86.2.2.2 gF_9_21 rfl hS1.1 ?_
  refine x_if2 (pc2 := 32) d86_7 rfl (fun c => ?_) (fun c => ?_)
  · replace c : I s1 6 ≤ x2 := c
    rw [if_pos c] at k
    refine x_iconst d86_32 rfl ?_
    exact x_zret d86_33 gR_86 (by decide) ⟨_, _, rfl, rfl, k⟩
  · replace c : ¬ (I s1 6 ≤ x2) := c
    rw [if_neg c] at k
    refine x_aload_n d86_10 rfl ?_
    refine x_iload_n d86_11 rfl ?_
    refine y_inv (as := [.inl x2]) (t := []) (o := 2) (ls2 := [some (.inr 2), some (.inl x2)]) gY_84 d86_12 gY_86.2.2.2 gM_9_17 rfl (sh_2 hW) rfl rfl ?_
    refine x_iload_n d84_0 rfl ?_
    refine x_if1 (pc2 := 21) d84_1 rfl (fun c => ?_) (fun c => ?_)
    · replace c : x2 < 0 := c
      rw [if_pos c] at k
      refine x_iconst d84_21 rfl ?_
      refine x_iret d84_22 gR_84 ?_
      show Ex (d + 1) 86 15 [some (.inr 2), some (.inr s1), some (.inl x2)] [.inl (-1)] (0, 0, n, sh, R, I) _
      refine x_aload_n d86_15 rfl ?_
      refine x_getR (r := (s1 + 5)) d86_16 gY_86.2.2.2 gF_9_24 rfl hS1.1 hS1.2.2.2.2.2.2.2.2.2.2 (Nat.succ_ne_zero _) ?_
      refine x_iload_n d86_19 rfl ?_
      have e1 := k.1
      replace k := k.2
      refine x_iald d86_20 hS1.2.2.2.2.2.1 e1.1 e1.2 ?_
      refine x_if2 (pc2 := 26) d86_21 rfl (fun c => ?_) (fun c => ?_)
      · replace c : (-1) = I (s1 + 5) (x2).toNat := c
        rw [if_pos c] at k
        have e2 := k.1
        replace k := k.2
        refine x_iinc (ls2 := [some (.inr 2), some (.inr s1), some (.inl (x2 + 1))]) d86_26 rfl e2 rfl ?_
        refine x_goto (pc2 := 2) d86_29 rfl ?_
        exact k
      · replace c : ¬ ((-1) = I (s1 + 5) (x2).toNat) := c
        rw [if_neg c] at k
        refine x_iconst d86_24 rfl ?_
        exact x_zret d86_25 gR_86 (by decide) ⟨_, _, rfl, rfl, k⟩
    · replace c : ¬ (x2 < 0) := c
      rw [if_neg c] at k
      refine x_iload_n d84_4 rfl ?_
      refine x_aload_n d84_5 rfl ?_
      refine x_getI d84_6 gY_84.2.2.2 gF_9_13 rfl (sh_2 hW) ?_
      refine x_if2 (pc2 := 21) d84_9 rfl (fun c => ?_) (fun c => ?_)
      · replace c : I 2 1 ≤ x2 := c
        rw [if_pos c] at k
        refine x_iconst d84_21 rfl ?_
        refine x_iret d84_22 gR_84 ?_
        show Ex (d + 1) 86 15 [some (.inr 2), some (.inr s1), some (.inl x2)] [.inl (-1)] (0, 0, n, sh, R, I) _
        refine x_aload_n d86_15 rfl ?_
        refine x_getR (r := (s1 + 5)) d86_16 gY_86.2.2.2 gF_9_24 rfl hS1.1 hS1.2.2.2.2.2.2.2.2.2.2 (Nat.succ_ne_zero _) ?_
        refine x_iload_n d86_19 rfl ?_
        have e3 := k.1
        replace k := k.2
        refine x_iald d86_20 hS1.2.2.2.2.2.1 e3.1 e3.2 ?_
        refine x_if2 (pc2 := 26) d86_21 rfl (fun c => ?_) (fun c => ?_)
        · replace c : (-1) = I (s1 + 5) (x2).toNat := c
          rw [if_pos c] at k
          have e4 := k.1
          replace k := k.2
          refine x_iinc (ls2 := [some (.inr 2), some (.inr s1), some (.inl (x2 + 1))]) d86_26 rfl e4 rfl ?_
          refine x_goto (pc2 := 2) d86_29 rfl ?_
          exact k
        · replace c : ¬ ((-1) = I (s1 + 5) (x2).toNat) := c
          rw [if_neg c] at k
          refine x_iconst d86_24 rfl ?_
          exact x_zret d86_25 gR_86 (by decide) ⟨_, _, rfl, rfl, k⟩
      · replace c : ¬ (I 2 1 ≤ x2) := c
        rw [if_neg c] at k
        refine x_aload_n d84_12 rfl ?_
        refine x_getR (r := 3) d84_13 gY_84.2.2.2 gF_9_9 rfl (sh_2 hW) (rf_2_0 hW) (by decide) ?_
        refine x_iload_n d84_16 rfl ?_
        have e5 := k.1
        replace k := k.2
        refine x_iald d84_17 (sh_3 hW) e5.1 e5.2 ?_
        refine x_goto (pc2 := 22) d84_18 rfl ?_
        refine x_iret d84_22 gR_84 ?_
        show Ex (d + 1) 86 15 [some (.inr 2), some (.inr s1), some (.inl x2)] [.inl (I 3 (x2).toNat)] (0, 0, n, sh, R, I) _
        refine x_aload_n d86_15 rfl ?_
        refine x_getR (r := (s1 + 5)) d86_16 gY_86.2.2.2 gF_9_24 rfl hS1.1 hS1.2.2.2.2.2.2.2.2.2.2 (Nat.succ_ne_zero _) ?_
        refine x_iload_n d86_19 rfl ?_
        have e6 := k.1
        replace k := k.2
        refine x_iald d86_20 hS1.2.2.2.2.2.1 e6.1 e6.2 ?_
        refine x_if2 (pc2 := 26) d86_21 rfl (fun c => ?_) (fun c => ?_)
        · replace c : I 3 (x2).toNat = I (s1 + 5) (x2).toNat := c
          rw [if_pos c] at k
          have e7 := k.1
          replace k := k.2
          refine x_iinc (ls2 := [some (.inr 2), some (.inr s1), some (.inl (x2 + 1))]) d86_26 rfl e7 rfl ?_
          refine x_goto (pc2 := 2) d86_29 rfl ?_
          exact k
        · replace c : ¬ (I 3 (x2).toNat = I (s1 + 5) (x2).toNat) := c
          rw [if_neg c] at k
          refine x_iconst d86_24 rfl ?_
          exact x_zret d86_25 gR_86 (by decide) ⟨_, _, rfl, rfl, k⟩
set_option maxHeartbeats 4000000 in
theorem b_T_tellsEachOf_0 {d n : Nat} {sh : ZS} {R : ZR} {I : ZI} {Q : Int → ZI → Prop} (hW : Wf sh R) {s1 : Nat} (hS1 : St sh R s1)
    (k : XIs (d + 1) 87 4 [some (.inr 2), some (.inr s1), some (.inl 0), some (.inl 0), none] [] n sh R I Q) : XI (d + 1) 87 [.inr 2, .inr s1] n sh R I Q := by
  refine XI.of (ls := [some (.inr 2), some (.inr s1), none, none, none]) (zloc_eq gY_87.2.2.1) ?_
  unfold XIs
  refine x_iconst d87_0 rfl ?_
  refine x_istore_n (ls2 := [some (.inr 2), some (.inr s1), some (.inl 0), none, none]) d87_1 rfl rfl ?_
  refine x_iconst d87_2 rfl ?_
  refine x_istore_n (ls2 := [some (.inr 2), some (.inr s1), some (.inl 0), some (.inl 0), none]) d87_3 rfl rfl ?_
  exact k
set_option maxHeartbeats 4000000 in
theorem b_T_tellsEachOf_4 {d n : Nat} {sh : ZS} {R : ZR} {I : ZI} {Q : Int → ZI → Prop} (hW : Wf sh R) {s1 : Nat} (hS1 : St sh R s1) {x2 : Int} {x3 : Int} {u4 : Option AV}
    (k : (if I s1 6 ≤ x3 then Q 1 I else (if x3 < 0 then XI d 66 [.inr s1, .inl (-1)] n sh R I (fun v1 I2 => (if v1 < 0 then Q 0 I2 else (if (zand (zshr x2 (-1)) 1) = 0 then (zr (x3 + 1)) ∧ XIs (d + 1) 87 4 [some (.inr 2), some (.inr s1), some (.inl (zor x2 (zshl 1 (-1)))), some (.inl (x3 + 1)), some (.inl (-1))] [] n sh R I2 Q else Q 0 I2))) else (if I 2 1 ≤ x3 then XI d 66 [.inr s1, .inl (-1)] n sh R I (fun v4 I5 => (if v4 < 0 then Q 0 I5 else (if (zand (zshr x2 (-1)) 1) = 0 then (zr (x3 + 1)) ∧ XIs (d + 1) 87 4 [some (.inr 2), some (.inr s1), some (.inl (zor x2 (zshl 1 (-1)))), some (.inl (x3 + 1)), some (.inl (-1))] [] n sh R I5 Q else Q 0 I5))) else (0 ≤ x3 ∧ x3 < 220) ∧ XI d 66 [.inr s1, .inl (I 3 (x3).toNat)] n sh R I (fun v8 I9 => (if v8 < 0 then Q 0 I9 else (if (zand (zshr x2 (I 3 (x3).toNat)) 1) = 0 then (zr (x3 + 1)) ∧ XIs (d + 1) 87 4 [some (.inr 2), some (.inr s1), some (.inl (zor x2 (zshl 1 (I 3 (x3).toNat)))), some (.inl (x3 + 1)), some (.inl (I 3 (x3).toNat))] [] n sh R I9 Q else Q 0 I9))))))) : XIs (d + 1) 87 4 [some (.inr 2), some (.inr s1), some (.inl x2), some (.inl x3), u4] [] n sh R I Q := by
  unfold XIs
  refine x_iload_n d87_4 rfl ?_
  refine x_aload_n d87_5 rfl ?_
  refine x_getI d87_6 gY_87.2.2.2 gF_9_21 rfl hS1.1 ?_
  refine x_if2 (pc2 := 52) d87_9 rfl (fun c => ?_) (fun c => ?_)
  · replace c : I s1 6 ≤ x3 := c
    rw [if_pos c] at k
    refine x_iconst d87_52 rfl ?_
    exact x_zret d87_53 gR_87 (by decide) ⟨_, _, rfl, rfl, k⟩
  · replace c : ¬ (I s1 6 ≤ x3) := c
    rw [if_neg c] at k
    refine x_aload_n d87_12 rfl ?_
    refine x_iload_n d87_13 rfl ?_
    refine y_inv (as := [.inl x3]) (t := []) (o := 2) (ls2 := [some (.inr 2), some (.inl x3)]) gY_84 d87_14 gY_87.2.2.2 gM_9_17 rfl (sh_2 hW) rfl rfl ?_
    refine x_iload_n d84_0 rfl ?_
    refine x_if1 (pc2 := 21) d84_1 rfl (fun c => ?_) (fun c => ?_)
    · replace c : x3 < 0 := c
      rw [if_pos c] at k
      refine x_iconst d84_21 rfl ?_
      refine x_iret d84_22 gR_84 ?_
      show Ex (d + 1) 87 17 [some (.inr 2), some (.inr s1), some (.inl x2), some (.inl x3), u4] [.inl (-1)] (0, 0, n, sh, R, I) _
      refine x_istore (ls2 := [some (.inr 2), some (.inr s1), some (.inl x2), some (.inl x3), some (.inl (-1))]) d87_17 rfl rfl ?_
      refine x_aload_n d87_19 rfl ?_
      refine x_iload d87_20 rfl ?_
      refine y_invI (as := [.inl (-1)]) (t := []) (o := s1) gY_66 d87_22 gY_87.2.2.2 gM_9_27 rfl hS1.1 rfl k (fun v1 I2 k => ?_)
      refine x_if1 (pc2 := 37) d87_25 rfl (fun c => ?_) (fun c => ?_)
      · replace c : v1 < 0 := c
        rw [if_pos c] at k
        refine x_iconst d87_37 rfl ?_
        exact x_zret d87_38 gR_87 (by decide) ⟨_, _, rfl, rfl, k⟩
      · replace c : ¬ (v1 < 0) := c
        rw [if_neg c] at k
        refine x_iload_n d87_28 rfl ?_
        refine x_iload d87_29 rfl ?_
        refine x_ishr d87_31 ?_
        refine x_iconst d87_32 rfl ?_
        refine x_iand d87_33 ?_
        refine x_if1 (pc2 := 39) d87_34 rfl (fun c => ?_) (fun c => ?_)
        · replace c : (zand (zshr x2 (-1)) 1) = 0 := c
          rw [if_pos c] at k
          refine x_iload_n d87_39 rfl ?_
          refine x_iconst d87_40 rfl ?_
          refine x_iload d87_41 rfl ?_
          refine x_ishl d87_43 ?_
          refine x_ior d87_44 ?_
          refine x_istore_n (ls2 := [some (.inr 2), some (.inr s1), some (.inl (zor x2 (zshl 1 (-1)))), some (.inl x3), some (.inl (-1))]) d87_45 rfl rfl ?_
          have e3 := k.1
          replace k := k.2
          refine x_iinc (ls2 := [some (.inr 2), some (.inr s1), some (.inl (zor x2 (zshl 1 (-1)))), some (.inl (x3 + 1)), some (.inl (-1))]) d87_46 rfl e3 rfl ?_
          refine x_goto (pc2 := 4) d87_49 rfl ?_
          exact k
        · replace c : ¬ ((zand (zshr x2 (-1)) 1) = 0) := c
          rw [if_neg c] at k
          refine x_iconst d87_37 rfl ?_
          exact x_zret d87_38 gR_87 (by decide) ⟨_, _, rfl, rfl, k⟩
    · replace c : ¬ (x3 < 0) := c
      rw [if_neg c] at k
      refine x_iload_n d84_4 rfl ?_
      refine x_aload_n d84_5 rfl ?_
      refine x_getI d84_6 gY_84.2.2.2 gF_9_13 rfl (sh_2 hW) ?_
      refine x_if2 (pc2 := 21) d84_9 rfl (fun c => ?_) (fun c => ?_)
      · replace c : I 2 1 ≤ x3 := c
        rw [if_pos c] at k
        refine x_iconst d84_21 rfl ?_
        refine x_iret d84_22 gR_84 ?_
        show Ex (d + 1) 87 17 [some (.inr 2), some (.inr s1), some (.inl x2), some (.inl x3), u4] [.inl (-1)] (0, 0, n, sh, R, I) _
        refine x_istore (ls2 := [some (.inr 2), some (.inr s1), some (.inl x2), some (.inl x3), some (.inl (-1))]) d87_17 rfl rfl ?_
        refine x_aload_n d87_19 rfl ?_
        refine x_iload d87_20 rfl ?_
        refine y_invI (as := [.inl (-1)]) (t := []) (o := s1) gY_66 d87_22 gY_87.2.2.2 gM_9_27 rfl hS1.1 rfl k (fun v4 I5 k => ?_)
        refine x_if1 (pc2 := 37) d87_25 rfl (fun c => ?_) (fun c => ?_)
        · replace c : v4 < 0 := c
          rw [if_pos c] at k
          refine x_iconst d87_37 rfl ?_
          exact x_zret d87_38 gR_87 (by decide) ⟨_, _, rfl, rfl, k⟩
        · replace c : ¬ (v4 < 0) := c
          rw [if_neg c] at k
          refine x_iload_n d87_28 rfl ?_
          refine x_iload d87_29 rfl ?_
          refine x_ishr d87_31 ?_
          refine x_iconst d87_32 rfl ?_
          refine x_iand d87_33 ?_
          refine x_if1 (pc2 := 39) d87_34 rfl (fun c => ?_) (fun c => ?_)
          · replace c : (zand (zshr x2 (-1)) 1) = 0 := c
            rw [if_pos c] at k
            refine x_iload_n d87_39 rfl ?_
            refine x_iconst d87_40 rfl ?_
            refine x_iload d87_41 rfl ?_
            refine x_ishl d87_43 ?_
            refine x_ior d87_44 ?_
            refine x_istore_n (ls2 := [some (.inr 2), some (.inr s1), some (.inl (zor x2 (zshl 1 (-1)))), some (.inl x3), some (.inl (-1))]) d87_45 rfl rfl ?_
            have e6 := k.1
            replace k := k.2
            refine x_iinc (ls2 := [some (.inr 2), some (.inr s1), some (.inl (zor x2 (zshl 1 (-1)))), some (.inl (x3 + 1)), some (.inl (-1))]) d87_46 rfl e6 rfl ?_
            refine x_goto (pc2 := 4) d87_49 rfl ?_
            exact k
          · replace c : ¬ ((zand (zshr x2 (-1)) 1) = 0) := c
            rw [if_neg c] at k
            refine x_iconst d87_37 rfl ?_
            exact x_zret d87_38 gR_87 (by decide) ⟨_, _, rfl, rfl, k⟩
      · replace c : ¬ (I 2 1 ≤ x3) := c
        rw [if_neg c] at k
        refine x_aload_n d84_12 rfl ?_
        refine x_getR (r := 3) d84_13 gY_84.2.2.2 gF_9_9 rfl (sh_2 hW) (rf_2_0 hW) (by decide) ?_
        refine x_iload_n d84_16 rfl ?_
        have e7 := k.1
        replace k := k.2
        refine x_iald d84_17 (sh_3 hW) e7.1 e7.2 ?_
        refine x_goto (pc2 := 22) d84_18 rfl ?_
        refine x_iret d84_22 gR_84 ?_
        show Ex (d + 1) 87 17 [some (.inr 2), some (.inr s1), some (.inl x2), some (.inl x3), u4] [.inl (I 3 (x3).toNat)] (0, 0, n, sh, R, I) _
        refine x_istore (ls2 := [some (.inr 2), some (.inr s1), some (.inl x2), some (.inl x3), some (.inl (I 3 (x3).toNat))]) d87_17 rfl rfl ?_
        refine x_aload_n d87_19 rfl ?_
        refine x_iload d87_20 rfl ?_
        refine y_invI (as := [.inl (I 3 (x3).toNat)]) (t := []) (o := s1) gY_66 d87_22 gY_87.2.2.2 gM_9_27 rfl hS1.1 rfl k (fun v8 I9 k => ?_)
        refine x_if1 (pc2 := 37) d87_25 rfl (fun c => ?_) (fun c => ?_)
        · replace c : v8 < 0 := c
          rw [if_pos c] at k
          refine x_iconst d87_37 rfl ?_
          exact x_zret d87_38 gR_87 (by decide) ⟨_, _, rfl, rfl, k⟩
        · replace c : ¬ (v8 < 0) := c
          rw [if_neg c] at k
          refine x_iload_n d87_28 rfl ?_
          refine x_iload d87_29 rfl ?_
          refine x_ishr d87_31 ?_
          refine x_iconst d87_32 rfl ?_
          refine x_iand d87_33 ?_
          refine x_if1 (pc2 := 39) d87_34 rfl (fun c => ?_) (fun c => ?_)
          · replace c : (zand (zshr x2 (I 3 (x3).toNat)) 1) = 0 := c
            rw [if_pos c] at k
            refine x_iload_n d87_39 rfl ?_
            refine x_iconst d87_40 rfl ?_
            refine x_iload d87_41 rfl ?_
            refine x_ishl d87_43 ?_
            refine x_ior d87_44 ?_
            refine x_istore_n (ls2 := [some (.inr 2), some (.inr s1), some (.inl (zor x2 (zshl 1 (I 3 (x3).toNat)))), some (.inl x3), some (.inl (I 3 (x3).toNat))]) d87_45 rfl rfl ?_
            have e10 := k.1
            replace k := k.2
            refine x_iinc (ls2 := [some (.inr 2), some (.inr s1), some (.inl (zor x2 (zshl 1 (I 3 (x3).toNat)))), some (.inl (x3 + 1)), some (.inl (I 3 (x3).toNat))]) d87_46 rfl e10 rfl ?_
            refine x_goto (pc2 := 4) d87_49 rfl ?_
            exact k
          · replace c : ¬ ((zand (zshr x2 (I 3 (x3).toNat)) 1) = 0) := c
            rw [if_neg c] at k
            refine x_iconst d87_37 rfl ?_
            exact x_zret d87_38 gR_87 (by decide) ⟨_, _, rfl, rfl, k⟩
set_option maxHeartbeats 4000000 in
theorem b_Y_longestRow_0 {d n : Nat} {sh : ZS} {R : ZR} {I : ZI} {Q : Int → ZI → Prop} (hW : Wf sh R) {x2 : Int} {x3 : Int}
    (k : XIs d 89 6 [some (.inr 117), some (.inr 14), some (.inl x2), some (.inl x3), some (.inl 0), some (.inl 0), none] [] n sh R I Q) : XI d 89 [.inr 117, .inr 14, .inl x2, .inl x3] n sh R I Q := by
  refine XI.of (ls := [some (.inr 117), some (.inr 14), some (.inl x2), some (.inl x3), none, none, none]) (zloc_eq gY_89.2.2.1) ?_
  unfold XIs
  refine x_iconst d89_0 rfl ?_
  refine x_istore (ls2 := [some (.inr 117), some (.inr 14), some (.inl x2), some (.inl x3), some (.inl 0), none, none]) d89_1 rfl rfl ?_
  refine x_iconst d89_3 rfl ?_
  refine x_istore (ls2 := [some (.inr 117), some (.inr 14), some (.inl x2), some (.inl x3), some (.inl 0), some (.inl 0), none]) d89_4 rfl rfl ?_
  exact k
set_option maxHeartbeats 4000000 in
theorem b_Y_longestRow_6 {d n : Nat} {sh : ZS} {R : ZR} {I : ZI} {Q : Int → ZI → Prop} (hW : Wf sh R) {x2 : Int} {x3 : Int} {x4 : Int} {x5 : Int} {u6 : Option AV}
    (k : (if x2 ≤ x5 then Q x4 I else (0 ≤ x5 ∧ x5 < 32) ∧ XIs d 89 23 [some (.inr 117), some (.inr 14), some (.inl x2), some (.inl x3), some (.inl x4), some (.inl x5), some (.inl 0)] [] n sh R (zup I 119 (x5).toNat 1) Q)) : XIs d 89 6 [some (.inr 117), some (.inr 14), some (.inl x2), some (.inl x3), some (.inl x4), some (.inl x5), u6] [] n sh R I Q := by
  unfold XIs
  refine x_iload d89_6 rfl ?_
  refine x_iload_n d89_8 rfl ?_
  refine x_if2 (pc2 := 96) d89_9 rfl (fun c => ?_) (fun c => ?_)
  · replace c : x2 ≤ x5 := c
    rw [if_pos c] at k
    refine x_iload d89_96 rfl ?_
    exact x_iret d89_98 gR_89 ⟨_, _, rfl, rfl, k⟩
  · replace c : ¬ (x2 ≤ x5) := c
    rw [if_neg c] at k
    refine x_aload_n d89_12 rfl ?_
    refine x_getR (r := 119) d89_13 gY_89.2.2.2 gF_10_15 rfl (sh_117 hW) (rf_117_2 hW) (by decide) ?_
    refine x_iload d89_16 rfl ?_
    refine x_iconst d89_18 rfl ?_
    have e1 := k.1
    replace k := k.2
    refine x_iast d89_19 (sh_119 hW) e1.1 e1.2 ?_
    refine x_iconst d89_20 rfl ?_
    refine x_istore (ls2 := [some (.inr 117), some (.inr 14), some (.inl x2), some (.inl x3), some (.inl x4), some (.inl x5), some (.inl 0)]) d89_21 rfl rfl ?_
    exact k
set_option maxHeartbeats 4000000 in
theorem b_Y_longestRow_23 {d n : Nat} {sh : ZS} {R : ZR} {I : ZI} {Q : Int → ZI → Prop} (hW : Wf sh R) {x2 : Int} {x3 : Int} {x4 : Int} {x5 : Int} {x6 : Int}
    (k : (if x5 ≤ x6 then (0 ≤ x5 ∧ x5 < 32) ∧ (zr (x5 + 1)) ∧ XIs d 89 6 [some (.inr 117), some (.inr 14), some (.inl x2), some (.inl x3), some (.inl (if x4 < I 119 (x5).toNat then I 119 (x5).toNat else x4)), some (.inl (x5 + 1)), some (.inl x6)] [] n sh R I Q else (0 ≤ x5 ∧ x5 < 32) ∧ (0 ≤ x6 ∧ x6 < 32) ∧ (zr (I 14 (x5).toNat - I 14 (x6).toNat)) ∧ (zr (x3 * (I 14 (x5).toNat - I 14 (x6).toNat))) ∧ (if (x3 * (I 14 (x5).toNat - I 14 (x6).toNat)) ≤ 0 then (zr (x6 + 1)) ∧ XIs d 89 23 [some (.inr 117), some (.inr 14), some (.inl x2), some (.inl x3), some (.inl x4), some (.inl x5), some (.inl (x6 + 1))] [] n sh R I Q else (zr (I 119 (x6).toNat + 1)) ∧ (zr (x6 + 1)) ∧ XIs d 89 23 [some (.inr 117), some (.inr 14), some (.inl x2), some (.inl x3), some (.inl x4), some (.inl x5), some (.inl (x6 + 1))] [] n sh R (zup I 119 (x5).toNat (if I 119 (x5).toNat < (I 119 (x6).toNat + 1) then (I 119 (x6).toNat + 1) else I 119 (x5).toNat)) Q))) : XIs d 89 23 [some (.inr 117), some (.inr 14), some (.inl x2), some (.inl x3), some (.inl x4), some (.inl x5), some (.inl x6)] [] n sh R I Q := by
  unfold XIs
  refine x_iload d89_23 rfl ?_
  refine x_iload d89_25 rfl ?_
  refine x_if2 (pc2 := 76) d89_27 rfl (fun c => ?_) (fun c => ?_)
  · replace c : x5 ≤ x6 := c
    rw [if_pos c] at k
    refine x_iload d89_76 rfl ?_
    refine x_aload_n d89_78 rfl ?_
    refine x_getR (r := 119) d89_79 gY_89.2.2.2 gF_10_15 rfl (sh_117 hW) (rf_117_2 hW) (by decide) ?_
    refine x_iload d89_82 rfl ?_
    have e1 := k.1
    replace k := k.2
    refine x_iald d89_84 (sh_119 hW) e1.1 e1.2 ?_
    refine x_max d89_85 gY_89.2.2.2 gM_10_25 (of_decide_eq_true rfl) ?_
    refine x_istore (ls2 := [some (.inr 117), some (.inr 14), some (.inl x2), some (.inl x3), some (.inl (if x4 < I 119 (x5).toNat then I 119 (x5).toNat else x4)), some (.inl x5), some (.inl x6)]) d89_88 rfl rfl ?_
    have e2 := k.1
    replace k := k.2
    refine x_iinc (ls2 := [some (.inr 117), some (.inr 14), some (.inl x2), some (.inl x3), some (.inl (if x4 < I 119 (x5).toNat then I 119 (x5).toNat else x4)), some (.inl (x5 + 1)), some (.inl x6)]) d89_90 rfl e2 rfl ?_
    refine x_goto (pc2 := 6) d89_93 rfl ?_
    exact k
  · replace c : ¬ (x5 ≤ x6) := c
    rw [if_neg c] at k
    refine x_iload_n d89_30 rfl ?_
    refine x_aload_n d89_31 rfl ?_
    refine x_iload d89_32 rfl ?_
    have e3 := k.1
    replace k := k.2
    refine x_iald d89_34 (sh_14 hW) e3.1 e3.2 ?_
    refine x_aload_n d89_35 rfl ?_
    refine x_iload d89_36 rfl ?_
    have e4 := k.1
    replace k := k.2
    refine x_iald d89_38 (sh_14 hW) e4.1 e4.2 ?_
    have e5 := k.1
    replace k := k.2
    refine x_isub d89_39 e5 ?_
    have e6 := k.1
    replace k := k.2
    refine x_imul d89_40 e6 ?_
    refine x_if1 (pc2 := 70) d89_41 rfl (fun c => ?_) (fun c => ?_)
    · replace c : (x3 * (I 14 (x5).toNat - I 14 (x6).toNat)) ≤ 0 := c
      rw [if_pos c] at k
      have e7 := k.1
      replace k := k.2
      refine x_iinc (ls2 := [some (.inr 117), some (.inr 14), some (.inl x2), some (.inl x3), some (.inl x4), some (.inl x5), some (.inl (x6 + 1))]) d89_70 rfl e7 rfl ?_
      refine x_goto (pc2 := 23) d89_73 rfl ?_
      exact k
    · replace c : ¬ ((x3 * (I 14 (x5).toNat - I 14 (x6).toNat)) ≤ 0) := c
      rw [if_neg c] at k
      refine x_aload_n d89_44 rfl ?_
      refine x_getR (r := 119) d89_45 gY_89.2.2.2 gF_10_15 rfl (sh_117 hW) (rf_117_2 hW) (by decide) ?_
      refine x_iload d89_48 rfl ?_
      refine x_aload_n d89_50 rfl ?_
      refine x_getR (r := 119) d89_51 gY_89.2.2.2 gF_10_15 rfl (sh_117 hW) (rf_117_2 hW) (by decide) ?_
      refine x_iload d89_54 rfl ?_
      refine x_iald d89_56 (sh_119 hW) e3.1 e3.2 ?_
      refine x_aload_n d89_57 rfl ?_
      refine x_getR (r := 119) d89_58 gY_89.2.2.2 gF_10_15 rfl (sh_117 hW) (rf_117_2 hW) (by decide) ?_
      refine x_iload d89_61 rfl ?_
      refine x_iald d89_63 (sh_119 hW) e4.1 e4.2 ?_
      refine x_iconst d89_64 rfl ?_
      have e8 := k.1
      replace k := k.2
      refine x_iadd d89_65 e8 ?_
      refine x_max d89_66 gY_89.2.2.2 gM_10_25 (of_decide_eq_true rfl) ?_
      refine x_iast d89_69 (sh_119 hW) e3.1 e3.2 ?_
      have e9 := k.1
      replace k := k.2
      refine x_iinc (ls2 := [some (.inr 117), some (.inr 14), some (.inl x2), some (.inl x3), some (.inl x4), some (.inl x5), some (.inl (x6 + 1))]) d89_70 rfl e9 rfl ?_
      refine x_goto (pc2 := 23) d89_73 rfl ?_
      exact k
set_option maxHeartbeats 4000000 in
theorem b_Y_fits_0 {d n : Nat} {sh : ZS} {R : ZR} {I : ZI} {Q : Int → ZI → Prop} (hW : Wf sh R) {x1 : Int} {x2 : Int}
    (k : (if x1 < 0 then (0 ≤ x1 ∧ x1 < 9) ∧ (if x2 < I 118 (x1).toNat then Q 0 I else Q 1 I) else (if (zand (zshr (I 15 1) x1) 1) = 0 then (0 ≤ x1 ∧ x1 < 9) ∧ (if x2 < I 118 (x1).toNat then Q 0 I else Q 1 I) else (0 ≤ x1 ∧ x1 < 9) ∧ (if I 118 (x1).toNat < x2 then Q 0 I else Q 1 I)))) : XI (d + 1) 91 [.inr 117, .inl x1, .inl x2] n sh R I Q := by
  refine XI.of (ls := [some (.inr 117), some (.inl x1), some (.inl x2)]) (zloc_eq gY_91.2.2.1) ?_
  unfold XIs
  refine x_aload_n d91_0 rfl ?_
  refine x_getR (r := 15) d91_1 gY_91.2.2.2 gF_10_21 rfl (sh_117 hW) (rf_117_0 hW) (by decide) ?_
  refine x_iload_n d91_4 rfl ?_
  refine y_inv (as := [.inl x1]) (t := []) (o := 15) (ls2 := [some (.inr 15), some (.inl x1)]) gY_41 d91_5 gY_91.2.2.2 gM_10_37 rfl (sh_15 hW) rfl rfl ?_
  refine x_iload_n d41_0 rfl ?_
  refine x_if1 (pc2 := 19) d41_1 rfl (fun c => ?_) (fun c => ?_)
  · replace c : x1 < 0 := c
    rw [if_pos c] at k
    refine x_iconst d41_19 rfl ?_
    refine x_zret d41_20 gR_41 (by decide) ?_
    show Ex (d + 1) 91 8 [some (.inr 117), some (.inl x1), some (.inl x2)] [.inl 0] (0, 0, n, sh, R, I) _
    refine x_if1 (pc2 := 29) d91_8 rfl (fun _ => ?_) (fun c => absurd (show (0 : Int) = 0 by decide) c)
    refine x_aload_n d91_29 rfl ?_
    refine x_getR (r := 118) d91_30 gY_91.2.2.2 gF_10_9 rfl (sh_117 hW) (rf_117_1 hW) (by decide) ?_
    refine x_iload_n d91_33 rfl ?_
    have e1 := k.1
    replace k := k.2
    refine x_iald d91_34 (sh_118 hW) e1.1 e1.2 ?_
    refine x_iload_n d91_35 rfl ?_
    refine x_if2 (pc2 := 43) d91_36 rfl (fun c => ?_) (fun c => ?_)
    · replace c : x2 < I 118 (x1).toNat := c
      rw [if_pos c] at k
      refine x_iconst d91_43 rfl ?_
      exact x_zret d91_44 gR_91 (by decide) ⟨_, _, rfl, rfl, k⟩
    · replace c : ¬ (x2 < I 118 (x1).toNat) := c
      rw [if_neg c] at k
      refine x_iconst d91_39 rfl ?_
      refine x_goto (pc2 := 44) d91_40 rfl ?_
      exact x_zret d91_44 gR_91 (by decide) ⟨_, _, rfl, rfl, k⟩
  · replace c : ¬ (x1 < 0) := c
    rw [if_neg c] at k
    refine x_aload_n d41_4 rfl ?_
    refine x_getI d41_5 gY_41.2.2.2 gF_4_15 rfl (sh_15 hW) ?_
    refine x_iload_n d41_8 rfl ?_
    refine x_ishr d41_9 ?_
    refine x_iconst d41_10 rfl ?_
    refine x_iand d41_11 ?_
    refine x_if1 (pc2 := 19) d41_12 rfl (fun c => ?_) (fun c => ?_)
    · replace c : (zand (zshr (I 15 1) x1) 1) = 0 := c
      rw [if_pos c] at k
      refine x_iconst d41_19 rfl ?_
      refine x_zret d41_20 gR_41 (by decide) ?_
      show Ex (d + 1) 91 8 [some (.inr 117), some (.inl x1), some (.inl x2)] [.inl 0] (0, 0, n, sh, R, I) _
      refine x_if1 (pc2 := 29) d91_8 rfl (fun _ => ?_) (fun c => absurd (show (0 : Int) = 0 by decide) c)
      refine x_aload_n d91_29 rfl ?_
      refine x_getR (r := 118) d91_30 gY_91.2.2.2 gF_10_9 rfl (sh_117 hW) (rf_117_1 hW) (by decide) ?_
      refine x_iload_n d91_33 rfl ?_
      have e2 := k.1
      replace k := k.2
      refine x_iald d91_34 (sh_118 hW) e2.1 e2.2 ?_
      refine x_iload_n d91_35 rfl ?_
      refine x_if2 (pc2 := 43) d91_36 rfl (fun c => ?_) (fun c => ?_)
      · replace c : x2 < I 118 (x1).toNat := c
        rw [if_pos c] at k
        refine x_iconst d91_43 rfl ?_
        exact x_zret d91_44 gR_91 (by decide) ⟨_, _, rfl, rfl, k⟩
      · replace c : ¬ (x2 < I 118 (x1).toNat) := c
        rw [if_neg c] at k
        refine x_iconst d91_39 rfl ?_
        refine x_goto (pc2 := 44) d91_40 rfl ?_
        exact x_zret d91_44 gR_91 (by decide) ⟨_, _, rfl, rfl, k⟩
    · replace c : ¬ ((zand (zshr (I 15 1) x1) 1) = 0) := c
      rw [if_neg c] at k
      refine x_iconst d41_15 rfl ?_
      refine x_goto (pc2 := 20) d41_16 rfl ?_
      refine x_zret d41_20 gR_41 (by decide) ?_
      show Ex (d + 1) 91 8 [some (.inr 117), some (.inl x1), some (.inl x2)] [.inl 1] (0, 0, n, sh, R, I) _
      refine x_if1 (pc2 := 29) d91_8 rfl (fun c => absurd (show (1 : Int) = 0 from c) (by decide)) (fun _ => ?_)
      refine x_aload_n d91_11 rfl ?_
      refine x_getR (r := 118) d91_12 gY_91.2.2.2 gF_10_9 rfl (sh_117 hW) (rf_117_1 hW) (by decide) ?_
      refine x_iload_n d91_15 rfl ?_
      have e3 := k.1
      replace k := k.2
      refine x_iald d91_16 (sh_118 hW) e3.1 e3.2 ?_
      refine x_iload_n d91_17 rfl ?_
      refine x_if2 (pc2 := 25) d91_18 rfl (fun c => ?_) (fun c => ?_)
      · replace c : I 118 (x1).toNat < x2 := c
        rw [if_pos c] at k
        refine x_iconst d91_25 rfl ?_
        refine x_goto (pc2 := 44) d91_26 rfl ?_
        exact x_zret d91_44 gR_91 (by decide) ⟨_, _, rfl, rfl, k⟩
      · replace c : ¬ (I 118 (x1).toNat < x2) := c
        rw [if_neg c] at k
        refine x_iconst d91_21 rfl ?_
        refine x_goto (pc2 := 44) d91_22 rfl ?_
        exact x_zret d91_44 gR_91 (by decide) ⟨_, _, rfl, rfl, k⟩
set_option maxHeartbeats 4000000 in
theorem b_Y_nearest_0 {d n : Nat} {sh : ZS} {R : ZR} {I : ZI} {Q : Int → ZI → Prop} (hW : Wf sh R) {x1 : Int} {x2 : Int}
    (k : XIs (d + 2) 94 5 [some (.inr 117), some (.inl x1), some (.inl x2), some (.inl (-1)), some (.inl 0)] [] n sh R I Q) : XI (d + 2) 94 [.inr 117, .inl x1, .inl x2] n sh R I Q := by
  refine XI.of (ls := [some (.inr 117), some (.inl x1), some (.inl x2), none, none]) (zloc_eq gY_94.2.2.1) ?_
  unfold XIs
  refine x_iconst d94_0 rfl ?_
  refine x_istore_n (ls2 := [some (.inr 117), some (.inl x1), some (.inl x2), some (.inl (-1)), none]) d94_1 rfl rfl ?_
  refine x_iconst d94_2 rfl ?_
  refine x_istore (ls2 := [some (.inr 117), some (.inl x1), some (.inl x2), some (.inl (-1)), some (.inl 0)]) d94_3 rfl rfl ?_
  exact k
set_option maxHeartbeats 4000000 in
theorem b_Y_nearest_5 {d n : Nat} {sh : ZS} {R : ZR} {I : ZI} {Q : Int → ZI → Prop} (hW : Wf sh R) {x1 : Int} {x2 : Int} {x3 : Int} {x4 : Int}
    (k : (if I 15 0 ≤ x4 then Q x3 I else (if x4 < 0 then (if ¬ 0 = x2 then (zr (x4 + 1)) ∧ XIs (d + 2) 94 5 [some (.inr 117), some (.inl x1), some (.inl x2), some (.inl x3), some (.inl (x4 + 1))] [] n sh R I Q else XI (d + 1) 91 [.inr 117, .inl x4, .inl x1] n sh R I (fun v2 I3 => (if v2 = 0 then (zr (x4 + 1)) ∧ XIs (d + 2) 94 5 [some (.inr 117), some (.inl x1), some (.inl x2), some (.inl x3), some (.inl (x4 + 1))] [] n sh R I3 Q else (if x3 < 0 then (zr (x4 + 1)) ∧ XIs (d + 2) 94 5 [some (.inr 117), some (.inl x1), some (.inl x2), some (.inl x4), some (.inl (x4 + 1))] [] n sh R I3 Q else (0 ≤ x4 ∧ x4 < 9) ∧ (zr (I3 118 (x4).toNat - x1)) ∧ (zr (0 - (I3 118 (x4).toNat - x1))) ∧ (0 ≤ x3 ∧ x3 < 9) ∧ (zr (I3 118 (x3).toNat - x1)) ∧ (zr (0 - (I3 118 (x3).toNat - x1))) ∧ (if (if 0 ≤ (I3 118 (x3).toNat - x1) then (I3 118 (x3).toNat - x1) else 0 - (I3 118 (x3).toNat - x1)) ≤ (if 0 ≤ (I3 118 (x4).toNat - x1) then (I3 118 (x4).toNat - x1) else 0 - (I3 118 (x4).toNat - x1)) then (zr (x4 + 1)) ∧ XIs (d + 2) 94 5 [some (.inr 117), some (.inl x1), some (.inl x2), some (.inl x3), some (.inl (x4 + 1))] [] n sh R I3 Q else (zr (x4 + 1)) ∧ XIs (d + 2) 94 5 [some (.inr 117), some (.inl x1), some (.inl x2), some (.inl x4), some (.inl (x4 + 1))] [] n sh R I3 Q))))) else (if (zand (zshr (I 15 1) x4) 1) = 0 then (if ¬ 0 = x2 then (zr (x4 + 1)) ∧ XIs (d + 2) 94 5 [some (.inr 117), some (.inl x1), some (.inl x2), some (.inl x3), some (.inl (x4 + 1))] [] n sh R I Q else XI (d + 1) 91 [.inr 117, .inl x4, .inl x1] n sh R I (fun v15 I16 => (if v15 = 0 then (zr (x4 + 1)) ∧ XIs (d + 2) 94 5 [some (.inr 117), some (.inl x1), some (.inl x2), some (.inl x3), some (.inl (x4 + 1))] [] n sh R I16 Q else (if x3 < 0 then (zr (x4 + 1)) ∧ XIs (d + 2) 94 5 [some (.inr 117), some (.inl x1), some (.inl x2), some (.inl x4), some (.inl (x4 + 1))] [] n sh R I16 Q else (0 ≤ x4 ∧ x4 < 9) ∧ (zr (I16 118 (x4).toNat - x1)) ∧ (zr (0 - (I16 118 (x4).toNat - x1))) ∧ (0 ≤ x3 ∧ x3 < 9) ∧ (zr (I16 118 (x3).toNat - x1)) ∧ (zr (0 - (I16 118 (x3).toNat - x1))) ∧ (if (if 0 ≤ (I16 118 (x3).toNat - x1) then (I16 118 (x3).toNat - x1) else 0 - (I16 118 (x3).toNat - x1)) ≤ (if 0 ≤ (I16 118 (x4).toNat - x1) then (I16 118 (x4).toNat - x1) else 0 - (I16 118 (x4).toNat - x1)) then (zr (x4 + 1)) ∧ XIs (d + 2) 94 5 [some (.inr 117), some (.inl x1), some (.inl x2), some (.inl x3), some (.inl (x4 + 1))] [] n sh R I16 Q else (zr (x4 + 1)) ∧ XIs (d + 2) 94 5 [some (.inr 117), some (.inl x1), some (.inl x2), some (.inl x4), some (.inl (x4 + 1))] [] n sh R I16 Q))))) else (if ¬ 1 = x2 then (zr (x4 + 1)) ∧ XIs (d + 2) 94 5 [some (.inr 117), some (.inl x1), some (.inl x2), some (.inl x3), some (.inl (x4 + 1))] [] n sh R I Q else XI (d + 1) 91 [.inr 117, .inl x4, .inl x1] n sh R I (fun v28 I29 => (if v28 = 0 then (zr (x4 + 1)) ∧ XIs (d + 2) 94 5 [some (.inr 117), some (.inl x1), some (.inl x2), some (.inl x3), some (.inl (x4 + 1))] [] n sh R I29 Q else (if x3 < 0 then (zr (x4 + 1)) ∧ XIs (d + 2) 94 5 [some (.inr 117), some (.inl x1), some (.inl x2), some (.inl x4), some (.inl (x4 + 1))] [] n sh R I29 Q else (0 ≤ x4 ∧ x4 < 9) ∧ (zr (I29 118 (x4).toNat - x1)) ∧ (zr (0 - (I29 118 (x4).toNat - x1))) ∧ (0 ≤ x3 ∧ x3 < 9) ∧ (zr (I29 118 (x3).toNat - x1)) ∧ (zr (0 - (I29 118 (x3).toNat - x1))) ∧ (if (if 0 ≤ (I29 118 (x3).toNat - x1) then (I29 118 (x3).toNat - x1) else 0 - (I29 118 (x3).toNat - x1)) ≤ (if 0 ≤ (I29 118 (x4).toNat - x1) then (I29 118 (x4).toNat - x1) else 0 - (I29 118 (x4).toNat - x1)) then (zr (x4 + 1)) ∧ XIs (d + 2) 94 5 [some (.inr 117), some (.inl x1), some (.inl x2), some (.inl x3), some (.inl (x4 + 1))] [] n sh R I29 Q else (zr (x4 + 1)) ∧ XIs (d + 2) 94 5 [some (.inr 117), some (.inl x1), some (.inl x2), some (.inl x4), some (.inl (x4 + 1))] [] n sh R I29 Q))))))))) : XIs (d + 2) 94 5 [some (.inr 117), some (.inl x1), some (.inl x2), some (.inl x3), some (.inl x4)] [] n sh R I Q := by
  unfold XIs
  refine x_iload d94_5 rfl ?_
  refine x_aload_n d94_7 rfl ?_
  refine x_getR (r := 15) d94_8 gY_94.2.2.2 gF_10_21 rfl (sh_117 hW) (rf_117_0 hW) (by decide) ?_
  refine x_getI d94_11 gY_94.2.2.2 gF_10_31 rfl (sh_15 hW) ?_
  refine x_if2 (pc2 := 79) d94_14 rfl (fun c => ?_) (fun c => ?_)
  · replace c : I 15 0 ≤ x4 := c
    rw [if_pos c] at k
    refine x_iload_n d94_79 rfl ?_
    exact x_iret d94_80 gR_94 ⟨_, _, rfl, rfl, k⟩
  · replace c : ¬ (I 15 0 ≤ x4) := c
    rw [if_neg c] at k
    refine x_aload_n d94_17 rfl ?_
    refine x_getR (r := 15) d94_18 gY_94.2.2.2 gF_10_21 rfl (sh_117 hW) (rf_117_0 hW) (by decide) ?_
    refine x_iload d94_21 rfl ?_
    refine y_inv (as := [.inl x4]) (t := []) (o := 15) (ls2 := [some (.inr 15), some (.inl x4)]) gY_41 d94_23 gY_94.2.2.2 gM_10_37 rfl (sh_15 hW) rfl rfl ?_
    refine x_iload_n d41_0 rfl ?_
    refine x_if1 (pc2 := 19) d41_1 rfl (fun c => ?_) (fun c => ?_)
    · replace c : x4 < 0 := c
      rw [if_pos c] at k
      refine x_iconst d41_19 rfl ?_
      refine x_zret d41_20 gR_41 (by decide) ?_
      show Ex (d + 2) 94 26 [some (.inr 117), some (.inl x1), some (.inl x2), some (.inl x3), some (.inl x4)] [.inl 0] (0, 0, n, sh, R, I) _
      refine x_iload_n d94_26 rfl ?_
      refine x_if2 (pc2 := 73) d94_27 rfl (fun c => ?_) (fun c => ?_)
      · replace c : ¬ 0 = x2 := c
        rw [if_pos c] at k
        have e1 := k.1
        replace k := k.2
        refine x_iinc (ls2 := [some (.inr 117), some (.inl x1), some (.inl x2), some (.inl x3), some (.inl (x4 + 1))]) d94_73 rfl e1 rfl ?_
        refine x_goto (pc2 := 5) d94_76 rfl ?_
        exact k
      · replace c : ¬ (¬ 0 = x2) := c
        rw [if_neg c] at k
        refine x_aload_n d94_30 rfl ?_
        refine x_iload d94_31 rfl ?_
        refine x_iload_n d94_33 rfl ?_
        refine y_invI (as := [.inl x4, .inl x1]) (t := []) (o := 117) gY_91 d94_34 gY_94.2.2.2 gM_10_45 rfl (sh_117 hW) rfl k (fun v2 I3 k => ?_)
        refine x_if1 (pc2 := 73) d94_37 rfl (fun c => ?_) (fun c => ?_)
        · replace c : v2 = 0 := c
          rw [if_pos c] at k
          have e4 := k.1
          replace k := k.2
          refine x_iinc (ls2 := [some (.inr 117), some (.inl x1), some (.inl x2), some (.inl x3), some (.inl (x4 + 1))]) d94_73 rfl e4 rfl ?_
          refine x_goto (pc2 := 5) d94_76 rfl ?_
          exact k
        · replace c : ¬ (v2 = 0) := c
          rw [if_neg c] at k
          refine x_iload_n d94_40 rfl ?_
          refine x_if1 (pc2 := 70) d94_41 rfl (fun c => ?_) (fun c => ?_)
          · replace c : x3 < 0 := c
            rw [if_pos c] at k
            refine x_iload d94_70 rfl ?_
            refine x_istore_n (ls2 := [some (.inr 117), some (.inl x1), some (.inl x2), some (.inl x4), some (.inl x4)]) d94_72 rfl rfl ?_
            have e5 := k.1
            replace k := k.2
            refine x_iinc (ls2 := [some (.inr 117), some (.inl x1), some (.inl x2), some (.inl x4), some (.inl (x4 + 1))]) d94_73 rfl e5 rfl ?_
            refine x_goto (pc2 := 5) d94_76 rfl ?_
            exact k
          · replace c : ¬ (x3 < 0) := c
            rw [if_neg c] at k
            refine x_aload_n d94_44 rfl ?_
            refine x_getR (r := 118) d94_45 gY_94.2.2.2 gF_10_9 rfl (sh_117 hW) (rf_117_1 hW) (by decide) ?_
            refine x_iload d94_48 rfl ?_
            have e6 := k.1
            replace k := k.2
            refine x_iald d94_50 (sh_118 hW) e6.1 e6.2 ?_
            refine x_iload_n d94_51 rfl ?_
            have e7 := k.1
            replace k := k.2
            refine x_isub d94_52 e7 ?_
            have e8 := k.1
            replace k := k.2
            refine x_abs d94_53 gY_94.2.2.2 gM_10_57 (of_decide_eq_true rfl) e8 ?_
            refine x_aload_n d94_56 rfl ?_
            refine x_getR (r := 118) d94_57 gY_94.2.2.2 gF_10_9 rfl (sh_117 hW) (rf_117_1 hW) (by decide) ?_
            refine x_iload_n d94_60 rfl ?_
            have e9 := k.1
            replace k := k.2
            refine x_iald d94_61 (sh_118 hW) e9.1 e9.2 ?_
            refine x_iload_n d94_62 rfl ?_
            have e10 := k.1
            replace k := k.2
            refine x_isub d94_63 e10 ?_
            have e11 := k.1
            replace k := k.2
            refine x_abs d94_64 gY_94.2.2.2 gM_10_57 (of_decide_eq_true rfl) e11 ?_
            refine x_if2 (pc2 := 73) d94_67 rfl (fun c => ?_) (fun c => ?_)
            · replace c : (if 0 ≤ (I3 118 (x3).toNat - x1) then (I3 118 (x3).toNat - x1) else 0 - (I3 118 (x3).toNat - x1)) ≤ (if 0 ≤ (I3 118 (x4).toNat - x1) then (I3 118 (x4).toNat - x1) else 0 - (I3 118 (x4).toNat - x1)) := c
              rw [if_pos c] at k
              have e12 := k.1
              replace k := k.2
              refine x_iinc (ls2 := [some (.inr 117), some (.inl x1), some (.inl x2), some (.inl x3), some (.inl (x4 + 1))]) d94_73 rfl e12 rfl ?_
              refine x_goto (pc2 := 5) d94_76 rfl ?_
              exact k
            · replace c : ¬ ((if 0 ≤ (I3 118 (x3).toNat - x1) then (I3 118 (x3).toNat - x1) else 0 - (I3 118 (x3).toNat - x1)) ≤ (if 0 ≤ (I3 118 (x4).toNat - x1) then (I3 118 (x4).toNat - x1) else 0 - (I3 118 (x4).toNat - x1))) := c
              rw [if_neg c] at k
              refine x_iload d94_70 rfl ?_
              refine x_istore_n (ls2 := [some (.inr 117), some (.inl x1), some (.inl x2), some (.inl x4), some (.inl x4)]) d94_72 rfl rfl ?_
              have e13 := k.1
              replace k := k.2
              refine x_iinc (ls2 := [some (.inr 117), some (.inl x1), some (.inl x2), some (.inl x4), some (.inl (x4 + 1))]) d94_73 rfl e13 rfl ?_
              refine x_goto (pc2 := 5) d94_76 rfl ?_
              exact k
    · replace c : ¬ (x4 < 0) := c
      rw [if_neg c] at k
      refine x_aload_n d41_4 rfl ?_
      refine x_getI d41_5 gY_41.2.2.2 gF_4_15 rfl (sh_15 hW) ?_
      refine x_iload_n d41_8 rfl ?_
      refine x_ishr d41_9 ?_
      refine x_iconst d41_10 rfl ?_
      refine x_iand d41_11 ?_
      refine x_if1 (pc2 := 19) d41_12 rfl (fun c => ?_) (fun c => ?_)
      · replace c : (zand (zshr (I 15 1) x4) 1) = 0 := c
        rw [if_pos c] at k
        refine x_iconst d41_19 rfl ?_
        refine x_zret d41_20 gR_41 (by decide) ?_
        show Ex (d + 2) 94 26 [some (.inr 117), some (.inl x1), some (.inl x2), some (.inl x3), some (.inl x4)] [.inl 0] (0, 0, n, sh, R, I) _
        refine x_iload_n d94_26 rfl ?_
        refine x_if2 (pc2 := 73) d94_27 rfl (fun c => ?_) (fun c => ?_)
        · replace c : ¬ 0 = x2 := c
          rw [if_pos c] at k
          have e14 := k.1
          replace k := k.2
          refine x_iinc (ls2 := [some (.inr 117), some (.inl x1), some (.inl x2), some (.inl x3), some (.inl (x4 + 1))]) d94_73 rfl e14 rfl ?_
          refine x_goto (pc2 := 5) d94_76 rfl ?_
          exact k
        · replace c : ¬ (¬ 0 = x2) := c
          rw [if_neg c] at k
          refine x_aload_n d94_30 rfl ?_
          refine x_iload d94_31 rfl ?_
          refine x_iload_n d94_33 rfl ?_
          refine y_invI (as := [.inl x4, .inl x1]) (t := []) (o := 117) gY_91 d94_34 gY_94.2.2.2 gM_10_45 rfl (sh_117 hW) rfl k (fun v15 I16 k => ?_)
          refine x_if1 (pc2 := 73) d94_37 rfl (fun c => ?_) (fun c => ?_)
          · replace c : v15 = 0 := c
            rw [if_pos c] at k
            have e17 := k.1
            replace k := k.2
            refine x_iinc (ls2 := [some (.inr 117), some (.inl x1), some (.inl x2), some (.inl x3), some (.inl (x4 + 1))]) d94_73 rfl e17 rfl ?_
            refine x_goto (pc2 := 5) d94_76 rfl ?_
            exact k
          · replace c : ¬ (v15 = 0) := c
            rw [if_neg c] at k
            refine x_iload_n d94_40 rfl ?_
            refine x_if1 (pc2 := 70) d94_41 rfl (fun c => ?_) (fun c => ?_)
            · replace c : x3 < 0 := c
              rw [if_pos c] at k
              refine x_iload d94_70 rfl ?_
              refine x_istore_n (ls2 := [some (.inr 117), some (.inl x1), some (.inl x2), some (.inl x4), some (.inl x4)]) d94_72 rfl rfl ?_
              have e18 := k.1
              replace k := k.2
              refine x_iinc (ls2 := [some (.inr 117), some (.inl x1), some (.inl x2), some (.inl x4), some (.inl (x4 + 1))]) d94_73 rfl e18 rfl ?_
              refine x_goto (pc2 := 5) d94_76 rfl ?_
              exact k
            · replace c : ¬ (x3 < 0) := c
              rw [if_neg c] at k
              refine x_aload_n d94_44 rfl ?_
              refine x_getR (r := 118) d94_45 gY_94.2.2.2 gF_10_9 rfl (sh_117 hW) (rf_117_1 hW) (by decide) ?_
              refine x_iload d94_48 rfl ?_
              have e19 := k.1
              replace k := k.2
              refine x_iald d94_50 (sh_118 hW) e19.1 e19.2 ?_
              refine x_iload_n d94_51 rfl ?_
              have e20 := k.1
              replace k := k.2
              refine x_isub d94_52 e20 ?_
              have e21 := k.1
              replace k := k.2
              refine x_abs d94_53 gY_94.2.2.2 gM_10_57 (of_decide_eq_true rfl) e21 ?_
              refine x_aload_n d94_56 rfl ?_
              refine x_getR (r := 118) d94_57 gY_94.2.2.2 gF_10_9 rfl (sh_117 hW) (rf_117_1 hW) (by decide) ?_
              refine x_iload_n d94_60 rfl ?_
              have e22 := k.1
              replace k := k.2
              refine x_iald d94_61 (sh_118 hW) e22.1 e22.2 ?_
              refine x_iload_n d94_62 rfl ?_
              have e23 := k.1
              replace k := k.2
              refine x_isub d94_63 e23 ?_
              have e24 := k.1
              replace k := k.2
              refine x_abs d94_64 gY_94.2.2.2 gM_10_57 (of_decide_eq_true rfl) e24 ?_
              refine x_if2 (pc2 := 73) d94_67 rfl (fun c => ?_) (fun c => ?_)
              · replace c : (if 0 ≤ (I16 118 (x3).toNat - x1) then (I16 118 (x3).toNat - x1) else 0 - (I16 118 (x3).toNat - x1)) ≤ (if 0 ≤ (I16 118 (x4).toNat - x1) then (I16 118 (x4).toNat - x1) else 0 - (I16 118 (x4).toNat - x1)) := c
                rw [if_pos c] at k
                have e25 := k.1
                replace k := k.2
                refine x_iinc (ls2 := [some (.inr 117), some (.inl x1), some (.inl x2), some (.inl x3), some (.inl (x4 + 1))]) d94_73 rfl e25 rfl ?_
                refine x_goto (pc2 := 5) d94_76 rfl ?_
                exact k
              · replace c : ¬ ((if 0 ≤ (I16 118 (x3).toNat - x1) then (I16 118 (x3).toNat - x1) else 0 - (I16 118 (x3).toNat - x1)) ≤ (if 0 ≤ (I16 118 (x4).toNat - x1) then (I16 118 (x4).toNat - x1) else 0 - (I16 118 (x4).toNat - x1))) := c
                rw [if_neg c] at k
                refine x_iload d94_70 rfl ?_
                refine x_istore_n (ls2 := [some (.inr 117), some (.inl x1), some (.inl x2), some (.inl x4), some (.inl x4)]) d94_72 rfl rfl ?_
                have e26 := k.1
                replace k := k.2
                refine x_iinc (ls2 := [some (.inr 117), some (.inl x1), some (.inl x2), some (.inl x4), some (.inl (x4 + 1))]) d94_73 rfl e26 rfl ?_
                refine x_goto (pc2 := 5) d94_76 rfl ?_
                exact k
      · replace c : ¬ ((zand (zshr (I 15 1) x4) 1) = 0) := c
        rw [if_neg c] at k
        refine x_iconst d41_15 rfl ?_
        refine x_goto (pc2 := 20) d41_16 rfl ?_
        refine x_zret d41_20 gR_41 (by decide) ?_
        show Ex (d + 2) 94 26 [some (.inr 117), some (.inl x1), some (.inl x2), some (.inl x3), some (.inl x4)] [.inl 1] (0, 0, n, sh, R, I) _
        refine x_iload_n d94_26 rfl ?_
        refine x_if2 (pc2 := 73) d94_27 rfl (fun c => ?_) (fun c => ?_)
        · replace c : ¬ 1 = x2 := c
          rw [if_pos c] at k
          have e27 := k.1
          replace k := k.2
          refine x_iinc (ls2 := [some (.inr 117), some (.inl x1), some (.inl x2), some (.inl x3), some (.inl (x4 + 1))]) d94_73 rfl e27 rfl ?_
          refine x_goto (pc2 := 5) d94_76 rfl ?_
          exact k
        · replace c : ¬ (¬ 1 = x2) := c
          rw [if_neg c] at k
          refine x_aload_n d94_30 rfl ?_
          refine x_iload d94_31 rfl ?_
          refine x_iload_n d94_33 rfl ?_
          refine y_invI (as := [.inl x4, .inl x1]) (t := []) (o := 117) gY_91 d94_34 gY_94.2.2.2 gM_10_45 rfl (sh_117 hW) rfl k (fun v28 I29 k => ?_)
          refine x_if1 (pc2 := 73) d94_37 rfl (fun c => ?_) (fun c => ?_)
          · replace c : v28 = 0 := c
            rw [if_pos c] at k
            have e30 := k.1
            replace k := k.2
            refine x_iinc (ls2 := [some (.inr 117), some (.inl x1), some (.inl x2), some (.inl x3), some (.inl (x4 + 1))]) d94_73 rfl e30 rfl ?_
            refine x_goto (pc2 := 5) d94_76 rfl ?_
            exact k
          · replace c : ¬ (v28 = 0) := c
            rw [if_neg c] at k
            refine x_iload_n d94_40 rfl ?_
            refine x_if1 (pc2 := 70) d94_41 rfl (fun c => ?_) (fun c => ?_)
            · replace c : x3 < 0 := c
              rw [if_pos c] at k
              refine x_iload d94_70 rfl ?_
              refine x_istore_n (ls2 := [some (.inr 117), some (.inl x1), some (.inl x2), some (.inl x4), some (.inl x4)]) d94_72 rfl rfl ?_
              have e31 := k.1
              replace k := k.2
              refine x_iinc (ls2 := [some (.inr 117), some (.inl x1), some (.inl x2), some (.inl x4), some (.inl (x4 + 1))]) d94_73 rfl e31 rfl ?_
              refine x_goto (pc2 := 5) d94_76 rfl ?_
              exact k
            · replace c : ¬ (x3 < 0) := c
              rw [if_neg c] at k
              refine x_aload_n d94_44 rfl ?_
              refine x_getR (r := 118) d94_45 gY_94.2.2.2 gF_10_9 rfl (sh_117 hW) (rf_117_1 hW) (by decide) ?_
              refine x_iload d94_48 rfl ?_
              have e32 := k.1
              replace k := k.2
              refine x_iald d94_50 (sh_118 hW) e32.1 e32.2 ?_
              refine x_iload_n d94_51 rfl ?_
              have e33 := k.1
              replace k := k.2
              refine x_isub d94_52 e33 ?_
              have e34 := k.1
              replace k := k.2
              refine x_abs d94_53 gY_94.2.2.2 gM_10_57 (of_decide_eq_true rfl) e34 ?_
              refine x_aload_n d94_56 rfl ?_
              refine x_getR (r := 118) d94_57 gY_94.2.2.2 gF_10_9 rfl (sh_117 hW) (rf_117_1 hW) (by decide) ?_
              refine x_iload_n d94_60 rfl ?_
              have e35 := k.1
              replace k := k.2
              refine x_iald d94_61 (sh_118 hW) e35.1 e35.2 ?_
              refine x_iload_n d94_62 rfl ?_
              have e36 := k.1
              replace k := k.2
              refine x_isub d94_63 e36 ?_
              have e37 := k.1
              replace k := k.2
              refine x_abs d94_64 gY_94.2.2.2 gM_10_57 (of_decide_eq_true rfl) e37 ?_
              refine x_if2 (pc2 := 73) d94_67 rfl (fun c => ?_) (fun c => ?_)
              · replace c : (if 0 ≤ (I29 118 (x3).toNat - x1) then (I29 118 (x3).toNat - x1) else 0 - (I29 118 (x3).toNat - x1)) ≤ (if 0 ≤ (I29 118 (x4).toNat - x1) then (I29 118 (x4).toNat - x1) else 0 - (I29 118 (x4).toNat - x1)) := c
                rw [if_pos c] at k
                have e38 := k.1
                replace k := k.2
                refine x_iinc (ls2 := [some (.inr 117), some (.inl x1), some (.inl x2), some (.inl x3), some (.inl (x4 + 1))]) d94_73 rfl e38 rfl ?_
                refine x_goto (pc2 := 5) d94_76 rfl ?_
                exact k
              · replace c : ¬ ((if 0 ≤ (I29 118 (x3).toNat - x1) then (I29 118 (x3).toNat - x1) else 0 - (I29 118 (x3).toNat - x1)) ≤ (if 0 ≤ (I29 118 (x4).toNat - x1) then (I29 118 (x4).toNat - x1) else 0 - (I29 118 (x4).toNat - x1))) := c
                rw [if_neg c] at k
                refine x_iload d94_70 rfl ?_
                refine x_istore_n (ls2 := [some (.inr 117), some (.inl x1), some (.inl x2), some (.inl x4), some (.inl x4)]) d94_72 rfl rfl ?_
                have e39 := k.1
                replace k := k.2
                refine x_iinc (ls2 := [some (.inr 117), some (.inl x1), some (.inl x2), some (.inl x4), some (.inl (x4 + 1))]) d94_73 rfl e39 rfl ?_
                refine x_goto (pc2 := 5) d94_76 rfl ?_
                exact k
