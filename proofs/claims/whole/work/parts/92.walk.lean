-- CLASS AND MODEL AGREE behind the two constructors: the cells that this asks for
theorem pCount_0 {p : Nat → Bool} : pCount p 0 = 0 := rfl
theorem l_rel0 {I : ZI} {R : ZR}
    (z19 : ∀ k, I 19 k = 0) (z20 : ∀ k, I 20 k = 0) (z21 : ∀ k, I 21 k = 0) (z22 : ∀ k, I 22 k = 0) (z23 : ∀ k, I 23 k = 0)
    (z138 : ∀ k, I 138 k = 0) (z139 : ∀ k, I 139 k = 0) (z140 : ∀ k, I 140 k = 0) (z141 : ∀ k, I 141 k = 0) (z142 : ∀ k, I 142 k = 0)
    (z3 : ∀ k, I 3 k = 0) (z144 : ∀ k, I 144 k = 0)
    (h18 : I 18 5 = 0 ∧ I 18 6 = 0 ∧ I 18 7 = 0 ∧ I 18 8 = 1) (h137 : I 137 0 = 0 ∧ I 137 1 = 0 ∧ I 137 2 = 0 ∧ I 137 5 = 1)
    (hk : I 1 15 = 0 ∧ I 137 67 = 0) (he : I 15 0 = 9 ∧ I 137 3 = 9 ∧ I 15 1 = 0 ∧ I 137 4 = 0)
    (h13 : ∀ k, k < 20 → I 13 k = (k : Int) ∧ I 143 k = (k : Int)) (ht : I 2 1 = 0 ∧ I 137 13 = 0) (hb : I 63 0 = 0)
    (hl : ∃ lw md, (lw = 5 ∧ md = 45 ∨ lw = 45 ∧ md = 5) ∧ R 42 4 = lw ∧ R 4 1 = md ∧ I lw 7 = 0 ∧ I lw 8 = 0 ∧ I lw 9 = 0) (h22 : I 137 22 = 0) (hT : rTab R) : Rel 0 I R := by
  obtain ⟨h1, h2, h3, h4⟩ := h18
  obtain ⟨g1, g2, g3, g4⟩ := h137
  obtain ⟨e1, e2, e3, e4⟩ := he
  refine ⟨⟨⟨by rw [h1, g1], by rw [h2, g2], by rw [h3, g3], by rw [h4, g4], fun k _ => ?_⟩, ?_⟩, ⟨fun h => ?_, fun h => ?_, by rw [hk.1, hk.2], .inl hk.1⟩, ⟨⟨by rw [e1, e2], by rw [e1]; decide, by rw [e1]; decide⟩, ⟨by rw [e3, e4], by rw [e3]; decide, by rw [e3, e1]; exact show (0 : Int) < 2 ^ 9 by decide⟩, fun k hk2 => ?_⟩, ⟨⟨by rw [ht.1, ht.2], by rw [ht.1]; decide, by rw [ht.1]; decide⟩, fun k _ => ?_⟩, hb, ?_, hT⟩
  · exact ⟨(z19 k).trans (z138 k).symm, (z20 k).trans (z139 k).symm, (z21 k).trans (z140 k).symm, (z22 k).trans (z141 k).symm, (z23 k).trans (z142 k).symm⟩
  · rw [h1, h2, h3, h4]
    refine ⟨by decide, rfl, fun k h => ?_, fun k h => ?_, fun j k _ h => ?_, fun k h => ?_⟩ <;> exact absurd h (by omega)
  · exact absurd (hk.1.symm.trans h) (by decide)
  · exact absurd (hk.1.symm.trans h) (by decide)
  · have h := h13 k hk2
    exact ⟨h.1.trans h.2.symm, by rw [h.1]; omega, by rw [h.1]; omega⟩
  · rw [z144, z3]
    exact ⟨by decide, by decide, by decide⟩
  · obtain ⟨lw, md, q1, q2, q3, q4, q5, q6⟩ := hl
    refine ⟨lw, md, q1, q2, q3, ⟨by rw [q4, h22], by rw [q4]; decide, by rw [q4]; decide, by rw [q5]; decide, by rw [q5]; decide, by rw [q6]; decide, by rw [q6]; decide⟩, fun p h => ?_, fun c h => ?_⟩
    · rw [q5] at h; exact absurd h (by omega)
    · rw [q4] at h; exact absurd h (by omega)
-- MAKING the two objects
set_option maxHeartbeats 0 in
set_option maxRecDepth 100000 in
theorem l_made {L : Nat} {xs : Nat → Int} (hL : L ≤ 3072) (hx : ∀ k, zr (xs k)) : Ex 1000 250 0 [some (.inr zSc), none, none, none] [] (zw0 L xs) (fun r _ => r = some (.inl 1)) := by
  unfold zw0
  refine w_new (m := 1) (bc2 := 199) (bs2 := 79984) (nf := 16) (ci := 11) d250_0 gY_250.2.2.2 (by decide +kernel) (by decide +kernel) rfl rfl rfl (by decide) ?_
  refine x_dup d250_3 ?_
  refine w_spc (bc2 := 64) (bs2 := 67767) (as := []) (t := [.inr 1]) (o := 1) gY_95 d250_4 gY_250.2.2.2 gM_13_9 (by decide) rfl (by decide) (by decide) (zloc_eq gY_95.2.2.1) rfl rfl ?_
  refine x_aload_n d95_0 rfl ?_
  refine x_obj d95_1 gY_95.2.2.2 gM_11_1 (by decide) ?_
  refine x_aload_n d95_4 rfl ?_
  refine w_new (m := 2) (bc2 := 134) (bs2 := 12215) (nf := 2) (ci := 9) d95_5 gY_95.2.2.2 (by decide +kernel) (by decide +kernel) rfl rfl rfl (by decide) ?_
  refine x_dup d95_8 ?_
  refine w_spc (bc2 := 133) (bs2 := 11995) (as := []) (t := [.inr 2, .inr 1]) (o := 2) gY_81 d95_9 gY_95.2.2.2 gM_11_9 (by decide) rfl (by decide) (by decide) (zloc_eq gY_81.2.2.1) rfl rfl ?_
  refine x_aload_n d81_0 rfl ?_
  refine x_obj d81_1 gY_81.2.2.2 gM_9_1 (by decide) ?_
  refine x_aload_n d81_4 rfl ?_
  refine x_sipush d81_5 rfl ?_
  refine w_newI (m := 3) (bc2 := 0) (bs2 := 0) (l := 220) d81_8 rfl rfl rfl (by decide) (by decide) ?_
  refine x_putA d81_10 gY_81.2.2.2 gF_9_9 rfl (by decide +kernel) rfl ?_
  refine x_aload_n d81_13 rfl ?_
  refine x_iconst d81_14 rfl ?_
  refine x_putI d81_15 gY_81.2.2.2 gF_9_13 rfl (by decide +kernel) rfl ?_
  refine x_vret d81_18 rfl ?_
  show Ex 999 95 12 [some (.inr 1), none] [.inr 2, .inr 1] (133, 11995, 3, _, _, _) _
  refine x_putO d95_12 gY_95.2.2.2 gF_11_10 rfl (by decide +kernel) rfl ?_
  refine x_aload_n d95_15 rfl ?_
  refine w_new (m := 4) (bc2 := 132) (bs2 := 11990) (nf := 5) (ci := 2) d95_16 gY_95.2.2.2 (by decide +kernel) (by decide +kernel) rfl rfl rfl (by decide) ?_
  refine x_dup d95_19 ?_
  refine x_aload_n d95_20 rfl ?_
  refine x_getR (r := 2) d95_21 gY_95.2.2.2 gF_11_10 rfl rfl rfl (by decide) ?_
  refine x_getR (r := 3) d95_24 gY_95.2.2.2 gF_11_18 rfl rfl rfl (by decide) ?_
  refine w_spc (bc2 := 124) (bs2 := 11324) (as := [.inr 3]) (t := [.inr 4, .inr 1]) (o := 4) gY_17 d95_27 gY_95.2.2.2 gM_11_22 (by decide) rfl (by decide) (by decide) (zloc_eq gY_17.2.2.1) rfl rfl ?_
  refine x_aload_n d17_0 rfl ?_
  refine x_obj d17_1 gY_17.2.2.2 gM_2_1 (by decide) ?_
  refine x_aload_n d17_4 rfl ?_
  refine w_new (m := 5) (bc2 := 7) (bs2 := 656) (nf := 10) (ci := 1) d17_5 gY_17.2.2.2 (by decide +kernel) (by decide +kernel) rfl rfl rfl (by decide) ?_
  refine x_dup d17_8 ?_
  refine w_spc (bc2 := 0) (bs2 := 0) (as := []) (t := [.inr 5, .inr 4]) (o := 5) gY_6 d17_9 gY_17.2.2.2 gM_2_9 (by decide) rfl (by decide) (by decide) (zloc_eq gY_6.2.2.1) rfl rfl ?_
  refine x_aload_n d6_0 rfl ?_
  refine x_obj d6_1 gY_6.2.2.2 gM_1_1 (by decide) ?_
  refine x_aload_n d6_4 rfl ?_
  refine x_bipush d6_5 rfl ?_
  refine w_newI (m := 6) (bc2 := 6) (bs2 := 642) (l := 14) d6_7 rfl rfl rfl (by decide) (by decide) ?_
  refine x_putA d6_9 gY_6.2.2.2 gF_1_9 rfl (by decide +kernel) rfl ?_
  refine x_aload_n d6_12 rfl ?_
  refine x_bipush d6_13 rfl ?_
  refine w_newI (m := 7) (bc2 := 5) (bs2 := 628) (l := 14) d6_15 rfl rfl rfl (by decide) (by decide) ?_
  refine x_putA d6_17 gY_6.2.2.2 gF_1_13 rfl (by decide +kernel) rfl ?_
  refine x_aload_n d6_20 rfl ?_
  refine x_bipush d6_21 rfl ?_
  refine w_newI (m := 8) (bc2 := 4) (bs2 := 614) (l := 14) d6_23 rfl rfl rfl (by decide) (by decide) ?_
  refine x_putA d6_25 gY_6.2.2.2 gF_1_16 rfl (by decide +kernel) rfl ?_
  refine x_aload_n d6_28 rfl ?_
  refine x_bipush d6_29 rfl ?_
  refine w_newI (m := 9) (bc2 := 3) (bs2 := 600) (l := 14) d6_31 rfl rfl rfl (by decide) (by decide) ?_
  refine x_putA d6_33 gY_6.2.2.2 gF_1_19 rfl (by decide +kernel) rfl ?_
  refine x_aload_n d6_36 rfl ?_
  refine x_sipush d6_37 rfl ?_
  refine w_newI (m := 10) (bc2 := 2) (bs2 := 400) (l := 200) d6_40 rfl rfl rfl (by decide) (by decide) ?_
  refine x_putA d6_42 gY_6.2.2.2 gF_1_22 rfl (by decide +kernel) rfl ?_
  refine x_aload_n d6_45 rfl ?_
  refine x_sipush d6_46 rfl ?_
  refine w_newI (m := 11) (bc2 := 1) (bs2 := 200) (l := 200) d6_49 rfl rfl rfl (by decide) (by decide) ?_
  refine x_putA d6_51 gY_6.2.2.2 gF_1_25 rfl (by decide +kernel) rfl ?_
  refine x_aload_n d6_54 rfl ?_
  refine x_sipush d6_55 rfl ?_
  refine w_newI (m := 12) (bc2 := 0) (bs2 := 0) (l := 200) d6_58 rfl rfl rfl (by decide) (by decide) ?_
  refine x_putA d6_60 gY_6.2.2.2 gF_1_28 rfl (by decide +kernel) rfl ?_
  refine x_aload_n d6_63 rfl ?_
  refine x_iconst d6_64 rfl ?_
  refine x_putI d6_65 gY_6.2.2.2 gF_1_31 rfl (by decide +kernel) rfl ?_
  refine x_aload_n d6_68 rfl ?_
  refine x_iconst d6_69 rfl ?_
  refine x_putI d6_70 gY_6.2.2.2 gF_1_35 rfl (by decide +kernel) rfl ?_
  refine x_aload_n d6_73 rfl ?_
  refine x_iconst d6_74 rfl ?_
  refine x_putI d6_75 gY_6.2.2.2 gF_1_38 rfl (by decide +kernel) rfl ?_
  refine x_vret d6_78 rfl ?_
  show Ex 998 17 12 [some (.inr 4), some (.inr 3)] [.inr 5, .inr 4] (0, 0, 12, _, _, _) _
  refine x_putO d17_12 gY_17.2.2.2 gF_2_10 rfl (by decide +kernel) rfl ?_
  refine x_aload_n d17_15 rfl ?_
  refine x_iconst d17_16 rfl ?_
  refine x_putI d17_17 gY_17.2.2.2 gF_2_16 rfl (by decide +kernel) rfl ?_
  refine x_aload_n d17_20 rfl ?_
  refine x_iconst d17_21 rfl ?_
  refine x_putI d17_22 gY_17.2.2.2 gF_2_20 rfl (by decide +kernel) rfl ?_
  refine x_aload_n d17_25 rfl ?_
  refine x_iconst d17_26 rfl ?_
  refine x_putI d17_27 gY_17.2.2.2 gF_2_23 rfl (by decide +kernel) rfl ?_
  refine x_aload_n d17_30 rfl ?_
  refine x_aload_n d17_31 rfl ?_
  refine x_putA d17_32 gY_17.2.2.2 gF_2_26 rfl (by decide +kernel) rfl ?_
  refine x_vret d17_35 rfl ?_
  show Ex 999 95 30 [some (.inr 1), none] [.inr 4, .inr 1] (124, 11324, 12, _, _, _) _
  refine x_putO d95_30 gY_95.2.2.2 gF_11_25 rfl (by decide +kernel) rfl ?_
  refine x_aload_n d95_33 rfl ?_
  refine x_bipush d95_34 rfl ?_
  refine w_newI (m := 13) (bc2 := 123) (bs2 := 11304) (l := 20) d95_36 rfl rfl rfl (by decide) (by decide) ?_
  refine x_putA d95_38 gY_95.2.2.2 gF_11_29 rfl (by decide +kernel) rfl ?_
  refine x_aload_n d95_41 rfl ?_
  refine x_bipush d95_42 rfl ?_
  refine w_newI (m := 14) (bc2 := 122) (bs2 := 11272) (l := 32) d95_44 rfl rfl rfl (by decide) (by decide) ?_
  refine x_putA d95_46 gY_95.2.2.2 gF_11_32 rfl (by decide +kernel) rfl ?_
  refine x_aload_n d95_49 rfl ?_
  refine w_new (m := 15) (bc2 := 121) (bs2 := 11268) (nf := 4) (ci := 4) d95_50 gY_95.2.2.2 (by decide +kernel) (by decide +kernel) rfl rfl rfl (by decide) ?_
  refine x_dup d95_53 ?_
  refine w_spc (bc2 := 119) (bs2 := 11226) (as := []) (t := [.inr 15, .inr 1]) (o := 15) gY_40 d95_54 gY_95.2.2.2 gM_11_37 (by decide) rfl (by decide) (by decide) (zloc_eq gY_40.2.2.1) rfl rfl ?_
  refine x_aload_n d40_0 rfl ?_
  refine x_obj d40_1 gY_40.2.2.2 gM_4_3 (by decide) ?_
  refine x_aload_n d40_4 rfl ?_
  refine x_bipush d40_5 rfl ?_
  refine x_putI d40_7 gY_40.2.2.2 gF_4_9 rfl (by decide +kernel) rfl ?_
  refine x_aload_n d40_10 rfl ?_
  refine x_iconst d40_11 rfl ?_
  refine x_putI d40_12 gY_40.2.2.2 gF_4_15 rfl (by decide +kernel) rfl ?_
  refine x_aload_n d40_15 rfl ?_
  refine x_bipush d40_16 rfl ?_
  refine w_newI (m := 16) (bc2 := 1) (bs2 := 32) (l := 10) d40_18 rfl rfl rfl (by decide) (by decide) ?_
  refine x_putA d40_20 gY_40.2.2.2 gF_4_18 rfl (by decide +kernel) rfl ?_
  refine x_aload_n d40_23 rfl ?_
  refine x_bipush d40_24 rfl ?_
  refine w_newI (m := 17) (bc2 := 0) (bs2 := 0) (l := 32) d40_26 rfl rfl rfl (by decide) (by decide) ?_
  refine x_putA d40_28 gY_40.2.2.2 gF_4_22 rfl (by decide +kernel) rfl ?_
  refine x_vret d40_31 rfl ?_
  show Ex 999 95 57 [some (.inr 1), none] [.inr 15, .inr 1] (119, 11226, 17, _, _, _) _
  refine x_putO d95_57 gY_95.2.2.2 gF_11_38 rfl (by decide +kernel) rfl ?_
  refine x_aload_n d95_60 rfl ?_
  refine w_new (m := 18) (bc2 := 118) (bs2 := 11217) (nf := 9) (ci := 7) d95_61 gY_95.2.2.2 (by decide +kernel) (by decide +kernel) rfl rfl rfl (by decide) ?_
  refine x_dup d95_64 ?_
  refine w_spc (bc2 := 113) (bs2 := 11057) (as := []) (t := [.inr 18, .inr 1]) (o := 18) gY_60 d95_65 gY_95.2.2.2 gM_11_44 (by decide) rfl (by decide) (by decide) (zloc_eq gY_60.2.2.1) rfl rfl ?_
  refine x_aload_n d60_0 rfl ?_
  refine x_obj d60_1 gY_60.2.2.2 gM_7_3 (by decide) ?_
  refine x_aload_n d60_4 rfl ?_
  refine x_bipush d60_5 rfl ?_
  refine w_newI (m := 19) (bc2 := 4) (bs2 := 128) (l := 32) d60_7 rfl rfl rfl (by decide) (by decide) ?_
  refine x_putA d60_9 gY_60.2.2.2 gF_7_9 rfl (by decide +kernel) rfl ?_
  refine x_aload_n d60_12 rfl ?_
  refine x_bipush d60_13 rfl ?_
  refine w_newI (m := 20) (bc2 := 3) (bs2 := 96) (l := 32) d60_15 rfl rfl rfl (by decide) (by decide) ?_
  refine x_putA d60_17 gY_60.2.2.2 gF_7_15 rfl (by decide +kernel) rfl ?_
  refine x_aload_n d60_20 rfl ?_
  refine x_bipush d60_21 rfl ?_
  refine w_newI (m := 21) (bc2 := 2) (bs2 := 64) (l := 32) d60_23 rfl rfl rfl (by decide) (by decide) ?_
  refine x_putA d60_25 gY_60.2.2.2 gF_7_18 rfl (by decide +kernel) rfl ?_
  refine x_aload_n d60_28 rfl ?_
  refine x_bipush d60_29 rfl ?_
  refine w_newI (m := 22) (bc2 := 1) (bs2 := 32) (l := 32) d60_31 rfl rfl rfl (by decide) (by decide) ?_
  refine x_putA d60_33 gY_60.2.2.2 gF_7_21 rfl (by decide +kernel) rfl ?_
  refine x_aload_n d60_36 rfl ?_
  refine x_bipush d60_37 rfl ?_
  refine w_newI (m := 23) (bc2 := 0) (bs2 := 0) (l := 32) d60_39 rfl rfl rfl (by decide) (by decide) ?_
  refine x_putA d60_41 gY_60.2.2.2 gF_7_24 rfl (by decide +kernel) rfl ?_
  refine x_aload_n d60_44 rfl ?_
  refine x_iconst d60_45 rfl ?_
  refine x_putI d60_46 gY_60.2.2.2 gF_7_27 rfl (by decide +kernel) rfl ?_
  refine x_aload_n d60_49 rfl ?_
  refine x_iconst d60_50 rfl ?_
  refine x_putI d60_51 gY_60.2.2.2 gF_7_31 rfl (by decide +kernel) rfl ?_
  refine x_aload_n d60_54 rfl ?_
  refine x_iconst d60_55 rfl ?_
  refine x_putI d60_56 gY_60.2.2.2 gF_7_34 rfl (by decide +kernel) rfl ?_
  refine x_aload_n d60_59 rfl ?_
  refine x_iconst d60_60 rfl ?_
  refine x_putI d60_61 gY_60.2.2.2 gF_7_37 rfl (by decide +kernel) rfl ?_
  refine x_vret d60_64 rfl ?_
  show Ex 999 95 68 [some (.inr 1), none] [.inr 18, .inr 1] (113, 11057, 23, _, _, _) _
  refine x_putO d95_68 gY_95.2.2.2 gF_11_45 rfl (by decide +kernel) rfl ?_
  refine x_aload_n d95_71 rfl ?_
  refine w_new (m := 24) (bc2 := 112) (bs2 := 11048) (nf := 9) (ci := 7) d95_72 gY_95.2.2.2 (by decide +kernel) (by decide +kernel) rfl rfl rfl (by decide) ?_
  refine x_dup d95_75 ?_
  refine w_spc (bc2 := 107) (bs2 := 10888) (as := []) (t := [.inr 24, .inr 1]) (o := 24) gY_60 d95_76 gY_95.2.2.2 gM_11_44 (by decide) rfl (by decide) (by decide) (zloc_eq gY_60.2.2.1) rfl rfl ?_
  refine x_aload_n d60_0 rfl ?_
  refine x_obj d60_1 gY_60.2.2.2 gM_7_3 (by decide) ?_
  refine x_aload_n d60_4 rfl ?_
  refine x_bipush d60_5 rfl ?_
  refine w_newI (m := 25) (bc2 := 4) (bs2 := 128) (l := 32) d60_7 rfl rfl rfl (by decide) (by decide) ?_
  refine x_putA d60_9 gY_60.2.2.2 gF_7_9 rfl (by decide +kernel) rfl ?_
  refine x_aload_n d60_12 rfl ?_
  refine x_bipush d60_13 rfl ?_
  refine w_newI (m := 26) (bc2 := 3) (bs2 := 96) (l := 32) d60_15 rfl rfl rfl (by decide) (by decide) ?_
  refine x_putA d60_17 gY_60.2.2.2 gF_7_15 rfl (by decide +kernel) rfl ?_
  refine x_aload_n d60_20 rfl ?_
  refine x_bipush d60_21 rfl ?_
  refine w_newI (m := 27) (bc2 := 2) (bs2 := 64) (l := 32) d60_23 rfl rfl rfl (by decide) (by decide) ?_
  refine x_putA d60_25 gY_60.2.2.2 gF_7_18 rfl (by decide +kernel) rfl ?_
  refine x_aload_n d60_28 rfl ?_
  refine x_bipush d60_29 rfl ?_
  refine w_newI (m := 28) (bc2 := 1) (bs2 := 32) (l := 32) d60_31 rfl rfl rfl (by decide) (by decide) ?_
  refine x_putA d60_33 gY_60.2.2.2 gF_7_21 rfl (by decide +kernel) rfl ?_
  refine x_aload_n d60_36 rfl ?_
  refine x_bipush d60_37 rfl ?_
  refine w_newI (m := 29) (bc2 := 0) (bs2 := 0) (l := 32) d60_39 rfl rfl rfl (by decide) (by decide) ?_
  refine x_putA d60_41 gY_60.2.2.2 gF_7_24 rfl (by decide +kernel) rfl ?_
  refine x_aload_n d60_44 rfl ?_
  refine x_iconst d60_45 rfl ?_
  refine x_putI d60_46 gY_60.2.2.2 gF_7_27 rfl (by decide +kernel) rfl ?_
  refine x_aload_n d60_49 rfl ?_
  refine x_iconst d60_50 rfl ?_
  refine x_putI d60_51 gY_60.2.2.2 gF_7_31 rfl (by decide +kernel) rfl ?_
  refine x_aload_n d60_54 rfl ?_
  refine x_iconst d60_55 rfl ?_
  refine x_putI d60_56 gY_60.2.2.2 gF_7_34 rfl (by decide +kernel) rfl ?_
  refine x_aload_n d60_59 rfl ?_
  refine x_iconst d60_60 rfl ?_
  refine x_putI d60_61 gY_60.2.2.2 gF_7_37 rfl (by decide +kernel) rfl ?_
  refine x_vret d60_64 rfl ?_
  show Ex 999 95 79 [some (.inr 1), none] [.inr 24, .inr 1] (107, 10888, 29, _, _, _) _
  refine x_putO d95_79 gY_95.2.2.2 gF_11_49 rfl (by decide +kernel) rfl ?_
  refine x_aload_n d95_82 rfl ?_
  refine w_new (m := 30) (bc2 := 106) (bs2 := 10879) (nf := 9) (ci := 7) d95_83 gY_95.2.2.2 (by decide +kernel) (by decide +kernel) rfl rfl rfl (by decide) ?_
  refine x_dup d95_86 ?_
  refine w_spc (bc2 := 101) (bs2 := 10719) (as := []) (t := [.inr 30, .inr 1]) (o := 30) gY_60 d95_87 gY_95.2.2.2 gM_11_44 (by decide) rfl (by decide) (by decide) (zloc_eq gY_60.2.2.1) rfl rfl ?_
  refine x_aload_n d60_0 rfl ?_
  refine x_obj d60_1 gY_60.2.2.2 gM_7_3 (by decide) ?_
  refine x_aload_n d60_4 rfl ?_
  refine x_bipush d60_5 rfl ?_
  refine w_newI (m := 31) (bc2 := 4) (bs2 := 128) (l := 32) d60_7 rfl rfl rfl (by decide) (by decide) ?_
  refine x_putA d60_9 gY_60.2.2.2 gF_7_9 rfl (by decide +kernel) rfl ?_
  refine x_aload_n d60_12 rfl ?_
  refine x_bipush d60_13 rfl ?_
  refine w_newI (m := 32) (bc2 := 3) (bs2 := 96) (l := 32) d60_15 rfl rfl rfl (by decide) (by decide) ?_
  refine x_putA d60_17 gY_60.2.2.2 gF_7_15 rfl (by decide +kernel) rfl ?_
  refine x_aload_n d60_20 rfl ?_
  refine x_bipush d60_21 rfl ?_
  refine w_newI (m := 33) (bc2 := 2) (bs2 := 64) (l := 32) d60_23 rfl rfl rfl (by decide) (by decide) ?_
  refine x_putA d60_25 gY_60.2.2.2 gF_7_18 rfl (by decide +kernel) rfl ?_
  refine x_aload_n d60_28 rfl ?_
  refine x_bipush d60_29 rfl ?_
  refine w_newI (m := 34) (bc2 := 1) (bs2 := 32) (l := 32) d60_31 rfl rfl rfl (by decide) (by decide) ?_
  refine x_putA d60_33 gY_60.2.2.2 gF_7_21 rfl (by decide +kernel) rfl ?_
  refine x_aload_n d60_36 rfl ?_
  refine x_bipush d60_37 rfl ?_
  refine w_newI (m := 35) (bc2 := 0) (bs2 := 0) (l := 32) d60_39 rfl rfl rfl (by decide) (by decide) ?_
  refine x_putA d60_41 gY_60.2.2.2 gF_7_24 rfl (by decide +kernel) rfl ?_
  refine x_aload_n d60_44 rfl ?_
  refine x_iconst d60_45 rfl ?_
  refine x_putI d60_46 gY_60.2.2.2 gF_7_27 rfl (by decide +kernel) rfl ?_
  refine x_aload_n d60_49 rfl ?_
  refine x_iconst d60_50 rfl ?_
  refine x_putI d60_51 gY_60.2.2.2 gF_7_31 rfl (by decide +kernel) rfl ?_
  refine x_aload_n d60_54 rfl ?_
  refine x_iconst d60_55 rfl ?_
  refine x_putI d60_56 gY_60.2.2.2 gF_7_34 rfl (by decide +kernel) rfl ?_
  refine x_aload_n d60_59 rfl ?_
  refine x_iconst d60_60 rfl ?_
  refine x_putI d60_61 gY_60.2.2.2 gF_7_37 rfl (by decide +kernel) rfl ?_
  refine x_vret d60_64 rfl ?_
  show Ex 999 95 90 [some (.inr 1), none] [.inr 30, .inr 1] (101, 10719, 35, _, _, _) _
  refine x_putO d95_90 gY_95.2.2.2 gF_11_52 rfl (by decide +kernel) rfl ?_
  refine x_aload_n d95_93 rfl ?_
  refine w_new (m := 36) (bc2 := 100) (bs2 := 10710) (nf := 9) (ci := 7) d95_94 gY_95.2.2.2 (by decide +kernel) (by decide +kernel) rfl rfl rfl (by decide) ?_
  refine x_dup d95_97 ?_
  refine w_spc (bc2 := 95) (bs2 := 10550) (as := []) (t := [.inr 36, .inr 1]) (o := 36) gY_60 d95_98 gY_95.2.2.2 gM_11_44 (by decide) rfl (by decide) (by decide) (zloc_eq gY_60.2.2.1) rfl rfl ?_
  refine x_aload_n d60_0 rfl ?_
  refine x_obj d60_1 gY_60.2.2.2 gM_7_3 (by decide) ?_
  refine x_aload_n d60_4 rfl ?_
  refine x_bipush d60_5 rfl ?_
  refine w_newI (m := 37) (bc2 := 4) (bs2 := 128) (l := 32) d60_7 rfl rfl rfl (by decide) (by decide) ?_
  refine x_putA d60_9 gY_60.2.2.2 gF_7_9 rfl (by decide +kernel) rfl ?_
  refine x_aload_n d60_12 rfl ?_
  refine x_bipush d60_13 rfl ?_
  refine w_newI (m := 38) (bc2 := 3) (bs2 := 96) (l := 32) d60_15 rfl rfl rfl (by decide) (by decide) ?_
  refine x_putA d60_17 gY_60.2.2.2 gF_7_15 rfl (by decide +kernel) rfl ?_
  refine x_aload_n d60_20 rfl ?_
  refine x_bipush d60_21 rfl ?_
  refine w_newI (m := 39) (bc2 := 2) (bs2 := 64) (l := 32) d60_23 rfl rfl rfl (by decide) (by decide) ?_
  refine x_putA d60_25 gY_60.2.2.2 gF_7_18 rfl (by decide +kernel) rfl ?_
  refine x_aload_n d60_28 rfl ?_
  refine x_bipush d60_29 rfl ?_
  refine w_newI (m := 40) (bc2 := 1) (bs2 := 32) (l := 32) d60_31 rfl rfl rfl (by decide) (by decide) ?_
  refine x_putA d60_33 gY_60.2.2.2 gF_7_21 rfl (by decide +kernel) rfl ?_
  refine x_aload_n d60_36 rfl ?_
  refine x_bipush d60_37 rfl ?_
  refine w_newI (m := 41) (bc2 := 0) (bs2 := 0) (l := 32) d60_39 rfl rfl rfl (by decide) (by decide) ?_
  refine x_putA d60_41 gY_60.2.2.2 gF_7_24 rfl (by decide +kernel) rfl ?_
  refine x_aload_n d60_44 rfl ?_
  refine x_iconst d60_45 rfl ?_
  refine x_putI d60_46 gY_60.2.2.2 gF_7_27 rfl (by decide +kernel) rfl ?_
  refine x_aload_n d60_49 rfl ?_
  refine x_iconst d60_50 rfl ?_
  refine x_putI d60_51 gY_60.2.2.2 gF_7_31 rfl (by decide +kernel) rfl ?_
  refine x_aload_n d60_54 rfl ?_
  refine x_iconst d60_55 rfl ?_
  refine x_putI d60_56 gY_60.2.2.2 gF_7_34 rfl (by decide +kernel) rfl ?_
  refine x_aload_n d60_59 rfl ?_
  refine x_iconst d60_60 rfl ?_
  refine x_putI d60_61 gY_60.2.2.2 gF_7_37 rfl (by decide +kernel) rfl ?_
  refine x_vret d60_64 rfl ?_
  show Ex 999 95 101 [some (.inr 1), none] [.inr 36, .inr 1] (95, 10550, 41, _, _, _) _
  refine x_putO d95_101 gY_95.2.2.2 gF_11_55 rfl (by decide +kernel) rfl ?_
  refine x_aload_n d95_104 rfl ?_
  refine w_new (m := 42) (bc2 := 94) (bs2 := 10542) (nf := 8) (ci := 6) d95_105 gY_95.2.2.2 (by decide +kernel) (by decide +kernel) rfl rfl rfl (by decide) ?_
  refine x_dup d95_108 ?_
  refine x_aload_n d95_109 rfl ?_
  refine x_getR (r := 13) d95_110 gY_95.2.2.2 gF_11_29 rfl rfl rfl (by decide) ?_
  refine x_aload_n d95_113 rfl ?_
  refine x_getR (r := 15) d95_114 gY_95.2.2.2 gF_11_38 rfl rfl rfl (by decide) ?_
  refine w_spc (bc2 := 84) (bs2 := 9836) (as := [.inr 13, .inr 15]) (t := [.inr 42, .inr 1]) (o := 42) gY_51 d95_117 gY_95.2.2.2 gM_11_60 (by decide) rfl (by decide) (by decide) (zloc_eq gY_51.2.2.1) rfl rfl ?_
  refine x_aload_n d51_0 rfl ?_
  refine x_obj d51_1 gY_51.2.2.2 gM_6_3 (by decide) ?_
  refine x_aload_n d51_4 rfl ?_
  refine x_ldcS d51_5 gY_51.2.2.2 gK_6_11.1 gK_6_11.2 rfl ?_
  refine x_tln d51_7 gY_51.2.2.2 gM_6_13 (by decide) rfl ?_
  refine w_newI (m := 43) (bc2 := 9) (bs2 := 698) (l := 8) d51_10 rfl rfl rfl (by decide) (by decide) ?_
  refine x_putA d51_12 gY_51.2.2.2 gF_6_19 rfl (by decide +kernel) rfl ?_
  refine x_aload_n d51_15 rfl ?_
  refine x_bipush d51_16 rfl ?_
  refine w_newI (m := 44) (bc2 := 8) (bs2 := 666) (l := 32) d51_18 rfl rfl rfl (by decide) (by decide) ?_
  refine x_putA d51_20 gY_51.2.2.2 gF_6_25 rfl (by decide +kernel) rfl ?_
  refine x_aload_n d51_23 rfl ?_
  refine w_new (m := 45) (bc2 := 7) (bs2 := 656) (nf := 10) (ci := 1) d51_24 gY_51.2.2.2 (by decide +kernel) (by decide +kernel) rfl rfl rfl (by decide) ?_
  refine x_dup d51_27 ?_
  refine w_spc (bc2 := 0) (bs2 := 0) (as := []) (t := [.inr 45, .inr 42]) (o := 45) gY_6 d51_28 gY_51.2.2.2 gM_6_28 (by decide) rfl (by decide) (by decide) (zloc_eq gY_6.2.2.1) rfl rfl ?_
  refine x_aload_n d6_0 rfl ?_
  refine x_obj d6_1 gY_6.2.2.2 gM_1_1 (by decide) ?_
  refine x_aload_n d6_4 rfl ?_
  refine x_bipush d6_5 rfl ?_
  refine w_newI (m := 46) (bc2 := 6) (bs2 := 642) (l := 14) d6_7 rfl rfl rfl (by decide) (by decide) ?_
  refine x_putA d6_9 gY_6.2.2.2 gF_1_9 rfl (by decide +kernel) rfl ?_
  refine x_aload_n d6_12 rfl ?_
  refine x_bipush d6_13 rfl ?_
  refine w_newI (m := 47) (bc2 := 5) (bs2 := 628) (l := 14) d6_15 rfl rfl rfl (by decide) (by decide) ?_
  refine x_putA d6_17 gY_6.2.2.2 gF_1_13 rfl (by decide +kernel) rfl ?_
  refine x_aload_n d6_20 rfl ?_
  refine x_bipush d6_21 rfl ?_
  refine w_newI (m := 48) (bc2 := 4) (bs2 := 614) (l := 14) d6_23 rfl rfl rfl (by decide) (by decide) ?_
  refine x_putA d6_25 gY_6.2.2.2 gF_1_16 rfl (by decide +kernel) rfl ?_
  refine x_aload_n d6_28 rfl ?_
  refine x_bipush d6_29 rfl ?_
  refine w_newI (m := 49) (bc2 := 3) (bs2 := 600) (l := 14) d6_31 rfl rfl rfl (by decide) (by decide) ?_
  refine x_putA d6_33 gY_6.2.2.2 gF_1_19 rfl (by decide +kernel) rfl ?_
  refine x_aload_n d6_36 rfl ?_
  refine x_sipush d6_37 rfl ?_
  refine w_newI (m := 50) (bc2 := 2) (bs2 := 400) (l := 200) d6_40 rfl rfl rfl (by decide) (by decide) ?_
  refine x_putA d6_42 gY_6.2.2.2 gF_1_22 rfl (by decide +kernel) rfl ?_
  refine x_aload_n d6_45 rfl ?_
  refine x_sipush d6_46 rfl ?_
  refine w_newI (m := 51) (bc2 := 1) (bs2 := 200) (l := 200) d6_49 rfl rfl rfl (by decide) (by decide) ?_
  refine x_putA d6_51 gY_6.2.2.2 gF_1_25 rfl (by decide +kernel) rfl ?_
  refine x_aload_n d6_54 rfl ?_
  refine x_sipush d6_55 rfl ?_
  refine w_newI (m := 52) (bc2 := 0) (bs2 := 0) (l := 200) d6_58 rfl rfl rfl (by decide) (by decide) ?_
  refine x_putA d6_60 gY_6.2.2.2 gF_1_28 rfl (by decide +kernel) rfl ?_
  refine x_aload_n d6_63 rfl ?_
  refine x_iconst d6_64 rfl ?_
  refine x_putI d6_65 gY_6.2.2.2 gF_1_31 rfl (by decide +kernel) rfl ?_
  refine x_aload_n d6_68 rfl ?_
  refine x_iconst d6_69 rfl ?_
  refine x_putI d6_70 gY_6.2.2.2 gF_1_35 rfl (by decide +kernel) rfl ?_
  refine x_aload_n d6_73 rfl ?_
  refine x_iconst d6_74 rfl ?_
  refine x_putI d6_75 gY_6.2.2.2 gF_1_38 rfl (by decide +kernel) rfl ?_
  refine x_vret d6_78 rfl ?_
  show Ex 998 51 31 [some (.inr 42), some (.inr 13), some (.inr 15)] [.inr 45, .inr 42] (0, 0, 52, _, _, _) _
  refine x_putO d51_31 gY_51.2.2.2 gF_6_29 rfl (by decide +kernel) rfl ?_
  refine x_aload_n d51_34 rfl ?_
  refine x_iconst d51_35 rfl ?_
  refine x_putI d51_36 gY_51.2.2.2 gF_6_33 rfl (by decide +kernel) rfl ?_
  refine x_aload_n d51_39 rfl ?_
  refine x_iconst d51_40 rfl ?_
  refine x_putI d51_41 gY_51.2.2.2 gF_6_37 rfl (by decide +kernel) rfl ?_
  refine x_aload_n d51_44 rfl ?_
  refine x_iconst d51_45 rfl ?_
  refine x_putI d51_46 gY_51.2.2.2 gF_6_40 rfl (by decide +kernel) rfl ?_
  refine x_aload_n d51_49 rfl ?_
  refine x_aload_n d51_50 rfl ?_
  refine x_putA d51_51 gY_51.2.2.2 gF_6_43 rfl (by decide +kernel) rfl ?_
  refine x_aload_n d51_54 rfl ?_
  refine x_aload_n d51_55 rfl ?_
  refine x_putO d51_56 gY_51.2.2.2 gF_6_46 rfl (by decide +kernel) rfl ?_
  refine x_vret d51_59 rfl ?_
  show Ex 999 95 120 [some (.inr 1), none] [.inr 42, .inr 1] (84, 9836, 52, _, _, _) _
  refine x_putO d95_120 gY_95.2.2.2 gF_11_63 rfl (by decide +kernel) rfl ?_
  refine x_aload_n d95_123 rfl ?_
  refine w_new (m := 53) (bc2 := 83) (bs2 := 9830) (nf := 6) (ci := 5) d95_124 gY_95.2.2.2 (by decide +kernel) (by decide +kernel) rfl rfl rfl (by decide) ?_
  refine x_dup d95_127 ?_
  refine w_spc (bc2 := 78) (bs2 := 7714) (as := []) (t := [.inr 53, .inr 1]) (o := 53) gY_43 d95_128 gY_95.2.2.2 gM_11_69 (by decide) rfl (by decide) (by decide) (zloc_eq gY_43.2.2.1) rfl rfl ?_
  refine x_aload_n d43_0 rfl ?_
  refine x_obj d43_1 gY_43.2.2.2 gM_5_3 (by decide) ?_
  refine x_aload_n d43_4 rfl ?_
  refine x_bipush d43_5 rfl ?_
  refine w_newI (m := 54) (bc2 := 4) (bs2 := 2096) (l := 20) d43_7 rfl rfl rfl (by decide) (by decide) ?_
  refine x_putA d43_9 gY_43.2.2.2 gF_5_9 rfl (by decide +kernel) rfl ?_
  refine x_aload_n d43_12 rfl ?_
  refine x_bipush d43_13 rfl ?_
  refine w_newI (m := 55) (bc2 := 3) (bs2 := 2088) (l := 8) d43_15 rfl rfl rfl (by decide) (by decide) ?_
  refine x_putA d43_17 gY_43.2.2.2 gF_5_15 rfl (by decide +kernel) rfl ?_
  refine x_aload_n d43_20 rfl ?_
  refine x_iconst d43_21 rfl ?_
  refine x_putI d43_22 gY_43.2.2.2 gF_5_18 rfl (by decide +kernel) rfl ?_
  refine x_aload_n d43_25 rfl ?_
  refine x_bipush d43_26 rfl ?_
  refine w_newI (m := 56) (bc2 := 2) (bs2 := 2068) (l := 20) d43_28 rfl rfl rfl (by decide) (by decide) ?_
  refine x_putA d43_30 gY_43.2.2.2 gF_5_22 rfl (by decide +kernel) rfl ?_
  refine x_aload_n d43_33 rfl ?_
  refine x_bipush d43_34 rfl ?_
  refine w_newI (m := 57) (bc2 := 1) (bs2 := 2048) (l := 20) d43_36 rfl rfl rfl (by decide) (by decide) ?_
  refine x_putA d43_38 gY_43.2.2.2 gF_5_25 rfl (by decide +kernel) rfl ?_
  refine x_aload_n d43_41 rfl ?_
  refine x_sipush d43_42 rfl ?_
  refine w_newI (m := 58) (bc2 := 0) (bs2 := 0) (l := 2048) d43_45 rfl rfl rfl (by decide) (by decide) ?_
  refine x_putA d43_47 gY_43.2.2.2 gF_5_28 rfl (by decide +kernel) rfl ?_
  refine x_vret d43_50 rfl ?_
  show Ex 999 95 131 [some (.inr 1), none] [.inr 53, .inr 1] (78, 7714, 58, _, _, _) _
  refine x_putO d95_131 gY_95.2.2.2 gF_11_70 rfl (by decide +kernel) rfl ?_
  refine x_aload_n d95_134 rfl ?_
  refine w_new (m := 59) (bc2 := 77) (bs2 := 7710) (nf := 4) (ci := 3) d95_135 gY_95.2.2.2 (by decide +kernel) (by decide +kernel) rfl rfl rfl (by decide) ?_
  refine x_dup d95_138 ?_
  refine x_aload_n d95_139 rfl ?_
  refine x_getR (r := 15) d95_140 gY_95.2.2.2 gF_11_38 rfl rfl rfl (by decide) ?_
  refine x_aload_n d95_143 rfl ?_
  refine x_getR (r := 53) d95_144 gY_95.2.2.2 gF_11_70 rfl rfl rfl (by decide) ?_
  refine w_spc (bc2 := 76) (bs2 := 7690) (as := [.inr 15, .inr 53]) (t := [.inr 59, .inr 1]) (o := 59) gY_34 d95_147 gY_95.2.2.2 gM_11_76 (by decide) rfl (by decide) (by decide) (zloc_eq gY_34.2.2.1) rfl rfl ?_
  refine x_aload_n d34_0 rfl ?_
  refine x_obj d34_1 gY_34.2.2.2 gM_3_3 (by decide) ?_
  refine x_aload_n d34_4 rfl ?_
  refine x_bipush d34_5 rfl ?_
  refine w_newI (m := 60) (bc2 := 0) (bs2 := 0) (l := 20) d34_7 rfl rfl rfl (by decide) (by decide) ?_
  refine x_putA d34_9 gY_34.2.2.2 gF_3_9 rfl (by decide +kernel) rfl ?_
  refine x_aload_n d34_12 rfl ?_
  refine x_iconst d34_13 rfl ?_
  refine x_putI d34_14 gY_34.2.2.2 gF_3_15 rfl (by decide +kernel) rfl ?_
  refine x_aload_n d34_17 rfl ?_
  refine x_aload_n d34_18 rfl ?_
  refine x_putO d34_19 gY_34.2.2.2 gF_3_19 rfl (by decide +kernel) rfl ?_
  refine x_aload_n d34_22 rfl ?_
  refine x_aload_n d34_23 rfl ?_
  refine x_putO d34_24 gY_34.2.2.2 gF_3_23 rfl (by decide +kernel) rfl ?_
  refine x_vret d34_27 rfl ?_
  show Ex 999 95 150 [some (.inr 1), none] [.inr 59, .inr 1] (76, 7690, 60, _, _, _) _
  refine x_putO d95_150 gY_95.2.2.2 gF_11_79 rfl (by decide +kernel) rfl ?_
  refine x_aload_n d95_153 rfl ?_
  refine w_new (m := 61) (bc2 := 75) (bs2 := 7684) (nf := 6) (ci := 8) d95_154 gY_95.2.2.2 (by decide +kernel) (by decide +kernel) rfl rfl rfl (by decide) ?_
  refine x_dup d95_157 ?_
  refine x_aload_n d95_158 rfl ?_
  refine x_getR (r := 15) d95_159 gY_95.2.2.2 gF_11_38 rfl rfl rfl (by decide) ?_
  refine w_spc (bc2 := 20) (bs2 := 6582) (as := [.inr 15]) (t := [.inr 61, .inr 1]) (o := 61) gY_71 d95_162 gY_95.2.2.2 gM_11_85 (by decide) rfl (by decide) (by decide) (zloc_eq gY_71.2.2.1) rfl rfl ?_
  refine x_aload_n d71_0 rfl ?_
  refine x_obj d71_1 gY_71.2.2.2 gM_8_3 (by decide) ?_
  refine x_aload_n d71_4 rfl ?_
  refine x_bipush d71_5 rfl ?_
  refine w_newI (m := 62) (bc2 := 54) (bs2 := 1081) (l := 21) d71_7 rfl rfl rfl (by decide) (by decide) ?_
  refine x_putA d71_9 gY_71.2.2.2 gF_8_9 rfl (by decide +kernel) rfl ?_
  refine x_aload_n d71_12 rfl ?_
  refine x_bipush d71_13 rfl ?_
  refine w_newI (m := 63) (bc2 := 53) (bs2 := 1060) (l := 21) d71_15 rfl rfl rfl (by decide) (by decide) ?_
  refine x_putA d71_17 gY_71.2.2.2 gF_8_15 rfl (by decide +kernel) rfl ?_
  refine x_aload_n d71_20 rfl ?_
  refine x_bipush d71_21 rfl ?_
  refine x_bipush d71_23 rfl ?_
  refine w_mna (m := 64) (N := 10) (K := 21) (m2 := 74) (bc2 := 42) (bs2 := 840) d71_25 gY_71.2.2.2 rfl rfl rfl rfl (by decide) ?_
  refine x_putA d71_29 gY_71.2.2.2 gF_8_20 rfl (by decide +kernel) rfl ?_
  refine x_aload_n d71_32 rfl ?_
  refine x_bipush d71_33 rfl ?_
  refine x_bipush d71_35 rfl ?_
  refine w_mna (m := 75) (N := 20) (K := 20) (m2 := 95) (bc2 := 21) (bs2 := 420) d71_37 gY_71.2.2.2 rfl rfl rfl rfl (by decide) ?_
  refine x_putA d71_41 gY_71.2.2.2 gF_8_23 rfl (by decide +kernel) rfl ?_
  refine x_aload_n d71_44 rfl ?_
  refine x_bipush d71_45 rfl ?_
  refine x_bipush d71_47 rfl ?_
  refine w_mna (m := 96) (N := 20) (K := 20) (m2 := 116) (bc2 := 0) (bs2 := 0) d71_49 gY_71.2.2.2 rfl rfl rfl rfl (by decide) ?_
  refine x_putA d71_53 gY_71.2.2.2 gF_8_26 rfl (by decide +kernel) rfl ?_
  refine x_aload_n d71_56 rfl ?_
  refine x_aload_n d71_57 rfl ?_
  refine x_putO d71_58 gY_71.2.2.2 gF_8_29 rfl (by decide +kernel) rfl ?_
  refine x_vret d71_61 rfl ?_
  show Ex 999 95 165 [some (.inr 1), none] [.inr 61, .inr 1] (20, 6582, 116, _, _, _) _
  refine x_putO d95_165 gY_95.2.2.2 gF_11_88 rfl (by decide +kernel) rfl ?_
  refine x_aload_n d95_168 rfl ?_
  refine w_new (m := 117) (bc2 := 19) (bs2 := 6578) (nf := 4) (ci := 10) d95_169 gY_95.2.2.2 (by decide +kernel) (by decide +kernel) rfl rfl rfl (by decide) ?_
  refine x_dup d95_172 ?_
  refine x_aload_n d95_173 rfl ?_
  refine x_getR (r := 15) d95_174 gY_95.2.2.2 gF_11_38 rfl rfl rfl (by decide) ?_
  refine w_spc (bc2 := 16) (bs2 := 6527) (as := [.inr 15]) (t := [.inr 117, .inr 1]) (o := 117) gY_88 d95_177 gY_95.2.2.2 gM_11_94 (by decide) rfl (by decide) (by decide) (zloc_eq gY_88.2.2.1) rfl rfl ?_
  refine x_aload_n d88_0 rfl ?_
  refine x_obj d88_1 gY_88.2.2.2 gM_10_3 (by decide) ?_
  refine x_aload_n d88_4 rfl ?_
  refine x_bipush d88_5 rfl ?_
  refine w_newI (m := 118) (bc2 := 2) (bs2 := 42) (l := 9) d88_7 rfl rfl rfl (by decide) (by decide) ?_
  refine x_putA d88_9 gY_88.2.2.2 gF_10_9 rfl (by decide +kernel) rfl ?_
  refine x_aload_n d88_12 rfl ?_
  refine x_bipush d88_13 rfl ?_
  refine w_newI (m := 119) (bc2 := 1) (bs2 := 10) (l := 32) d88_15 rfl rfl rfl (by decide) (by decide) ?_
  refine x_putA d88_17 gY_88.2.2.2 gF_10_15 rfl (by decide +kernel) rfl ?_
  refine x_aload_n d88_20 rfl ?_
  refine x_bipush d88_21 rfl ?_
  refine w_newI (m := 120) (bc2 := 0) (bs2 := 0) (l := 10) d88_23 rfl rfl rfl (by decide) (by decide) ?_
  refine x_putA d88_25 gY_88.2.2.2 gF_10_18 rfl (by decide +kernel) rfl ?_
  refine x_aload_n d88_28 rfl ?_
  refine x_aload_n d88_29 rfl ?_
  refine x_putO d88_30 gY_88.2.2.2 gF_10_21 rfl (by decide +kernel) rfl ?_
  refine x_vret d88_33 rfl ?_
  show Ex 999 95 180 [some (.inr 1), none] [.inr 117, .inr 1] (16, 6527, 120, _, _, _) _
  refine x_putO d95_180 gY_95.2.2.2 gF_11_95 rfl (by decide +kernel) rfl ?_
  refine x_aload_n d95_183 rfl ?_
  refine w_new (m := 121) (bc2 := 15) (bs2 := 6517) (nf := 10) (ci := 0) d95_184 gY_95.2.2.2 (by decide +kernel) (by decide +kernel) rfl rfl rfl (by decide) ?_
  refine x_dup d95_187 ?_
  refine x_aload_n d95_188 rfl ?_
  refine x_getR (r := 15) d95_189 gY_95.2.2.2 gF_11_38 rfl rfl rfl (by decide) ?_
  refine x_aload_n d95_192 rfl ?_
  refine x_getR (r := 42) d95_193 gY_95.2.2.2 gF_11_63 rfl rfl rfl (by decide) ?_
  refine w_spc (bc2 := 0) (bs2 := 0) (as := [.inr 15, .inr 42]) (t := [.inr 121, .inr 1]) (o := 121) gY_0 d95_196 gY_95.2.2.2 gM_11_101 (by decide) rfl (by decide) (by decide) (zloc_eq gY_0.2.2.1) rfl rfl ?_
  refine x_aload_n d0_0 rfl ?_
  refine x_obj d0_1 gY_0.2.2.2 gM_0_3 (by decide) ?_
  refine x_aload_n d0_4 rfl ?_
  refine w_new (m := 122) (bc2 := 14) (bs2 := 6508) (nf := 9) (ci := 7) d0_5 gY_0.2.2.2 (by decide +kernel) (by decide +kernel) rfl rfl rfl (by decide) ?_
  refine x_dup d0_8 ?_
  refine w_spc (bc2 := 9) (bs2 := 6348) (as := []) (t := [.inr 122, .inr 121]) (o := 122) gY_60 d0_9 gY_0.2.2.2 gM_0_11 (by decide) rfl (by decide) (by decide) (zloc_eq gY_60.2.2.1) rfl rfl ?_
  refine x_aload_n d60_0 rfl ?_
  refine x_obj d60_1 gY_60.2.2.2 gM_7_3 (by decide) ?_
  refine x_aload_n d60_4 rfl ?_
  refine x_bipush d60_5 rfl ?_
  refine w_newI (m := 123) (bc2 := 4) (bs2 := 128) (l := 32) d60_7 rfl rfl rfl (by decide) (by decide) ?_
  refine x_putA d60_9 gY_60.2.2.2 gF_7_9 rfl (by decide +kernel) rfl ?_
  refine x_aload_n d60_12 rfl ?_
  refine x_bipush d60_13 rfl ?_
  refine w_newI (m := 124) (bc2 := 3) (bs2 := 96) (l := 32) d60_15 rfl rfl rfl (by decide) (by decide) ?_
  refine x_putA d60_17 gY_60.2.2.2 gF_7_15 rfl (by decide +kernel) rfl ?_
  refine x_aload_n d60_20 rfl ?_
  refine x_bipush d60_21 rfl ?_
  refine w_newI (m := 125) (bc2 := 2) (bs2 := 64) (l := 32) d60_23 rfl rfl rfl (by decide) (by decide) ?_
  refine x_putA d60_25 gY_60.2.2.2 gF_7_18 rfl (by decide +kernel) rfl ?_
  refine x_aload_n d60_28 rfl ?_
  refine x_bipush d60_29 rfl ?_
  refine w_newI (m := 126) (bc2 := 1) (bs2 := 32) (l := 32) d60_31 rfl rfl rfl (by decide) (by decide) ?_
  refine x_putA d60_33 gY_60.2.2.2 gF_7_21 rfl (by decide +kernel) rfl ?_
  refine x_aload_n d60_36 rfl ?_
  refine x_bipush d60_37 rfl ?_
  refine w_newI (m := 127) (bc2 := 0) (bs2 := 0) (l := 32) d60_39 rfl rfl rfl (by decide) (by decide) ?_
  refine x_putA d60_41 gY_60.2.2.2 gF_7_24 rfl (by decide +kernel) rfl ?_
  refine x_aload_n d60_44 rfl ?_
  refine x_iconst d60_45 rfl ?_
  refine x_putI d60_46 gY_60.2.2.2 gF_7_27 rfl (by decide +kernel) rfl ?_
  refine x_aload_n d60_49 rfl ?_
  refine x_iconst d60_50 rfl ?_
  refine x_putI d60_51 gY_60.2.2.2 gF_7_31 rfl (by decide +kernel) rfl ?_
  refine x_aload_n d60_54 rfl ?_
  refine x_iconst d60_55 rfl ?_
  refine x_putI d60_56 gY_60.2.2.2 gF_7_34 rfl (by decide +kernel) rfl ?_
  refine x_aload_n d60_59 rfl ?_
  refine x_iconst d60_60 rfl ?_
  refine x_putI d60_61 gY_60.2.2.2 gF_7_37 rfl (by decide +kernel) rfl ?_
  refine x_vret d60_64 rfl ?_
  show Ex 998 0 12 [some (.inr 121), some (.inr 15), some (.inr 42)] [.inr 122, .inr 121] (9, 6348, 127, _, _, _) _
  refine x_putO d0_12 gY_0.2.2.2 gF_0_12 rfl (by decide +kernel) rfl ?_
  refine x_aload_n d0_15 rfl ?_
  refine w_new (m := 128) (bc2 := 8) (bs2 := 6339) (nf := 9) (ci := 7) d0_16 gY_0.2.2.2 (by decide +kernel) (by decide +kernel) rfl rfl rfl (by decide) ?_
  refine x_dup d0_19 ?_
  refine w_spc (bc2 := 3) (bs2 := 6179) (as := []) (t := [.inr 128, .inr 121]) (o := 128) gY_60 d0_20 gY_0.2.2.2 gM_0_11 (by decide) rfl (by decide) (by decide) (zloc_eq gY_60.2.2.1) rfl rfl ?_
  refine x_aload_n d60_0 rfl ?_
  refine x_obj d60_1 gY_60.2.2.2 gM_7_3 (by decide) ?_
  refine x_aload_n d60_4 rfl ?_
  refine x_bipush d60_5 rfl ?_
  refine w_newI (m := 129) (bc2 := 4) (bs2 := 128) (l := 32) d60_7 rfl rfl rfl (by decide) (by decide) ?_
  refine x_putA d60_9 gY_60.2.2.2 gF_7_9 rfl (by decide +kernel) rfl ?_
  refine x_aload_n d60_12 rfl ?_
  refine x_bipush d60_13 rfl ?_
  refine w_newI (m := 130) (bc2 := 3) (bs2 := 96) (l := 32) d60_15 rfl rfl rfl (by decide) (by decide) ?_
  refine x_putA d60_17 gY_60.2.2.2 gF_7_15 rfl (by decide +kernel) rfl ?_
  refine x_aload_n d60_20 rfl ?_
  refine x_bipush d60_21 rfl ?_
  refine w_newI (m := 131) (bc2 := 2) (bs2 := 64) (l := 32) d60_23 rfl rfl rfl (by decide) (by decide) ?_
  refine x_putA d60_25 gY_60.2.2.2 gF_7_18 rfl (by decide +kernel) rfl ?_
  refine x_aload_n d60_28 rfl ?_
  refine x_bipush d60_29 rfl ?_
  refine w_newI (m := 132) (bc2 := 1) (bs2 := 32) (l := 32) d60_31 rfl rfl rfl (by decide) (by decide) ?_
  refine x_putA d60_33 gY_60.2.2.2 gF_7_21 rfl (by decide +kernel) rfl ?_
  refine x_aload_n d60_36 rfl ?_
  refine x_bipush d60_37 rfl ?_
  refine w_newI (m := 133) (bc2 := 0) (bs2 := 0) (l := 32) d60_39 rfl rfl rfl (by decide) (by decide) ?_
  refine x_putA d60_41 gY_60.2.2.2 gF_7_24 rfl (by decide +kernel) rfl ?_
  refine x_aload_n d60_44 rfl ?_
  refine x_iconst d60_45 rfl ?_
  refine x_putI d60_46 gY_60.2.2.2 gF_7_27 rfl (by decide +kernel) rfl ?_
  refine x_aload_n d60_49 rfl ?_
  refine x_iconst d60_50 rfl ?_
  refine x_putI d60_51 gY_60.2.2.2 gF_7_31 rfl (by decide +kernel) rfl ?_
  refine x_aload_n d60_54 rfl ?_
  refine x_iconst d60_55 rfl ?_
  refine x_putI d60_56 gY_60.2.2.2 gF_7_34 rfl (by decide +kernel) rfl ?_
  refine x_aload_n d60_59 rfl ?_
  refine x_iconst d60_60 rfl ?_
  refine x_putI d60_61 gY_60.2.2.2 gF_7_37 rfl (by decide +kernel) rfl ?_
  refine x_vret d60_64 rfl ?_
  show Ex 998 0 23 [some (.inr 121), some (.inr 15), some (.inr 42)] [.inr 128, .inr 121] (3, 6179, 133, _, _, _) _
  refine x_putO d0_23 gY_0.2.2.2 gF_0_18 rfl (by decide +kernel) rfl ?_
  refine x_aload_n d0_26 rfl ?_
  refine x_bipush d0_27 rfl ?_
  refine w_newI (m := 134) (bc2 := 2) (bs2 := 6147) (l := 32) d0_29 rfl rfl rfl (by decide) (by decide) ?_
  refine x_putA d0_31 gY_0.2.2.2 gF_0_21 rfl (by decide +kernel) rfl ?_
  refine x_aload_n d0_34 rfl ?_
  refine x_sipush d0_35 rfl ?_
  refine w_newL (m := 135) (bc2 := 1) (bs2 := 3) (l := 6144) d0_38 rfl rfl rfl (by decide) (by decide) ?_
  refine x_putA d0_40 gY_0.2.2.2 gF_0_25 rfl (by decide +kernel) rfl ?_
  refine x_aload_n d0_43 rfl ?_
  refine x_iconst d0_44 rfl ?_
  refine w_newI (m := 136) (bc2 := 0) (bs2 := 0) (l := 3) d0_45 rfl rfl rfl (by decide) (by decide) ?_
  refine x_putA d0_47 gY_0.2.2.2 gF_0_29 rfl (by decide +kernel) rfl ?_
  refine x_aload_n d0_50 rfl ?_
  refine x_iconst d0_51 rfl ?_
  refine x_putZ d0_52 gY_0.2.2.2 gF_0_32 rfl (by decide +kernel) rfl (by decide) ?_
  refine x_aload_n d0_55 rfl ?_
  refine x_iconst d0_56 rfl ?_
  refine x_putZ d0_57 gY_0.2.2.2 gF_0_36 rfl (by decide +kernel) rfl (by decide) ?_
  refine x_aload_n d0_60 rfl ?_
  refine x_iconst d0_61 rfl ?_
  refine x_putI d0_62 gY_0.2.2.2 gF_0_39 rfl (by decide +kernel) rfl ?_
  refine x_aload_n d0_65 rfl ?_
  refine x_aload_n d0_66 rfl ?_
  refine x_putO d0_67 gY_0.2.2.2 gF_0_43 rfl (by decide +kernel) rfl ?_
  refine x_aload_n d0_70 rfl ?_
  refine x_aload_n d0_71 rfl ?_
  refine x_putO d0_72 gY_0.2.2.2 gF_0_47 rfl (by decide +kernel) rfl ?_
  refine x_vret d0_75 rfl ?_
  show Ex 999 95 199 [some (.inr 1), none] [.inr 121, .inr 1] (0, 0, 136, _, _, _) _
  refine x_putO d95_199 gY_95.2.2.2 gF_11_104 rfl (by decide +kernel) rfl ?_
  refine x_aload_n d95_202 rfl ?_
  refine x_iconst d95_203 rfl ?_
  refine x_putZ d95_204 gY_95.2.2.2 gF_11_108 rfl (by decide +kernel) rfl (by decide) ?_
  refine x_iconst d95_207 rfl ?_
  refine x_istore_n (ls2 := [some (.inr 1), some (.inl 0)]) d95_208 rfl rfl ?_
  refine x_iload_n d95_209 rfl ?_
  refine x_bipush d95_210 rfl ?_
  refine x_if2 (pc2 := 228) d95_212 rfl (fun c => absurd c (show ¬ (20 : Int) ≤ 0 by decide)) (fun _ => ?_)
  refine x_aload_n d95_215 rfl ?_
  refine x_getR (r := 13) d95_216 gY_95.2.2.2 gF_11_29 rfl rfl rfl (by decide) ?_
  refine x_iload_n d95_219 rfl ?_
  refine x_iload_n d95_220 rfl ?_
  refine x_iast d95_221 rfl (by decide) (by decide) ?_
  refine x_iinc (ls2 := [some (.inr 1), some (.inl 1)]) d95_222 rfl (by unfold zr; omega) rfl ?_
  refine x_goto (pc2 := 209) d95_225 rfl ?_
  refine x_iload_n d95_209 rfl ?_
  refine x_bipush d95_210 rfl ?_
  refine x_if2 (pc2 := 228) d95_212 rfl (fun c => absurd c (show ¬ (20 : Int) ≤ 1 by decide)) (fun _ => ?_)
  refine x_aload_n d95_215 rfl ?_
  refine x_getR (r := 13) d95_216 gY_95.2.2.2 gF_11_29 rfl rfl rfl (by decide) ?_
  refine x_iload_n d95_219 rfl ?_
  refine x_iload_n d95_220 rfl ?_
  refine x_iast d95_221 rfl (by decide) (by decide) ?_
  refine x_iinc (ls2 := [some (.inr 1), some (.inl 2)]) d95_222 rfl (by unfold zr; omega) rfl ?_
  refine x_goto (pc2 := 209) d95_225 rfl ?_
  refine x_iload_n d95_209 rfl ?_
  refine x_bipush d95_210 rfl ?_
  refine x_if2 (pc2 := 228) d95_212 rfl (fun c => absurd c (show ¬ (20 : Int) ≤ 2 by decide)) (fun _ => ?_)
  refine x_aload_n d95_215 rfl ?_
  refine x_getR (r := 13) d95_216 gY_95.2.2.2 gF_11_29 rfl rfl rfl (by decide) ?_
  refine x_iload_n d95_219 rfl ?_
  refine x_iload_n d95_220 rfl ?_
  refine x_iast d95_221 rfl (by decide) (by decide) ?_
  refine x_iinc (ls2 := [some (.inr 1), some (.inl 3)]) d95_222 rfl (by unfold zr; omega) rfl ?_
  refine x_goto (pc2 := 209) d95_225 rfl ?_
  refine x_iload_n d95_209 rfl ?_
  refine x_bipush d95_210 rfl ?_
  refine x_if2 (pc2 := 228) d95_212 rfl (fun c => absurd c (show ¬ (20 : Int) ≤ 3 by decide)) (fun _ => ?_)
  refine x_aload_n d95_215 rfl ?_
  refine x_getR (r := 13) d95_216 gY_95.2.2.2 gF_11_29 rfl rfl rfl (by decide) ?_
  refine x_iload_n d95_219 rfl ?_
  refine x_iload_n d95_220 rfl ?_
  refine x_iast d95_221 rfl (by decide) (by decide) ?_
  refine x_iinc (ls2 := [some (.inr 1), some (.inl 4)]) d95_222 rfl (by unfold zr; omega) rfl ?_
  refine x_goto (pc2 := 209) d95_225 rfl ?_
  refine x_iload_n d95_209 rfl ?_
  refine x_bipush d95_210 rfl ?_
  refine x_if2 (pc2 := 228) d95_212 rfl (fun c => absurd c (show ¬ (20 : Int) ≤ 4 by decide)) (fun _ => ?_)
  refine x_aload_n d95_215 rfl ?_
  refine x_getR (r := 13) d95_216 gY_95.2.2.2 gF_11_29 rfl rfl rfl (by decide) ?_
  refine x_iload_n d95_219 rfl ?_
  refine x_iload_n d95_220 rfl ?_
  refine x_iast d95_221 rfl (by decide) (by decide) ?_
  refine x_iinc (ls2 := [some (.inr 1), some (.inl 5)]) d95_222 rfl (by unfold zr; omega) rfl ?_
  refine x_goto (pc2 := 209) d95_225 rfl ?_
  refine x_iload_n d95_209 rfl ?_
  refine x_bipush d95_210 rfl ?_
  refine x_if2 (pc2 := 228) d95_212 rfl (fun c => absurd c (show ¬ (20 : Int) ≤ 5 by decide)) (fun _ => ?_)
  refine x_aload_n d95_215 rfl ?_
  refine x_getR (r := 13) d95_216 gY_95.2.2.2 gF_11_29 rfl rfl rfl (by decide) ?_
  refine x_iload_n d95_219 rfl ?_
  refine x_iload_n d95_220 rfl ?_
  refine x_iast d95_221 rfl (by decide) (by decide) ?_
  refine x_iinc (ls2 := [some (.inr 1), some (.inl 6)]) d95_222 rfl (by unfold zr; omega) rfl ?_
  refine x_goto (pc2 := 209) d95_225 rfl ?_
  refine x_iload_n d95_209 rfl ?_
  refine x_bipush d95_210 rfl ?_
  refine x_if2 (pc2 := 228) d95_212 rfl (fun c => absurd c (show ¬ (20 : Int) ≤ 6 by decide)) (fun _ => ?_)
  refine x_aload_n d95_215 rfl ?_
  refine x_getR (r := 13) d95_216 gY_95.2.2.2 gF_11_29 rfl rfl rfl (by decide) ?_
  refine x_iload_n d95_219 rfl ?_
  refine x_iload_n d95_220 rfl ?_
  refine x_iast d95_221 rfl (by decide) (by decide) ?_
  refine x_iinc (ls2 := [some (.inr 1), some (.inl 7)]) d95_222 rfl (by unfold zr; omega) rfl ?_
  refine x_goto (pc2 := 209) d95_225 rfl ?_
  refine x_iload_n d95_209 rfl ?_
  refine x_bipush d95_210 rfl ?_
  refine x_if2 (pc2 := 228) d95_212 rfl (fun c => absurd c (show ¬ (20 : Int) ≤ 7 by decide)) (fun _ => ?_)
  refine x_aload_n d95_215 rfl ?_
  refine x_getR (r := 13) d95_216 gY_95.2.2.2 gF_11_29 rfl rfl rfl (by decide) ?_
  refine x_iload_n d95_219 rfl ?_
  refine x_iload_n d95_220 rfl ?_
  refine x_iast d95_221 rfl (by decide) (by decide) ?_
  refine x_iinc (ls2 := [some (.inr 1), some (.inl 8)]) d95_222 rfl (by unfold zr; omega) rfl ?_
  refine x_goto (pc2 := 209) d95_225 rfl ?_
  refine x_iload_n d95_209 rfl ?_
  refine x_bipush d95_210 rfl ?_
  refine x_if2 (pc2 := 228) d95_212 rfl (fun c => absurd c (show ¬ (20 : Int) ≤ 8 by decide)) (fun _ => ?_)
  refine x_aload_n d95_215 rfl ?_
  refine x_getR (r := 13) d95_216 gY_95.2.2.2 gF_11_29 rfl rfl rfl (by decide) ?_
  refine x_iload_n d95_219 rfl ?_
  refine x_iload_n d95_220 rfl ?_
  refine x_iast d95_221 rfl (by decide) (by decide) ?_
  refine x_iinc (ls2 := [some (.inr 1), some (.inl 9)]) d95_222 rfl (by unfold zr; omega) rfl ?_
  refine x_goto (pc2 := 209) d95_225 rfl ?_
  refine x_iload_n d95_209 rfl ?_
  refine x_bipush d95_210 rfl ?_
  refine x_if2 (pc2 := 228) d95_212 rfl (fun c => absurd c (show ¬ (20 : Int) ≤ 9 by decide)) (fun _ => ?_)
  refine x_aload_n d95_215 rfl ?_
  refine x_getR (r := 13) d95_216 gY_95.2.2.2 gF_11_29 rfl rfl rfl (by decide) ?_
  refine x_iload_n d95_219 rfl ?_
  refine x_iload_n d95_220 rfl ?_
  refine x_iast d95_221 rfl (by decide) (by decide) ?_
  refine x_iinc (ls2 := [some (.inr 1), some (.inl 10)]) d95_222 rfl (by unfold zr; omega) rfl ?_
  refine x_goto (pc2 := 209) d95_225 rfl ?_
  refine x_iload_n d95_209 rfl ?_
  refine x_bipush d95_210 rfl ?_
  refine x_if2 (pc2 := 228) d95_212 rfl (fun c => absurd c (show ¬ (20 : Int) ≤ 10 by decide)) (fun _ => ?_)
  refine x_aload_n d95_215 rfl ?_
  refine x_getR (r := 13) d95_216 gY_95.2.2.2 gF_11_29 rfl rfl rfl (by decide) ?_
  refine x_iload_n d95_219 rfl ?_
  refine x_iload_n d95_220 rfl ?_
  refine x_iast d95_221 rfl (by decide) (by decide) ?_
  refine x_iinc (ls2 := [some (.inr 1), some (.inl 11)]) d95_222 rfl (by unfold zr; omega) rfl ?_
  refine x_goto (pc2 := 209) d95_225 rfl ?_
  refine x_iload_n d95_209 rfl ?_
  refine x_bipush d95_210 rfl ?_
  refine x_if2 (pc2 := 228) d95_212 rfl (fun c => absurd c (show ¬ (20 : Int) ≤ 11 by decide)) (fun _ => ?_)
  refine x_aload_n d95_215 rfl ?_
  refine x_getR (r := 13) d95_216 gY_95.2.2.2 gF_11_29 rfl rfl rfl (by decide) ?_
  refine x_iload_n d95_219 rfl ?_
  refine x_iload_n d95_220 rfl ?_
  refine x_iast d95_221 rfl (by decide) (by decide) ?_
  refine x_iinc (ls2 := [some (.inr 1), some (.inl 12)]) d95_222 rfl (by unfold zr; omega) rfl ?_
  refine x_goto (pc2 := 209) d95_225 rfl ?_
  refine x_iload_n d95_209 rfl ?_
  refine x_bipush d95_210 rfl ?_
  refine x_if2 (pc2 := 228) d95_212 rfl (fun c => absurd c (show ¬ (20 : Int) ≤ 12 by decide)) (fun _ => ?_)
  refine x_aload_n d95_215 rfl ?_
  refine x_getR (r := 13) d95_216 gY_95.2.2.2 gF_11_29 rfl rfl rfl (by decide) ?_
  refine x_iload_n d95_219 rfl ?_
  refine x_iload_n d95_220 rfl ?_
  refine x_iast d95_221 rfl (by decide) (by decide) ?_
  refine x_iinc (ls2 := [some (.inr 1), some (.inl 13)]) d95_222 rfl (by unfold zr; omega) rfl ?_
  refine x_goto (pc2 := 209) d95_225 rfl ?_
  refine x_iload_n d95_209 rfl ?_
  refine x_bipush d95_210 rfl ?_
  refine x_if2 (pc2 := 228) d95_212 rfl (fun c => absurd c (show ¬ (20 : Int) ≤ 13 by decide)) (fun _ => ?_)
  refine x_aload_n d95_215 rfl ?_
  refine x_getR (r := 13) d95_216 gY_95.2.2.2 gF_11_29 rfl rfl rfl (by decide) ?_
  refine x_iload_n d95_219 rfl ?_
  refine x_iload_n d95_220 rfl ?_
  refine x_iast d95_221 rfl (by decide) (by decide) ?_
  refine x_iinc (ls2 := [some (.inr 1), some (.inl 14)]) d95_222 rfl (by unfold zr; omega) rfl ?_
  refine x_goto (pc2 := 209) d95_225 rfl ?_
  refine x_iload_n d95_209 rfl ?_
  refine x_bipush d95_210 rfl ?_
  refine x_if2 (pc2 := 228) d95_212 rfl (fun c => absurd c (show ¬ (20 : Int) ≤ 14 by decide)) (fun _ => ?_)
  refine x_aload_n d95_215 rfl ?_
  refine x_getR (r := 13) d95_216 gY_95.2.2.2 gF_11_29 rfl rfl rfl (by decide) ?_
  refine x_iload_n d95_219 rfl ?_
  refine x_iload_n d95_220 rfl ?_
  refine x_iast d95_221 rfl (by decide) (by decide) ?_
  refine x_iinc (ls2 := [some (.inr 1), some (.inl 15)]) d95_222 rfl (by unfold zr; omega) rfl ?_
  refine x_goto (pc2 := 209) d95_225 rfl ?_
  refine x_iload_n d95_209 rfl ?_
  refine x_bipush d95_210 rfl ?_
  refine x_if2 (pc2 := 228) d95_212 rfl (fun c => absurd c (show ¬ (20 : Int) ≤ 15 by decide)) (fun _ => ?_)
  refine x_aload_n d95_215 rfl ?_
  refine x_getR (r := 13) d95_216 gY_95.2.2.2 gF_11_29 rfl rfl rfl (by decide) ?_
  refine x_iload_n d95_219 rfl ?_
  refine x_iload_n d95_220 rfl ?_
  refine x_iast d95_221 rfl (by decide) (by decide) ?_
  refine x_iinc (ls2 := [some (.inr 1), some (.inl 16)]) d95_222 rfl (by unfold zr; omega) rfl ?_
  refine x_goto (pc2 := 209) d95_225 rfl ?_
  refine x_iload_n d95_209 rfl ?_
  refine x_bipush d95_210 rfl ?_
  refine x_if2 (pc2 := 228) d95_212 rfl (fun c => absurd c (show ¬ (20 : Int) ≤ 16 by decide)) (fun _ => ?_)
  refine x_aload_n d95_215 rfl ?_
  refine x_getR (r := 13) d95_216 gY_95.2.2.2 gF_11_29 rfl rfl rfl (by decide) ?_
  refine x_iload_n d95_219 rfl ?_
  refine x_iload_n d95_220 rfl ?_
  refine x_iast d95_221 rfl (by decide) (by decide) ?_
  refine x_iinc (ls2 := [some (.inr 1), some (.inl 17)]) d95_222 rfl (by unfold zr; omega) rfl ?_
  refine x_goto (pc2 := 209) d95_225 rfl ?_
  refine x_iload_n d95_209 rfl ?_
  refine x_bipush d95_210 rfl ?_
  refine x_if2 (pc2 := 228) d95_212 rfl (fun c => absurd c (show ¬ (20 : Int) ≤ 17 by decide)) (fun _ => ?_)
  refine x_aload_n d95_215 rfl ?_
  refine x_getR (r := 13) d95_216 gY_95.2.2.2 gF_11_29 rfl rfl rfl (by decide) ?_
  refine x_iload_n d95_219 rfl ?_
  refine x_iload_n d95_220 rfl ?_
  refine x_iast d95_221 rfl (by decide) (by decide) ?_
  refine x_iinc (ls2 := [some (.inr 1), some (.inl 18)]) d95_222 rfl (by unfold zr; omega) rfl ?_
  refine x_goto (pc2 := 209) d95_225 rfl ?_
  refine x_iload_n d95_209 rfl ?_
  refine x_bipush d95_210 rfl ?_
  refine x_if2 (pc2 := 228) d95_212 rfl (fun c => absurd c (show ¬ (20 : Int) ≤ 18 by decide)) (fun _ => ?_)
  refine x_aload_n d95_215 rfl ?_
  refine x_getR (r := 13) d95_216 gY_95.2.2.2 gF_11_29 rfl rfl rfl (by decide) ?_
  refine x_iload_n d95_219 rfl ?_
  refine x_iload_n d95_220 rfl ?_
  refine x_iast d95_221 rfl (by decide) (by decide) ?_
  refine x_iinc (ls2 := [some (.inr 1), some (.inl 19)]) d95_222 rfl (by unfold zr; omega) rfl ?_
  refine x_goto (pc2 := 209) d95_225 rfl ?_
  refine x_iload_n d95_209 rfl ?_
  refine x_bipush d95_210 rfl ?_
  refine x_if2 (pc2 := 228) d95_212 rfl (fun c => absurd c (show ¬ (20 : Int) ≤ 19 by decide)) (fun _ => ?_)
  refine x_aload_n d95_215 rfl ?_
  refine x_getR (r := 13) d95_216 gY_95.2.2.2 gF_11_29 rfl rfl rfl (by decide) ?_
  refine x_iload_n d95_219 rfl ?_
  refine x_iload_n d95_220 rfl ?_
  refine x_iast d95_221 rfl (by decide) (by decide) ?_
  refine x_iinc (ls2 := [some (.inr 1), some (.inl 20)]) d95_222 rfl (by unfold zr; omega) rfl ?_
  refine x_goto (pc2 := 209) d95_225 rfl ?_
  refine x_iload_n d95_209 rfl ?_
  refine x_bipush d95_210 rfl ?_
  refine x_if2 (pc2 := 228) d95_212 rfl (fun _ => ?_) (fun c => absurd (show (20 : Int) ≤ 20 by decide) c)
  refine x_vret d95_228 rfl ?_
  show Ex 1000 250 7 [some (.inr zSc), none, none, none] [.inr 1] (64, 67767, 136, _, _, _) _
  refine x_astore_n (ls2 := [some (.inr zSc), some (.inr 1), none, none]) d250_7 rfl rfl ?_
  refine w_new (m := 137) (bc2 := 63) (bs2 := 67690) (nf := 77) (ci := 12) d250_8 gY_250.2.2.2 (by decide +kernel) (by decide +kernel) rfl rfl rfl (by decide) ?_
  refine x_dup d250_11 ?_
  refine w_spc (bc2 := 16) (bs2 := 57831) (as := []) (t := [.inr 137]) (o := 137) gY_139 d250_12 gY_250.2.2.2 gM_13_12 (by decide) rfl (by decide) (by decide) (zloc_eq gY_139.2.2.1) rfl rfl ?_
  refine x_aload_n d139_0 rfl ?_
  refine x_obj d139_1 gY_139.2.2.2 gM_12_1 (by decide) ?_
  refine x_aload_n d139_4 rfl ?_
  refine x_bipush d139_5 rfl ?_
  refine w_newI (m := 138) (bc2 := 46) (bs2 := 9827) (l := 32) d139_7 rfl rfl rfl (by decide) (by decide) ?_
  refine x_putA d139_9 gY_139.2.2.2 gF_12_7 rfl (by decide +kernel) rfl ?_
  refine x_aload_n d139_12 rfl ?_
  refine x_bipush d139_13 rfl ?_
  refine w_newI (m := 139) (bc2 := 45) (bs2 := 9795) (l := 32) d139_15 rfl rfl rfl (by decide) (by decide) ?_
  refine x_putA d139_17 gY_139.2.2.2 gF_12_13 rfl (by decide +kernel) rfl ?_
  refine x_aload_n d139_20 rfl ?_
  refine x_bipush d139_21 rfl ?_
  refine w_newI (m := 140) (bc2 := 44) (bs2 := 9763) (l := 32) d139_23 rfl rfl rfl (by decide) (by decide) ?_
  refine x_putA d139_25 gY_139.2.2.2 gF_12_16 rfl (by decide +kernel) rfl ?_
  refine x_aload_n d139_28 rfl ?_
  refine x_bipush d139_29 rfl ?_
  refine w_newI (m := 141) (bc2 := 43) (bs2 := 9731) (l := 32) d139_31 rfl rfl rfl (by decide) (by decide) ?_
  refine x_putA d139_33 gY_139.2.2.2 gF_12_19 rfl (by decide +kernel) rfl ?_
  refine x_aload_n d139_36 rfl ?_
  refine x_bipush d139_37 rfl ?_
  refine w_newI (m := 142) (bc2 := 42) (bs2 := 9699) (l := 32) d139_39 rfl rfl rfl (by decide) (by decide) ?_
  refine x_putA d139_41 gY_139.2.2.2 gF_12_22 rfl (by decide +kernel) rfl ?_
  refine x_aload_n d139_44 rfl ?_
  refine x_bipush d139_45 rfl ?_
  refine w_newI (m := 143) (bc2 := 41) (bs2 := 9679) (l := 20) d139_47 rfl rfl rfl (by decide) (by decide) ?_
  refine x_putA d139_49 gY_139.2.2.2 gF_12_25 rfl (by decide +kernel) rfl ?_
  refine x_aload_n d139_52 rfl ?_
  refine x_sipush d139_53 rfl ?_
  refine w_newB (m := 144) (bc2 := 40) (bs2 := 9459) (l := 220) d139_56 rfl rfl rfl (by decide) (by decide) ?_
  refine x_putA d139_58 gY_139.2.2.2 gF_12_28 rfl (by decide +kernel) rfl ?_
  refine x_aload_n d139_61 rfl ?_
  refine x_sipush d139_62 rfl ?_
  refine w_newI (m := 145) (bc2 := 39) (bs2 := 9239) (l := 220) d139_65 rfl rfl rfl (by decide) (by decide) ?_
  refine x_putA d139_67 gY_139.2.2.2 gF_12_32 rfl (by decide +kernel) rfl ?_
  refine x_aload_n d139_70 rfl ?_
  refine x_sipush d139_71 rfl ?_
  refine w_newI (m := 146) (bc2 := 38) (bs2 := 9019) (l := 220) d139_74 rfl rfl rfl (by decide) (by decide) ?_
  refine x_putA d139_76 gY_139.2.2.2 gF_12_35 rfl (by decide +kernel) rfl ?_
  refine x_aload_n d139_79 rfl ?_
  refine x_bipush d139_80 rfl ?_
  refine w_newI (m := 147) (bc2 := 37) (bs2 := 9005) (l := 14) d139_82 rfl rfl rfl (by decide) (by decide) ?_
  refine x_putA d139_84 gY_139.2.2.2 gF_12_38 rfl (by decide +kernel) rfl ?_
  refine x_aload_n d139_87 rfl ?_
  refine x_bipush d139_88 rfl ?_
  refine w_newI (m := 148) (bc2 := 36) (bs2 := 8991) (l := 14) d139_90 rfl rfl rfl (by decide) (by decide) ?_
  refine x_putA d139_92 gY_139.2.2.2 gF_12_41 rfl (by decide +kernel) rfl ?_
  refine x_aload_n d139_95 rfl ?_
  refine x_bipush d139_96 rfl ?_
  refine w_newI (m := 149) (bc2 := 35) (bs2 := 8977) (l := 14) d139_98 rfl rfl rfl (by decide) (by decide) ?_
  refine x_putA d139_100 gY_139.2.2.2 gF_12_44 rfl (by decide +kernel) rfl ?_
  refine x_aload_n d139_103 rfl ?_
  refine x_bipush d139_104 rfl ?_
  refine w_newI (m := 150) (bc2 := 34) (bs2 := 8963) (l := 14) d139_106 rfl rfl rfl (by decide) (by decide) ?_
  refine x_putA d139_108 gY_139.2.2.2 gF_12_47 rfl (by decide +kernel) rfl ?_
  refine x_aload_n d139_111 rfl ?_
  refine x_sipush d139_112 rfl ?_
  refine w_newI (m := 151) (bc2 := 33) (bs2 := 8743) (l := 220) d139_115 rfl rfl rfl (by decide) (by decide) ?_
  refine x_putA d139_117 gY_139.2.2.2 gF_12_50 rfl (by decide +kernel) rfl ?_
  refine x_aload_n d139_120 rfl ?_
  refine x_bipush d139_121 rfl ?_
  refine w_newI (m := 152) (bc2 := 32) (bs2 := 8729) (l := 14) d139_123 rfl rfl rfl (by decide) (by decide) ?_
  refine x_putA d139_125 gY_139.2.2.2 gF_12_53 rfl (by decide +kernel) rfl ?_
  refine x_aload_n d139_128 rfl ?_
  refine x_bipush d139_129 rfl ?_
  refine w_newI (m := 153) (bc2 := 31) (bs2 := 8715) (l := 14) d139_131 rfl rfl rfl (by decide) (by decide) ?_
  refine x_putA d139_133 gY_139.2.2.2 gF_12_56 rfl (by decide +kernel) rfl ?_
  refine x_aload_n d139_136 rfl ?_
  refine x_bipush d139_137 rfl ?_
  refine w_newI (m := 154) (bc2 := 30) (bs2 := 8701) (l := 14) d139_139 rfl rfl rfl (by decide) (by decide) ?_
  refine x_putA d139_141 gY_139.2.2.2 gF_12_59 rfl (by decide +kernel) rfl ?_
  refine x_aload_n d139_144 rfl ?_
  refine x_bipush d139_145 rfl ?_
  refine w_newI (m := 155) (bc2 := 29) (bs2 := 8687) (l := 14) d139_147 rfl rfl rfl (by decide) (by decide) ?_
  refine x_putA d139_149 gY_139.2.2.2 gF_12_62 rfl (by decide +kernel) rfl ?_
  refine x_aload_n d139_152 rfl ?_
  refine x_sipush d139_153 rfl ?_
  refine w_newI (m := 156) (bc2 := 28) (bs2 := 8467) (l := 220) d139_156 rfl rfl rfl (by decide) (by decide) ?_
  refine x_putA d139_158 gY_139.2.2.2 gF_12_65 rfl (by decide +kernel) rfl ?_
  refine x_aload_n d139_161 rfl ?_
  refine x_bipush d139_162 rfl ?_
  refine w_newI (m := 157) (bc2 := 27) (bs2 := 8459) (l := 8) d139_164 rfl rfl rfl (by decide) (by decide) ?_
  refine x_putA d139_166 gY_139.2.2.2 gF_12_68 rfl (by decide +kernel) rfl ?_
  refine x_aload_n d139_169 rfl ?_
  refine x_bipush d139_170 rfl ?_
  refine w_newI (m := 158) (bc2 := 26) (bs2 := 8427) (l := 32) d139_172 rfl rfl rfl (by decide) (by decide) ?_
  refine x_putA d139_174 gY_139.2.2.2 gF_12_71 rfl (by decide +kernel) rfl ?_
  refine x_aload_n d139_177 rfl ?_
  refine x_bipush d139_178 rfl ?_
  refine w_newI (m := 159) (bc2 := 25) (bs2 := 8395) (l := 32) d139_180 rfl rfl rfl (by decide) (by decide) ?_
  refine x_putA d139_182 gY_139.2.2.2 gF_12_74 rfl (by decide +kernel) rfl ?_
  refine x_aload_n d139_185 rfl ?_
  refine x_bipush d139_186 rfl ?_
  refine w_newI (m := 160) (bc2 := 24) (bs2 := 8363) (l := 32) d139_188 rfl rfl rfl (by decide) (by decide) ?_
  refine x_putA d139_190 gY_139.2.2.2 gF_12_77 rfl (by decide +kernel) rfl ?_
  refine x_aload_n d139_193 rfl ?_
  refine x_bipush d139_194 rfl ?_
  refine w_newI (m := 161) (bc2 := 23) (bs2 := 8331) (l := 32) d139_196 rfl rfl rfl (by decide) (by decide) ?_
  refine x_putA d139_198 gY_139.2.2.2 gF_12_80 rfl (by decide +kernel) rfl ?_
  refine x_aload_n d139_201 rfl ?_
  refine x_bipush d139_202 rfl ?_
  refine w_newI (m := 162) (bc2 := 22) (bs2 := 8311) (l := 20) d139_204 rfl rfl rfl (by decide) (by decide) ?_
  refine x_putA d139_206 gY_139.2.2.2 gF_12_83 rfl (by decide +kernel) rfl ?_
  refine x_aload_n d139_209 rfl ?_
  refine x_bipush d139_210 rfl ?_
  refine w_newI (m := 163) (bc2 := 21) (bs2 := 8291) (l := 20) d139_212 rfl rfl rfl (by decide) (by decide) ?_
  refine x_putA d139_214 gY_139.2.2.2 gF_12_86 rfl (by decide +kernel) rfl ?_
  refine x_aload_n d139_217 rfl ?_
  refine x_bipush d139_218 rfl ?_
  refine w_newI (m := 164) (bc2 := 20) (bs2 := 8271) (l := 20) d139_220 rfl rfl rfl (by decide) (by decide) ?_
  refine x_putA d139_222 gY_139.2.2.2 gF_12_89 rfl (by decide +kernel) rfl ?_
  refine x_aload_n d139_225 rfl ?_
  refine x_iconst d139_226 rfl ?_
  refine w_newI (m := 165) (bc2 := 19) (bs2 := 8266) (l := 5) d139_227 rfl rfl rfl (by decide) (by decide) ?_
  refine x_putA d139_229 gY_139.2.2.2 gF_12_92 rfl (by decide +kernel) rfl ?_
  refine x_aload_n d139_232 rfl ?_
  refine x_bipush d139_233 rfl ?_
  refine w_newI (m := 166) (bc2 := 18) (bs2 := 8166) (l := 100) d139_235 rfl rfl rfl (by decide) (by decide) ?_
  refine x_putA d139_237 gY_139.2.2.2 gF_12_95 rfl (by decide +kernel) rfl ?_
  refine x_aload_n d139_240 rfl ?_
  refine x_bipush d139_241 rfl ?_
  refine w_newI (m := 167) (bc2 := 17) (bs2 := 8146) (l := 20) d139_243 rfl rfl rfl (by decide) (by decide) ?_
  refine x_putA d139_245 gY_139.2.2.2 gF_12_98 rfl (by decide +kernel) rfl ?_
  refine x_aload_n d139_248 rfl ?_
  refine x_sipush d139_249 rfl ?_
  refine w_newI (m := 168) (bc2 := 16) (bs2 := 2946) (l := 5200) d139_252 rfl rfl rfl (by decide) (by decide) ?_
  refine x_putA d139_254 gY_139.2.2.2 gF_12_101 rfl (by decide +kernel) rfl ?_
  refine x_aload_n d139_257 rfl ?_
  refine x_sipush d139_258 rfl ?_
  refine w_newI (m := 169) (bc2 := 15) (bs2 := 2736) (l := 210) d139_261 rfl rfl rfl (by decide) (by decide) ?_
  refine x_putA d139_263 gY_139.2.2.2 gF_12_104 rfl (by decide +kernel) rfl ?_
  refine x_aload_n d139_266 rfl ?_
  refine x_bipush d139_267 rfl ?_
  refine w_newI (m := 170) (bc2 := 14) (bs2 := 2704) (l := 32) d139_269 rfl rfl rfl (by decide) (by decide) ?_
  refine x_putA d139_271 gY_139.2.2.2 gF_12_107 rfl (by decide +kernel) rfl ?_
  refine x_aload_n d139_274 rfl ?_
  refine x_bipush d139_275 rfl ?_
  refine w_newI (m := 171) (bc2 := 13) (bs2 := 2694) (l := 10) d139_277 rfl rfl rfl (by decide) (by decide) ?_
  refine x_putA d139_279 gY_139.2.2.2 gF_12_110 rfl (by decide +kernel) rfl ?_
  refine x_aload_n d139_282 rfl ?_
  refine x_bipush d139_283 rfl ?_
  refine w_newI (m := 172) (bc2 := 12) (bs2 := 2584) (l := 110) d139_285 rfl rfl rfl (by decide) (by decide) ?_
  refine x_putA d139_287 gY_139.2.2.2 gF_12_113 rfl (by decide +kernel) rfl ?_
  refine x_aload_n d139_290 rfl ?_
  refine x_bipush d139_291 rfl ?_
  refine w_newI (m := 173) (bc2 := 11) (bs2 := 2576) (l := 8) d139_293 rfl rfl rfl (by decide) (by decide) ?_
  refine x_putA d139_295 gY_139.2.2.2 gF_12_116 rfl (by decide +kernel) rfl ?_
  refine x_aload_n d139_298 rfl ?_
  refine x_bipush d139_299 rfl ?_
  refine w_newI (m := 174) (bc2 := 10) (bs2 := 2568) (l := 8) d139_301 rfl rfl rfl (by decide) (by decide) ?_
  refine x_putA d139_303 gY_139.2.2.2 gF_12_119 rfl (by decide +kernel) rfl ?_
  refine x_aload_n d139_306 rfl ?_
  refine x_bipush d139_307 rfl ?_
  refine w_newI (m := 175) (bc2 := 9) (bs2 := 2560) (l := 8) d139_309 rfl rfl rfl (by decide) (by decide) ?_
  refine x_putA d139_311 gY_139.2.2.2 gF_12_122 rfl (by decide +kernel) rfl ?_
  refine x_aload_n d139_314 rfl ?_
  refine x_sipush d139_315 rfl ?_
  refine w_newI (m := 176) (bc2 := 8) (bs2 := 256) (l := 2304) d139_318 rfl rfl rfl (by decide) (by decide) ?_
  refine x_putA d139_320 gY_139.2.2.2 gF_12_125 rfl (by decide +kernel) rfl ?_
  refine x_aload_n d139_323 rfl ?_
  refine x_bipush d139_324 rfl ?_
  refine w_newI (m := 177) (bc2 := 7) (bs2 := 224) (l := 32) d139_326 rfl rfl rfl (by decide) (by decide) ?_
  refine x_putA d139_328 gY_139.2.2.2 gF_12_128 rfl (by decide +kernel) rfl ?_
  refine x_aload_n d139_331 rfl ?_
  refine x_bipush d139_332 rfl ?_
  refine w_newI (m := 178) (bc2 := 6) (bs2 := 192) (l := 32) d139_334 rfl rfl rfl (by decide) (by decide) ?_
  refine x_putA d139_336 gY_139.2.2.2 gF_12_131 rfl (by decide +kernel) rfl ?_
  refine x_aload_n d139_339 rfl ?_
  refine x_bipush d139_340 rfl ?_
  refine w_newI (m := 179) (bc2 := 5) (bs2 := 160) (l := 32) d139_342 rfl rfl rfl (by decide) (by decide) ?_
  refine x_putA d139_344 gY_139.2.2.2 gF_12_134 rfl (by decide +kernel) rfl ?_
  refine x_aload_n d139_347 rfl ?_
  refine x_bipush d139_348 rfl ?_
  refine w_newI (m := 180) (bc2 := 4) (bs2 := 128) (l := 32) d139_350 rfl rfl rfl (by decide) (by decide) ?_
  refine x_putA d139_352 gY_139.2.2.2 gF_12_137 rfl (by decide +kernel) rfl ?_
  refine x_aload_n d139_355 rfl ?_
  refine x_bipush d139_356 rfl ?_
  refine w_newI (m := 181) (bc2 := 3) (bs2 := 96) (l := 32) d139_358 rfl rfl rfl (by decide) (by decide) ?_
  refine x_putA d139_360 gY_139.2.2.2 gF_12_140 rfl (by decide +kernel) rfl ?_
  refine x_aload_n d139_363 rfl ?_
  refine x_bipush d139_364 rfl ?_
  refine w_newI (m := 182) (bc2 := 2) (bs2 := 64) (l := 32) d139_366 rfl rfl rfl (by decide) (by decide) ?_
  refine x_putA d139_368 gY_139.2.2.2 gF_12_143 rfl (by decide +kernel) rfl ?_
  refine x_aload_n d139_371 rfl ?_
  refine x_bipush d139_372 rfl ?_
  refine w_newI (m := 183) (bc2 := 1) (bs2 := 32) (l := 32) d139_374 rfl rfl rfl (by decide) (by decide) ?_
  refine x_putA d139_376 gY_139.2.2.2 gF_12_146 rfl (by decide +kernel) rfl ?_
  refine x_aload_n d139_379 rfl ?_
  refine x_bipush d139_380 rfl ?_
  refine w_newI (m := 184) (bc2 := 0) (bs2 := 0) (l := 32) d139_382 rfl rfl rfl (by decide) (by decide) ?_
  refine x_putA d139_384 gY_139.2.2.2 gF_12_149 rfl (by decide +kernel) rfl ?_
  refine x_aload_n d139_387 rfl ?_
  refine x_iconst d139_388 rfl ?_
  refine x_putI d139_389 gY_139.2.2.2 gF_12_152 rfl (by decide +kernel) rfl ?_
  refine x_aload_n d139_392 rfl ?_
  refine x_bipush d139_393 rfl ?_
  refine x_putI d139_395 gY_139.2.2.2 gF_12_156 rfl (by decide +kernel) rfl ?_
  refine x_iconst d139_398 rfl ?_
  refine x_istore_n (ls2 := [some (.inr 137), some (.inl 0)]) d139_399 rfl rfl ?_
  refine x_iload_n d139_400 rfl ?_
  refine x_bipush d139_401 rfl ?_
  refine x_if2 (pc2 := 419) d139_403 rfl (fun c => absurd c (show ¬ (20 : Int) ≤ 0 by decide)) (fun _ => ?_)
  refine x_aload_n d139_406 rfl ?_
  refine x_getR (r := 143) d139_407 gY_139.2.2.2 gF_12_25 rfl rfl rfl (by decide) ?_
  refine x_iload_n d139_410 rfl ?_
  refine x_iload_n d139_411 rfl ?_
  refine x_iast d139_412 rfl (by decide) (by decide) ?_
  refine x_iinc (ls2 := [some (.inr 137), some (.inl 1)]) d139_413 rfl (by unfold zr; omega) rfl ?_
  refine x_goto (pc2 := 400) d139_416 rfl ?_
  refine x_iload_n d139_400 rfl ?_
  refine x_bipush d139_401 rfl ?_
  refine x_if2 (pc2 := 419) d139_403 rfl (fun c => absurd c (show ¬ (20 : Int) ≤ 1 by decide)) (fun _ => ?_)
  refine x_aload_n d139_406 rfl ?_
  refine x_getR (r := 143) d139_407 gY_139.2.2.2 gF_12_25 rfl rfl rfl (by decide) ?_
  refine x_iload_n d139_410 rfl ?_
  refine x_iload_n d139_411 rfl ?_
  refine x_iast d139_412 rfl (by decide) (by decide) ?_
  refine x_iinc (ls2 := [some (.inr 137), some (.inl 2)]) d139_413 rfl (by unfold zr; omega) rfl ?_
  refine x_goto (pc2 := 400) d139_416 rfl ?_
  refine x_iload_n d139_400 rfl ?_
  refine x_bipush d139_401 rfl ?_
  refine x_if2 (pc2 := 419) d139_403 rfl (fun c => absurd c (show ¬ (20 : Int) ≤ 2 by decide)) (fun _ => ?_)
  refine x_aload_n d139_406 rfl ?_
  refine x_getR (r := 143) d139_407 gY_139.2.2.2 gF_12_25 rfl rfl rfl (by decide) ?_
  refine x_iload_n d139_410 rfl ?_
  refine x_iload_n d139_411 rfl ?_
  refine x_iast d139_412 rfl (by decide) (by decide) ?_
  refine x_iinc (ls2 := [some (.inr 137), some (.inl 3)]) d139_413 rfl (by unfold zr; omega) rfl ?_
  refine x_goto (pc2 := 400) d139_416 rfl ?_
  refine x_iload_n d139_400 rfl ?_
  refine x_bipush d139_401 rfl ?_
  refine x_if2 (pc2 := 419) d139_403 rfl (fun c => absurd c (show ¬ (20 : Int) ≤ 3 by decide)) (fun _ => ?_)
  refine x_aload_n d139_406 rfl ?_
  refine x_getR (r := 143) d139_407 gY_139.2.2.2 gF_12_25 rfl rfl rfl (by decide) ?_
  refine x_iload_n d139_410 rfl ?_
  refine x_iload_n d139_411 rfl ?_
  refine x_iast d139_412 rfl (by decide) (by decide) ?_
  refine x_iinc (ls2 := [some (.inr 137), some (.inl 4)]) d139_413 rfl (by unfold zr; omega) rfl ?_
  refine x_goto (pc2 := 400) d139_416 rfl ?_
  refine x_iload_n d139_400 rfl ?_
  refine x_bipush d139_401 rfl ?_
  refine x_if2 (pc2 := 419) d139_403 rfl (fun c => absurd c (show ¬ (20 : Int) ≤ 4 by decide)) (fun _ => ?_)
  refine x_aload_n d139_406 rfl ?_
  refine x_getR (r := 143) d139_407 gY_139.2.2.2 gF_12_25 rfl rfl rfl (by decide) ?_
  refine x_iload_n d139_410 rfl ?_
  refine x_iload_n d139_411 rfl ?_
  refine x_iast d139_412 rfl (by decide) (by decide) ?_
  refine x_iinc (ls2 := [some (.inr 137), some (.inl 5)]) d139_413 rfl (by unfold zr; omega) rfl ?_
  refine x_goto (pc2 := 400) d139_416 rfl ?_
  refine x_iload_n d139_400 rfl ?_
  refine x_bipush d139_401 rfl ?_
  refine x_if2 (pc2 := 419) d139_403 rfl (fun c => absurd c (show ¬ (20 : Int) ≤ 5 by decide)) (fun _ => ?_)
  refine x_aload_n d139_406 rfl ?_
  refine x_getR (r := 143) d139_407 gY_139.2.2.2 gF_12_25 rfl rfl rfl (by decide) ?_
  refine x_iload_n d139_410 rfl ?_
  refine x_iload_n d139_411 rfl ?_
  refine x_iast d139_412 rfl (by decide) (by decide) ?_
  refine x_iinc (ls2 := [some (.inr 137), some (.inl 6)]) d139_413 rfl (by unfold zr; omega) rfl ?_
  refine x_goto (pc2 := 400) d139_416 rfl ?_
  refine x_iload_n d139_400 rfl ?_
  refine x_bipush d139_401 rfl ?_
  refine x_if2 (pc2 := 419) d139_403 rfl (fun c => absurd c (show ¬ (20 : Int) ≤ 6 by decide)) (fun _ => ?_)
  refine x_aload_n d139_406 rfl ?_
  refine x_getR (r := 143) d139_407 gY_139.2.2.2 gF_12_25 rfl rfl rfl (by decide) ?_
  refine x_iload_n d139_410 rfl ?_
  refine x_iload_n d139_411 rfl ?_
  refine x_iast d139_412 rfl (by decide) (by decide) ?_
  refine x_iinc (ls2 := [some (.inr 137), some (.inl 7)]) d139_413 rfl (by unfold zr; omega) rfl ?_
  refine x_goto (pc2 := 400) d139_416 rfl ?_
  refine x_iload_n d139_400 rfl ?_
  refine x_bipush d139_401 rfl ?_
  refine x_if2 (pc2 := 419) d139_403 rfl (fun c => absurd c (show ¬ (20 : Int) ≤ 7 by decide)) (fun _ => ?_)
  refine x_aload_n d139_406 rfl ?_
  refine x_getR (r := 143) d139_407 gY_139.2.2.2 gF_12_25 rfl rfl rfl (by decide) ?_
  refine x_iload_n d139_410 rfl ?_
  refine x_iload_n d139_411 rfl ?_
  refine x_iast d139_412 rfl (by decide) (by decide) ?_
  refine x_iinc (ls2 := [some (.inr 137), some (.inl 8)]) d139_413 rfl (by unfold zr; omega) rfl ?_
  refine x_goto (pc2 := 400) d139_416 rfl ?_
  refine x_iload_n d139_400 rfl ?_
  refine x_bipush d139_401 rfl ?_
  refine x_if2 (pc2 := 419) d139_403 rfl (fun c => absurd c (show ¬ (20 : Int) ≤ 8 by decide)) (fun _ => ?_)
  refine x_aload_n d139_406 rfl ?_
  refine x_getR (r := 143) d139_407 gY_139.2.2.2 gF_12_25 rfl rfl rfl (by decide) ?_
  refine x_iload_n d139_410 rfl ?_
  refine x_iload_n d139_411 rfl ?_
  refine x_iast d139_412 rfl (by decide) (by decide) ?_
  refine x_iinc (ls2 := [some (.inr 137), some (.inl 9)]) d139_413 rfl (by unfold zr; omega) rfl ?_
  refine x_goto (pc2 := 400) d139_416 rfl ?_
  refine x_iload_n d139_400 rfl ?_
  refine x_bipush d139_401 rfl ?_
  refine x_if2 (pc2 := 419) d139_403 rfl (fun c => absurd c (show ¬ (20 : Int) ≤ 9 by decide)) (fun _ => ?_)
  refine x_aload_n d139_406 rfl ?_
  refine x_getR (r := 143) d139_407 gY_139.2.2.2 gF_12_25 rfl rfl rfl (by decide) ?_
  refine x_iload_n d139_410 rfl ?_
  refine x_iload_n d139_411 rfl ?_
  refine x_iast d139_412 rfl (by decide) (by decide) ?_
  refine x_iinc (ls2 := [some (.inr 137), some (.inl 10)]) d139_413 rfl (by unfold zr; omega) rfl ?_
  refine x_goto (pc2 := 400) d139_416 rfl ?_
  refine x_iload_n d139_400 rfl ?_
  refine x_bipush d139_401 rfl ?_
  refine x_if2 (pc2 := 419) d139_403 rfl (fun c => absurd c (show ¬ (20 : Int) ≤ 10 by decide)) (fun _ => ?_)
  refine x_aload_n d139_406 rfl ?_
  refine x_getR (r := 143) d139_407 gY_139.2.2.2 gF_12_25 rfl rfl rfl (by decide) ?_
  refine x_iload_n d139_410 rfl ?_
  refine x_iload_n d139_411 rfl ?_
  refine x_iast d139_412 rfl (by decide) (by decide) ?_
  refine x_iinc (ls2 := [some (.inr 137), some (.inl 11)]) d139_413 rfl (by unfold zr; omega) rfl ?_
  refine x_goto (pc2 := 400) d139_416 rfl ?_
  refine x_iload_n d139_400 rfl ?_
  refine x_bipush d139_401 rfl ?_
  refine x_if2 (pc2 := 419) d139_403 rfl (fun c => absurd c (show ¬ (20 : Int) ≤ 11 by decide)) (fun _ => ?_)
  refine x_aload_n d139_406 rfl ?_
  refine x_getR (r := 143) d139_407 gY_139.2.2.2 gF_12_25 rfl rfl rfl (by decide) ?_
  refine x_iload_n d139_410 rfl ?_
  refine x_iload_n d139_411 rfl ?_
  refine x_iast d139_412 rfl (by decide) (by decide) ?_
  refine x_iinc (ls2 := [some (.inr 137), some (.inl 12)]) d139_413 rfl (by unfold zr; omega) rfl ?_
  refine x_goto (pc2 := 400) d139_416 rfl ?_
  refine x_iload_n d139_400 rfl ?_
  refine x_bipush d139_401 rfl ?_
  refine x_if2 (pc2 := 419) d139_403 rfl (fun c => absurd c (show ¬ (20 : Int) ≤ 12 by decide)) (fun _ => ?_)
  refine x_aload_n d139_406 rfl ?_
  refine x_getR (r := 143) d139_407 gY_139.2.2.2 gF_12_25 rfl rfl rfl (by decide) ?_
  refine x_iload_n d139_410 rfl ?_
  refine x_iload_n d139_411 rfl ?_
  refine x_iast d139_412 rfl (by decide) (by decide) ?_
  refine x_iinc (ls2 := [some (.inr 137), some (.inl 13)]) d139_413 rfl (by unfold zr; omega) rfl ?_
  refine x_goto (pc2 := 400) d139_416 rfl ?_
  refine x_iload_n d139_400 rfl ?_
  refine x_bipush d139_401 rfl ?_
  refine x_if2 (pc2 := 419) d139_403 rfl (fun c => absurd c (show ¬ (20 : Int) ≤ 13 by decide)) (fun _ => ?_)
  refine x_aload_n d139_406 rfl ?_
  refine x_getR (r := 143) d139_407 gY_139.2.2.2 gF_12_25 rfl rfl rfl (by decide) ?_
  refine x_iload_n d139_410 rfl ?_
  refine x_iload_n d139_411 rfl ?_
  refine x_iast d139_412 rfl (by decide) (by decide) ?_
  refine x_iinc (ls2 := [some (.inr 137), some (.inl 14)]) d139_413 rfl (by unfold zr; omega) rfl ?_
  refine x_goto (pc2 := 400) d139_416 rfl ?_
  refine x_iload_n d139_400 rfl ?_
  refine x_bipush d139_401 rfl ?_
  refine x_if2 (pc2 := 419) d139_403 rfl (fun c => absurd c (show ¬ (20 : Int) ≤ 14 by decide)) (fun _ => ?_)
  refine x_aload_n d139_406 rfl ?_
  refine x_getR (r := 143) d139_407 gY_139.2.2.2 gF_12_25 rfl rfl rfl (by decide) ?_
  refine x_iload_n d139_410 rfl ?_
  refine x_iload_n d139_411 rfl ?_
  refine x_iast d139_412 rfl (by decide) (by decide) ?_
  refine x_iinc (ls2 := [some (.inr 137), some (.inl 15)]) d139_413 rfl (by unfold zr; omega) rfl ?_
  refine x_goto (pc2 := 400) d139_416 rfl ?_
  refine x_iload_n d139_400 rfl ?_
  refine x_bipush d139_401 rfl ?_
  refine x_if2 (pc2 := 419) d139_403 rfl (fun c => absurd c (show ¬ (20 : Int) ≤ 15 by decide)) (fun _ => ?_)
  refine x_aload_n d139_406 rfl ?_
  refine x_getR (r := 143) d139_407 gY_139.2.2.2 gF_12_25 rfl rfl rfl (by decide) ?_
  refine x_iload_n d139_410 rfl ?_
  refine x_iload_n d139_411 rfl ?_
  refine x_iast d139_412 rfl (by decide) (by decide) ?_
  refine x_iinc (ls2 := [some (.inr 137), some (.inl 16)]) d139_413 rfl (by unfold zr; omega) rfl ?_
  refine x_goto (pc2 := 400) d139_416 rfl ?_
  refine x_iload_n d139_400 rfl ?_
  refine x_bipush d139_401 rfl ?_
  refine x_if2 (pc2 := 419) d139_403 rfl (fun c => absurd c (show ¬ (20 : Int) ≤ 16 by decide)) (fun _ => ?_)
  refine x_aload_n d139_406 rfl ?_
  refine x_getR (r := 143) d139_407 gY_139.2.2.2 gF_12_25 rfl rfl rfl (by decide) ?_
  refine x_iload_n d139_410 rfl ?_
  refine x_iload_n d139_411 rfl ?_
  refine x_iast d139_412 rfl (by decide) (by decide) ?_
  refine x_iinc (ls2 := [some (.inr 137), some (.inl 17)]) d139_413 rfl (by unfold zr; omega) rfl ?_
  refine x_goto (pc2 := 400) d139_416 rfl ?_
  refine x_iload_n d139_400 rfl ?_
  refine x_bipush d139_401 rfl ?_
  refine x_if2 (pc2 := 419) d139_403 rfl (fun c => absurd c (show ¬ (20 : Int) ≤ 17 by decide)) (fun _ => ?_)
  refine x_aload_n d139_406 rfl ?_
  refine x_getR (r := 143) d139_407 gY_139.2.2.2 gF_12_25 rfl rfl rfl (by decide) ?_
  refine x_iload_n d139_410 rfl ?_
  refine x_iload_n d139_411 rfl ?_
  refine x_iast d139_412 rfl (by decide) (by decide) ?_
  refine x_iinc (ls2 := [some (.inr 137), some (.inl 18)]) d139_413 rfl (by unfold zr; omega) rfl ?_
  refine x_goto (pc2 := 400) d139_416 rfl ?_
  refine x_iload_n d139_400 rfl ?_
  refine x_bipush d139_401 rfl ?_
  refine x_if2 (pc2 := 419) d139_403 rfl (fun c => absurd c (show ¬ (20 : Int) ≤ 18 by decide)) (fun _ => ?_)
  refine x_aload_n d139_406 rfl ?_
  refine x_getR (r := 143) d139_407 gY_139.2.2.2 gF_12_25 rfl rfl rfl (by decide) ?_
  refine x_iload_n d139_410 rfl ?_
  refine x_iload_n d139_411 rfl ?_
  refine x_iast d139_412 rfl (by decide) (by decide) ?_
  refine x_iinc (ls2 := [some (.inr 137), some (.inl 19)]) d139_413 rfl (by unfold zr; omega) rfl ?_
  refine x_goto (pc2 := 400) d139_416 rfl ?_
  refine x_iload_n d139_400 rfl ?_
  refine x_bipush d139_401 rfl ?_
  refine x_if2 (pc2 := 419) d139_403 rfl (fun c => absurd c (show ¬ (20 : Int) ≤ 19 by decide)) (fun _ => ?_)
  refine x_aload_n d139_406 rfl ?_
  refine x_getR (r := 143) d139_407 gY_139.2.2.2 gF_12_25 rfl rfl rfl (by decide) ?_
  refine x_iload_n d139_410 rfl ?_
  refine x_iload_n d139_411 rfl ?_
  refine x_iast d139_412 rfl (by decide) (by decide) ?_
  refine x_iinc (ls2 := [some (.inr 137), some (.inl 20)]) d139_413 rfl (by unfold zr; omega) rfl ?_
  refine x_goto (pc2 := 400) d139_416 rfl ?_
  refine x_iload_n d139_400 rfl ?_
  refine x_bipush d139_401 rfl ?_
  refine x_if2 (pc2 := 419) d139_403 rfl (fun _ => ?_) (fun c => absurd (show (20 : Int) ≤ 20 by decide) c)
  refine x_vret d139_419 rfl ?_
  show Ex 1000 250 15 [some (.inr zSc), some (.inr 1), none, none] [.inr 137] (16, 57831, 184, _, _, _) _
  refine x_astore_n (ls2 := [some (.inr zSc), some (.inr 1), some (.inr 137), none]) d250_15 rfl rfl ?_
  refine x_iconst d250_16 rfl ?_
  refine x_istore_n (ls2 := [some (.inr zSc), some (.inr 1), some (.inr 137), some (.inl 0)]) d250_17 rfl rfl ?_
  refine l_law (t := 0) (L := L) rfl hL L _ _ (by omega) (by decide) ?_ ?_ ?_
  · refine ⟨fun q hq => ?_, fun q hq => ?_, rfl⟩
    · repeat' (rcases List.mem_cons.mp hq with hq | hq; (· subst hq; rfl))
      cases hq
    · repeat' (rcases List.mem_cons.mp hq with hq | hq; (· subst hq; rfl))
      cases hq
  · repeat (first | refine rNo_up ?_ (by decide) | refine rNo_v ?_ | refine rNo_v2 ?_ (by decide))
    exact rNo_0
  · refine l_rel0 (fun _ => rfl) (fun _ => rfl) (fun _ => rfl) (fun _ => rfl) (fun _ => rfl) (fun _ => rfl) (fun _ => rfl) (fun _ => rfl) (fun _ => rfl) (fun _ => rfl) (fun _ => rfl) (fun _ => rfl) ⟨rfl, rfl, rfl, rfl⟩ ⟨rfl, rfl, rfl, rfl⟩ ⟨rfl, rfl⟩ ⟨rfl, rfl, rfl, rfl⟩ (fun k hk => ?_) ⟨rfl, rfl⟩ rfl ?_ rfl ?_
    · rcases (show k = 0 ∨ k = 1 ∨ k = 2 ∨ k = 3 ∨ k = 4 ∨ k = 5 ∨ k = 6 ∨ k = 7 ∨ k = 8 ∨ k = 9 ∨ k = 10 ∨ k = 11 ∨ k = 12 ∨ k = 13 ∨ k = 14 ∨ k = 15 ∨ k = 16 ∨ k = 17 ∨ k = 18 ∨ k = 19 by omega) with rfl | rfl | rfl | rfl | rfl | rfl | rfl | rfl | rfl | rfl | rfl | rfl | rfl | rfl | rfl | rfl | rfl | rfl | rfl | rfl <;> exact ⟨rfl, rfl⟩
    · first
        | exact ⟨5, 45, .inl ⟨rfl, rfl⟩, rfl, rfl, rfl, rfl, rfl⟩
        | exact ⟨45, 5, .inr ⟨rfl, rfl⟩, rfl, rfl, rfl, rfl, rfl⟩
    · first
        | exact .inl ⟨rfl, rfl⟩
        | exact .inr ⟨rfl, rfl⟩
theorem z_law {L : Nat} {xs : Nat → Int} (hL : L ≤ 3072) (hx : ∀ k, zr (xs k)) : zLaw L xs := by
  obtain ⟨f, r, w2, h1, h2⟩ := l_made hL hx
  subst h2
  exact ⟨f, w2, h1⟩
