-- THE LAW: its loop
section LO
variable {bc bs n L : Nat} {sh : ZS}
theorem l_law (hs : sh zSc = (3, L)) (hL : L ≤ 3072) : ∀ (c t : Nat) (R : ZR) (I : ZI), L ≤ 6 * t + c → t ≤ 600 → Wf sh R → rNo R → Rel t I R → Ex 1000 250 18 [some (.inr zSc), some (.inr 1), some (.inr 137), some (.inl ((6 * t : Nat) : Int))] [] (bc, bs, n, sh, R, I) (fun r _ => r = some (.inl 1)) := by
  intro c
  induction c with
  | zero =>
    intro t R I h ht hW hN hr
    refine x_iload_n d250_18 rfl ?_
    refine x_aload_n d250_19 rfl ?_
    refine x_alen d250_20 hs (by decide) ?_
    refine x_bipush d250_21 rfl ?_
    refine x_isub d250_23 (by unfold zr; omega) ?_
    refine x_if2 (pc2 := 1068) d250_24 rfl (fun _ => ?_) (fun c => absurd (show (L : Int) - 6 < ((6 * t : Nat) : Int) by omega) c)
    refine x_iconst d250_1068 rfl ?_
    exact x_zret d250_1069 gR_250 (by decide) rfl
  | succ c ih =>
    intro t R I h ht hW hN hr
    refine x_iload_n d250_18 rfl ?_
    refine x_aload_n d250_19 rfl ?_
    refine x_alen d250_20 hs (by decide) ?_
    refine x_bipush d250_21 rfl ?_
    refine x_isub d250_23 (by unfold zr; omega) ?_
    refine x_if2 (pc2 := 1068) d250_24 rfl (fun _ => ?_) (fun g => ?_)
    · refine x_iconst d250_1068 rfl ?_
      exact x_zret d250_1069 gR_250 (by decide) rfl
    · replace g : ¬ ((L : Int) - 6 < ((6 * t : Nat) : Int)) := g
      refine x_aload_n d250_27 rfl ?_
      refine x_iload_n d250_28 rfl ?_
      refine x_sald d250_29 hs (by omega) (by omega) ?_
      refine x_bipush d250_30 rfl ?_
      refine x_iand d250_32 ?_
      have hi : 0 ≤ ((6 * t : Nat) : Int) ∧ ((6 * t : Nat) : Int) + 6 ≤ (L : Int) ∧ L ≤ 3072 := ⟨by omega, by omega, hL⟩
      have ht2 : t < 100000 := by omega
      have nx : lNext bc bs n sh I t ((6 * t : Nat) : Int) (fun r _ => r = some (.inl 1)) := fun K R2 hW2 hN2 hr2 _ => by
        refine x_iinc (ls2 := [some (.inr zSc), some (.inr 1), some (.inr 137), some (.inl (((6 * t : Nat) : Int) + 6))]) d250_1062 rfl (by unfold zr; omega) rfl ?_
        refine x_goto (pc2 := 18) d250_1065 rfl ?_
        rw [show ((6 * t : Nat) : Int) + 6 = ((6 * (t + 1) : Nat) : Int) by omega]
        exact ih (t + 1) R2 K (by omega) (by omega) hW2 hN2 hr2
      have zm : zand (I zSc ((6 * t : Nat) : Int).toNat) 31 = I zSc ((6 * t : Nat) : Int).toNat % 32 := zand_mask _ (k := 5) (by omega)
      obtain ⟨k, hk, hk2⟩ : ∃ k : Nat, zand (I zSc ((6 * t : Nat) : Int).toNat) 31 = (k : Int) ∧ k < 32 := ⟨(zand (I zSc ((6 * t : Nat) : Int).toNat) 31).toNat, by omega, by omega⟩
      rw [hk]
      match k, hk2 with
      | 0, _ => exact x_tsw (pc2 := 176) (off := 143) d250_33 (by decide) rfl (b_L_0 hW hN hr ht2 hs hi nx)
      | 1, _ => exact x_tsw (pc2 := 219) (off := 186) d250_33 (by decide) rfl (b_L_1 hW hN hr ht2 hs hi nx)
      | 2, _ => exact x_tsw (pc2 := 252) (off := 219) d250_33 (by decide) rfl (b_L_2 hW hN hr ht2 hs hi nx)
      | 3, _ => exact x_tsw (pc2 := 285) (off := 252) d250_33 (by decide) rfl (b_L_3 hW hN hr ht2 hs hi nx)
      | 4, _ => exact x_tsw (pc2 := 348) (off := 315) d250_33 (by decide) rfl (b_L_4 hW hN hr ht2 hs hi nx)
      | 5, _ => exact x_tsw (pc2 := 371) (off := 338) d250_33 (by decide) rfl (b_L_5 hW hN hr ht2 hs hi nx)
      | 6, _ => exact x_tsw (pc2 := 394) (off := 361) d250_33 (by decide) rfl (b_L_6 hW hN hr ht2 hs hi nx)
      | 7, _ => exact x_tsw (pc2 := 427) (off := 394) d250_33 (by decide) rfl (b_L_7 hW hN hr ht2 hs hi nx)
      | 8, _ => exact x_tsw (pc2 := 450) (off := 417) d250_33 (by decide) rfl (b_L_8 hW hN hr ht2 hs hi nx)
      | 9, _ => exact x_tsw (pc2 := 473) (off := 440) d250_33 (by decide) rfl (b_L_9 hW hN hr ht2 hs hi nx)
      | 10, _ => exact x_tsw (pc2 := 506) (off := 473) d250_33 (by decide) rfl (b_L_10 hW hN hr ht2 hs hi nx)
      | 11, _ => exact x_tsw (pc2 := 519) (off := 486) d250_33 (by decide) rfl (b_L_11 hW hN hr ht2 hs hi nx)
      | 12, _ => exact x_tsw (pc2 := 552) (off := 519) d250_33 (by decide) rfl (b_L_12 hW hN hr ht2 hs hi nx)
      | 13, _ => exact x_tsw (pc2 := 575) (off := 542) d250_33 (by decide) rfl (b_L_13 hW hN hr ht2 hs hi nx)
      | 14, _ => exact x_tsw (pc2 := 588) (off := 555) d250_33 (by decide) rfl (b_L_14 hW hN hr ht2 hs hi nx)
      | 15, _ => exact x_tsw (pc2 := 621) (off := 588) d250_33 (by decide) rfl (b_L_15 hW hN hr ht2 hs hi nx)
      | 16, _ => exact x_tsw (pc2 := 634) (off := 601) d250_33 (by decide) rfl (b_L_16 hW hN hr ht2 hs hi nx)
      | 17, _ => exact x_tsw (pc2 := 677) (off := 644) d250_33 (by decide) rfl (b_L_17 hW hN hr ht2 hs hi nx)
      | 18, _ => exact x_tsw (pc2 := 730) (off := 697) d250_33 (by decide) rfl (b_L_18 hW hN hr ht2 hs hi nx)
      | 19, _ => exact x_tsw (pc2 := 743) (off := 710) d250_33 (by decide) rfl (b_L_19 hW hN hr ht2 hs hi nx)
      | 20, _ => exact x_tsw (pc2 := 756) (off := 723) d250_33 (by decide) rfl (b_L_20 hW hN hr ht2 hs hi nx)
      | 21, _ => exact x_tsw (pc2 := 789) (off := 756) d250_33 (by decide) rfl (b_L_21 hW hN hr ht2 hs hi nx)
      | 22, _ => exact x_tsw (pc2 := 812) (off := 779) d250_33 (by decide) rfl (b_L_22 hW hN hr ht2 hs hi nx)
      | 23, _ => exact x_tsw (pc2 := 875) (off := 842) d250_33 (by decide) rfl (b_L_23 hW hN hr ht2 hs hi nx)
      | 24, _ => exact x_tsw (pc2 := 908) (off := 875) d250_33 (by decide) rfl (b_L_24 hW hN hr ht2 hs hi nx)
      | 25, _ => exact x_tsw (pc2 := 931) (off := 898) d250_33 (by decide) rfl (b_L_25 hW hN hr ht2 hs hi nx)
      | 26, _ => exact x_tsw (pc2 := 954) (off := 921) d250_33 (by decide) rfl (b_L_26 hW hN hr ht2 hs hi nx)
      | 27, _ => exact x_tsw (pc2 := 977) (off := 944) d250_33 (by decide) rfl (b_L_27 hW hN hr ht2 hs hi nx)
      | 28, _ => exact x_tsw (pc2 := 990) (off := 957) d250_33 (by decide) rfl (b_L_28 hW hN hr ht2 hs hi nx)
      | 29, _ => exact x_tsw (pc2 := 1003) (off := 970) d250_33 (by decide) rfl (b_L_29 hW hN hr ht2 hs hi nx)
      | 30, _ => exact x_tsw (pc2 := 1016) (off := 983) d250_33 (by decide) rfl (b_L_30 hW hN hr ht2 hs hi nx)
      | 31, _ => exact x_tsw (pc2 := 1039) (off := 1006) d250_33 (by decide) rfl (b_L_31 hW hN hr ht2 hs hi nx)
      | k + 32, h => exact absurd h (by omega)
end LO
