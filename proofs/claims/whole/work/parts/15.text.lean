theorem dJ0_length_8abf5_0 : decode cJ0_length_8abf5 0 = .ok (.aload_n 0, 1) := by decide +kernel
theorem dJ0_length_8abf5_1 : decode cJ0_length_8abf5 1 = .ok (.getfield 9, 3) := by decide +kernel
theorem dJ0_length_8abf5_4 : decode cJ0_length_8abf5 4 = .ok (.arraylength, 1) := by decide +kernel
theorem dJ0_length_8abf5_5 : decode cJ0_length_8abf5 5 = .ok (.aload_n 0, 1) := by decide +kernel
theorem dJ0_length_8abf5_6 : decode cJ0_length_8abf5 6 = .ok (.invokevirtual 335, 3) := by decide +kernel
theorem dJ0_length_8abf5_9 : decode cJ0_length_8abf5 9 = .ok (.ishr, 1) := by decide +kernel
theorem dJ0_length_8abf5_10 : decode cJ0_length_8abf5 10 = .ok (.ireturn, 1) := by decide +kernel
theorem dJ0_indexOf_0f7a4_0 : decode cJ0_indexOf_0f7a4 0 = .ok (.aload_n 0, 1) := by decide +kernel
theorem dJ0_indexOf_0f7a4_1 : decode cJ0_indexOf_0f7a4 1 = .ok (.iload_n 1, 1) := by decide +kernel
theorem dJ0_indexOf_0f7a4_2 : decode cJ0_indexOf_0f7a4 2 = .ok (.iconst 0, 1) := by decide +kernel
theorem dJ0_indexOf_0f7a4_3 : decode cJ0_indexOf_0f7a4 3 = .ok (.invokevirtual 633, 3) := by decide +kernel
theorem dJ0_indexOf_0f7a4_6 : decode cJ0_indexOf_0f7a4 6 = .ok (.ireturn, 1) := by decide +kernel
theorem dJ0_indexOf_7cf53_0 : decode cJ0_indexOf_7cf53 0 = .ok (.aload_n 0, 1) := by decide +kernel
theorem dJ0_indexOf_7cf53_1 : decode cJ0_indexOf_7cf53 1 = .ok (.invokevirtual 492, 3) := by decide +kernel
theorem dJ0_indexOf_7cf53_4 : decode cJ0_indexOf_7cf53 4 = .ok (.ifCond .eq 19, 3) := by decide +kernel
theorem dJ0_indexOf_7cf53_7 : decode cJ0_indexOf_7cf53 7 = .ok (.aload_n 0, 1) := by decide +kernel
theorem dJ0_indexOf_7cf53_8 : decode cJ0_indexOf_7cf53 8 = .ok (.getfield 9, 3) := by decide +kernel
theorem dJ0_indexOf_7cf53_11 : decode cJ0_indexOf_7cf53 11 = .ok (.iload_n 1, 1) := by decide +kernel
theorem dJ0_indexOf_7cf53_12 : decode cJ0_indexOf_7cf53 12 = .ok (.iload_n 2, 1) := by decide +kernel
theorem dJ0_indexOf_7cf53_13 : decode cJ0_indexOf_7cf53 13 = .ok (.aload_n 0, 1) := by decide +kernel
theorem dJ0_indexOf_7cf53_14 : decode cJ0_indexOf_7cf53 14 = .ok (.invokevirtual 505, 3) := by decide +kernel
theorem dJ0_indexOf_7cf53_17 : decode cJ0_indexOf_7cf53 17 = .ok (.invokestatic 637, 3) := by decide +kernel
theorem dJ0_indexOf_7cf53_20 : decode cJ0_indexOf_7cf53 20 = .ok (.goto 16, 3) := by decide +kernel
theorem dJ0_indexOf_7cf53_23 : decode cJ0_indexOf_7cf53 23 = .ok (.aload_n 0, 1) := by decide +kernel
theorem dJ0_indexOf_7cf53_24 : decode cJ0_indexOf_7cf53 24 = .ok (.getfield 9, 3) := by decide +kernel
theorem dJ0_indexOf_7cf53_27 : decode cJ0_indexOf_7cf53 27 = .ok (.iload_n 1, 1) := by decide +kernel
theorem dJ0_indexOf_7cf53_28 : decode cJ0_indexOf_7cf53 28 = .ok (.iload_n 2, 1) := by decide +kernel
theorem dJ0_indexOf_7cf53_29 : decode cJ0_indexOf_7cf53 29 = .ok (.aload_n 0, 1) := by decide +kernel
theorem dJ0_indexOf_7cf53_30 : decode cJ0_indexOf_7cf53 30 = .ok (.invokevirtual 505, 3) := by decide +kernel
theorem dJ0_indexOf_7cf53_33 : decode cJ0_indexOf_7cf53 33 = .ok (.invokestatic 640, 3) := by decide +kernel
theorem dJ0_indexOf_7cf53_36 : decode cJ0_indexOf_7cf53 36 = .ok (.ireturn, 1) := by decide +kernel
theorem dJ0_coder_7d493_0 : decode cJ0_coder_7d493 0 = .ok (.getstatic 38, 3) := by decide +kernel
theorem dJ0_coder_7d493_3 : decode cJ0_coder_7d493 3 = .ok (.ifCond .eq 10, 3) := by decide +kernel
theorem dJ0_coder_7d493_6 : decode cJ0_coder_7d493 6 = .ok (.aload_n 0, 1) := by decide +kernel
theorem dJ0_coder_7d493_7 : decode cJ0_coder_7d493 7 = .ok (.getfield 15, 3) := by decide +kernel
theorem dJ0_coder_7d493_10 : decode cJ0_coder_7d493 10 = .ok (.goto 4, 3) := by decide +kernel
theorem dJ0_coder_7d493_13 : decode cJ0_coder_7d493 13 = .ok (.iconst 1, 1) := by decide +kernel
theorem dJ0_coder_7d493_14 : decode cJ0_coder_7d493 14 = .ok (.ireturn, 1) := by decide +kernel
theorem dJ0_isLatin1_aae02_0 : decode cJ0_isLatin1_aae02 0 = .ok (.getstatic 38, 3) := by decide +kernel
theorem dJ0_isLatin1_aae02_3 : decode cJ0_isLatin1_aae02 3 = .ok (.ifCond .eq 14, 3) := by decide +kernel
theorem dJ0_isLatin1_aae02_6 : decode cJ0_isLatin1_aae02 6 = .ok (.aload_n 0, 1) := by decide +kernel
theorem dJ0_isLatin1_aae02_7 : decode cJ0_isLatin1_aae02 7 = .ok (.getfield 15, 3) := by decide +kernel
theorem dJ0_isLatin1_aae02_10 : decode cJ0_isLatin1_aae02 10 = .ok (.ifCond .ne 7, 3) := by decide +kernel
theorem dJ0_isLatin1_aae02_13 : decode cJ0_isLatin1_aae02 13 = .ok (.iconst 1, 1) := by decide +kernel
theorem dJ0_isLatin1_aae02_14 : decode cJ0_isLatin1_aae02 14 = .ok (.goto 4, 3) := by decide +kernel
theorem dJ0_isLatin1_aae02_17 : decode cJ0_isLatin1_aae02 17 = .ok (.iconst 0, 1) := by decide +kernel
theorem dJ0_isLatin1_aae02_18 : decode cJ0_isLatin1_aae02 18 = .ok (.ireturn, 1) := by decide +kernel
theorem dJ1_canEncode_9a6ad_0 : decode cJ1_canEncode_9a6ad 0 = .ok (.iload_n 0, 1) := by decide +kernel
theorem dJ1_canEncode_9a6ad_1 : decode cJ1_canEncode_9a6ad 1 = .ok (.ifCond .lt 14, 3) := by decide +kernel
theorem dJ1_canEncode_9a6ad_4 : decode cJ1_canEncode_9a6ad 4 = .ok (.iload_n 0, 1) := by decide +kernel
theorem dJ1_canEncode_9a6ad_5 : decode cJ1_canEncode_9a6ad 5 = .ok (.sipush 255, 3) := by decide +kernel
theorem dJ1_canEncode_9a6ad_8 : decode cJ1_canEncode_9a6ad 8 = .ok (.if_icmp .gt 7, 3) := by decide +kernel
theorem dJ1_canEncode_9a6ad_11 : decode cJ1_canEncode_9a6ad 11 = .ok (.iconst 1, 1) := by decide +kernel
theorem dJ1_canEncode_9a6ad_12 : decode cJ1_canEncode_9a6ad 12 = .ok (.goto 4, 3) := by decide +kernel
theorem dJ1_canEncode_9a6ad_15 : decode cJ1_canEncode_9a6ad 15 = .ok (.iconst 0, 1) := by decide +kernel
theorem dJ1_canEncode_9a6ad_16 : decode cJ1_canEncode_9a6ad 16 = .ok (.ireturn, 1) := by decide +kernel
theorem dJ1_indexOf_4cfef_0 : decode cJ1_indexOf_4cfef 0 = .ok (.iload_n 1, 1) := by decide +kernel
theorem dJ1_indexOf_4cfef_1 : decode cJ1_indexOf_4cfef 1 = .ok (.invokestatic 88, 3) := by decide +kernel
theorem dJ1_indexOf_4cfef_4 : decode cJ1_indexOf_4cfef 4 = .ok (.ifCond .ne 5, 3) := by decide +kernel
theorem dJ1_indexOf_4cfef_7 : decode cJ1_indexOf_4cfef 7 = .ok (.iconst (-1), 1) := by decide +kernel
theorem dJ1_indexOf_4cfef_8 : decode cJ1_indexOf_4cfef 8 = .ok (.ireturn, 1) := by decide +kernel
theorem dJ1_indexOf_4cfef_9 : decode cJ1_indexOf_4cfef 9 = .ok (.iload_n 2, 1) := by decide +kernel
theorem dJ1_indexOf_4cfef_10 : decode cJ1_indexOf_4cfef 10 = .ok (.iconst 0, 1) := by decide +kernel
theorem dJ1_indexOf_4cfef_11 : decode cJ1_indexOf_4cfef 11 = .ok (.invokestatic 92, 3) := by decide +kernel
theorem dJ1_indexOf_4cfef_14 : decode cJ1_indexOf_4cfef 14 = .ok (.istore_n 2, 1) := by decide +kernel
theorem dJ1_indexOf_4cfef_15 : decode cJ1_indexOf_4cfef 15 = .ok (.iload_n 3, 1) := by decide +kernel
theorem dJ1_indexOf_4cfef_16 : decode cJ1_indexOf_4cfef 16 = .ok (.aload_n 0, 1) := by decide +kernel
theorem dJ1_indexOf_4cfef_17 : decode cJ1_indexOf_4cfef 17 = .ok (.arraylength, 1) := by decide +kernel
theorem dJ1_indexOf_4cfef_18 : decode cJ1_indexOf_4cfef 18 = .ok (.invokestatic 38, 3) := by decide +kernel
theorem dJ1_indexOf_4cfef_21 : decode cJ1_indexOf_4cfef 21 = .ok (.istore_n 3, 1) := by decide +kernel
theorem dJ1_indexOf_4cfef_22 : decode cJ1_indexOf_4cfef 22 = .ok (.iload_n 2, 1) := by decide +kernel
theorem dJ1_indexOf_4cfef_23 : decode cJ1_indexOf_4cfef 23 = .ok (.iload_n 3, 1) := by decide +kernel
theorem dJ1_indexOf_4cfef_24 : decode cJ1_indexOf_4cfef 24 = .ok (.if_icmp .lt 5, 3) := by decide +kernel
theorem dJ1_indexOf_4cfef_27 : decode cJ1_indexOf_4cfef 27 = .ok (.iconst (-1), 1) := by decide +kernel
theorem dJ1_indexOf_4cfef_28 : decode cJ1_indexOf_4cfef 28 = .ok (.ireturn, 1) := by decide +kernel
theorem dJ1_indexOf_4cfef_29 : decode cJ1_indexOf_4cfef 29 = .ok (.aload_n 0, 1) := by decide +kernel
theorem dJ1_indexOf_4cfef_30 : decode cJ1_indexOf_4cfef 30 = .ok (.iload_n 1, 1) := by decide +kernel
theorem dJ1_indexOf_4cfef_31 : decode cJ1_indexOf_4cfef 31 = .ok (.iload_n 2, 1) := by decide +kernel
theorem dJ1_indexOf_4cfef_32 : decode cJ1_indexOf_4cfef 32 = .ok (.iload_n 3, 1) := by decide +kernel
theorem dJ1_indexOf_4cfef_33 : decode cJ1_indexOf_4cfef 33 = .ok (.invokestatic 95, 3) := by decide +kernel
theorem dJ1_indexOf_4cfef_36 : decode cJ1_indexOf_4cfef 36 = .ok (.ireturn, 1) := by decide +kernel
theorem dJ1_indexOfChar_4cfef_0 : decode cJ1_indexOfChar_4cfef 0 = .ok (.iload_n 1, 1) := by decide +kernel
theorem dJ1_indexOfChar_4cfef_1 : decode cJ1_indexOfChar_4cfef 1 = .ok (.i2b, 1) := by decide +kernel
theorem dJ1_indexOfChar_4cfef_2 : decode cJ1_indexOfChar_4cfef 2 = .ok (.istore 4, 2) := by decide +kernel
theorem dJ1_indexOfChar_4cfef_4 : decode cJ1_indexOfChar_4cfef 4 = .ok (.iload_n 2, 1) := by decide +kernel
theorem dJ1_indexOfChar_4cfef_5 : decode cJ1_indexOfChar_4cfef 5 = .ok (.istore 5, 2) := by decide +kernel
theorem dJ1_indexOfChar_4cfef_7 : decode cJ1_indexOfChar_4cfef 7 = .ok (.iload 5, 2) := by decide +kernel
theorem dJ1_indexOfChar_4cfef_9 : decode cJ1_indexOfChar_4cfef 9 = .ok (.iload_n 3, 1) := by decide +kernel
theorem dJ1_indexOfChar_4cfef_10 : decode cJ1_indexOfChar_4cfef 10 = .ok (.if_icmp .ge 21, 3) := by decide +kernel
theorem dJ1_indexOfChar_4cfef_13 : decode cJ1_indexOfChar_4cfef 13 = .ok (.aload_n 0, 1) := by decide +kernel
theorem dJ1_indexOfChar_4cfef_14 : decode cJ1_indexOfChar_4cfef 14 = .ok (.iload 5, 2) := by decide +kernel
theorem dJ1_indexOfChar_4cfef_16 : decode cJ1_indexOfChar_4cfef 16 = .ok (.baload, 1) := by decide +kernel
theorem dJ1_indexOfChar_4cfef_17 : decode cJ1_indexOfChar_4cfef 17 = .ok (.iload 4, 2) := by decide +kernel
theorem dJ1_indexOfChar_4cfef_19 : decode cJ1_indexOfChar_4cfef 19 = .ok (.if_icmp .ne 6, 3) := by decide +kernel
theorem dJ1_indexOfChar_4cfef_22 : decode cJ1_indexOfChar_4cfef 22 = .ok (.iload 5, 2) := by decide +kernel
theorem dJ1_indexOfChar_4cfef_24 : decode cJ1_indexOfChar_4cfef 24 = .ok (.ireturn, 1) := by decide +kernel
theorem dJ1_indexOfChar_4cfef_25 : decode cJ1_indexOfChar_4cfef 25 = .ok (.iinc 5 1, 3) := by decide +kernel
theorem dJ1_indexOfChar_4cfef_28 : decode cJ1_indexOfChar_4cfef 28 = .ok (.goto (-21), 3) := by decide +kernel
theorem dJ1_indexOfChar_4cfef_31 : decode cJ1_indexOfChar_4cfef 31 = .ok (.iconst (-1), 1) := by decide +kernel
theorem dJ1_indexOfChar_4cfef_32 : decode cJ1_indexOfChar_4cfef 32 = .ok (.ireturn, 1) := by decide +kernel
theorem j_cd_IO : Cond.code yJ0_indexOf_0f7a4 cJ0_indexOf_0f7a4 2 (some .int) ∈ zTbl := z_in (List.mem_of_getElem? (i := 634) (by decide +kernel)) rfl
theorem j_cd_IO2 : Cond.code yJ0_indexOf_7cf53 cJ0_indexOf_7cf53 3 (some .int) ∈ zTbl := z_in (List.mem_of_getElem? (i := 638) (by decide +kernel)) rfl
theorem j_cd_LEN : Cond.code yJ0_length_8abf5 cJ0_length_8abf5 1 (some .int) ∈ zTbl := z_in (List.mem_of_getElem? (i := 313) (by decide +kernel)) rfl
theorem j_cd_COD : Cond.code yJ0_coder_7d493 cJ0_coder_7d493 1 (some .byte) ∈ zTbl := z_in (List.mem_of_getElem? (i := 317) (by decide +kernel)) rfl
theorem j_cd_ISL : Cond.code yJ0_isLatin1_aae02 cJ0_isLatin1_aae02 1 (some .boolean) ∈ zTbl := z_in (List.mem_of_getElem? (i := 642) (by decide +kernel)) rfl
theorem j_cd_CE : Cond.code yJ1_canEncode_9a6ad cJ1_canEncode_9a6ad 1 (some .boolean) ∈ zTbl := z_in (List.mem_of_getElem? (i := 649) (by decide +kernel)) rfl
theorem j_cd_LIO : Cond.code yJ1_indexOf_4cfef cJ1_indexOf_4cfef 4 (some .int) ∈ zTbl := z_in (List.mem_of_getElem? (i := 646) (by decide +kernel)) rfl
theorem j_cd_IOC : Cond.code yJ1_indexOfChar_4cfef cJ1_indexOfChar_4cfef 6 (some .int) ∈ zTbl := z_in (List.mem_of_getElem? (i := 656) (by decide +kernel)) rfl
theorem j_in_IO : Cond.instanceMethod yJ0_indexOf_0f7a4 ∈ zTbl := z_in (List.mem_of_getElem? (i := 632) (by decide +kernel)) rfl
theorem j_se_IO : Cond.selects "java/lang/String" yJ0_indexOf_0f7a4 yJ0_indexOf_0f7a4 ∈ zTbl := z_in (List.mem_of_getElem? (i := 633) (by decide +kernel)) rfl
theorem j_in_IO2 : Cond.instanceMethod yJ0_indexOf_7cf53 ∈ zTbl := z_in (List.mem_of_getElem? (i := 636) (by decide +kernel)) rfl
theorem j_se_IO2 : Cond.selects "java/lang/String" yJ0_indexOf_7cf53 yJ0_indexOf_7cf53 ∈ zTbl := z_in (List.mem_of_getElem? (i := 637) (by decide +kernel)) rfl
theorem j_in_LEN : Cond.instanceMethod yJ0_length_8abf5 ∈ zTbl := z_in (List.mem_of_getElem? (i := 311) (by decide +kernel)) rfl
theorem j_se_LEN : Cond.selects "java/lang/String" yJ0_length_8abf5 yJ0_length_8abf5 ∈ zTbl := z_in (List.mem_of_getElem? (i := 312) (by decide +kernel)) rfl
theorem j_in_COD : Cond.instanceMethod yJ0_coder_7d493 ∈ zTbl := z_in (List.mem_of_getElem? (i := 315) (by decide +kernel)) rfl
theorem j_se_COD : Cond.selects "java/lang/String" yJ0_coder_7d493 yJ0_coder_7d493 ∈ zTbl := z_in (List.mem_of_getElem? (i := 316) (by decide +kernel)) rfl
theorem j_in_ISL : Cond.instanceMethod yJ0_isLatin1_aae02 ∈ zTbl := z_in (List.mem_of_getElem? (i := 640) (by decide +kernel)) rfl
theorem j_se_ISL : Cond.selects "java/lang/String" yJ0_isLatin1_aae02 yJ0_isLatin1_aae02 ∈ zTbl := z_in (List.mem_of_getElem? (i := 641) (by decide +kernel)) rfl
theorem j_st_CE : Cond.static yJ1_canEncode_9a6ad ∈ zTbl := z_in (List.mem_of_getElem? (i := 648) (by decide +kernel)) rfl
theorem j_st_LIO : Cond.static yJ1_indexOf_4cfef ∈ zTbl := z_in (List.mem_of_getElem? (i := 645) (by decide +kernel)) rfl
theorem j_st_IOC : Cond.static yJ1_indexOfChar_4cfef ∈ zTbl := z_in (List.mem_of_getElem? (i := 655) (by decide +kernel)) rfl
theorem j_ini_S : Cond.initialized "java/lang/String" ∈ zTbl := z_in (List.mem_of_getElem? (i := 120) (by decide +kernel)) rfl
theorem j_ini_L : Cond.initialized "java/lang/StringLatin1" ∈ zTbl := z_in (List.mem_of_getElem? (i := 128) (by decide +kernel)) rfl
theorem j_ml_IO2 : Cond.methodLink "java/lang/String" 633 yJ0_indexOf_7cf53 ∈ zTbl := z_in (List.mem_of_getElem? (i := 635) (by decide +kernel)) rfl
theorem j_ml_ISL : Cond.methodLink "java/lang/String" 492 yJ0_isLatin1_aae02 ∈ zTbl := z_in (List.mem_of_getElem? (i := 639) (by decide +kernel)) rfl
theorem j_ml_LEN : Cond.methodLink "java/lang/String" 505 yJ0_length_8abf5 ∈ zTbl := z_in (List.mem_of_getElem? (i := 643) (by decide +kernel)) rfl
theorem j_ml_LIO : Cond.methodLink "java/lang/String" 637 yJ1_indexOf_4cfef ∈ zTbl := z_in (List.mem_of_getElem? (i := 644) (by decide +kernel)) rfl
theorem j_ml_COD : Cond.methodLink "java/lang/String" 335 yJ0_coder_7d493 ∈ zTbl := z_in (List.mem_of_getElem? (i := 314) (by decide +kernel)) rfl
theorem j_ml_CE : Cond.methodLink "java/lang/StringLatin1" 88 yJ1_canEncode_9a6ad ∈ zTbl := z_in (List.mem_of_getElem? (i := 647) (by decide +kernel)) rfl
theorem j_ml_IOC : Cond.methodLink "java/lang/StringLatin1" 95 yJ1_indexOfChar_4cfef ∈ zTbl := z_in (List.mem_of_getElem? (i := 654) (by decide +kernel)) rfl
theorem j_ml_max : Cond.methodLink "java/lang/StringLatin1" 92 Lib.Math.max.name ∈ zTbl := z_in (List.mem_of_getElem? (i := 650) (by decide +kernel)) rfl
theorem j_ml_min : Cond.methodLink "java/lang/StringLatin1" 38 Lib.Math.min.name ∈ zTbl := z_in (List.mem_of_getElem? (i := 653) (by decide +kernel)) rfl
theorem j_fl_cs : Cond.fieldLink "java/lang/String" 38 "java/lang/String" "COMPACT_STRINGS" "Z" ∈ zTbl := z_in (List.mem_of_getElem? (i := 318) (by decide +kernel)) rfl
theorem j_fl_co : Cond.fieldLink "java/lang/String" 15 "java/lang/String" "coder" "B" ∈ zTbl := z_in (List.mem_of_getElem? (i := 1848) (by decide +kernel)) rfl
theorem j_fl_va : Cond.fieldLink "java/lang/String" 9 "java/lang/String" "value" "[B" ∈ zTbl := z_in (List.mem_of_getElem? (i := 1847) (by decide +kernel)) rfl
def jRm (d : Nat) : Room := { frames := d, cells := 0, slots := 0, locals := 40 * d }
def jBy : List Int32 := [115, 114, 119, 105, 112, 103, 111, 110]
/-- the text at a, its bytes at v: what is read of it -/
def jT (a v : Nat) (U : State) : Prop := vk_S 1 [8] [jBy] (fun _ => a) (fun _ => v) (fun _ => False) U U.heap ∧ va_Z "java/lang/String" "COMPACT_STRINGS" "Z" (.int 1) (fun _ => False) U U.heap
theorem jT_fb {a v : Nat} {av : List Value} : FrameBlind (va_Pc av (jT a v)) := fun x U g mk q => ⟨q.1, vk_S.moved (u := U) (U := U.calling g mk x) (Vm.Alike.refl U.vm) q.2.1, va_Z.moved (u := U) (U := U.calling g mk x) (Vm.Alike.refl U.vm) q.2.2⟩
theorem jN_fb {av : List Value} : FrameBlind (va_Pc av (fun _ => True)) := fun x U g mk q => ⟨q.1, trivial⟩
theorem jT_at {a v : Nat} {s U : State} (h : jT a v s) (hU : U.heap = s.heap) (hW : s.WarmedH U.vm) : jT a v U := by
  unfold jT
  rw [hU]
  exact ⟨vk_S.moved hW.alike h.1, va_Z.moved hW.alike h.2⟩
def jWs (y : MethodName) (b : ByteArray) (n : Nat) (r : Option FieldType) : List Cond := .code y b n r :: zTbl
theorem jGood {y : MethodName} {b : ByteArray} {n : Nat} {r : Option FieldType} (h : Cond.code y b n r ∈ zTbl) : GoodIn zTbl (jWs y b n r) := by
  intro w hw
  rcases List.mem_cons.mp hw with rfl | h1
  · exact z_goodIn _ h
  · exact z_goodIn _ h1
theorem jGoodV {own C : String} {i : Nat} {y : MethodName} {b : ByteArray} {n : Nat} {r : Option FieldType} (h : Cond.code y b n r ∈ zTbl) (h1 : Cond.methodLink own i y ∈ zTbl) (h2 : Cond.instanceMethod y ∈ zTbl) (h3 : Cond.selects C y y ∈ zTbl) (h4 : Cond.initialized C ∈ zTbl) : GoodIn zTbl (wsV own i C y (jWs y b n r)) := by
  intro w hw
  rcases List.mem_append.mp hw with h9 | h9
  · rcases List.mem_cons.mp h9 with rfl | h9
    · exact z_goodIn _ h1
    · rcases List.mem_cons.mp h9 with rfl | h9
      · exact z_goodIn _ h2
      · rcases List.mem_cons.mp h9 with rfl | h9
        · exact z_goodIn _ h3
        · rcases List.mem_singleton.mp h9 with rfl
          exact z_goodIn _ h4
  · exact jGood h w h9
section ZJ
variable {p : Program} {l : Launch} {e : Env} {R : Room} {s : State} {m : MethodId} {args : Array Value} {below : List Frame} {meth : Method} {c : Code} {H : Heap} {locs : List Loc} {cells slots : Nat} {Q : State → Prop}
theorem jcall {pc : Nat} {ls : Array Slot} {st0 rest : List Value} {x : Int32} {a : Array Value} (hr : va_Run p l e R s m args below meth c H locs cells slots 0 0 (F0 m pc ls st0) rest (vp_Si (fun r => r = x) a) (fun _ => False)) (kk : W p l e R s m args below meth c H locs cells slots Q (F0 m (pc + 3) ls (.int x :: rest))) : W p l e R s m args below meth c H locs cells slots Q (F0 m pc ls st0) := by
  refine zcallW hr (fun v st₀ t L H1 h0 hL e1 hvm hq => ?_)
  obtain ⟨r, hv, rfl, hh⟩ := hq
  cases hv
  have hLn : L = [] := List.eq_nil_iff_forall_not_mem.mpr (fun q h => hL q h)
  subst hLn
  have e2 : H1 = H := by rw [← e1, hh, h0]
  subst e2
  rw [List.append_nil]
  exact kk
end ZJ
set_option maxHeartbeats 4000000 in
theorem j_coder (l : Launch) (a v : Nat) : Met l yJ0_coder_7d493 (jWs yJ0_coder_7d493 cJ0_coder_7d493 1 (some .byte)) (jRm 1) (va_Pc [.ref a] (jT a v)) (vp_Si (fun r => r = 0)) 0 0 (fun _ => False) := by
  refine Met.ofW (cc := cJ0_coder_7d493) (maxL := 1) (ret := (some .byte)) (by decide) rfl ?_
  intro p e s m args below meth c s₁ B hml hv
  obtain ⟨rfl, hJ⟩ := hv
  have hx := B.exec
  have hb := B.bytes
  have hr := B.returns
  have hts : ∀ w ∈ zTbl, w.before _ s = true := fun w hw => atoms_spec (ws := jWs yJ0_coder_7d493 cJ0_coder_7d493 1 (some .byte)) B.pre w (List.mem_cons_of_mem _ hw)
  have hown : s.vm.findClass "java/lang/String" = some m.cls := findClass_of_methodNamed B.named
  have hlocks := B.notSynchronized
  have hS : va_S (fun _ => False) s.heap s.heap [] := va_S.rf
  have hl := lv_entry ([.ref a]) (n := 1) (Nat.le_of_ble_eq_true rfl)
  rw [lg_entry_eq]
  generalize (lg_sl ([.ref a]) ++ List.replicate (1 - (lg_sl ([.ref a])).length) Slot.unset).toArray = ls at hl ⊢
  have hl : lv_has ls 1 [(0, .ref a)] := hl
  have hFix : CallFix p m c cJ0_coder_7d493 1 s _ zTbl "java/lang/String" := ⟨hx, hb, hml, hown, hts⟩
  refine va_gets hx hb hJ.2 hS hown (hts _ j_fl_cs) (fun _ h9 => h9) dJ0_coder_7d493_0 ?_
  refine lv_if_eq (tgt := 13) hx hb dJ0_coder_7d493_3 (by decide) (fun h => absurd h (by decide)) (fun _ => ?_)
  refine lv_aload_n hx hb dJ0_coder_7d493_6 rfl (lv_at hl 0 rfl) ?_
  refine vk_getf hx hb (hJ.1.1 0 (by omega)).2.1 hS hown (hts _ j_fl_co) (fun _ h9 => h9) dJ0_coder_7d493_7 ?_
  refine lv_goto (tgt := 14) hx hb dJ0_coder_7d493_10 (by decide) ?_
  exact W.zret (v := 0) (ty := .byte) hx hb hr rfl (fun t ht hW => ⟨_, rfl, rfl, ht⟩) (fun _ h => absurd h List.not_mem_nil) dJ0_coder_7d493_14
set_option maxHeartbeats 4000000 in
theorem j_isl (l : Launch) (a v : Nat) : Met l yJ0_isLatin1_aae02 (jWs yJ0_isLatin1_aae02 cJ0_isLatin1_aae02 1 (some .boolean)) (jRm 1) (va_Pc [.ref a] (jT a v)) (vp_Si (fun r => r = 1)) 0 0 (fun _ => False) := by
  refine Met.ofW (cc := cJ0_isLatin1_aae02) (maxL := 1) (ret := (some .boolean)) (by decide) rfl ?_
  intro p e s m args below meth c s₁ B hml hv
  obtain ⟨rfl, hJ⟩ := hv
  have hx := B.exec
  have hb := B.bytes
  have hr := B.returns
  have hts : ∀ w ∈ zTbl, w.before _ s = true := fun w hw => atoms_spec (ws := jWs yJ0_isLatin1_aae02 cJ0_isLatin1_aae02 1 (some .boolean)) B.pre w (List.mem_cons_of_mem _ hw)
  have hown : s.vm.findClass "java/lang/String" = some m.cls := findClass_of_methodNamed B.named
  have hlocks := B.notSynchronized
  have hS : va_S (fun _ => False) s.heap s.heap [] := va_S.rf
  have hl := lv_entry ([.ref a]) (n := 1) (Nat.le_of_ble_eq_true rfl)
  rw [lg_entry_eq]
  generalize (lg_sl ([.ref a]) ++ List.replicate (1 - (lg_sl ([.ref a])).length) Slot.unset).toArray = ls at hl ⊢
  have hl : lv_has ls 1 [(0, .ref a)] := hl
  have hFix : CallFix p m c cJ0_isLatin1_aae02 1 s _ zTbl "java/lang/String" := ⟨hx, hb, hml, hown, hts⟩
  refine va_gets hx hb hJ.2 hS hown (hts _ j_fl_cs) (fun _ h9 => h9) dJ0_isLatin1_aae02_0 ?_
  refine lv_if_eq (tgt := 17) hx hb dJ0_isLatin1_aae02_3 (by decide) (fun h => absurd h (by decide)) (fun _ => ?_)
  refine lv_aload_n hx hb dJ0_isLatin1_aae02_6 rfl (lv_at hl 0 rfl) ?_
  refine vk_getf hx hb (hJ.1.1 0 (by omega)).2.1 hS hown (hts _ j_fl_co) (fun _ h9 => h9) dJ0_isLatin1_aae02_7 ?_
  refine lv_if_ne (tgt := 17) hx hb dJ0_isLatin1_aae02_10 (by decide) (fun h => absurd rfl h) (fun _ => ?_)
  refine lv_iconst (v := 1) hx hb dJ0_isLatin1_aae02_13 (by decide) ?_
  refine lv_goto (tgt := 18) hx hb dJ0_isLatin1_aae02_14 (by decide) ?_
  exact W.zret (v := 1) (ty := .boolean) hx hb hr rfl (fun t ht hW => ⟨_, rfl, rfl, ht⟩) (fun _ h => absurd h List.not_mem_nil) dJ0_isLatin1_aae02_18
set_option maxHeartbeats 4000000 in
theorem j_len (l : Launch) (a v : Nat) : Met l yJ0_length_8abf5 (jWs yJ0_length_8abf5 cJ0_length_8abf5 1 (some .int)) (jRm 2) (va_Pc [.ref a] (jT a v)) (vp_Si (fun r => r = 8)) 0 0 (fun _ => False) := by
  refine Met.ofW (cc := cJ0_length_8abf5) (maxL := 1) (ret := (some .int)) (by decide) rfl ?_
  intro p e s m args below meth c s₁ B hml hv
  obtain ⟨rfl, hJ⟩ := hv
  have hx := B.exec
  have hb := B.bytes
  have hr := B.returns
  have hts : ∀ w ∈ zTbl, w.before _ s = true := fun w hw => atoms_spec (ws := jWs yJ0_length_8abf5 cJ0_length_8abf5 1 (some .int)) B.pre w (List.mem_cons_of_mem _ hw)
  have hown : s.vm.findClass "java/lang/String" = some m.cls := findClass_of_methodNamed B.named
  have hlocks := B.notSynchronized
  have hS : va_S (fun _ => False) s.heap s.heap [] := va_S.rf
  have hl := lv_entry ([.ref a]) (n := 1) (Nat.le_of_ble_eq_true rfl)
  rw [lg_entry_eq]
  generalize (lg_sl ([.ref a]) ++ List.replicate (1 - (lg_sl ([.ref a])).length) Slot.unset).toArray = ls at hl ⊢
  have hl : lv_has ls 1 [(0, .ref a)] := hl
  have hFix : CallFix p m c cJ0_length_8abf5 1 s _ zTbl "java/lang/String" := ⟨hx, hb, hml, hown, hts⟩
  refine lv_aload_n hx hb dJ0_length_8abf5_0 rfl (lv_at hl 0 rfl) ?_
  refine vk_getf hx hb (hJ.1.1 0 (by omega)).2.2.1 hS hown (hts _ j_fl_va) (fun _ h9 => h9) dJ0_length_8abf5_1 ?_
  refine va_tlen (v := 8) hx hb (hJ.1.1 0 (by omega)).2.2.2 hS rfl dJ0_length_8abf5_4 ?_
  refine lv_aload_n hx hb dJ0_length_8abf5_5 rfl (lv_at hl 0 rfl) ?_
  refine jcall (va_runV (As := []) (rest := [.int 8]) hFix (j_coder l a v) (cwV 0 hts (jGoodV j_cd_COD j_ml_COD j_in_COD j_se_COD j_ini_S) rfl rfl rfl ⟨rfl, by decide, by decide, by decide +kernel⟩ ⟨Nat.le_of_ble_eq_true rfl, Nat.le_of_ble_eq_true rfl⟩) ⟨jT_fb, vk_recv hJ.1 (i := 0) (by omega) hS, fun U hU hW => ⟨rfl, jT_at hJ hU hW⟩⟩ rfl rfl hl.1 rfl (lv_room (Nat.le_of_ble_eq_true rfl)) dJ0_length_8abf5_6 ⟨Nat.le_refl _, Nat.le_refl _⟩) ?_
  refine lv_ishr hx hb dJ0_length_8abf5_9 ?_
  rw [show (8 : Int32) >>> ((0 : Int32) &&& 31) = 8 from by decide]
  exact W.iret (v := 8) hx hb hr (fun t ht hW => ⟨_, rfl, rfl, ht⟩) (fun _ h => absurd h List.not_mem_nil) dJ0_length_8abf5_10
set_option maxHeartbeats 4000000 in
theorem j_ce (l : Launch) (x : Int) (hxr : zr x) : Met l yJ1_canEncode_9a6ad (jWs yJ1_canEncode_9a6ad cJ1_canEncode_9a6ad 1 (some .boolean)) (jRm 1) (va_Pc [.int (Int32.ofInt x)] (fun _ => True)) (vp_Si (fun r => r = if 0 ≤ x ∧ x ≤ 255 then 1 else 0)) 0 0 (fun _ => False) := by
  refine Met.ofW (cc := cJ1_canEncode_9a6ad) (maxL := 1) (ret := (some .boolean)) (by decide) rfl ?_
  intro p e s m args below meth c s₁ B hml hv
  obtain ⟨rfl, hJ⟩ := hv
  have hx := B.exec
  have hb := B.bytes
  have hr := B.returns
  have hts : ∀ w ∈ zTbl, w.before _ s = true := fun w hw => atoms_spec (ws := jWs yJ1_canEncode_9a6ad cJ1_canEncode_9a6ad 1 (some .boolean)) B.pre w (List.mem_cons_of_mem _ hw)
  have hown : s.vm.findClass "java/lang/StringLatin1" = some m.cls := findClass_of_methodNamed B.named
  have hlocks := B.notSynchronized
  have hS : va_S (fun _ => False) s.heap s.heap [] := va_S.rf
  have hl := lv_entry ([.int (Int32.ofInt x)]) (n := 1) (Nat.le_of_ble_eq_true rfl)
  rw [lg_entry_eq]
  generalize (lg_sl ([.int (Int32.ofInt x)]) ++ List.replicate (1 - (lg_sl ([.int (Int32.ofInt x)])).length) Slot.unset).toArray = ls at hl ⊢
  have hl : lv_has ls 1 [(0, .int (Int32.ofInt x))] := hl
  have hFix : CallFix p m c cJ1_canEncode_9a6ad 1 s _ zTbl "java/lang/StringLatin1" := ⟨hx, hb, hml, hown, hts⟩
  have r255 : zr 255 := by unfold zr; omega
  refine lv_iload_n hx hb dJ1_canEncode_9a6ad_0 rfl (lv_at hl 0 rfl) ?_
  refine lv_if_lt (tgt := 15) hx hb dJ1_canEncode_9a6ad_1 (by decide) (fun h => ?_) (fun h => ?_)
  · have h := (z_lt hxr zr_0).mp h
    rw [if_neg (by omega)]
    refine lv_iconst (v := 0) hx hb dJ1_canEncode_9a6ad_15 (by decide) ?_
    exact W.zret (v := 0) (ty := .boolean) hx hb hr rfl (fun t ht hW => ⟨_, rfl, rfl, ht⟩) (fun _ h => absurd h List.not_mem_nil) dJ1_canEncode_9a6ad_16
  · have h0 : ¬ x < 0 := fun q => h ((z_lt hxr zr_0).mpr q)
    refine lv_iload_n hx hb dJ1_canEncode_9a6ad_4 rfl (lv_at hl 0 rfl) ?_
    refine lv_sipush (v := 255) hx hb dJ1_canEncode_9a6ad_5 (by decide) ?_
    refine lv_icmp_gt (tgt := 15) hx hb dJ1_canEncode_9a6ad_8 (by decide) (fun h2 => ?_) (fun h2 => ?_)
    · have h2 := (z_lt r255 hxr).mp h2
      rw [if_neg (by omega)]
      refine lv_iconst (v := 0) hx hb dJ1_canEncode_9a6ad_15 (by decide) ?_
      exact W.zret (v := 0) (ty := .boolean) hx hb hr rfl (fun t ht hW => ⟨_, rfl, rfl, ht⟩) (fun _ h => absurd h List.not_mem_nil) dJ1_canEncode_9a6ad_16
    · have h3 : ¬ 255 < x := fun q => h2 ((z_lt r255 hxr).mpr q)
      rw [if_pos (by omega)]
      refine lv_iconst (v := 1) hx hb dJ1_canEncode_9a6ad_11 (by decide) ?_
      refine lv_goto (tgt := 16) hx hb dJ1_canEncode_9a6ad_12 (by decide) ?_
      exact W.zret (v := 1) (ty := .boolean) hx hb hr rfl (fun t ht hW => ⟨_, rfl, rfl, ht⟩) (fun _ h => absurd h List.not_mem_nil) dJ1_canEncode_9a6ad_16
def jIx (b : Int32) : Nat → Nat → Int32
  | 0, _ => -1
  | n + 1, k => if jBy.getD k 0 = b then nI k else jIx b n (k + 1)
theorem jIx_ok : ∀ n : Nat, n < 256 → jIx (Int32.ofInt (n : Int)).toInt8.toInt32 8 0 = Int32.ofInt (zIdx (n : Int)) := by decide +kernel
set_option maxHeartbeats 4000000 in
theorem j_ioc (l : Launch) (a v : Nat) (x : Int) (h0 : 0 ≤ x) (h1 : x < 256) : Met l yJ1_indexOfChar_4cfef (jWs yJ1_indexOfChar_4cfef cJ1_indexOfChar_4cfef 6 (some .int)) (jRm 1) (va_Pc [.ref v, .int (Int32.ofInt x), .int 0, .int 8] (jT a v)) (vp_Si (fun r => r = Int32.ofInt (zIdx x))) 0 0 (fun _ => False) := by
  refine Met.ofW (cc := cJ1_indexOfChar_4cfef) (maxL := 6) (ret := (some .int)) (by decide) rfl ?_
  intro p e s m args below meth c s₁ B hml hv
  obtain ⟨rfl, hJ⟩ := hv
  have hx := B.exec
  have hb := B.bytes
  have hr := B.returns
  have hts : ∀ w ∈ zTbl, w.before _ s = true := fun w hw => atoms_spec (ws := jWs yJ1_indexOfChar_4cfef cJ1_indexOfChar_4cfef 6 (some .int)) B.pre w (List.mem_cons_of_mem _ hw)
  have hown : s.vm.findClass "java/lang/StringLatin1" = some m.cls := findClass_of_methodNamed B.named
  have hlocks := B.notSynchronized
  have hS : va_S (fun _ => False) s.heap s.heap [] := va_S.rf
  have hl := lv_entry ([.ref v, .int (Int32.ofInt x), .int 0, .int 8]) (n := 6) (Nat.le_of_ble_eq_true rfl)
  rw [lg_entry_eq]
  generalize (lg_sl ([.ref v, .int (Int32.ofInt x), .int 0, .int 8]) ++ List.replicate (6 - (lg_sl ([.ref v, .int (Int32.ofInt x), .int 0, .int 8])).length) Slot.unset).toArray = ls at hl ⊢
  have hl : lv_has ls 6 [(0, .ref v), (1, .int (Int32.ofInt x)), (2, .int 0), (3, .int 8)] := hl
  have hFix : CallFix p m c cJ1_indexOfChar_4cfef 6 s _ zTbl "java/lang/StringLatin1" := ⟨hx, hb, hml, hown, hts⟩
  have hres : jIx (Int32.ofInt x).toInt8.toInt32 8 0 = Int32.ofInt (zIdx x) := by
    have := jIx_ok x.toNat (by omega)
    rwa [show ((x.toNat : Nat) : Int) = x by omega] at this
  rw [← hres]
  generalize hbb : (Int32.ofInt x).toInt8.toInt32 = bb
  refine lv_iload_n hx hb dJ1_indexOfChar_4cfef_0 rfl (lv_at hl 1 rfl) ?_
  refine lv_i2b (v := bb) hx hb dJ1_indexOfChar_4cfef_1 hbb ?_
  refine lv_istore (lv' := [(4, .int bb), (0, .ref v), (1, .int (Int32.ofInt x)), (2, .int 0), (3, .int 8)]) hx hb dJ1_indexOfChar_4cfef_2 hl (by decide) rfl (fun ls hl => ?_)
  refine lv_iload_n hx hb dJ1_indexOfChar_4cfef_4 rfl (lv_at hl 3 rfl) ?_
  refine lv_istore (lv' := [(5, .int (nI 0)), (4, .int bb), (0, .ref v), (1, .int (Int32.ofInt x)), (2, .int 0), (3, .int 8)]) hx hb dJ1_indexOfChar_4cfef_5 hl (by decide) rfl (fun ls hl => ?_)
  have loop : ∀ (n k : Nat), k + n = 8 → ∀ ls : Array Slot, lv_has ls 6 [(5, .int (nI k)), (4, .int bb), (0, .ref v), (1, .int (Int32.ofInt x)), (2, .int 0), (3, .int 8)] → W p l e (headSpec (jWs yJ1_indexOfChar_4cfef cJ1_indexOfChar_4cfef 6 (some .int)) (jRm 1)).room s m #[.ref v, .int (Int32.ofInt x), .int 0, .int 8] below meth c s.heap [] 0 0 (MQ below (vp_Si (fun r => r = jIx bb 8 0)) #[.ref v, .int (Int32.ofInt x), .int 0, .int 8] s 0 0 (fun _ => False)) (F0 m 7 ls []) ∨ jIx bb n k ≠ jIx bb 8 0 := by
    intro n
    induction n with
    | zero =>
      intro k hk ls hl
      by_cases hj : jIx bb 0 k = jIx bb 8 0
      · left
        refine lv_iload hx hb dJ1_indexOfChar_4cfef_7 (lv_at hl 0 rfl) ?_
        refine lv_iload_n hx hb dJ1_indexOfChar_4cfef_9 rfl (lv_at hl 5 rfl) ?_
        refine lv_icmp_ge (tgt := 31) hx hb dJ1_indexOfChar_4cfef_10 (by decide) (fun _ => ?_) (fun h => absurd (by rw [show k = 8 by omega]; decide) h)
        refine lv_iconst (v := -1) hx hb dJ1_indexOfChar_4cfef_31 (by decide) ?_
        exact W.iret (v := -1) hx hb hr (fun t ht hW => ⟨_, rfl, hj, ht⟩) (fun _ h => absurd h List.not_mem_nil) dJ1_indexOfChar_4cfef_32
      · exact Or.inr hj
    | succ n ih =>
      intro k hk ls hl
      by_cases hj : jIx bb (n + 1) k = jIx bb 8 0
      · left
        refine lv_iload hx hb dJ1_indexOfChar_4cfef_7 (lv_at hl 0 rfl) ?_
        refine lv_iload_n hx hb dJ1_indexOfChar_4cfef_9 rfl (lv_at hl 5 rfl) ?_
        refine lv_icmp_ge (tgt := 31) hx hb dJ1_indexOfChar_4cfef_10 (by decide) (fun h => absurd h (nI_ge (a := k) (b := 8) (by omega) (by omega))) (fun _ => ?_)
        refine lv_aload_n hx hb dJ1_indexOfChar_4cfef_13 rfl (lv_at hl 2 rfl) ?_
        refine lv_iload hx hb dJ1_indexOfChar_4cfef_14 (lv_at hl 0 rfl) ?_
        refine va_tb (v := .int (jBy.getD k 0)) hx hb (hJ.1.1 0 (by omega)).2.2.2 hS (i := nI k) (show vp_in (nI k) 8 from vp_in_nI (by omega) (by omega)) (by rw [nI_clamp (by omega)]; rfl) dJ1_indexOfChar_4cfef_16 ?_
        refine lv_iload hx hb dJ1_indexOfChar_4cfef_17 (lv_at hl 1 rfl) ?_
        refine lv_icmp_ne (tgt := 25) hx hb dJ1_indexOfChar_4cfef_19 (by decide) (fun hne => ?_) (fun heq => ?_)
        · have e9 : jIx bb (n + 1) k = jIx bb n (k + 1) := by
            show (if jBy.getD k 0 = bb then nI k else jIx bb n (k + 1)) = _
            rw [if_neg hne]
          refine lv_iinc (v := nI (k + 1)) (lv' := [(5, .int (nI (k + 1))), (4, .int bb), (0, .ref v), (1, .int (Int32.ofInt x)), (2, .int 0), (3, .int 8)]) hx hb dJ1_indexOfChar_4cfef_25 hl (k := 0) rfl (nI_1 k) (by decide) rfl (fun ls hl => ?_)
          refine lv_goto (tgt := 7) hx hb dJ1_indexOfChar_4cfef_28 (by decide) ?_
          rcases ih (k + 1) (by omega) ls hl with h | h
          · exact h
          · exact absurd (e9.symm.trans hj) h
        · have e9 : jIx bb (n + 1) k = nI k := by
            show (if jBy.getD k 0 = bb then nI k else jIx bb n (k + 1)) = _
            rw [if_pos heq]
          refine lv_iload hx hb dJ1_indexOfChar_4cfef_22 (lv_at hl 0 rfl) ?_
          exact W.iret (v := nI k) hx hb hr (fun t ht hW => ⟨_, rfl, e9.symm.trans hj, ht⟩) (fun _ h => absurd h List.not_mem_nil) dJ1_indexOfChar_4cfef_24
      · exact Or.inr hj
  rcases loop 8 0 rfl ls hl with h | h
  · exact h
  · exact absurd rfl h
set_option maxHeartbeats 4000000 in
theorem j_lio (l : Launch) (a v : Nat) (x : Int) (hxr : zr x) : Met l yJ1_indexOf_4cfef (jWs yJ1_indexOf_4cfef cJ1_indexOf_4cfef 4 (some .int)) (jRm 3) (va_Pc [.ref v, .int (Int32.ofInt x), .int 0, .int 8] (jT a v)) (vp_Si (fun r => r = Int32.ofInt (zIdx x))) 0 0 (fun _ => False) := by
  refine Met.ofW (cc := cJ1_indexOf_4cfef) (maxL := 4) (ret := (some .int)) (by decide) rfl ?_
  intro p e s m args below meth c s₁ B hml hv
  obtain ⟨rfl, hJ⟩ := hv
  have hx := B.exec
  have hb := B.bytes
  have hr := B.returns
  have hts : ∀ w ∈ zTbl, w.before _ s = true := fun w hw => atoms_spec (ws := jWs yJ1_indexOf_4cfef cJ1_indexOf_4cfef 4 (some .int)) B.pre w (List.mem_cons_of_mem _ hw)
  have hown : s.vm.findClass "java/lang/StringLatin1" = some m.cls := findClass_of_methodNamed B.named
  have hlocks := B.notSynchronized
  have hS : va_S (fun _ => False) s.heap s.heap [] := va_S.rf
  have hl := lv_entry ([.ref v, .int (Int32.ofInt x), .int 0, .int 8]) (n := 4) (Nat.le_of_ble_eq_true rfl)
  rw [lg_entry_eq]
  generalize (lg_sl ([.ref v, .int (Int32.ofInt x), .int 0, .int 8]) ++ List.replicate (4 - (lg_sl ([.ref v, .int (Int32.ofInt x), .int 0, .int 8])).length) Slot.unset).toArray = ls at hl ⊢
  have hl : lv_has ls 4 [(0, .ref v), (1, .int (Int32.ofInt x)), (2, .int 0), (3, .int 8)] := hl
  have hFix : CallFix p m c cJ1_indexOf_4cfef 4 s _ zTbl "java/lang/StringLatin1" := ⟨hx, hb, hml, hown, hts⟩
  refine lv_iload_n hx hb dJ1_indexOf_4cfef_0 rfl (lv_at hl 1 rfl) ?_
  refine jcall (va_runS (As := [.int (Int32.ofInt x)]) (rest := []) hFix (j_ce l x hxr) ⟨callB_of 1 hts (jGood j_cd_CE) rfl rfl rfl (hts _ j_ini_L) (hts _ j_ml_CE) ⟨by decide, by decide, by decide +kernel⟩ ⟨Nat.le_of_ble_eq_true rfl, Nat.le_of_ble_eq_true rfl⟩, hts _ j_st_CE⟩ ⟨jN_fb, fun U hU hW => ⟨rfl, trivial⟩⟩ rfl rfl hl.1 rfl (lv_room (Nat.le_of_ble_eq_true rfl)) dJ1_indexOf_4cfef_1 ⟨Nat.le_refl _, Nat.le_refl _⟩) ?_
  by_cases hc : 0 ≤ x ∧ x ≤ 255
  · rw [if_pos hc]
    refine lv_if_ne (tgt := 9) hx hb dJ1_indexOf_4cfef_4 (by decide) (fun _ => ?_) (fun h => absurd h (by decide))
    refine lv_iload_n hx hb dJ1_indexOf_4cfef_9 rfl (lv_at hl 2 rfl) ?_
    refine lv_iconst (v := 0) hx hb dJ1_indexOf_4cfef_10 (by decide) ?_
    refine va_mmax hx hb (hml.trans hl.1.symm) hown (hts _ j_ml_max) (hts _ (z_in z_jmax_s rfl)) (hts _ (z_in z_jmath rfl)) (hts _ (z_in z_jmax_c rfl)) (Nat.le_of_ble_eq_true rfl) (Nat.le_of_ble_eq_true rfl) (Nat.le_refl _) (Nat.le_refl _) dJ1_indexOf_4cfef_11 ?_
    rw [show (if (0 : Int32) < 0 then (0 : Int32) else 0) = 0 from by decide]
    refine lv_istore_n (lv' := [(2, .int 0), (0, .ref v), (1, .int (Int32.ofInt x)), (3, .int 8)]) hx hb dJ1_indexOf_4cfef_14 rfl hl (by decide) rfl (fun ls hl => ?_)
    refine lv_iload_n hx hb dJ1_indexOf_4cfef_15 rfl (lv_at hl 3 rfl) ?_
    refine lv_aload_n hx hb dJ1_indexOf_4cfef_16 rfl (lv_at hl 1 rfl) ?_
    refine va_tlen (v := 8) hx hb (hJ.1.1 0 (by omega)).2.2.2 hS rfl dJ1_indexOf_4cfef_17 ?_
    refine va_mmin hx hb (hml.trans hl.1.symm) hown (hts _ j_ml_min) (hts _ (z_in z_jmin_s rfl)) (hts _ (z_in z_jmath rfl)) (hts _ (z_in z_jmin_c rfl)) (Nat.le_of_ble_eq_true rfl) (Nat.le_of_ble_eq_true rfl) (Nat.le_refl _) (Nat.le_refl _) dJ1_indexOf_4cfef_18 ?_
    rw [show (if (8 : Int32) < 8 then (8 : Int32) else 8) = 8 from by decide]
    refine lv_istore_n (lv' := [(3, .int 8), (2, .int 0), (0, .ref v), (1, .int (Int32.ofInt x))]) hx hb dJ1_indexOf_4cfef_21 rfl hl (by decide) rfl (fun ls hl => ?_)
    refine lv_iload_n hx hb dJ1_indexOf_4cfef_22 rfl (lv_at hl 1 rfl) ?_
    refine lv_iload_n hx hb dJ1_indexOf_4cfef_23 rfl (lv_at hl 0 rfl) ?_
    refine lv_icmp_lt (tgt := 29) hx hb dJ1_indexOf_4cfef_24 (by decide) (fun _ => ?_) (fun h => absurd (by decide) h)
    refine lv_aload_n hx hb dJ1_indexOf_4cfef_29 rfl (lv_at hl 2 rfl) ?_
    refine lv_iload_n hx hb dJ1_indexOf_4cfef_30 rfl (lv_at hl 3 rfl) ?_
    refine lv_iload_n hx hb dJ1_indexOf_4cfef_31 rfl (lv_at hl 1 rfl) ?_
    refine lv_iload_n hx hb dJ1_indexOf_4cfef_32 rfl (lv_at hl 0 rfl) ?_
    refine jcall (va_runS (As := [.ref v, .int (Int32.ofInt x), .int 0, .int 8]) (rest := []) hFix (j_ioc l a v x hc.1 (by omega)) ⟨callB_of 4 hts (jGood j_cd_IOC) rfl rfl rfl (hts _ j_ini_L) (hts _ j_ml_IOC) ⟨by decide, by decide, by decide +kernel⟩ ⟨Nat.le_of_ble_eq_true rfl, Nat.le_of_ble_eq_true rfl⟩, hts _ j_st_IOC⟩ ⟨jT_fb, fun U hU hW => ⟨rfl, jT_at hJ hU hW⟩⟩ rfl rfl hl.1 rfl (lv_room (Nat.le_of_ble_eq_true rfl)) dJ1_indexOf_4cfef_33 ⟨Nat.le_refl _, Nat.le_refl _⟩) ?_
    exact W.iret (v := Int32.ofInt (zIdx x)) hx hb hr (fun t ht hW => ⟨_, rfl, rfl, ht⟩) (fun _ h => absurd h List.not_mem_nil) dJ1_indexOf_4cfef_36
  · rw [if_neg hc]
    have e9 : zIdx x = -1 := by
      unfold zIdx
      repeat' (rw [if_neg (by omega)])
    refine lv_if_ne (tgt := 9) hx hb dJ1_indexOf_4cfef_4 (by decide) (fun h => absurd rfl h) (fun _ => ?_)
    refine lv_iconst (v := -1) hx hb dJ1_indexOf_4cfef_7 (by decide) ?_
    exact W.iret (v := -1) hx hb hr (fun t ht hW => ⟨_, rfl, by rw [e9]; rfl, ht⟩) (fun _ h => absurd h List.not_mem_nil) dJ1_indexOf_4cfef_8
set_option maxHeartbeats 4000000 in
theorem j_io2 (l : Launch) (a v : Nat) (x : Int) (hxr : zr x) : Met l yJ0_indexOf_7cf53 (jWs yJ0_indexOf_7cf53 cJ0_indexOf_7cf53 3 (some .int)) (jRm 4) (va_Pc [.ref a, .int (Int32.ofInt x), .int 0] (jT a v)) (vp_Si (fun r => r = Int32.ofInt (zIdx x))) 0 0 (fun _ => False) := by
  refine Met.ofW (cc := cJ0_indexOf_7cf53) (maxL := 3) (ret := (some .int)) (by decide) rfl ?_
  intro p e s m args below meth c s₁ B hml hv
  obtain ⟨rfl, hJ⟩ := hv
  have hx := B.exec
  have hb := B.bytes
  have hr := B.returns
  have hts : ∀ w ∈ zTbl, w.before _ s = true := fun w hw => atoms_spec (ws := jWs yJ0_indexOf_7cf53 cJ0_indexOf_7cf53 3 (some .int)) B.pre w (List.mem_cons_of_mem _ hw)
  have hown : s.vm.findClass "java/lang/String" = some m.cls := findClass_of_methodNamed B.named
  have hlocks := B.notSynchronized
  have hS : va_S (fun _ => False) s.heap s.heap [] := va_S.rf
  have hl := lv_entry ([.ref a, .int (Int32.ofInt x), .int 0]) (n := 3) (Nat.le_of_ble_eq_true rfl)
  rw [lg_entry_eq]
  generalize (lg_sl ([.ref a, .int (Int32.ofInt x), .int 0]) ++ List.replicate (3 - (lg_sl ([.ref a, .int (Int32.ofInt x), .int 0])).length) Slot.unset).toArray = ls at hl ⊢
  have hl : lv_has ls 3 [(0, .ref a), (1, .int (Int32.ofInt x)), (2, .int 0)] := hl
  have hFix : CallFix p m c cJ0_indexOf_7cf53 3 s _ zTbl "java/lang/String" := ⟨hx, hb, hml, hown, hts⟩
  refine lv_aload_n hx hb dJ0_indexOf_7cf53_0 rfl (lv_at hl 0 rfl) ?_
  refine jcall (va_runV (As := []) (rest := []) hFix (j_isl l a v) (cwV 0 hts (jGoodV j_cd_ISL j_ml_ISL j_in_ISL j_se_ISL j_ini_S) rfl rfl rfl ⟨rfl, by decide, by decide, by decide +kernel⟩ ⟨Nat.le_of_ble_eq_true rfl, Nat.le_of_ble_eq_true rfl⟩) ⟨jT_fb, vk_recv hJ.1 (i := 0) (by omega) hS, fun U hU hW => ⟨rfl, jT_at hJ hU hW⟩⟩ rfl rfl hl.1 rfl (lv_room (Nat.le_of_ble_eq_true rfl)) dJ0_indexOf_7cf53_1 ⟨Nat.le_refl _, Nat.le_refl _⟩) ?_
  refine lv_if_eq (tgt := 23) hx hb dJ0_indexOf_7cf53_4 (by decide) (fun h => absurd h (by decide)) (fun _ => ?_)
  refine lv_aload_n hx hb dJ0_indexOf_7cf53_7 rfl (lv_at hl 0 rfl) ?_
  refine vk_getf hx hb (hJ.1.1 0 (by omega)).2.2.1 hS hown (hts _ j_fl_va) (fun _ h9 => h9) dJ0_indexOf_7cf53_8 ?_
  refine lv_iload_n hx hb dJ0_indexOf_7cf53_11 rfl (lv_at hl 1 rfl) ?_
  refine lv_iload_n hx hb dJ0_indexOf_7cf53_12 rfl (lv_at hl 2 rfl) ?_
  refine lv_aload_n hx hb dJ0_indexOf_7cf53_13 rfl (lv_at hl 0 rfl) ?_
  refine jcall (va_runV (As := []) (rest := [.int 0, .int (Int32.ofInt x), .ref v]) hFix (j_len l a v) (cwV 0 hts (jGoodV j_cd_LEN j_ml_LEN j_in_LEN j_se_LEN j_ini_S) rfl rfl rfl ⟨rfl, by decide, by decide, by decide +kernel⟩ ⟨Nat.le_of_ble_eq_true rfl, Nat.le_of_ble_eq_true rfl⟩) ⟨jT_fb, vk_recv hJ.1 (i := 0) (by omega) hS, fun U hU hW => ⟨rfl, jT_at hJ hU hW⟩⟩ rfl rfl hl.1 rfl (lv_room (Nat.le_of_ble_eq_true rfl)) dJ0_indexOf_7cf53_14 ⟨Nat.le_refl _, Nat.le_refl _⟩) ?_
  refine jcall (va_runS (As := [.ref v, .int (Int32.ofInt x), .int 0, .int 8]) (rest := []) hFix (j_lio l a v x hxr) ⟨callB_of 4 hts (jGood j_cd_LIO) rfl rfl rfl (hts _ j_ini_L) (hts _ j_ml_LIO) ⟨by decide, by decide, by decide +kernel⟩ ⟨Nat.le_of_ble_eq_true rfl, Nat.le_of_ble_eq_true rfl⟩, hts _ j_st_LIO⟩ ⟨jT_fb, fun U hU hW => ⟨rfl, jT_at hJ hU hW⟩⟩ rfl rfl hl.1 rfl (lv_room (Nat.le_of_ble_eq_true rfl)) dJ0_indexOf_7cf53_17 ⟨Nat.le_refl _, Nat.le_refl _⟩) ?_
  refine lv_goto (tgt := 36) hx hb dJ0_indexOf_7cf53_20 (by decide) ?_
  exact W.iret (v := Int32.ofInt (zIdx x)) hx hb hr (fun t ht hW => ⟨_, rfl, rfl, ht⟩) (fun _ h => absurd h List.not_mem_nil) dJ0_indexOf_7cf53_36
set_option maxHeartbeats 4000000 in
theorem j_io (l : Launch) (a v : Nat) (x : Int) (hxr : zr x) : Met l yJ0_indexOf_0f7a4 (jWs yJ0_indexOf_0f7a4 cJ0_indexOf_0f7a4 2 (some .int)) (jRm 5) (va_Pc [.ref a, .int (Int32.ofInt x)] (jT a v)) (vp_Si (fun r => r = Int32.ofInt (zIdx x))) 0 0 (fun _ => False) := by
  refine Met.ofW (cc := cJ0_indexOf_0f7a4) (maxL := 2) (ret := (some .int)) (by decide) rfl ?_
  intro p e s m args below meth c s₁ B hml hv
  obtain ⟨rfl, hJ⟩ := hv
  have hx := B.exec
  have hb := B.bytes
  have hr := B.returns
  have hts : ∀ w ∈ zTbl, w.before _ s = true := fun w hw => atoms_spec (ws := jWs yJ0_indexOf_0f7a4 cJ0_indexOf_0f7a4 2 (some .int)) B.pre w (List.mem_cons_of_mem _ hw)
  have hown : s.vm.findClass "java/lang/String" = some m.cls := findClass_of_methodNamed B.named
  have hlocks := B.notSynchronized
  have hS : va_S (fun _ => False) s.heap s.heap [] := va_S.rf
  have hl := lv_entry ([.ref a, .int (Int32.ofInt x)]) (n := 2) (Nat.le_of_ble_eq_true rfl)
  rw [lg_entry_eq]
  generalize (lg_sl ([.ref a, .int (Int32.ofInt x)]) ++ List.replicate (2 - (lg_sl ([.ref a, .int (Int32.ofInt x)])).length) Slot.unset).toArray = ls at hl ⊢
  have hl : lv_has ls 2 [(0, .ref a), (1, .int (Int32.ofInt x))] := hl
  have hFix : CallFix p m c cJ0_indexOf_0f7a4 2 s _ zTbl "java/lang/String" := ⟨hx, hb, hml, hown, hts⟩
  refine lv_aload_n hx hb dJ0_indexOf_0f7a4_0 rfl (lv_at hl 0 rfl) ?_
  refine lv_iload_n hx hb dJ0_indexOf_0f7a4_1 rfl (lv_at hl 1 rfl) ?_
  refine lv_iconst (v := 0) hx hb dJ0_indexOf_0f7a4_2 (by decide) ?_
  refine jcall (va_runV (As := [.int (Int32.ofInt x), .int 0]) (rest := []) hFix (j_io2 l a v x hxr) (cwV 2 hts (jGoodV j_cd_IO2 j_ml_IO2 j_in_IO2 j_se_IO2 j_ini_S) rfl rfl rfl ⟨rfl, by decide, by decide, by decide +kernel⟩ ⟨Nat.le_of_ble_eq_true rfl, Nat.le_of_ble_eq_true rfl⟩) ⟨jT_fb, vk_recv hJ.1 (i := 0) (by omega) hS, fun U hU hW => ⟨rfl, jT_at hJ hU hW⟩⟩ rfl rfl hl.1 rfl (lv_room (Nat.le_of_ble_eq_true rfl)) dJ0_indexOf_0f7a4_3 ⟨Nat.le_refl _, Nat.le_refl _⟩) ?_
  exact W.iret (v := Int32.ofInt (zIdx x)) hx hb hr (fun t ht hW => ⟨_, rfl, rfl, ht⟩) (fun _ h => absurd h List.not_mem_nil) dJ0_indexOf_0f7a4_6
theorem jT_of {a : Nat} {A : Nat → Prop} {s U : State} {H : Heap} {locs : List Loc} (h : zTx a A s s.heap) (hS : va_S A s.heap H locs) (hU : U.heap = H) (hW : s.WarmedH U.vm) : ∃ v, jT a v U := by
  obtain ⟨v, h1, h2⟩ := h
  refine ⟨v, ?_, ?_⟩
  · rw [hU]
    exact vk_S.narrow (vk_S.moved hW.alike (vk_S.kept h1 (fun a g1 g2 => hS.2.1 a g1 g2))) (fun _ h => absurd h id)
  · rw [hU]
    exact va_Z.narrow (va_Z.moved hW.alike (va_Z.kept h2 (fun a g1 g2 => hS.2.1 a g1 g2))) (fun _ h => absurd h id)
theorem z_j14 (l : Launch) : zJ14 l := by
  intro p e R s m args below meth c H locs cells slots Q A mid pc i y a ls rest x CX hT hS hR1 hR2 hls hsum hcl hsl hx hM hd kk
  have hts := CX.2.2.2.2.1
  obtain ⟨v, h1, h2⟩ := hT
  have hlink : (zJw (zO mid, i, 14, y)).before args s = true := zJl (o := 0) CX hM (by omega)
  have hG2 : Cond.methodLink (zCn (zO mid)) i yJ0_indexOf_0f7a4 ∈ zTbl := z_in (zMl_jdk (zO mid, i, 14, y) (List.mem_filter.mpr ⟨zM_mem hM, rfl⟩)) rfl
  have hJ : ∀ U : State, U.heap = H → s.WarmedH U.vm → jT a v U := fun U hU hW => ⟨by rw [hU]; exact vk_S.narrow (vk_S.moved hW.alike (vk_S.kept h1 (fun a g1 g2 => hS.2.1 a g1 g2))) (fun _ h => absurd h id), by rw [hU]; exact va_Z.narrow (va_Z.moved hW.alike (va_Z.kept h2 (fun a g1 g2 => hS.2.1 a g1 g2))) (fun _ h => absurd h id)⟩
  exact jcall (va_runV (As := [.int (Int32.ofInt x)]) (rest := rest) ⟨CX.1, CX.2.1, CX.2.2.1, CX.2.2.2.1, hts⟩ (j_io l a v x hx) (cwV 1 hts (jGoodV j_cd_IO hG2 j_in_IO j_se_IO j_ini_S) rfl rfl rfl ⟨rfl, by decide, by decide, by decide +kernel⟩ ⟨by show 5 + 1 ≤ _; omega, by show 8 + (2 + 11) + 40 * 5 ≤ _; omega⟩) ⟨jT_fb, vk_recv h1 (i := 0) (by omega) hS, fun U hU hW => ⟨rfl, hJ U hU hW⟩⟩ rfl rfl hls rfl (lv_room hsum) hd ⟨hcl, hsl⟩) kk
theorem z_j15 (l : Launch) : zJ15 l := by
  intro p e R s m args below meth c H locs cells slots Q A mid pc i y a ls rest CX hT hS hR1 hR2 hls hsum hcl hsl hM hd kk
  have hts := CX.2.2.2.2.1
  obtain ⟨v, h1, h2⟩ := hT
  have hG2 : Cond.methodLink (zCn (zO mid)) i yJ0_length_8abf5 ∈ zTbl := z_in (zMl_jdk (zO mid, i, 15, y) (List.mem_filter.mpr ⟨zM_mem hM, rfl⟩)) rfl
  have hJ : ∀ U : State, U.heap = H → s.WarmedH U.vm → jT a v U := fun U hU hW => ⟨by rw [hU]; exact vk_S.narrow (vk_S.moved hW.alike (vk_S.kept h1 (fun a g1 g2 => hS.2.1 a g1 g2))) (fun _ h => absurd h id), by rw [hU]; exact va_Z.narrow (va_Z.moved hW.alike (va_Z.kept h2 (fun a g1 g2 => hS.2.1 a g1 g2))) (fun _ h => absurd h id)⟩
  exact jcall (va_runV (As := []) (rest := rest) ⟨CX.1, CX.2.1, CX.2.2.1, CX.2.2.2.1, hts⟩ (j_len l a v) (cwV 0 hts (jGoodV j_cd_LEN hG2 j_in_LEN j_se_LEN j_ini_S) rfl rfl rfl ⟨rfl, by decide, by decide, by decide +kernel⟩ ⟨by show 2 + 1 ≤ _; omega, by show 8 + (1 + 11) + 40 * 2 ≤ _; omega⟩) ⟨jT_fb, vk_recv h1 (i := 0) (by omega) hS, fun U hU hW => ⟨rfl, hJ U hU hW⟩⟩ rfl rfl hls rfl (lv_room hsum) hd ⟨hcl, hsl⟩) kk
theorem z_run_ok (l : Launch) (f : Nat) : zCore l f := z_run (z_j14 l) (z_j15 l) f
