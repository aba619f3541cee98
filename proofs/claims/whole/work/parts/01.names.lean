-- ===== PART A: goes FIRST, ahead of the names: the tables' words, and 'selects' of the private methods out of them =====
/-- a private method of a class that the tables say can be made, by its rows of tables_1 -/
def lw_okq (q : MethodName × Nat) : Prop := (q.1.cls ≠ "java/lang/invoke/MethodHandle" ∧ q.1.cls ≠ "java/lang/invoke/VarHandle") ∧ Cond.instantiable q.1.cls q.2 ∈ tables_1 ∧ Cond.privateMethod q.1 ∈ tables_1 ∧ Cond.instanceMethod q.1 ∈ tables_1
theorem lw_p0 : lw_okq (⟨"NineHoles$LawReader", "clause", "()Z"⟩, 5) := ⟨⟨by decide +kernel, by decide +kernel⟩, List.mem_of_getElem? (i := 47) (by decide +kernel), List.mem_of_getElem? (i := 480) (by decide +kernel), List.mem_of_getElem? (i := 481) (by decide +kernel)⟩
theorem lw_p1 : lw_okq (⟨"NineHoles$LawReader", "next", "()I"⟩, 5) := ⟨⟨by decide +kernel, by decide +kernel⟩, List.mem_of_getElem? (i := 47) (by decide +kernel), List.mem_of_getElem? (i := 484) (by decide +kernel), List.mem_of_getElem? (i := 485) (by decide +kernel)⟩
theorem lw_p2 : lw_okq (⟨"NineHoles$LawReader", "fail", "(I)Z"⟩, 5) := ⟨⟨by decide +kernel, by decide +kernel⟩, List.mem_of_getElem? (i := 47) (by decide +kernel), List.mem_of_getElem? (i := 488) (by decide +kernel), List.mem_of_getElem? (i := 489) (by decide +kernel)⟩
theorem lw_p3 : lw_okq (⟨"NineHoles$LawReader", "sum", "(I)Z"⟩, 5) := ⟨⟨by decide +kernel, by decide +kernel⟩, List.mem_of_getElem? (i := 47) (by decide +kernel), List.mem_of_getElem? (i := 492) (by decide +kernel), List.mem_of_getElem? (i := 493) (by decide +kernel)⟩
theorem lw_p4 : lw_okq (⟨"NineHoles$LawReader", "term", "(I)Z"⟩, 5) := ⟨⟨by decide +kernel, by decide +kernel⟩, List.mem_of_getElem? (i := 47) (by decide +kernel), List.mem_of_getElem? (i := 496) (by decide +kernel), List.mem_of_getElem? (i := 497) (by decide +kernel)⟩
theorem lw_p5 : lw_okq (⟨"NineHoles$LawReader", "factor", "(I)Z"⟩, 5) := ⟨⟨by decide +kernel, by decide +kernel⟩, List.mem_of_getElem? (i := 47) (by decide +kernel), List.mem_of_getElem? (i := 500) (by decide +kernel), List.mem_of_getElem? (i := 501) (by decide +kernel)⟩
theorem lw_p6 : lw_okq (⟨"NineHoles$LawReader", "number", "()Z"⟩, 5) := ⟨⟨by decide +kernel, by decide +kernel⟩, List.mem_of_getElem? (i := 47) (by decide +kernel), List.mem_of_getElem? (i := 507) (by decide +kernel), List.mem_of_getElem? (i := 508) (by decide +kernel)⟩
theorem lw_p7 : lw_okq (⟨"NineHoles$LawReader", "take", "(I)Z"⟩, 5) := ⟨⟨by decide +kernel, by decide +kernel⟩, List.mem_of_getElem? (i := 47) (by decide +kernel), List.mem_of_getElem? (i := 515) (by decide +kernel), List.mem_of_getElem? (i := 516) (by decide +kernel)⟩
theorem lw_p8 : lw_okq (⟨"NineHoles$LawReader", "condition", "(I)Z"⟩, 5) := ⟨⟨by decide +kernel, by decide +kernel⟩, List.mem_of_getElem? (i := 47) (by decide +kernel), List.mem_of_getElem? (i := 595) (by decide +kernel), List.mem_of_getElem? (i := 596) (by decide +kernel)⟩
theorem lw_p9 : lw_okq (⟨"NineHoles$LawReader", "part", "(I)Z"⟩, 5) := ⟨⟨by decide +kernel, by decide +kernel⟩, List.mem_of_getElem? (i := 47) (by decide +kernel), List.mem_of_getElem? (i := 599) (by decide +kernel), List.mem_of_getElem? (i := 600) (by decide +kernel)⟩
theorem lw_p10 : lw_okq (⟨"NineHoles$LawReader", "piece", "(I)Z"⟩, 5) := ⟨⟨by decide +kernel, by decide +kernel⟩, List.mem_of_getElem? (i := 47) (by decide +kernel), List.mem_of_getElem? (i := 603) (by decide +kernel), List.mem_of_getElem? (i := 604) (by decide +kernel)⟩
theorem lw_p11 : lw_okq (⟨"NineHoles$LawReader", "comparison", "(I)Z"⟩, 5) := ⟨⟨by decide +kernel, by decide +kernel⟩, List.mem_of_getElem? (i := 47) (by decide +kernel), List.mem_of_getElem? (i := 607) (by decide +kernel), List.mem_of_getElem? (i := 608) (by decide +kernel)⟩
theorem lw_p12 : lw_okq (⟨"NineHoles$LawReader", "operator", "(I)I"⟩, 5) := ⟨⟨by decide +kernel, by decide +kernel⟩, List.mem_of_getElem? (i := 47) (by decide +kernel), List.mem_of_getElem? (i := 611) (by decide +kernel), List.mem_of_getElem? (i := 612) (by decide +kernel)⟩
theorem lw_p13 : lw_okq (⟨"NineHoles", "isLetter", "(I)Z"⟩, 16) := ⟨⟨by decide +kernel, by decide +kernel⟩, List.mem_of_getElem? (i := 23) (by decide +kernel), List.mem_of_getElem? (i := 648) (by decide +kernel), List.mem_of_getElem? (i := 649) (by decide +kernel)⟩
theorem lw_p14 : lw_okq (⟨"NineHoles", "holeNow", "(I)I"⟩, 16) := ⟨⟨by decide +kernel, by decide +kernel⟩, List.mem_of_getElem? (i := 23) (by decide +kernel), List.mem_of_getElem? (i := 653) (by decide +kernel), List.mem_of_getElem? (i := 654) (by decide +kernel)⟩
theorem lw_p15 : lw_okq (⟨"NineHoles$Sorter", "putSigns", "(LNineHoles$State;I)V"⟩, 8) := ⟨⟨by decide +kernel, by decide +kernel⟩, List.mem_of_getElem? (i := 192) (by decide +kernel), List.mem_of_getElem? (i := 661) (by decide +kernel), List.mem_of_getElem? (i := 662) (by decide +kernel)⟩
def lw_privs_1 : List (MethodName × Nat) := [(⟨"NineHoles$LawReader", "clause", "()Z"⟩, 5), (⟨"NineHoles$LawReader", "next", "()I"⟩, 5), (⟨"NineHoles$LawReader", "fail", "(I)Z"⟩, 5), (⟨"NineHoles$LawReader", "sum", "(I)Z"⟩, 5), (⟨"NineHoles$LawReader", "term", "(I)Z"⟩, 5), (⟨"NineHoles$LawReader", "factor", "(I)Z"⟩, 5), (⟨"NineHoles$LawReader", "number", "()Z"⟩, 5), (⟨"NineHoles$LawReader", "take", "(I)Z"⟩, 5), (⟨"NineHoles$LawReader", "condition", "(I)Z"⟩, 5), (⟨"NineHoles$LawReader", "part", "(I)Z"⟩, 5), (⟨"NineHoles$LawReader", "piece", "(I)Z"⟩, 5), (⟨"NineHoles$LawReader", "comparison", "(I)Z"⟩, 5), (⟨"NineHoles$LawReader", "operator", "(I)I"⟩, 5), (⟨"NineHoles", "isLetter", "(I)Z"⟩, 16), (⟨"NineHoles", "holeNow", "(I)I"⟩, 16), (⟨"NineHoles$Sorter", "putSigns", "(LNineHoles$State;I)V"⟩, 8)]
theorem lw_r1 : ∀ q ∈ lw_privs_1, lw_okq q := List.forall_mem_cons.mpr ⟨lw_p0, List.forall_mem_cons.mpr ⟨lw_p1, List.forall_mem_cons.mpr ⟨lw_p2, List.forall_mem_cons.mpr ⟨lw_p3, List.forall_mem_cons.mpr ⟨lw_p4, List.forall_mem_cons.mpr ⟨lw_p5, List.forall_mem_cons.mpr ⟨lw_p6, List.forall_mem_cons.mpr ⟨lw_p7, List.forall_mem_cons.mpr ⟨lw_p8, List.forall_mem_cons.mpr ⟨lw_p9, List.forall_mem_cons.mpr ⟨lw_p10, List.forall_mem_cons.mpr ⟨lw_p11, List.forall_mem_cons.mpr ⟨lw_p12, List.forall_mem_cons.mpr ⟨lw_p13, List.forall_mem_cons.mpr ⟨lw_p14, List.forall_mem_cons.mpr ⟨lw_p15, fun _ h => absurd h List.not_mem_nil⟩⟩⟩⟩⟩⟩⟩⟩⟩⟩⟩⟩⟩⟩⟩⟩
theorem lw_p16 : lw_okq (⟨"NineHoles$Law", "run", "(II[I)I"⟩, 10) := ⟨⟨by decide +kernel, by decide +kernel⟩, List.mem_of_getElem? (i := 53) (by decide +kernel), List.mem_of_getElem? (i := 669) (by decide +kernel), List.mem_of_getElem? (i := 670) (by decide +kernel)⟩
theorem lw_p17 : lw_okq (⟨"NineHoles", "canGo", "(II)Z"⟩, 16) := ⟨⟨by decide +kernel, by decide +kernel⟩, List.mem_of_getElem? (i := 23) (by decide +kernel), List.mem_of_getElem? (i := 693) (by decide +kernel), List.mem_of_getElem? (i := 694) (by decide +kernel)⟩
theorem lw_p18 : lw_okq (⟨"NineHoles$Sorter", "tally", "(LNineHoles$State;)V"⟩, 8) := ⟨⟨by decide +kernel, by decide +kernel⟩, List.mem_of_getElem? (i := 192) (by decide +kernel), List.mem_of_getElem? (i := 710) (by decide +kernel), List.mem_of_getElem? (i := 711) (by decide +kernel)⟩
theorem lw_p19 : lw_okq (⟨"NineHoles", "firstOut", "(LNineHoles$State;)I"⟩, 16) := ⟨⟨by decide +kernel, by decide +kernel⟩, List.mem_of_getElem? (i := 23) (by decide +kernel), List.mem_of_getElem? (i := 749) (by decide +kernel), List.mem_of_getElem? (i := 750) (by decide +kernel)⟩
theorem lw_p20 : lw_okq (⟨"NineHoles", "readRanks", "()V"⟩, 16) := ⟨⟨by decide +kernel, by decide +kernel⟩, List.mem_of_getElem? (i := 23) (by decide +kernel), List.mem_of_getElem? (i := 769) (by decide +kernel), List.mem_of_getElem? (i := 770) (by decide +kernel)⟩
theorem lw_p21 : lw_okq (⟨"NineHoles", "putRanks", "()V"⟩, 16) := ⟨⟨by decide +kernel, by decide +kernel⟩, List.mem_of_getElem? (i := 23) (by decide +kernel), List.mem_of_getElem? (i := 773) (by decide +kernel), List.mem_of_getElem? (i := 774) (by decide +kernel)⟩
theorem lw_p22 : lw_okq (⟨"NineHoles", "findPlan", "()I"⟩, 16) := ⟨⟨by decide +kernel, by decide +kernel⟩, List.mem_of_getElem? (i := 23) (by decide +kernel), List.mem_of_getElem? (i := 795) (by decide +kernel), List.mem_of_getElem? (i := 796) (by decide +kernel)⟩
theorem lw_p23 : lw_okq (⟨"NineHoles$Planner", "putRanks", "(I)Z"⟩, 4) := ⟨⟨by decide +kernel, by decide +kernel⟩, List.mem_of_getElem? (i := 274) (by decide +kernel), List.mem_of_getElem? (i := 803) (by decide +kernel), List.mem_of_getElem? (i := 804) (by decide +kernel)⟩
theorem lw_p24 : lw_okq (⟨"NineHoles$Planner", "pipesOn", "(I)I"⟩, 4) := ⟨⟨by decide +kernel, by decide +kernel⟩, List.mem_of_getElem? (i := 274) (by decide +kernel), List.mem_of_getElem? (i := 807) (by decide +kernel), List.mem_of_getElem? (i := 808) (by decide +kernel)⟩
theorem lw_p25 : lw_okq (⟨"NineHoles$Planner", "holeOn", "(II)I"⟩, 4) := ⟨⟨by decide +kernel, by decide +kernel⟩, List.mem_of_getElem? (i := 274) (by decide +kernel), List.mem_of_getElem? (i := 811) (by decide +kernel), List.mem_of_getElem? (i := 812) (by decide +kernel)⟩
theorem lw_p26 : lw_okq (⟨"NineHoles$Tables", "countLetters", "(LNineHoles$State;)V"⟩, 6) := ⟨⟨by decide +kernel, by decide +kernel⟩, List.mem_of_getElem? (i := 293) (by decide +kernel), List.mem_of_getElem? (i := 842) (by decide +kernel), List.mem_of_getElem? (i := 843) (by decide +kernel)⟩
theorem lw_p27 : lw_okq (⟨"NineHoles$Tables", "isAlone", "(II)Z"⟩, 6) := ⟨⟨by decide +kernel, by decide +kernel⟩, List.mem_of_getElem? (i := 293) (by decide +kernel), List.mem_of_getElem? (i := 849) (by decide +kernel), List.mem_of_getElem? (i := 850) (by decide +kernel)⟩
theorem lw_p28 : lw_okq (⟨"NineHoles$Tables", "goDeeper", "(II)Z"⟩, 6) := ⟨⟨by decide +kernel, by decide +kernel⟩, List.mem_of_getElem? (i := 293) (by decide +kernel), List.mem_of_getElem? (i := 854) (by decide +kernel), List.mem_of_getElem? (i := 855) (by decide +kernel)⟩
theorem lw_p29 : lw_okq (⟨"NineHoles$Tables", "splitUpTo", "(II)V"⟩, 6) := ⟨⟨by decide +kernel, by decide +kernel⟩, List.mem_of_getElem? (i := 293) (by decide +kernel), List.mem_of_getElem? (i := 858) (by decide +kernel), List.mem_of_getElem? (i := 859) (by decide +kernel)⟩
theorem lw_p30 : lw_okq (⟨"NineHoles$Tables", "throwsWith", "(II)I"⟩, 6) := ⟨⟨by decide +kernel, by decide +kernel⟩, List.mem_of_getElem? (i := 293) (by decide +kernel), List.mem_of_getElem? (i := 862) (by decide +kernel), List.mem_of_getElem? (i := 863) (by decide +kernel)⟩
theorem lw_p31 : lw_okq (⟨"NineHoles$Tables", "letters", "(II)I"⟩, 6) := ⟨⟨by decide +kernel, by decide +kernel⟩, List.mem_of_getElem? (i := 293) (by decide +kernel), List.mem_of_getElem? (i := 866) (by decide +kernel), List.mem_of_getElem? (i := 867) (by decide +kernel)⟩
def lw_privs_2 : List (MethodName × Nat) := [(⟨"NineHoles$Law", "run", "(II[I)I"⟩, 10), (⟨"NineHoles", "canGo", "(II)Z"⟩, 16), (⟨"NineHoles$Sorter", "tally", "(LNineHoles$State;)V"⟩, 8), (⟨"NineHoles", "firstOut", "(LNineHoles$State;)I"⟩, 16), (⟨"NineHoles", "readRanks", "()V"⟩, 16), (⟨"NineHoles", "putRanks", "()V"⟩, 16), (⟨"NineHoles", "findPlan", "()I"⟩, 16), (⟨"NineHoles$Planner", "putRanks", "(I)Z"⟩, 4), (⟨"NineHoles$Planner", "pipesOn", "(I)I"⟩, 4), (⟨"NineHoles$Planner", "holeOn", "(II)I"⟩, 4), (⟨"NineHoles$Tables", "countLetters", "(LNineHoles$State;)V"⟩, 6), (⟨"NineHoles$Tables", "isAlone", "(II)Z"⟩, 6), (⟨"NineHoles$Tables", "goDeeper", "(II)Z"⟩, 6), (⟨"NineHoles$Tables", "splitUpTo", "(II)V"⟩, 6), (⟨"NineHoles$Tables", "throwsWith", "(II)I"⟩, 6), (⟨"NineHoles$Tables", "letters", "(II)I"⟩, 6)]
theorem lw_r2 : ∀ q ∈ lw_privs_2, lw_okq q := List.forall_mem_cons.mpr ⟨lw_p16, List.forall_mem_cons.mpr ⟨lw_p17, List.forall_mem_cons.mpr ⟨lw_p18, List.forall_mem_cons.mpr ⟨lw_p19, List.forall_mem_cons.mpr ⟨lw_p20, List.forall_mem_cons.mpr ⟨lw_p21, List.forall_mem_cons.mpr ⟨lw_p22, List.forall_mem_cons.mpr ⟨lw_p23, List.forall_mem_cons.mpr ⟨lw_p24, List.forall_mem_cons.mpr ⟨lw_p25, List.forall_mem_cons.mpr ⟨lw_p26, List.forall_mem_cons.mpr ⟨lw_p27, List.forall_mem_cons.mpr ⟨lw_p28, List.forall_mem_cons.mpr ⟨lw_p29, List.forall_mem_cons.mpr ⟨lw_p30, List.forall_mem_cons.mpr ⟨lw_p31, fun _ h => absurd h List.not_mem_nil⟩⟩⟩⟩⟩⟩⟩⟩⟩⟩⟩⟩⟩⟩⟩⟩
theorem lw_p32 : lw_okq (⟨"NineHoles$Tables", "fewestHoles", "(I)I"⟩, 6) := ⟨⟨by decide +kernel, by decide +kernel⟩, List.mem_of_getElem? (i := 293) (by decide +kernel), List.mem_of_getElem? (i := 870) (by decide +kernel), List.mem_of_getElem? (i := 871) (by decide +kernel)⟩
theorem lw_p33 : lw_okq (⟨"NineHoles$Yard", "canPutInto", "(I[III)Z"⟩, 4) := ⟨⟨by decide +kernel, by decide +kernel⟩, List.mem_of_getElem? (i := 320) (by decide +kernel), List.mem_of_getElem? (i := 905) (by decide +kernel), List.mem_of_getElem? (i := 906) (by decide +kernel)⟩
theorem lw_p34 : lw_okq (⟨"NineHoles$Yard", "fits", "(II)Z"⟩, 4) := ⟨⟨by decide +kernel, by decide +kernel⟩, List.mem_of_getElem? (i := 320) (by decide +kernel), List.mem_of_getElem? (i := 909) (by decide +kernel), List.mem_of_getElem? (i := 910) (by decide +kernel)⟩
theorem lw_p35 : lw_okq (⟨"NineHoles$Yard", "canPut", "([III)Z"⟩, 4) := ⟨⟨by decide +kernel, by decide +kernel⟩, List.mem_of_getElem? (i := 320) (by decide +kernel), List.mem_of_getElem? (i := 913) (by decide +kernel), List.mem_of_getElem? (i := 914) (by decide +kernel)⟩
theorem lw_p36 : lw_okq (⟨"NineHoles$Yard", "nearest", "(IZ)I"⟩, 4) := ⟨⟨by decide +kernel, by decide +kernel⟩, List.mem_of_getElem? (i := 320) (by decide +kernel), List.mem_of_getElem? (i := 917) (by decide +kernel), List.mem_of_getElem? (i := 918) (by decide +kernel)⟩
theorem lw_p37 : lw_okq (⟨"NineHoles$Rows", "fewestFrom", "(II)I"⟩, 6) := ⟨⟨by decide +kernel, by decide +kernel⟩, List.mem_of_getElem? (i := 244) (by decide +kernel), List.mem_of_getElem? (i := 932) (by decide +kernel), List.mem_of_getElem? (i := 933) (by decide +kernel)⟩
theorem lw_p38 : lw_okq (⟨"NineHoles$Rows", "breakWith", "(III)I"⟩, 6) := ⟨⟨by decide +kernel, by decide +kernel⟩, List.mem_of_getElem? (i := 244) (by decide +kernel), List.mem_of_getElem? (i := 936) (by decide +kernel), List.mem_of_getElem? (i := 937) (by decide +kernel)⟩
theorem lw_p39 : lw_okq (⟨"NineHoles$Rows", "putRow", "()V"⟩, 6) := ⟨⟨by decide +kernel, by decide +kernel⟩, List.mem_of_getElem? (i := 244) (by decide +kernel), List.mem_of_getElem? (i := 941) (by decide +kernel), List.mem_of_getElem? (i := 942) (by decide +kernel)⟩
theorem lw_p40 : lw_okq (⟨"NineHoles$Blame", "askKnown", "(LNineHoles$State;I)V"⟩, 10) := ⟨⟨by decide +kernel, by decide +kernel⟩, List.mem_of_getElem? (i := 340) (by decide +kernel), List.mem_of_getElem? (i := 982) (by decide +kernel), List.mem_of_getElem? (i := 983) (by decide +kernel)⟩
theorem lw_p41 : lw_okq (⟨"NineHoles$Blame", "tryHoles", "(IIILNineHoles$Tape;)V"⟩, 10) := ⟨⟨by decide +kernel, by decide +kernel⟩, List.mem_of_getElem? (i := 340) (by decide +kernel), List.mem_of_getElem? (i := 989) (by decide +kernel), List.mem_of_getElem? (i := 990) (by decide +kernel)⟩
theorem lw_p42 : lw_okq (⟨"NineHoles$Blame", "note", "(III)V"⟩, 10) := ⟨⟨by decide +kernel, by decide +kernel⟩, List.mem_of_getElem? (i := 340) (by decide +kernel), List.mem_of_getElem? (i := 996) (by decide +kernel), List.mem_of_getElem? (i := 997) (by decide +kernel)⟩
theorem lw_p43 : lw_okq (⟨"NineHoles", "secondsOfFirst", "(I)I"⟩, 16) := ⟨⟨by decide +kernel, by decide +kernel⟩, List.mem_of_getElem? (i := 23) (by decide +kernel), List.mem_of_getElem? (i := 1010) (by decide +kernel), List.mem_of_getElem? (i := 1011) (by decide +kernel)⟩
theorem lw_p44 : lw_okq (⟨"NineHoles", "bestShare", "(I)I"⟩, 16) := ⟨⟨by decide +kernel, by decide +kernel⟩, List.mem_of_getElem? (i := 23) (by decide +kernel), List.mem_of_getElem? (i := 1016) (by decide +kernel), List.mem_of_getElem? (i := 1017) (by decide +kernel)⟩
theorem lw_p45 : lw_okq (⟨"NineHolesModel", "arrives", "(I)V"⟩, 77) := ⟨⟨by decide +kernel, by decide +kernel⟩, List.mem_of_getElem? (i := 1065) (by decide +kernel), List.mem_of_getElem? (i := 1313) (by decide +kernel), List.mem_of_getElem? (i := 1314) (by decide +kernel)⟩
theorem lw_p46 : lw_okq (⟨"NineHolesModel", "types", "(I)V"⟩, 77) := ⟨⟨by decide +kernel, by decide +kernel⟩, List.mem_of_getElem? (i := 1065) (by decide +kernel), List.mem_of_getElem? (i := 1329) (by decide +kernel), List.mem_of_getElem? (i := 1330) (by decide +kernel)⟩
theorem lw_p47 : lw_okq (⟨"NineHolesModel", "readsClause", "()Z"⟩, 77) := ⟨⟨by decide +kernel, by decide +kernel⟩, List.mem_of_getElem? (i := 1065) (by decide +kernel), List.mem_of_getElem? (i := 1337) (by decide +kernel), List.mem_of_getElem? (i := 1338) (by decide +kernel)⟩
def lw_privs_3 : List (MethodName × Nat) := [(⟨"NineHoles$Tables", "fewestHoles", "(I)I"⟩, 6), (⟨"NineHoles$Yard", "canPutInto", "(I[III)Z"⟩, 4), (⟨"NineHoles$Yard", "fits", "(II)Z"⟩, 4), (⟨"NineHoles$Yard", "canPut", "([III)Z"⟩, 4), (⟨"NineHoles$Yard", "nearest", "(IZ)I"⟩, 4), (⟨"NineHoles$Rows", "fewestFrom", "(II)I"⟩, 6), (⟨"NineHoles$Rows", "breakWith", "(III)I"⟩, 6), (⟨"NineHoles$Rows", "putRow", "()V"⟩, 6), (⟨"NineHoles$Blame", "askKnown", "(LNineHoles$State;I)V"⟩, 10), (⟨"NineHoles$Blame", "tryHoles", "(IIILNineHoles$Tape;)V"⟩, 10), (⟨"NineHoles$Blame", "note", "(III)V"⟩, 10), (⟨"NineHoles", "secondsOfFirst", "(I)I"⟩, 16), (⟨"NineHoles", "bestShare", "(I)I"⟩, 16), (⟨"NineHolesModel", "arrives", "(I)V"⟩, 77), (⟨"NineHolesModel", "types", "(I)V"⟩, 77), (⟨"NineHolesModel", "readsClause", "()Z"⟩, 77)]
theorem lw_r3 : ∀ q ∈ lw_privs_3, lw_okq q := List.forall_mem_cons.mpr ⟨lw_p32, List.forall_mem_cons.mpr ⟨lw_p33, List.forall_mem_cons.mpr ⟨lw_p34, List.forall_mem_cons.mpr ⟨lw_p35, List.forall_mem_cons.mpr ⟨lw_p36, List.forall_mem_cons.mpr ⟨lw_p37, List.forall_mem_cons.mpr ⟨lw_p38, List.forall_mem_cons.mpr ⟨lw_p39, List.forall_mem_cons.mpr ⟨lw_p40, List.forall_mem_cons.mpr ⟨lw_p41, List.forall_mem_cons.mpr ⟨lw_p42, List.forall_mem_cons.mpr ⟨lw_p43, List.forall_mem_cons.mpr ⟨lw_p44, List.forall_mem_cons.mpr ⟨lw_p45, List.forall_mem_cons.mpr ⟨lw_p46, List.forall_mem_cons.mpr ⟨lw_p47, fun _ h => absurd h List.not_mem_nil⟩⟩⟩⟩⟩⟩⟩⟩⟩⟩⟩⟩⟩⟩⟩⟩
theorem lw_p48 : lw_okq (⟨"NineHolesModel", "here", "()I"⟩, 77) := ⟨⟨by decide +kernel, by decide +kernel⟩, List.mem_of_getElem? (i := 1065) (by decide +kernel), List.mem_of_getElem? (i := 1341) (by decide +kernel), List.mem_of_getElem? (i := 1342) (by decide +kernel)⟩
theorem lw_p49 : lw_okq (⟨"NineHolesModel", "wrongAt", "(II)Z"⟩, 77) := ⟨⟨by decide +kernel, by decide +kernel⟩, List.mem_of_getElem? (i := 1065) (by decide +kernel), List.mem_of_getElem? (i := 1345) (by decide +kernel), List.mem_of_getElem? (i := 1346) (by decide +kernel)⟩
theorem lw_p50 : lw_okq (⟨"NineHolesModel", "readsSum", "()Z"⟩, 77) := ⟨⟨by decide +kernel, by decide +kernel⟩, List.mem_of_getElem? (i := 1065) (by decide +kernel), List.mem_of_getElem? (i := 1349) (by decide +kernel), List.mem_of_getElem? (i := 1350) (by decide +kernel)⟩
theorem lw_p51 : lw_okq (⟨"NineHolesModel", "readsFactor", "()Z"⟩, 77) := ⟨⟨by decide +kernel, by decide +kernel⟩, List.mem_of_getElem? (i := 1065) (by decide +kernel), List.mem_of_getElem? (i := 1353) (by decide +kernel), List.mem_of_getElem? (i := 1354) (by decide +kernel)⟩
theorem lw_p52 : lw_okq (⟨"NineHolesModel", "opens", "(I)Z"⟩, 77) := ⟨⟨by decide +kernel, by decide +kernel⟩, List.mem_of_getElem? (i := 1065) (by decide +kernel), List.mem_of_getElem? (i := 1357) (by decide +kernel), List.mem_of_getElem? (i := 1358) (by decide +kernel)⟩
theorem lw_p53 : lw_okq (⟨"NineHolesModel", "isDigit", "()Z"⟩, 77) := ⟨⟨by decide +kernel, by decide +kernel⟩, List.mem_of_getElem? (i := 1065) (by decide +kernel), List.mem_of_getElem? (i := 1362) (by decide +kernel), List.mem_of_getElem? (i := 1363) (by decide +kernel)⟩
theorem lw_p54 : lw_okq (⟨"NineHolesModel", "readsNumber", "()Z"⟩, 77) := ⟨⟨by decide +kernel, by decide +kernel⟩, List.mem_of_getElem? (i := 1065) (by decide +kernel), List.mem_of_getElem? (i := 1366) (by decide +kernel), List.mem_of_getElem? (i := 1367) (by decide +kernel)⟩
theorem lw_p55 : lw_okq (⟨"NineHolesModel", "notes", "(II)V"⟩, 77) := ⟨⟨by decide +kernel, by decide +kernel⟩, List.mem_of_getElem? (i := 1065) (by decide +kernel), List.mem_of_getElem? (i := 1370) (by decide +kernel), List.mem_of_getElem? (i := 1371) (by decide +kernel)⟩
theorem lw_p56 : lw_okq (⟨"NineHolesModel", "closesSums", "(Z)V"⟩, 77) := ⟨⟨by decide +kernel, by decide +kernel⟩, List.mem_of_getElem? (i := 1065) (by decide +kernel), List.mem_of_getElem? (i := 1380) (by decide +kernel), List.mem_of_getElem? (i := 1381) (by decide +kernel)⟩
theorem lw_p57 : lw_okq (⟨"NineHolesModel", "waitTop", "()I"⟩, 77) := ⟨⟨by decide +kernel, by decide +kernel⟩, List.mem_of_getElem? (i := 1065) (by decide +kernel), List.mem_of_getElem? (i := 1384) (by decide +kernel), List.mem_of_getElem? (i := 1385) (by decide +kernel)⟩
theorem lw_p58 : lw_okq (⟨"NineHolesModel", "hasOpenSum", "(I)Z"⟩, 77) := ⟨⟨by decide +kernel, by decide +kernel⟩, List.mem_of_getElem? (i := 1065) (by decide +kernel), List.mem_of_getElem? (i := 1388) (by decide +kernel), List.mem_of_getElem? (i := 1389) (by decide +kernel)⟩
theorem lw_p59 : lw_okq (⟨"NineHolesModel", "readsCondition", "()Z"⟩, 77) := ⟨⟨by decide +kernel, by decide +kernel⟩, List.mem_of_getElem? (i := 1065) (by decide +kernel), List.mem_of_getElem? (i := 1392) (by decide +kernel), List.mem_of_getElem? (i := 1393) (by decide +kernel)⟩
theorem lw_p60 : lw_okq (⟨"NineHolesModel", "readsCompared", "()Z"⟩, 77) := ⟨⟨by decide +kernel, by decide +kernel⟩, List.mem_of_getElem? (i := 1065) (by decide +kernel), List.mem_of_getElem? (i := 1396) (by decide +kernel), List.mem_of_getElem? (i := 1397) (by decide +kernel)⟩
theorem lw_p61 : lw_okq (⟨"NineHolesModel", "endsPiece", "()V"⟩, 77) := ⟨⟨by decide +kernel, by decide +kernel⟩, List.mem_of_getElem? (i := 1065) (by decide +kernel), List.mem_of_getElem? (i := 1400) (by decide +kernel), List.mem_of_getElem? (i := 1401) (by decide +kernel)⟩
theorem lw_p62 : lw_okq (⟨"NineHolesModel", "lands", "(Z)V"⟩, 77) := ⟨⟨by decide +kernel, by decide +kernel⟩, List.mem_of_getElem? (i := 1065) (by decide +kernel), List.mem_of_getElem? (i := 1404) (by decide +kernel), List.mem_of_getElem? (i := 1405) (by decide +kernel)⟩
theorem lw_p63 : lw_okq (⟨"NineHolesModel", "jumps", "(I)V"⟩, 77) := ⟨⟨by decide +kernel, by decide +kernel⟩, List.mem_of_getElem? (i := 1065) (by decide +kernel), List.mem_of_getElem? (i := 1408) (by decide +kernel), List.mem_of_getElem? (i := 1409) (by decide +kernel)⟩
def lw_privs_4 : List (MethodName × Nat) := [(⟨"NineHolesModel", "here", "()I"⟩, 77), (⟨"NineHolesModel", "wrongAt", "(II)Z"⟩, 77), (⟨"NineHolesModel", "readsSum", "()Z"⟩, 77), (⟨"NineHolesModel", "readsFactor", "()Z"⟩, 77), (⟨"NineHolesModel", "opens", "(I)Z"⟩, 77), (⟨"NineHolesModel", "isDigit", "()Z"⟩, 77), (⟨"NineHolesModel", "readsNumber", "()Z"⟩, 77), (⟨"NineHolesModel", "notes", "(II)V"⟩, 77), (⟨"NineHolesModel", "closesSums", "(Z)V"⟩, 77), (⟨"NineHolesModel", "waitTop", "()I"⟩, 77), (⟨"NineHolesModel", "hasOpenSum", "(I)Z"⟩, 77), (⟨"NineHolesModel", "readsCondition", "()Z"⟩, 77), (⟨"NineHolesModel", "readsCompared", "()Z"⟩, 77), (⟨"NineHolesModel", "endsPiece", "()V"⟩, 77), (⟨"NineHolesModel", "lands", "(Z)V"⟩, 77), (⟨"NineHolesModel", "jumps", "(I)V"⟩, 77)]
theorem lw_r4 : ∀ q ∈ lw_privs_4, lw_okq q := List.forall_mem_cons.mpr ⟨lw_p48, List.forall_mem_cons.mpr ⟨lw_p49, List.forall_mem_cons.mpr ⟨lw_p50, List.forall_mem_cons.mpr ⟨lw_p51, List.forall_mem_cons.mpr ⟨lw_p52, List.forall_mem_cons.mpr ⟨lw_p53, List.forall_mem_cons.mpr ⟨lw_p54, List.forall_mem_cons.mpr ⟨lw_p55, List.forall_mem_cons.mpr ⟨lw_p56, List.forall_mem_cons.mpr ⟨lw_p57, List.forall_mem_cons.mpr ⟨lw_p58, List.forall_mem_cons.mpr ⟨lw_p59, List.forall_mem_cons.mpr ⟨lw_p60, List.forall_mem_cons.mpr ⟨lw_p61, List.forall_mem_cons.mpr ⟨lw_p62, List.forall_mem_cons.mpr ⟨lw_p63, fun _ h => absurd h List.not_mem_nil⟩⟩⟩⟩⟩⟩⟩⟩⟩⟩⟩⟩⟩⟩⟩⟩
theorem lw_p64 : lw_okq (⟨"NineHolesModel", "takes", "(I)Z"⟩, 77) := ⟨⟨by decide +kernel, by decide +kernel⟩, List.mem_of_getElem? (i := 1065) (by decide +kernel), List.mem_of_getElem? (i := 1412) (by decide +kernel), List.mem_of_getElem? (i := 1413) (by decide +kernel)⟩
theorem lw_p65 : lw_okq (⟨"NineHolesModel", "isLetter", "(I)Z"⟩, 77) := ⟨⟨by decide +kernel, by decide +kernel⟩, List.mem_of_getElem? (i := 1065) (by decide +kernel), List.mem_of_getElem? (i := 1420) (by decide +kernel), List.mem_of_getElem? (i := 1421) (by decide +kernel)⟩
theorem lw_p66 : lw_okq (⟨"NineHolesModel", "placeOf", "(I)I"⟩, 77) := ⟨⟨by decide +kernel, by decide +kernel⟩, List.mem_of_getElem? (i := 1065) (by decide +kernel), List.mem_of_getElem? (i := 1424) (by decide +kernel), List.mem_of_getElem? (i := 1425) (by decide +kernel)⟩
theorem lw_p67 : lw_okq (⟨"NineHolesModel", "isLeftOut", "(I)Z"⟩, 77) := ⟨⟨by decide +kernel, by decide +kernel⟩, List.mem_of_getElem? (i := 1065) (by decide +kernel), List.mem_of_getElem? (i := 1435) (by decide +kernel), List.mem_of_getElem? (i := 1436) (by decide +kernel)⟩
theorem lw_p68 : lw_okq (⟨"NineHolesModel", "feels", "(I)V"⟩, 77) := ⟨⟨by decide +kernel, by decide +kernel⟩, List.mem_of_getElem? (i := 1065) (by decide +kernel), List.mem_of_getElem? (i := 1439) (by decide +kernel), List.mem_of_getElem? (i := 1440) (by decide +kernel)⟩
theorem lw_p69 : lw_okq (⟨"NineHolesModel", "rankBy", "(I)I"⟩, 77) := ⟨⟨by decide +kernel, by decide +kernel⟩, List.mem_of_getElem? (i := 1065) (by decide +kernel), List.mem_of_getElem? (i := 1443) (by decide +kernel), List.mem_of_getElem? (i := 1444) (by decide +kernel)⟩
theorem lw_p70 : lw_okq (⟨"NineHolesModel", "comesTo", "(II)I"⟩, 77) := ⟨⟨by decide +kernel, by decide +kernel⟩, List.mem_of_getElem? (i := 1065) (by decide +kernel), List.mem_of_getElem? (i := 1447) (by decide +kernel), List.mem_of_getElem? (i := 1448) (by decide +kernel)⟩
theorem lw_p71 : lw_okq (⟨"NineHolesModel", "holeFor", "(I)I"⟩, 77) := ⟨⟨by decide +kernel, by decide +kernel⟩, List.mem_of_getElem? (i := 1065) (by decide +kernel), List.mem_of_getElem? (i := 1454) (by decide +kernel), List.mem_of_getElem? (i := 1455) (by decide +kernel)⟩
theorem lw_p72 : lw_okq (⟨"NineHolesModel", "byLaw", "(II)I"⟩, 77) := ⟨⟨by decide +kernel, by decide +kernel⟩, List.mem_of_getElem? (i := 1065) (by decide +kernel), List.mem_of_getElem? (i := 1458) (by decide +kernel), List.mem_of_getElem? (i := 1459) (by decide +kernel)⟩
theorem lw_p73 : lw_okq (⟨"NineHolesModel", "areGoes", "(I)Z"⟩, 77) := ⟨⟨by decide +kernel, by decide +kernel⟩, List.mem_of_getElem? (i := 1065) (by decide +kernel), List.mem_of_getElem? (i := 1470) (by decide +kernel), List.mem_of_getElem? (i := 1471) (by decide +kernel)⟩
theorem lw_p74 : lw_okq (⟨"NineHolesModel", "goesBy", "(I)V"⟩, 77) := ⟨⟨by decide +kernel, by decide +kernel⟩, List.mem_of_getElem? (i := 1065) (by decide +kernel), List.mem_of_getElem? (i := 1474) (by decide +kernel), List.mem_of_getElem? (i := 1475) (by decide +kernel)⟩
theorem lw_p75 : lw_okq (⟨"NineHolesModel", "goesOnce", "()V"⟩, 77) := ⟨⟨by decide +kernel, by decide +kernel⟩, List.mem_of_getElem? (i := 1065) (by decide +kernel), List.mem_of_getElem? (i := 1478) (by decide +kernel), List.mem_of_getElem? (i := 1479) (by decide +kernel)⟩
theorem lw_p76 : lw_okq (⟨"NineHolesModel", "comeAhead", "()V"⟩, 77) := ⟨⟨by decide +kernel, by decide +kernel⟩, List.mem_of_getElem? (i := 1065) (by decide +kernel), List.mem_of_getElem? (i := 1482) (by decide +kernel), List.mem_of_getElem? (i := 1483) (by decide +kernel)⟩
theorem lw_p77 : lw_okq (⟨"NineHolesModel", "asksAll", "()V"⟩, 77) := ⟨⟨by decide +kernel, by decide +kernel⟩, List.mem_of_getElem? (i := 1065) (by decide +kernel), List.mem_of_getElem? (i := 1486) (by decide +kernel), List.mem_of_getElem? (i := 1487) (by decide +kernel)⟩
theorem lw_p78 : lw_okq (⟨"NineHolesModel", "secondsFor", "(I)I"⟩, 77) := ⟨⟨by decide +kernel, by decide +kernel⟩, List.mem_of_getElem? (i := 1065) (by decide +kernel), List.mem_of_getElem? (i := 1490) (by decide +kernel), List.mem_of_getElem? (i := 1491) (by decide +kernel)⟩
theorem lw_p79 : lw_okq (⟨"NineHolesModel", "throwsAll", "()V"⟩, 77) := ⟨⟨by decide +kernel, by decide +kernel⟩, List.mem_of_getElem? (i := 1065) (by decide +kernel), List.mem_of_getElem? (i := 1494) (by decide +kernel), List.mem_of_getElem? (i := 1495) (by decide +kernel)⟩
def lw_privs_5 : List (MethodName × Nat) := [(⟨"NineHolesModel", "takes", "(I)Z"⟩, 77), (⟨"NineHolesModel", "isLetter", "(I)Z"⟩, 77), (⟨"NineHolesModel", "placeOf", "(I)I"⟩, 77), (⟨"NineHolesModel", "isLeftOut", "(I)Z"⟩, 77), (⟨"NineHolesModel", "feels", "(I)V"⟩, 77), (⟨"NineHolesModel", "rankBy", "(I)I"⟩, 77), (⟨"NineHolesModel", "comesTo", "(II)I"⟩, 77), (⟨"NineHolesModel", "holeFor", "(I)I"⟩, 77), (⟨"NineHolesModel", "byLaw", "(II)I"⟩, 77), (⟨"NineHolesModel", "areGoes", "(I)Z"⟩, 77), (⟨"NineHolesModel", "goesBy", "(I)V"⟩, 77), (⟨"NineHolesModel", "goesOnce", "()V"⟩, 77), (⟨"NineHolesModel", "comeAhead", "()V"⟩, 77), (⟨"NineHolesModel", "asksAll", "()V"⟩, 77), (⟨"NineHolesModel", "secondsFor", "(I)I"⟩, 77), (⟨"NineHolesModel", "throwsAll", "()V"⟩, 77)]
theorem lw_r5 : ∀ q ∈ lw_privs_5, lw_okq q := List.forall_mem_cons.mpr ⟨lw_p64, List.forall_mem_cons.mpr ⟨lw_p65, List.forall_mem_cons.mpr ⟨lw_p66, List.forall_mem_cons.mpr ⟨lw_p67, List.forall_mem_cons.mpr ⟨lw_p68, List.forall_mem_cons.mpr ⟨lw_p69, List.forall_mem_cons.mpr ⟨lw_p70, List.forall_mem_cons.mpr ⟨lw_p71, List.forall_mem_cons.mpr ⟨lw_p72, List.forall_mem_cons.mpr ⟨lw_p73, List.forall_mem_cons.mpr ⟨lw_p74, List.forall_mem_cons.mpr ⟨lw_p75, List.forall_mem_cons.mpr ⟨lw_p76, List.forall_mem_cons.mpr ⟨lw_p77, List.forall_mem_cons.mpr ⟨lw_p78, List.forall_mem_cons.mpr ⟨lw_p79, fun _ h => absurd h List.not_mem_nil⟩⟩⟩⟩⟩⟩⟩⟩⟩⟩⟩⟩⟩⟩⟩⟩
theorem lw_p80 : lw_okq (⟨"NineHolesModel", "givesBack", "()V"⟩, 77) := ⟨⟨by decide +kernel, by decide +kernel⟩, List.mem_of_getElem? (i := 1065) (by decide +kernel), List.mem_of_getElem? (i := 1498) (by decide +kernel), List.mem_of_getElem? (i := 1499) (by decide +kernel)⟩
theorem lw_p81 : lw_okq (⟨"NineHolesModel", "outOf", "()I"⟩, 77) := ⟨⟨by decide +kernel, by decide +kernel⟩, List.mem_of_getElem? (i := 1065) (by decide +kernel), List.mem_of_getElem? (i := 1506) (by decide +kernel), List.mem_of_getElem? (i := 1507) (by decide +kernel)⟩
theorem lw_p82 : lw_okq (⟨"NineHolesModel", "begins", "()V"⟩, 77) := ⟨⟨by decide +kernel, by decide +kernel⟩, List.mem_of_getElem? (i := 1065) (by decide +kernel), List.mem_of_getElem? (i := 1514) (by decide +kernel), List.mem_of_getElem? (i := 1515) (by decide +kernel)⟩
theorem lw_p83 : lw_okq (⟨"NineHolesModel", "again", "()V"⟩, 77) := ⟨⟨by decide +kernel, by decide +kernel⟩, List.mem_of_getElem? (i := 1065) (by decide +kernel), List.mem_of_getElem? (i := 1521) (by decide +kernel), List.mem_of_getElem? (i := 1522) (by decide +kernel)⟩
theorem lw_p84 : lw_okq (⟨"NineHolesModel", "laysRanks", "()V"⟩, 77) := ⟨⟨by decide +kernel, by decide +kernel⟩, List.mem_of_getElem? (i := 1065) (by decide +kernel), List.mem_of_getElem? (i := 1533) (by decide +kernel), List.mem_of_getElem? (i := 1534) (by decide +kernel)⟩
theorem lw_p85 : lw_okq (⟨"NineHolesModel", "goTogether", "(IZ)Z"⟩, 77) := ⟨⟨by decide +kernel, by decide +kernel⟩, List.mem_of_getElem? (i := 1065) (by decide +kernel), List.mem_of_getElem? (i := 1537) (by decide +kernel), List.mem_of_getElem? (i := 1538) (by decide +kernel)⟩
theorem lw_p86 : lw_okq (⟨"NineHolesModel", "laysPlan", "()V"⟩, 77) := ⟨⟨by decide +kernel, by decide +kernel⟩, List.mem_of_getElem? (i := 1065) (by decide +kernel), List.mem_of_getElem? (i := 1545) (by decide +kernel), List.mem_of_getElem? (i := 1546) (by decide +kernel)⟩
theorem lw_p87 : lw_okq (⟨"NineHolesModel", "plansBy", "(I)Z"⟩, 77) := ⟨⟨by decide +kernel, by decide +kernel⟩, List.mem_of_getElem? (i := 1065) (by decide +kernel), List.mem_of_getElem? (i := 1549) (by decide +kernel), List.mem_of_getElem? (i := 1550) (by decide +kernel)⟩
theorem lw_p88 : lw_okq (⟨"NineHolesModel", "readsWay", "(II)Z"⟩, 77) := ⟨⟨by decide +kernel, by decide +kernel⟩, List.mem_of_getElem? (i := 1065) (by decide +kernel), List.mem_of_getElem? (i := 1553) (by decide +kernel), List.mem_of_getElem? (i := 1554) (by decide +kernel)⟩
theorem lw_p89 : lw_okq (⟨"NineHolesModel", "rankNumber", "(I)I"⟩, 77) := ⟨⟨by decide +kernel, by decide +kernel⟩, List.mem_of_getElem? (i := 1065) (by decide +kernel), List.mem_of_getElem? (i := 1561) (by decide +kernel), List.mem_of_getElem? (i := 1562) (by decide +kernel)⟩
theorem lw_p90 : lw_okq (⟨"NineHolesModel", "areTables", "(III)Z"⟩, 77) := ⟨⟨by decide +kernel, by decide +kernel⟩, List.mem_of_getElem? (i := 1065) (by decide +kernel), List.mem_of_getElem? (i := 1573) (by decide +kernel), List.mem_of_getElem? (i := 1574) (by decide +kernel)⟩
theorem lw_p91 : lw_okq (⟨"NineHolesModel", "laysTables", "(I)V"⟩, 77) := ⟨⟨by decide +kernel, by decide +kernel⟩, List.mem_of_getElem? (i := 1065) (by decide +kernel), List.mem_of_getElem? (i := 1577) (by decide +kernel), List.mem_of_getElem? (i := 1578) (by decide +kernel)⟩
theorem lw_p92 : lw_okq (⟨"NineHolesModel", "laysStreets", "()V"⟩, 77) := ⟨⟨by decide +kernel, by decide +kernel⟩, List.mem_of_getElem? (i := 1065) (by decide +kernel), List.mem_of_getElem? (i := 1581) (by decide +kernel), List.mem_of_getElem? (i := 1582) (by decide +kernel)⟩
theorem lw_p93 : lw_okq (⟨"NineHolesModel", "laysCover", "(II)V"⟩, 77) := ⟨⟨by decide +kernel, by decide +kernel⟩, List.mem_of_getElem? (i := 1065) (by decide +kernel), List.mem_of_getElem? (i := 1585) (by decide +kernel), List.mem_of_getElem? (i := 1586) (by decide +kernel)⟩
theorem lw_p94 : lw_okq (⟨"NineHolesModel", "at3", "(III)I"⟩, 77) := ⟨⟨by decide +kernel, by decide +kernel⟩, List.mem_of_getElem? (i := 1065) (by decide +kernel), List.mem_of_getElem? (i := 1590) (by decide +kernel), List.mem_of_getElem? (i := 1591) (by decide +kernel)⟩
theorem lw_p95 : lw_okq (⟨"NineHolesModel", "isSingle", "(II)Z"⟩, 77) := ⟨⟨by decide +kernel, by decide +kernel⟩, List.mem_of_getElem? (i := 1065) (by decide +kernel), List.mem_of_getElem? (i := 1600) (by decide +kernel), List.mem_of_getElem? (i := 1601) (by decide +kernel)⟩
def lw_privs_6 : List (MethodName × Nat) := [(⟨"NineHolesModel", "givesBack", "()V"⟩, 77), (⟨"NineHolesModel", "outOf", "()I"⟩, 77), (⟨"NineHolesModel", "begins", "()V"⟩, 77), (⟨"NineHolesModel", "again", "()V"⟩, 77), (⟨"NineHolesModel", "laysRanks", "()V"⟩, 77), (⟨"NineHolesModel", "goTogether", "(IZ)Z"⟩, 77), (⟨"NineHolesModel", "laysPlan", "()V"⟩, 77), (⟨"NineHolesModel", "plansBy", "(I)Z"⟩, 77), (⟨"NineHolesModel", "readsWay", "(II)Z"⟩, 77), (⟨"NineHolesModel", "rankNumber", "(I)I"⟩, 77), (⟨"NineHolesModel", "areTables", "(III)Z"⟩, 77), (⟨"NineHolesModel", "laysTables", "(I)V"⟩, 77), (⟨"NineHolesModel", "laysStreets", "()V"⟩, 77), (⟨"NineHolesModel", "laysCover", "(II)V"⟩, 77), (⟨"NineHolesModel", "at3", "(III)I"⟩, 77), (⟨"NineHolesModel", "isSingle", "(II)Z"⟩, 77)]
theorem lw_r6 : ∀ q ∈ lw_privs_6, lw_okq q := List.forall_mem_cons.mpr ⟨lw_p80, List.forall_mem_cons.mpr ⟨lw_p81, List.forall_mem_cons.mpr ⟨lw_p82, List.forall_mem_cons.mpr ⟨lw_p83, List.forall_mem_cons.mpr ⟨lw_p84, List.forall_mem_cons.mpr ⟨lw_p85, List.forall_mem_cons.mpr ⟨lw_p86, List.forall_mem_cons.mpr ⟨lw_p87, List.forall_mem_cons.mpr ⟨lw_p88, List.forall_mem_cons.mpr ⟨lw_p89, List.forall_mem_cons.mpr ⟨lw_p90, List.forall_mem_cons.mpr ⟨lw_p91, List.forall_mem_cons.mpr ⟨lw_p92, List.forall_mem_cons.mpr ⟨lw_p93, List.forall_mem_cons.mpr ⟨lw_p94, List.forall_mem_cons.mpr ⟨lw_p95, fun _ h => absurd h List.not_mem_nil⟩⟩⟩⟩⟩⟩⟩⟩⟩⟩⟩⟩⟩⟩⟩⟩
theorem lw_p96 : lw_okq (⟨"NineHolesModel", "lettersIn", "(II)I"⟩, 77) := ⟨⟨by decide +kernel, by decide +kernel⟩, List.mem_of_getElem? (i := 1065) (by decide +kernel), List.mem_of_getElem? (i := 1604) (by decide +kernel), List.mem_of_getElem? (i := 1605) (by decide +kernel)⟩
theorem lw_p97 : lw_okq (⟨"NineHolesModel", "longestRow", "(Z)I"⟩, 77) := ⟨⟨by decide +kernel, by decide +kernel⟩, List.mem_of_getElem? (i := 1065) (by decide +kernel), List.mem_of_getElem? (i := 1616) (by decide +kernel), List.mem_of_getElem? (i := 1617) (by decide +kernel)⟩
theorem lw_p98 : lw_okq (⟨"NineHolesModel", "canYard", "(I)Z"⟩, 77) := ⟨⟨by decide +kernel, by decide +kernel⟩, List.mem_of_getElem? (i := 1065) (by decide +kernel), List.mem_of_getElem? (i := 1631) (by decide +kernel), List.mem_of_getElem? (i := 1632) (by decide +kernel)⟩
theorem lw_p99 : lw_okq (⟨"NineHolesModel", "nextHole", "(II)I"⟩, 77) := ⟨⟨by decide +kernel, by decide +kernel⟩, List.mem_of_getElem? (i := 1065) (by decide +kernel), List.mem_of_getElem? (i := 1635) (by decide +kernel), List.mem_of_getElem? (i := 1636) (by decide +kernel)⟩
theorem lw_p100 : lw_okq (⟨"NineHolesModel", "mayGo", "(III)Z"⟩, 77) := ⟨⟨by decide +kernel, by decide +kernel⟩, List.mem_of_getElem? (i := 1065) (by decide +kernel), List.mem_of_getElem? (i := 1639) (by decide +kernel), List.mem_of_getElem? (i := 1640) (by decide +kernel)⟩
theorem lw_p101 : lw_okq (⟨"NineHolesModel", "laysTogether", "()Z"⟩, 77) := ⟨⟨by decide +kernel, by decide +kernel⟩, List.mem_of_getElem? (i := 1065) (by decide +kernel), List.mem_of_getElem? (i := 1647) (by decide +kernel), List.mem_of_getElem? (i := 1648) (by decide +kernel)⟩
theorem lw_p102 : lw_okq (⟨"NineHolesModel", "laysBreaks", "()V"⟩, 77) := ⟨⟨by decide +kernel, by decide +kernel⟩, List.mem_of_getElem? (i := 1065) (by decide +kernel), List.mem_of_getElem? (i := 1651) (by decide +kernel), List.mem_of_getElem? (i := 1652) (by decide +kernel)⟩
theorem lw_p103 : lw_okq (⟨"NineHolesModel", "rowsBy", "(III)I"⟩, 77) := ⟨⟨by decide +kernel, by decide +kernel⟩, List.mem_of_getElem? (i := 1065) (by decide +kernel), List.mem_of_getElem? (i := 1655) (by decide +kernel), List.mem_of_getElem? (i := 1656) (by decide +kernel)⟩
theorem lw_p104 : lw_okq (⟨"NineHolesModel", "rowBy", "(II)I"⟩, 77) := ⟨⟨by decide +kernel, by decide +kernel⟩, List.mem_of_getElem? (i := 1065) (by decide +kernel), List.mem_of_getElem? (i := 1659) (by decide +kernel), List.mem_of_getElem? (i := 1660) (by decide +kernel)⟩
theorem lw_p105 : lw_okq (⟨"NineHolesModel", "laysAsItIs", "(I)V"⟩, 77) := ⟨⟨by decide +kernel, by decide +kernel⟩, List.mem_of_getElem? (i := 1065) (by decide +kernel), List.mem_of_getElem? (i := 1667) (by decide +kernel), List.mem_of_getElem? (i := 1668) (by decide +kernel)⟩
theorem lw_p106 : lw_okq (⟨"NineHolesModel", "goesWrong", "(IIII)Z"⟩, 77) := ⟨⟨by decide +kernel, by decide +kernel⟩, List.mem_of_getElem? (i := 1065) (by decide +kernel), List.mem_of_getElem? (i := 1671) (by decide +kernel), List.mem_of_getElem? (i := 1672) (by decide +kernel)⟩
theorem lw_p107 : lw_okq (⟨"NineHolesModel", "othersElsewhere", "(I)I"⟩, 77) := ⟨⟨by decide +kernel, by decide +kernel⟩, List.mem_of_getElem? (i := 1065) (by decide +kernel), List.mem_of_getElem? (i := 1678) (by decide +kernel), List.mem_of_getElem? (i := 1679) (by decide +kernel)⟩
theorem lw_p108 : lw_okq (⟨"NineHolesModel", "isAsTold", "([I)Z"⟩, 77) := ⟨⟨by decide +kernel, by decide +kernel⟩, List.mem_of_getElem? (i := 1065) (by decide +kernel), List.mem_of_getElem? (i := 1686) (by decide +kernel), List.mem_of_getElem? (i := 1687) (by decide +kernel)⟩
theorem lw_p109 : lw_okq (⟨"NineHolesModel", "tapeNumber", "(I)I"⟩, 77) := ⟨⟨by decide +kernel, by decide +kernel⟩, List.mem_of_getElem? (i := 1065) (by decide +kernel), List.mem_of_getElem? (i := 1720) (by decide +kernel), List.mem_of_getElem? (i := 1721) (by decide +kernel)⟩
theorem lw_p110 : lw_okq (⟨"NineHolesModel", "streetBits", "()I"⟩, 77) := ⟨⟨by decide +kernel, by decide +kernel⟩, List.mem_of_getElem? (i := 1065) (by decide +kernel), List.mem_of_getElem? (i := 1728) (by decide +kernel), List.mem_of_getElem? (i := 1729) (by decide +kernel)⟩
theorem lw_p111 : lw_okq (⟨"NineHolesModel", "weightAll", "()I"⟩, 77) := ⟨⟨by decide +kernel, by decide +kernel⟩, List.mem_of_getElem? (i := 1065) (by decide +kernel), List.mem_of_getElem? (i := 1732) (by decide +kernel), List.mem_of_getElem? (i := 1733) (by decide +kernel)⟩
def lw_privs_7 : List (MethodName × Nat) := [(⟨"NineHolesModel", "lettersIn", "(II)I"⟩, 77), (⟨"NineHolesModel", "longestRow", "(Z)I"⟩, 77), (⟨"NineHolesModel", "canYard", "(I)Z"⟩, 77), (⟨"NineHolesModel", "nextHole", "(II)I"⟩, 77), (⟨"NineHolesModel", "mayGo", "(III)Z"⟩, 77), (⟨"NineHolesModel", "laysTogether", "()Z"⟩, 77), (⟨"NineHolesModel", "laysBreaks", "()V"⟩, 77), (⟨"NineHolesModel", "rowsBy", "(III)I"⟩, 77), (⟨"NineHolesModel", "rowBy", "(II)I"⟩, 77), (⟨"NineHolesModel", "laysAsItIs", "(I)V"⟩, 77), (⟨"NineHolesModel", "goesWrong", "(IIII)Z"⟩, 77), (⟨"NineHolesModel", "othersElsewhere", "(I)I"⟩, 77), (⟨"NineHolesModel", "isAsTold", "([I)Z"⟩, 77), (⟨"NineHolesModel", "tapeNumber", "(I)I"⟩, 77), (⟨"NineHolesModel", "streetBits", "()I"⟩, 77), (⟨"NineHolesModel", "weightAll", "()I"⟩, 77)]
theorem lw_r7 : ∀ q ∈ lw_privs_7, lw_okq q := List.forall_mem_cons.mpr ⟨lw_p96, List.forall_mem_cons.mpr ⟨lw_p97, List.forall_mem_cons.mpr ⟨lw_p98, List.forall_mem_cons.mpr ⟨lw_p99, List.forall_mem_cons.mpr ⟨lw_p100, List.forall_mem_cons.mpr ⟨lw_p101, List.forall_mem_cons.mpr ⟨lw_p102, List.forall_mem_cons.mpr ⟨lw_p103, List.forall_mem_cons.mpr ⟨lw_p104, List.forall_mem_cons.mpr ⟨lw_p105, List.forall_mem_cons.mpr ⟨lw_p106, List.forall_mem_cons.mpr ⟨lw_p107, List.forall_mem_cons.mpr ⟨lw_p108, List.forall_mem_cons.mpr ⟨lw_p109, List.forall_mem_cons.mpr ⟨lw_p110, List.forall_mem_cons.mpr ⟨lw_p111, fun _ h => absurd h List.not_mem_nil⟩⟩⟩⟩⟩⟩⟩⟩⟩⟩⟩⟩⟩⟩⟩⟩
def lw_privs : List (MethodName × Nat) := lw_privs_1 ++ (lw_privs_2 ++ (lw_privs_3 ++ (lw_privs_4 ++ (lw_privs_5 ++ (lw_privs_6 ++ (lw_privs_7))))))
def lw_tbl : List Cond := k2_sels lw_privs ++ tables_1
theorem lw_privs_ok : ∀ q ∈ lw_privs, lw_okq q := by
  show ∀ q ∈ lw_privs_1 ++ (lw_privs_2 ++ (lw_privs_3 ++ (lw_privs_4 ++ (lw_privs_5 ++ (lw_privs_6 ++ (lw_privs_7)))))), lw_okq q
  exact List.forall_mem_append.mpr ⟨lw_r1, List.forall_mem_append.mpr ⟨lw_r2, List.forall_mem_append.mpr ⟨lw_r3, List.forall_mem_append.mpr ⟨lw_r4, List.forall_mem_append.mpr ⟨lw_r5, List.forall_mem_append.mpr ⟨lw_r6, lw_r7⟩⟩⟩⟩⟩⟩
-- ===== end of PART A; then your names; then what follows =====
def RX0 : String := "NineHoles$Blame"
def TX0 : u_T := fun k => match k with
  | 0 => ("NineHoles$Blame", "rack", "LNineHoles$Rack;", true)
  | 1 => ("NineHoles$Blame", "sorter", "LNineHoles$Sorter;", true)
  | 2 => ("NineHoles$Blame", "rightly", "LNineHoles$State;", true)
  | 3 => ("NineHoles$Blame", "wrongly", "LNineHoles$State;", true)
  | 4 => ("NineHoles$Blame", "lawful", "[I", true)
  | 5 => ("NineHoles$Blame", "answers", "[J", true)
  | 6 => ("NineHoles$Blame", "firstFound", "[I", true)
  | 7 => ("NineHoles$Blame", "byPlace", "Z", false)
  | 8 => ("NineHoles$Blame", "byHole", "Z", false)
  | _ => ("NineHoles$Blame", "found", "I", false)
def tyX0 : Nat → FieldType := fun k => match k with
  | 0 => .object "NineHoles$Rack"
  | 1 => .object "NineHoles$Sorter"
  | 2 => .object "NineHoles$State"
  | 3 => .object "NineHoles$State"
  | 4 => .array .int
  | 5 => .array .long
  | 6 => .array .int
  | 7 => .boolean
  | 8 => .boolean
  | _ => .int
abbrev wsX00 : List Cond := u_ws RX0 TX0 10
theorem nmX0 : ∀ a, a < 10 → ∀ b, b < 10 → a ≠ b → (TX0 a).2.1 ≠ (TX0 b).2.1 := by decide +kernel
theorem tyX0_ok : ∀ k, k < 10 → parseFieldDescriptor (TX0 k).2.2.1 = some (tyX0 k) := by decide +kernel
abbrev cX0_init : ByteArray := prog_2_method_1_code
def yX0_init : MethodName := ⟨RX0, "<init>", "(LNineHoles$Rack;LNineHoles$Sorter;)V"⟩
abbrev cX0_answer : ByteArray := prog_2_method_2_code
def yX0_answer : MethodName := ⟨RX0, "answer", "(I)I"⟩
abbrev cX0_search : ByteArray := prog_2_method_3_code
def yX0_search : MethodName := ⟨RX0, "search", "(LNineHoles$State;ILNineHoles$Tape;)V"⟩
abbrev cX0_tryHoles : ByteArray := prog_2_method_4_code
def yX0_tryHoles : MethodName := ⟨RX0, "tryHoles", "(IIILNineHoles$Tape;)V"⟩
abbrev cX0_note : ByteArray := prog_2_method_5_code
def yX0_note : MethodName := ⟨RX0, "note", "(III)V"⟩
abbrev cX0_askKnown : ByteArray := prog_2_method_6_code
def yX0_askKnown : MethodName := ⟨RX0, "askKnown", "(LNineHoles$State;I)V"⟩
def RX1 : String := "NineHoles$Law"
def TX1 : u_T := fun k => match k with
  | 0 => ("NineHoles$Law", "kind", "[I", true)
  | 1 => ("NineHoles$Law", "from", "[I", true)
  | 2 => ("NineHoles$Law", "middle", "[I", true)
  | 3 => ("NineHoles$Law", "to", "[I", true)
  | 4 => ("NineHoles$Law", "codes", "[I", true)
  | 5 => ("NineHoles$Law", "values", "[I", true)
  | 6 => ("NineHoles$Law", "stack", "[I", true)
  | 7 => ("NineHoles$Law", "clauses", "I", false)
  | 8 => ("NineHoles$Law", "steps", "I", false)
  | _ => ("NineHoles$Law", "asked", "I", false)
def tyX1 : Nat → FieldType := fun k => match k with
  | 0 => .array .int
  | 1 => .array .int
  | 2 => .array .int
  | 3 => .array .int
  | 4 => .array .int
  | 5 => .array .int
  | 6 => .array .int
  | 7 => .int
  | 8 => .int
  | _ => .int
abbrev wsX10 : List Cond := u_ws RX1 TX1 10
theorem nmX1 : ∀ a, a < 10 → ∀ b, b < 10 → a ≠ b → (TX1 a).2.1 ≠ (TX1 b).2.1 := by decide +kernel
theorem tyX1_ok : ∀ k, k < 10 → parseFieldDescriptor (TX1 k).2.2.1 = some (tyX1 k) := by decide +kernel
abbrev cX1_init : ByteArray := prog_3_method_1_code
def yX1_init : MethodName := ⟨RX1, "<init>", "()V"⟩
abbrev cX1_clear : ByteArray := prog_3_method_2_code
def yX1_clear : MethodName := ⟨RX1, "clear", "()V"⟩
abbrev cX1_emit : ByteArray := prog_3_method_3_code
def yX1_emit : MethodName := ⟨RX1, "emit", "(II)I"⟩
abbrev cX1_bridge : ByteArray := prog_3_method_4_code
def yX1_bridge : MethodName := ⟨RX1, "bridge", "(I)V"⟩
abbrev cX1_addClause : ByteArray := prog_3_method_5_code
def yX1_addClause : MethodName := ⟨RX1, "addClause", "(III)V"⟩
abbrev cX1_asks : ByteArray := prog_3_method_6_code
def yX1_asks : MethodName := ⟨RX1, "asks", "(C)Z"⟩
abbrev cX1_leavesOut : ByteArray := prog_3_method_7_code
def yX1_leavesOut : MethodName := ⟨RX1, "leavesOut", "([I)Z"⟩
abbrev cX1_amount : ByteArray := prog_3_method_8_code
def yX1_amount : MethodName := ⟨RX1, "amount", "(I[II)I"⟩
abbrev cX1_run : ByteArray := prog_3_method_9_code
def yX1_run : MethodName := ⟨RX1, "run", "(II[I)I"⟩
abbrev cX1_isLeap : ByteArray := prog_3_method_10_code
def yX1_isLeap : MethodName := ⟨RX1, "isLeap", "(I)Z"⟩
abbrev cX1_reckon : ByteArray := prog_3_method_11_code
def yX1_reckon : MethodName := ⟨RX1, "reckon", "(III)I"⟩
def RX2 : String := "NineHoles$LawReader"
def TX2 : u_T := fun k => match k with
  | 0 => ("NineHoles$LawReader", "text", "[I", true)
  | 1 => ("NineHoles$LawReader", "made", "LNineHoles$Law;", false)
  | 2 => ("NineHoles$LawReader", "length", "I", false)
  | 3 => ("NineHoles$LawReader", "here", "I", false)
  | _ => ("NineHoles$LawReader", "fault", "I", false)
def tyX2 : Nat → FieldType := fun k => match k with
  | 0 => .array .int
  | 1 => .object "NineHoles$Law"
  | 2 => .int
  | 3 => .int
  | _ => .int
abbrev wsX20 : List Cond := u_ws RX2 TX2 5
theorem nmX2 : ∀ a, a < 5 → ∀ b, b < 5 → a ≠ b → (TX2 a).2.1 ≠ (TX2 b).2.1 := by decide +kernel
theorem tyX2_ok : ∀ k, k < 5 → parseFieldDescriptor (TX2 k).2.2.1 = some (tyX2 k) := by decide +kernel
abbrev cX2_init : ByteArray := prog_4_method_1_code
def yX2_init : MethodName := ⟨RX2, "<init>", "([I)V"⟩
abbrev cX2_exchange : ByteArray := prog_4_method_2_code
def yX2_exchange : MethodName := ⟨RX2, "exchange", "(LNineHoles$Law;)LNineHoles$Law;"⟩
abbrev cX2_read : ByteArray := prog_4_method_3_code
def yX2_read : MethodName := ⟨RX2, "read", "(I)I"⟩
abbrev cX2_clause : ByteArray := prog_4_method_4_code
def yX2_clause : MethodName := ⟨RX2, "clause", "()Z"⟩
abbrev cX2_condition : ByteArray := prog_4_method_5_code
def yX2_condition : MethodName := ⟨RX2, "condition", "(I)Z"⟩
abbrev cX2_part : ByteArray := prog_4_method_6_code
def yX2_part : MethodName := ⟨RX2, "part", "(I)Z"⟩
abbrev cX2_piece : ByteArray := prog_4_method_7_code
def yX2_piece : MethodName := ⟨RX2, "piece", "(I)Z"⟩
abbrev cX2_comparison : ByteArray := prog_4_method_8_code
def yX2_comparison : MethodName := ⟨RX2, "comparison", "(I)Z"⟩
abbrev cX2_sum : ByteArray := prog_4_method_9_code
def yX2_sum : MethodName := ⟨RX2, "sum", "(I)Z"⟩
abbrev cX2_term : ByteArray := prog_4_method_10_code
def yX2_term : MethodName := ⟨RX2, "term", "(I)Z"⟩
abbrev cX2_factor : ByteArray := prog_4_method_11_code
def yX2_factor : MethodName := ⟨RX2, "factor", "(I)Z"⟩
abbrev cX2_number : ByteArray := prog_4_method_12_code
def yX2_number : MethodName := ⟨RX2, "number", "()Z"⟩
abbrev cX2_operator : ByteArray := prog_4_method_13_code
def yX2_operator : MethodName := ⟨RX2, "operator", "(I)I"⟩
abbrev cX2_next : ByteArray := prog_4_method_14_code
def yX2_next : MethodName := ⟨RX2, "next", "()I"⟩
abbrev cX2_take : ByteArray := prog_4_method_15_code
def yX2_take : MethodName := ⟨RX2, "take", "(I)Z"⟩
abbrev cX2_fail : ByteArray := prog_4_method_16_code
def yX2_fail : MethodName := ⟨RX2, "fail", "(I)Z"⟩
abbrev cX2_isDigit : ByteArray := prog_4_method_17_code
def yX2_isDigit : MethodName := ⟨RX2, "isDigit", "(I)Z"⟩
def RX3 : String := "NineHoles$Planner"
def TX3 : u_T := fun k => match k with
  | 0 => ("NineHoles$Planner", "rack", "LNineHoles$Rack;", true)
  | 1 => ("NineHoles$Planner", "rows", "LNineHoles$Rows;", true)
  | 2 => ("NineHoles$Planner", "wayOf", "[I", true)
  | _ => ("NineHoles$Planner", "goes", "I", false)
def tyX3 : Nat → FieldType := fun k => match k with
  | 0 => .object "NineHoles$Rack"
  | 1 => .object "NineHoles$Rows"
  | 2 => .array .int
  | _ => .int
abbrev wsX30 : List Cond := u_ws RX3 TX3 4
theorem nmX3 : ∀ a, a < 4 → ∀ b, b < 4 → a ≠ b → (TX3 a).2.1 ≠ (TX3 b).2.1 := by decide +kernel
theorem tyX3_ok : ∀ k, k < 4 → parseFieldDescriptor (TX3 k).2.2.1 = some (tyX3 k) := by decide +kernel
abbrev cX3_init : ByteArray := prog_5_method_1_code
def yX3_init : MethodName := ⟨RX3, "<init>", "(LNineHoles$Rack;LNineHoles$Rows;)V"⟩
abbrev cX3_find : ByteArray := prog_5_method_2_code
def yX3_find : MethodName := ⟨RX3, "find", "()I"⟩
abbrev cX3_putRanks : ByteArray := prog_5_method_3_code
def yX3_putRanks : MethodName := ⟨RX3, "putRanks", "(I)Z"⟩
abbrev cX3_pipesOn : ByteArray := prog_5_method_4_code
def yX3_pipesOn : MethodName := ⟨RX3, "pipesOn", "(I)I"⟩
abbrev cX3_holeFor : ByteArray := prog_5_method_5_code
def yX3_holeFor : MethodName := ⟨RX3, "holeFor", "(II)I"⟩
abbrev cX3_holeOn : ByteArray := prog_5_method_6_code
def yX3_holeOn : MethodName := ⟨RX3, "holeOn", "(II)I"⟩
def RX4 : String := "NineHoles$Rack"
def TX4 : u_T := fun k => match k with
  | 0 => ("NineHoles$Rack", "holes", "I", false)
  | 1 => ("NineHoles$Rack", "pipes", "I", false)
  | 2 => ("NineHoles$Rack", "next", "[I", true)
  | _ => ("NineHoles$Rack", "taken", "[I", true)
def tyX4 : Nat → FieldType := fun k => match k with
  | 0 => .int
  | 1 => .int
  | 2 => .array .int
  | _ => .array .int
abbrev wsX40 : List Cond := u_ws RX4 TX4 4
theorem nmX4 : ∀ a, a < 4 → ∀ b, b < 4 → a ≠ b → (TX4 a).2.1 ≠ (TX4 b).2.1 := by decide +kernel
theorem tyX4_ok : ∀ k, k < 4 → parseFieldDescriptor (TX4 k).2.2.1 = some (tyX4 k) := by decide +kernel
abbrev cX4_init : ByteArray := prog_6_method_1_code
def yX4_init : MethodName := ⟨RX4, "<init>", "()V"⟩
abbrev cX4_isPipe : ByteArray := prog_6_method_2_code
def yX4_isPipe : MethodName := ⟨RX4, "isPipe", "(I)Z"⟩
abbrev cX4_giveBack : ByteArray := prog_6_method_3_code
def yX4_giveBack : MethodName := ⟨RX4, "giveBack", "(LNineHoles$State;[I)V"⟩
def RX5 : String := "NineHoles$Rows"
def TX5 : u_T := fun k => match k with
  | 0 => ("NineHoles$Rows", "keys", "[I", true)
  | 1 => ("NineHoles$Rows", "row", "[I", true)
  | 2 => ("NineHoles$Rows", "many", "I", false)
  | 3 => ("NineHoles$Rows", "first", "[I", true)
  | 4 => ("NineHoles$Rows", "last", "[I", true)
  | _ => ("NineHoles$Rows", "breaks", "[I", true)
def tyX5 : Nat → FieldType := fun k => match k with
  | 0 => .array .int
  | 1 => .array .int
  | 2 => .int
  | 3 => .array .int
  | 4 => .array .int
  | _ => .array .int
abbrev wsX50 : List Cond := u_ws RX5 TX5 6
theorem nmX5 : ∀ a, a < 6 → ∀ b, b < 6 → a ≠ b → (TX5 a).2.1 ≠ (TX5 b).2.1 := by decide +kernel
theorem tyX5_ok : ∀ k, k < 6 → parseFieldDescriptor (TX5 k).2.2.1 = some (tyX5 k) := by decide +kernel
abbrev cX5_init : ByteArray := prog_7_method_1_code
def yX5_init : MethodName := ⟨RX5, "<init>", "()V"⟩
abbrev cX5_read : ByteArray := prog_7_method_2_code
def yX5_read : MethodName := ⟨RX5, "read", "([II)V"⟩
abbrev cX5_goesOn : ByteArray := prog_7_method_3_code
def yX5_goesOn : MethodName := ⟨RX5, "goesOn", "(IIZ)Z"⟩
abbrev cX5_fewest : ByteArray := prog_7_method_4_code
def yX5_fewest : MethodName := ⟨RX5, "fewest", "(Z)I"⟩
abbrev cX5_freest : ByteArray := prog_7_method_5_code
def yX5_freest : MethodName := ⟨RX5, "freest", "()I"⟩
abbrev cX5_breakWith : ByteArray := prog_7_method_6_code
def yX5_breakWith : MethodName := ⟨RX5, "breakWith", "(III)I"⟩
abbrev cX5_fewestFrom : ByteArray := prog_7_method_7_code
def yX5_fewestFrom : MethodName := ⟨RX5, "fewestFrom", "(II)I"⟩
abbrev cX5_putRow : ByteArray := prog_7_method_8_code
def yX5_putRow : MethodName := ⟨RX5, "putRow", "()V"⟩
def RX6 : String := "NineHoles$Sorter"
def TX6 : u_T := fun k => match k with
  | 0 => ("NineHoles$Sorter", "ranks", "[I", true)
  | 1 => ("NineHoles$Sorter", "rack", "LNineHoles$Rack;", true)
  | 2 => ("NineHoles$Sorter", "signs", "[I", true)
  | 3 => ("NineHoles$Sorter", "into", "[I", true)
  | 4 => ("NineHoles$Sorter", "law", "LNineHoles$Law;", false)
  | 5 => ("NineHoles$Sorter", "seconds", "I", false)
  | 6 => ("NineHoles$Sorter", "load", "I", false)
  | _ => ("NineHoles$Sorter", "thrown", "I", false)
def tyX6 : Nat → FieldType := fun k => match k with
  | 0 => .array .int
  | 1 => .object "NineHoles$Rack"
  | 2 => .array .int
  | 3 => .array .int
  | 4 => .object "NineHoles$Law"
  | 5 => .int
  | 6 => .int
  | _ => .int
abbrev wsX60 : List Cond := u_ws RX6 TX6 8
theorem nmX6 : ∀ a, a < 8 → ∀ b, b < 8 → a ≠ b → (TX6 a).2.1 ≠ (TX6 b).2.1 := by decide +kernel
theorem tyX6_ok : ∀ k, k < 8 → parseFieldDescriptor (TX6 k).2.2.1 = some (tyX6 k) := by decide +kernel
abbrev cX6_init : ByteArray := prog_8_method_1_code
def yX6_init : MethodName := ⟨RX6, "<init>", "([ILNineHoles$Rack;)V"⟩
abbrev cX6_holeFor : ByteArray := prog_8_method_2_code
def yX6_holeFor : MethodName := ⟨RX6, "holeFor", "(LNineHoles$State;I)I"⟩
abbrev cX6_secondsFor : ByteArray := prog_8_method_3_code
def yX6_secondsFor : MethodName := ⟨RX6, "secondsFor", "(LNineHoles$State;I)I"⟩
abbrev cX6_putSigns : ByteArray := prog_8_method_4_code
def yX6_putSigns : MethodName := ⟨RX6, "putSigns", "(LNineHoles$State;I)V"⟩
abbrev cX6_doGoes : ByteArray := prog_8_method_5_code
def yX6_doGoes : MethodName := ⟨RX6, "doGoes", "(LNineHoles$State;I)V"⟩
abbrev cX6_blunderGo : ByteArray := prog_8_method_6_code
def yX6_blunderGo : MethodName := ⟨RX6, "blunderGo", "(LNineHoles$State;II)Z"⟩
abbrev cX6_askAll : ByteArray := prog_8_method_7_code
def yX6_askAll : MethodName := ⟨RX6, "askAll", "(LNineHoles$State;)V"⟩
abbrev cX6_tally : ByteArray := prog_8_method_8_code
def yX6_tally : MethodName := ⟨RX6, "tally", "(LNineHoles$State;)V"⟩
abbrev cX6_throwAll : ByteArray := prog_8_method_9_code
def yX6_throwAll : MethodName := ⟨RX6, "throwAll", "(LNineHoles$State;)V"⟩
def RX7 : String := "NineHoles$State"
def TX7 : u_T := fun k => match k with
  | 0 => ("NineHoles$State", "street", "[I", true)
  | 1 => ("NineHoles$State", "weight", "[I", true)
  | 2 => ("NineHoles$State", "comes", "[I", true)
  | 3 => ("NineHoles$State", "lastHole", "[I", true)
  | 4 => ("NineHoles$State", "order", "[I", true)
  | 5 => ("NineHoles$State", "letters", "I", false)
  | 6 => ("NineHoles$State", "size", "I", false)
  | 7 => ("NineHoles$State", "go", "I", false)
  | _ => ("NineHoles$State", "x", "I", false)
def tyX7 : Nat → FieldType := fun k => match k with
  | 0 => .array .int
  | 1 => .array .int
  | 2 => .array .int
  | 3 => .array .int
  | 4 => .array .int
  | 5 => .int
  | 6 => .int
  | 7 => .int
  | _ => .int
abbrev wsX70 : List Cond := u_ws RX7 TX7 9
theorem nmX7 : ∀ a, a < 9 → ∀ b, b < 9 → a ≠ b → (TX7 a).2.1 ≠ (TX7 b).2.1 := by decide +kernel
theorem tyX7_ok : ∀ k, k < 9 → parseFieldDescriptor (TX7 k).2.2.1 = some (tyX7 k) := by decide +kernel
abbrev cX7_init : ByteArray := prog_9_method_1_code
def yX7_init : MethodName := ⟨RX7, "<init>", "()V"⟩
abbrev cX7_copyFrom : ByteArray := prog_9_method_2_code
def yX7_copyFrom : MethodName := ⟨RX7, "copyFrom", "(LNineHoles$State;)V"⟩
abbrev cX7_copyGoesFrom : ByteArray := prog_9_method_3_code
def yX7_copyGoesFrom : MethodName := ⟨RX7, "copyGoesFrom", "(LNineHoles$State;)V"⟩
abbrev cX7_add : ByteArray := prog_9_method_4_code
def yX7_add : MethodName := ⟨RX7, "add", "(III)I"⟩
abbrev cX7_putBehind : ByteArray := prog_9_method_5_code
def yX7_putBehind : MethodName := ⟨RX7, "putBehind", "(I)V"⟩
abbrev cX7_comeIn : ByteArray := prog_9_method_6_code
def yX7_comeIn : MethodName := ⟨RX7, "comeIn", "()V"⟩
abbrev cX7_placeOf : ByteArray := prog_9_method_7_code
def yX7_placeOf : MethodName := ⟨RX7, "placeOf", "(I)I"⟩
abbrev cX7_streetAt : ByteArray := prog_9_method_8_code
def yX7_streetAt : MethodName := ⟨RX7, "streetAt", "(I)I"⟩
abbrev cX7_othersElsewhere : ByteArray := prog_9_method_9_code
def yX7_othersElsewhere : MethodName := ⟨RX7, "othersElsewhere", "(LNineHoles$State;I)I"⟩
abbrev cX7_streetBits : ByteArray := prog_9_method_10_code
def yX7_streetBits : MethodName := ⟨RX7, "streetBits", "()I"⟩
abbrev cX7_weights : ByteArray := prog_9_method_11_code
def yX7_weights : MethodName := ⟨RX7, "weights", "()I"⟩
def RX8 : String := "NineHoles$Tables"
def TX8 : u_T := fun k => match k with
  | 0 => ("NineHoles$Tables", "rack", "LNineHoles$Rack;", true)
  | 1 => ("NineHoles$Tables", "lettersBelow", "[I", true)
  | 2 => ("NineHoles$Tables", "streetsBelow", "[I", true)
  | 3 => ("NineHoles$Tables", "split", "[[I", true)
  | 4 => ("NineHoles$Tables", "known", "[[I", false)
  | _ => ("NineHoles$Tables", "deeper", "[[I", false)
def tyX8 : Nat → FieldType := fun k => match k with
  | 0 => .object "NineHoles$Rack"
  | 1 => .array .int
  | 2 => .array .int
  | 3 => .array (.array .int)
  | 4 => .array (.array .int)
  | _ => .array (.array .int)
abbrev wsX80 : List Cond := u_ws RX8 TX8 6
theorem nmX8 : ∀ a, a < 6 → ∀ b, b < 6 → a ≠ b → (TX8 a).2.1 ≠ (TX8 b).2.1 := by decide +kernel
theorem tyX8_ok : ∀ k, k < 6 → parseFieldDescriptor (TX8 k).2.2.1 = some (tyX8 k) := by decide +kernel
abbrev cX8_init : ByteArray := prog_10_method_1_code
def yX8_init : MethodName := ⟨RX8, "<init>", "(LNineHoles$Rack;)V"⟩
abbrev cX8_fewest : ByteArray := prog_10_method_2_code
def yX8_fewest : MethodName := ⟨RX8, "fewest", "(LNineHoles$State;III)I"⟩
abbrev cX8_countLetters : ByteArray := prog_10_method_3_code
def yX8_countLetters : MethodName := ⟨RX8, "countLetters", "(LNineHoles$State;)V"⟩
abbrev cX8_isAlone : ByteArray := prog_10_method_4_code
def yX8_isAlone : MethodName := ⟨RX8, "isAlone", "(II)Z"⟩
abbrev cX8_letters : ByteArray := prog_10_method_5_code
def yX8_letters : MethodName := ⟨RX8, "letters", "(II)I"⟩
abbrev cX8_goDeeper : ByteArray := prog_10_method_6_code
def yX8_goDeeper : MethodName := ⟨RX8, "goDeeper", "(II)Z"⟩
abbrev cX8_splitUpTo : ByteArray := prog_10_method_7_code
def yX8_splitUpTo : MethodName := ⟨RX8, "splitUpTo", "(II)V"⟩
abbrev cX8_fewestHoles : ByteArray := prog_10_method_8_code
def yX8_fewestHoles : MethodName := ⟨RX8, "fewestHoles", "(I)I"⟩
abbrev cX8_throwsWith : ByteArray := prog_10_method_9_code
def yX8_throwsWith : MethodName := ⟨RX8, "throwsWith", "(II)I"⟩
abbrev cX8_firstIn : ByteArray := prog_10_method_10_code
def yX8_firstIn : MethodName := ⟨RX8, "firstIn", "(III)I"⟩
def RX9 : String := "NineHoles$Tape"
def TX9 : u_T := fun k => match k with
  | 0 => ("NineHoles$Tape", "bytes", "[I", true)
  | _ => ("NineHoles$Tape", "size", "I", false)
def tyX9 : Nat → FieldType := fun k => match k with
  | 0 => .array .int
  | _ => .int
abbrev wsX90 : List Cond := u_ws RX9 TX9 2
theorem nmX9 : ∀ a, a < 2 → ∀ b, b < 2 → a ≠ b → (TX9 a).2.1 ≠ (TX9 b).2.1 := by decide +kernel
theorem tyX9_ok : ∀ k, k < 2 → parseFieldDescriptor (TX9 k).2.2.1 = some (tyX9 k) := by decide +kernel
abbrev cX9_init : ByteArray := prog_11_method_1_code
def yX9_init : MethodName := ⟨RX9, "<init>", "()V"⟩
abbrev cX9_hasRoom : ByteArray := prog_11_method_2_code
def yX9_hasRoom : MethodName := ⟨RX9, "hasRoom", "()Z"⟩
abbrev cX9_append : ByteArray := prog_11_method_3_code
def yX9_append : MethodName := ⟨RX9, "append", "(I)V"⟩
abbrev cX9_byteAt : ByteArray := prog_11_method_4_code
def yX9_byteAt : MethodName := ⟨RX9, "byteAt", "(I)I"⟩
abbrev cX9_numberAt : ByteArray := prog_11_method_5_code
def yX9_numberAt : MethodName := ⟨RX9, "numberAt", "(I)I"⟩
abbrev cX9_tells : ByteArray := prog_11_method_6_code
def yX9_tells : MethodName := ⟨RX9, "tells", "(LNineHoles$State;)Z"⟩
abbrev cX9_tellsEachOf : ByteArray := prog_11_method_7_code
def yX9_tellsEachOf : MethodName := ⟨RX9, "tellsEachOf", "(LNineHoles$State;)Z"⟩
def RX10 : String := "NineHoles$Yard"
def TX10 : u_T := fun k => match k with
  | 0 => ("NineHoles$Yard", "rack", "LNineHoles$Rack;", true)
  | 1 => ("NineHoles$Yard", "last", "[I", true)
  | 2 => ("NineHoles$Yard", "longest", "[I", true)
  | _ => ("NineHoles$Yard", "row", "[I", true)
def tyX10 : Nat → FieldType := fun k => match k with
  | 0 => .object "NineHoles$Rack"
  | 1 => .array .int
  | 2 => .array .int
  | _ => .array .int
abbrev wsX100 : List Cond := u_ws RX10 TX10 4
theorem nmX10 : ∀ a, a < 4 → ∀ b, b < 4 → a ≠ b → (TX10 a).2.1 ≠ (TX10 b).2.1 := by decide +kernel
theorem tyX10_ok : ∀ k, k < 4 → parseFieldDescriptor (TX10 k).2.2.1 = some (tyX10 k) := by decide +kernel
abbrev cX10_init : ByteArray := prog_12_method_1_code
def yX10_init : MethodName := ⟨RX10, "<init>", "(LNineHoles$Rack;)V"⟩
abbrev cX10_longestRow : ByteArray := prog_12_method_2_code
def yX10_longestRow : MethodName := ⟨RX10, "longestRow", "([III)I"⟩
abbrev cX10_settle : ByteArray := prog_12_method_3_code
def yX10_settle : MethodName := ⟨RX10, "settle", "([II)Z"⟩
abbrev cX10_fits : ByteArray := prog_12_method_4_code
def yX10_fits : MethodName := ⟨RX10, "fits", "(II)Z"⟩
abbrev cX10_canPutInto : ByteArray := prog_12_method_5_code
def yX10_canPutInto : MethodName := ⟨RX10, "canPutInto", "(I[III)Z"⟩
abbrev cX10_canPut : ByteArray := prog_12_method_6_code
def yX10_canPut : MethodName := ⟨RX10, "canPut", "([III)Z"⟩
abbrev cX10_nearest : ByteArray := prog_12_method_7_code
def yX10_nearest : MethodName := ⟨RX10, "nearest", "(IZ)I"⟩
def RX11 : String := "NineHoles"
def TX11 : u_T := fun k => match k with
  | 0 => ("NineHoles", "tape", "LNineHoles$Tape;", true)
  | 1 => ("NineHoles", "reader", "LNineHoles$LawReader;", true)
  | 2 => ("NineHoles", "ranks", "[I", true)
  | 3 => ("NineHoles", "keyAt", "[I", true)
  | 4 => ("NineHoles", "rack", "LNineHoles$Rack;", true)
  | 5 => ("NineHoles", "now", "LNineHoles$State;", true)
  | 6 => ("NineHoles", "kept", "LNineHoles$State;", true)
  | 7 => ("NineHoles", "trial", "LNineHoles$State;", true)
  | 8 => ("NineHoles", "other", "LNineHoles$State;", true)
  | 9 => ("NineHoles", "sorter", "LNineHoles$Sorter;", true)
  | 10 => ("NineHoles", "rows", "LNineHoles$Rows;", true)
  | 11 => ("NineHoles", "planner", "LNineHoles$Planner;", true)
  | 12 => ("NineHoles", "partings", "LNineHoles$Tables;", true)
  | 13 => ("NineHoles", "siding", "LNineHoles$Yard;", true)
  | 14 => ("NineHoles", "blame", "LNineHoles$Blame;", true)
  | _ => ("NineHoles", "anyKept", "Z", false)
def tyX11 : Nat → FieldType := fun k => match k with
  | 0 => .object "NineHoles$Tape"
  | 1 => .object "NineHoles$LawReader"
  | 2 => .array .int
  | 3 => .array .int
  | 4 => .object "NineHoles$Rack"
  | 5 => .object "NineHoles$State"
  | 6 => .object "NineHoles$State"
  | 7 => .object "NineHoles$State"
  | 8 => .object "NineHoles$State"
  | 9 => .object "NineHoles$Sorter"
  | 10 => .object "NineHoles$Rows"
  | 11 => .object "NineHoles$Planner"
  | 12 => .object "NineHoles$Tables"
  | 13 => .object "NineHoles$Yard"
  | 14 => .object "NineHoles$Blame"
  | _ => .boolean
abbrev wsX110 : List Cond := u_ws RX11 TX11 16
theorem nmX11 : ∀ a, a < 16 → ∀ b, b < 16 → a ≠ b → (TX11 a).2.1 ≠ (TX11 b).2.1 := by decide +kernel
theorem tyX11_ok : ∀ k, k < 16 → parseFieldDescriptor (TX11 k).2.2.1 = some (tyX11 k) := by decide +kernel
abbrev cX11_init : ByteArray := prog_1_method_1_code
def yX11_init : MethodName := ⟨RX11, "<init>", "()V"⟩
abbrev cX11_letter : ByteArray := prog_1_method_2_code
def yX11_letter : MethodName := ⟨RX11, "letter", "(III)I"⟩
abbrev cX11_rank : ByteArray := prog_1_method_3_code
def yX11_rank : MethodName := ⟨RX11, "rank", "(II)Z"⟩
abbrev cX11_rack : ByteArray := prog_1_method_4_code
def yX11_rack : MethodName := ⟨RX11, "rack", "(II)Z"⟩
abbrev cX11_feed : ByteArray := prog_1_method_5_code
def yX11_feed : MethodName := ⟨RX11, "feed", "(IIIII)I"⟩
abbrev cX11_law : ByteArray := prog_1_method_6_code
def yX11_law : MethodName := ⟨RX11, "law", "(I)I"⟩
abbrev cX11_order : ByteArray := prog_1_method_7_code
def yX11_order : MethodName := ⟨RX11, "order", "(I)Z"⟩
abbrev cX11_letterIs : ByteArray := prog_1_method_8_code
def yX11_letterIs : MethodName := ⟨RX11, "letterIs", "(II)I"⟩
abbrev cX11_at : ByteArray := prog_1_method_9_code
def yX11_at : MethodName := ⟨RX11, "at", "(I)I"⟩
abbrev cX11_goes : ByteArray := prog_1_method_10_code
def yX11_goes : MethodName := ⟨RX11, "goes", "(I)I"⟩
abbrev cX11_tried : ByteArray := prog_1_method_11_code
def yX11_tried : MethodName := ⟨RX11, "tried", "(II)I"⟩
abbrev cX11_out : ByteArray := prog_1_method_12_code
def yX11_out : MethodName := ⟨RX11, "out", "()I"⟩
abbrev cX11_forAny : ByteArray := prog_1_method_13_code
def yX11_forAny : MethodName := ⟨RX11, "forAny", "(II)I"⟩
abbrev cX11_runs : ByteArray := prog_1_method_14_code
def yX11_runs : MethodName := ⟨RX11, "runs", "(I)I"⟩
abbrev cX11_plan : ByteArray := prog_1_method_15_code
def yX11_plan : MethodName := ⟨RX11, "plan", "()I"⟩
abbrev cX11_planned : ByteArray := prog_1_method_16_code
def yX11_planned : MethodName := ⟨RX11, "planned", "(II)I"⟩
abbrev cX11_planDone : ByteArray := prog_1_method_17_code
def yX11_planDone : MethodName := ⟨RX11, "planDone", "()I"⟩
abbrev cX11_tables : ByteArray := prog_1_method_18_code
def yX11_tables : MethodName := ⟨RX11, "tables", "(III)I"⟩
abbrev cX11_table : ByteArray := prog_1_method_19_code
def yX11_table : MethodName := ⟨RX11, "table", "(IIII)I"⟩
abbrev cX11_yardQueues : ByteArray := prog_1_method_20_code
def yX11_yardQueues : MethodName := ⟨RX11, "yardQueues", "()I"⟩
abbrev cX11_yardPipes : ByteArray := prog_1_method_21_code
def yX11_yardPipes : MethodName := ⟨RX11, "yardPipes", "()I"⟩
abbrev cX11_yard : ByteArray := prog_1_method_22_code
def yX11_yard : MethodName := ⟨RX11, "yard", "(II)I"⟩
abbrev cX11_together : ByteArray := prog_1_method_23_code
def yX11_together : MethodName := ⟨RX11, "together", "(I)I"⟩
abbrev cX11_blunder : ByteArray := prog_1_method_24_code
def yX11_blunder : MethodName := ⟨RX11, "blunder", "(IIIII)I"⟩
abbrev cX11_badly : ByteArray := prog_1_method_25_code
def yX11_badly : MethodName := ⟨RX11, "badly", "(II)I"⟩
abbrev cX11_clerks : ByteArray := prog_1_method_26_code
def yX11_clerks : MethodName := ⟨RX11, "clerks", "(I)I"⟩
abbrev cX11_wanted : ByteArray := prog_1_method_27_code
def yX11_wanted : MethodName := ⟨RX11, "wanted", "(I)I"⟩
abbrev cX11_seed : ByteArray := prog_1_method_28_code
def yX11_seed : MethodName := ⟨RX11, "seed", "(I)Z"⟩
abbrev cX11_shuffle : ByteArray := prog_1_method_29_code
def yX11_shuffle : MethodName := ⟨RX11, "shuffle", "()I"⟩
abbrev cX11_keep : ByteArray := prog_1_method_30_code
def yX11_keep : MethodName := ⟨RX11, "keep", "()I"⟩
abbrev cX11_undo : ByteArray := prog_1_method_31_code
def yX11_undo : MethodName := ⟨RX11, "undo", "()Z"⟩
abbrev cX11_check : ByteArray := prog_1_method_32_code
def yX11_check : MethodName := ⟨RX11, "check", "(I)I"⟩
abbrev cX11_count : ByteArray := prog_1_method_33_code
def yX11_count : MethodName := ⟨RX11, "count", "(I)I"⟩
abbrev cX11_isStreet : ByteArray := prog_1_method_34_code
def yX11_isStreet : MethodName := ⟨RX11, "isStreet", "(I)Z"⟩
abbrev cX11_areTables : ByteArray := prog_1_method_35_code
def yX11_areTables : MethodName := ⟨RX11, "areTables", "(III)Z"⟩
abbrev cX11_isLetter : ByteArray := prog_1_method_36_code
def yX11_isLetter : MethodName := ⟨RX11, "isLetter", "(I)Z"⟩
abbrev cX11_canGo : ByteArray := prog_1_method_37_code
def yX11_canGo : MethodName := ⟨RX11, "canGo", "(II)Z"⟩
abbrev cX11_holeNow : ByteArray := prog_1_method_38_code
def yX11_holeNow : MethodName := ⟨RX11, "holeNow", "(I)I"⟩
abbrev cX11_firstOut : ByteArray := prog_1_method_39_code
def yX11_firstOut : MethodName := ⟨RX11, "firstOut", "(LNineHoles$State;)I"⟩
abbrev cX11_putRanks : ByteArray := prog_1_method_40_code
def yX11_putRanks : MethodName := ⟨RX11, "putRanks", "()V"⟩
abbrev cX11_readRanks : ByteArray := prog_1_method_41_code
def yX11_readRanks : MethodName := ⟨RX11, "readRanks", "()V"⟩
abbrev cX11_findPlan : ByteArray := prog_1_method_42_code
def yX11_findPlan : MethodName := ⟨RX11, "findPlan", "()I"⟩
abbrev cX11_secondsOfFirst : ByteArray := prog_1_method_43_code
def yX11_secondsOfFirst : MethodName := ⟨RX11, "secondsOfFirst", "(I)I"⟩
abbrev cX11_bestShare : ByteArray := prog_1_method_44_code
def yX11_bestShare : MethodName := ⟨RX11, "bestShare", "(I)I"⟩
def RX12 : String := "NineHolesModel"
def TX12 : u_T := fun k => match k with
  | 0 => ("NineHolesModel", "letters", "I", false)
  | 1 => ("NineHolesModel", "heapMany", "I", false)
  | 2 => ("NineHolesModel", "go0", "I", false)
  | 3 => ("NineHolesModel", "holes", "I", false)
  | 4 => ("NineHolesModel", "pipes", "I", false)
  | 5 => ("NineHolesModel", "x0", "I", false)
  | 6 => ("NineHolesModel", "streetOf", "[I", true)
  | 7 => ("NineHolesModel", "weightOf", "[I", true)
  | 8 => ("NineHolesModel", "comesAt", "[I", true)
  | 9 => ("NineHolesModel", "lastHole", "[I", true)
  | 10 => ("NineHolesModel", "heap", "[I", true)
  | 11 => ("NineHolesModel", "rankOf", "[I", true)
  | 12 => ("NineHolesModel", "tape", "[B", true)
  | 13 => ("NineHolesModel", "taped", "I", false)
  | 14 => ("NineHolesModel", "place0", "I", false)
  | 15 => ("NineHolesModel", "length0", "I", false)
  | 16 => ("NineHolesModel", "fault", "I", false)
  | 17 => ("NineHolesModel", "open", "I", false)
  | 18 => ("NineHolesModel", "codeMany", "I", false)
  | 19 => ("NineHolesModel", "waiting", "I", false)
  | 20 => ("NineHolesModel", "saidMany", "I", false)
  | 21 => ("NineHolesModel", "number0", "I", false)
  | 22 => ("NineHolesModel", "clauses", "I", false)
  | 23 => ("NineHolesModel", "said", "[I", true)
  | 24 => ("NineHolesModel", "waits", "[I", true)
  | 25 => ("NineHolesModel", "saidLetter", "[I", true)
  | 26 => ("NineHolesModel", "saidFrom", "[I", true)
  | 27 => ("NineHolesModel", "saidHalf", "[I", true)
  | 28 => ("NineHolesModel", "saidTo", "[I", true)
  | 29 => ("NineHolesModel", "codes", "[I", true)
  | 30 => ("NineHolesModel", "clauseOf", "[I", true)
  | 31 => ("NineHolesModel", "codeFrom", "[I", true)
  | 32 => ("NineHolesModel", "codeHalf", "[I", true)
  | 33 => ("NineHolesModel", "codeTo", "[I", true)
  | 34 => ("NineHolesModel", "stack", "[I", true)
  | 35 => ("NineHolesModel", "facts", "[I", true)
  | 36 => ("NineHolesModel", "seconds0", "I", false)
  | 37 => ("NineHolesModel", "load0", "I", false)
  | 38 => ("NineHolesModel", "throws0", "I", false)
  | 39 => ("NineHolesModel", "holeNow", "[I", true)
  | 40 => ("NineHolesModel", "heapThen", "[I", true)
  | 41 => ("NineHolesModel", "asideMany", "I", false)
  | 42 => ("NineHolesModel", "asideGo", "I", false)
  | 43 => ("NineHolesModel", "asideHeap", "[I", true)
  | 44 => ("NineHolesModel", "asideLast", "[I", true)
  | 45 => ("NineHolesModel", "ranks", "I", false)
  | 46 => ("NineHolesModel", "rankAt", "[I", true)
  | 47 => ("NineHolesModel", "firstPlace", "[I", true)
  | 48 => ("NineHolesModel", "lastPlace", "[I", true)
  | 49 => ("NineHolesModel", "planGoes", "I", false)
  | 50 => ("NineHolesModel", "wayNow", "[I", true)
  | 51 => ("NineHolesModel", "planHole", "[I", true)
  | 52 => ("NineHolesModel", "inStreet", "[I", true)
  | 53 => ("NineHolesModel", "throwsFor", "[I", true)
  | 54 => ("NineHolesModel", "coverBy", "[I", true)
  | 55 => ("NineHolesModel", "longest", "[I", true)
  | 56 => ("NineHolesModel", "yardRow", "[I", true)
  | 57 => ("NineHolesModel", "yardLast", "[I", true)
  | 58 => ("NineHolesModel", "streets", "I", false)
  | 59 => ("NineHolesModel", "streetAt", "[I", true)
  | 60 => ("NineHolesModel", "streetFirst", "[I", true)
  | 61 => ("NineHolesModel", "streetLast", "[I", true)
  | 62 => ("NineHolesModel", "breaksFrom", "[I", true)
  | 63 => ("NineHolesModel", "asItIs", "[I", true)
  | 64 => ("NineHolesModel", "asItIsMany", "I", false)
  | 65 => ("NineHolesModel", "toldHeap", "[I", true)
  | 66 => ("NineHolesModel", "takesNow", "[I", true)
  | 67 => ("NineHolesModel", "isKept", "Z", false)
  | 68 => ("NineHolesModel", "keptLetters", "I", false)
  | 69 => ("NineHolesModel", "keptMany", "I", false)
  | 70 => ("NineHolesModel", "keptGo", "I", false)
  | 71 => ("NineHolesModel", "keptX", "I", false)
  | 72 => ("NineHolesModel", "keptStreet", "[I", true)
  | 73 => ("NineHolesModel", "keptWeight", "[I", true)
  | 74 => ("NineHolesModel", "keptComes", "[I", true)
  | 75 => ("NineHolesModel", "keptLast", "[I", true)
  | _ => ("NineHolesModel", "keptHeap", "[I", true)
def tyX12 : Nat → FieldType := fun k => match k with
  | 0 => .int
  | 1 => .int
  | 2 => .int
  | 3 => .int
  | 4 => .int
  | 5 => .int
  | 6 => .array .int
  | 7 => .array .int
  | 8 => .array .int
  | 9 => .array .int
  | 10 => .array .int
  | 11 => .array .int
  | 12 => .array .byte
  | 13 => .int
  | 14 => .int
  | 15 => .int
  | 16 => .int
  | 17 => .int
  | 18 => .int
  | 19 => .int
  | 20 => .int
  | 21 => .int
  | 22 => .int
  | 23 => .array .int
  | 24 => .array .int
  | 25 => .array .int
  | 26 => .array .int
  | 27 => .array .int
  | 28 => .array .int
  | 29 => .array .int
  | 30 => .array .int
  | 31 => .array .int
  | 32 => .array .int
  | 33 => .array .int
  | 34 => .array .int
  | 35 => .array .int
  | 36 => .int
  | 37 => .int
  | 38 => .int
  | 39 => .array .int
  | 40 => .array .int
  | 41 => .int
  | 42 => .int
  | 43 => .array .int
  | 44 => .array .int
  | 45 => .int
  | 46 => .array .int
  | 47 => .array .int
  | 48 => .array .int
  | 49 => .int
  | 50 => .array .int
  | 51 => .array .int
  | 52 => .array .int
  | 53 => .array .int
  | 54 => .array .int
  | 55 => .array .int
  | 56 => .array .int
  | 57 => .array .int
  | 58 => .int
  | 59 => .array .int
  | 60 => .array .int
  | 61 => .array .int
  | 62 => .array .int
  | 63 => .array .int
  | 64 => .int
  | 65 => .array .int
  | 66 => .array .int
  | 67 => .boolean
  | 68 => .int
  | 69 => .int
  | 70 => .int
  | 71 => .int
  | 72 => .array .int
  | 73 => .array .int
  | 74 => .array .int
  | 75 => .array .int
  | _ => .array .int
abbrev wsX120 : List Cond := u_ws RX12 TX12 77
theorem nmX12 : ∀ a, a < 77 → ∀ b, b < 77 → a ≠ b → (TX12 a).2.1 ≠ (TX12 b).2.1 := by decide +kernel
theorem tyX12_ok : ∀ k, k < 77 → parseFieldDescriptor (TX12 k).2.2.1 = some (tyX12 k) := by decide +kernel
abbrev cX12_init : ByteArray := prog_14_method_1_code
def yX12_init : MethodName := ⟨RX12, "<init>", "()V"⟩
abbrev cX12_in : ByteArray := prog_14_method_2_code
def yX12_in : MethodName := ⟨RX12, "in", "(III)Z"⟩
abbrev cX12_min : ByteArray := prog_14_method_3_code
def yX12_min : MethodName := ⟨RX12, "min", "(II)I"⟩
abbrev cX12_max : ByteArray := prog_14_method_4_code
def yX12_max : MethodName := ⟨RX12, "max", "(II)I"⟩
abbrev cX12_has : ByteArray := prog_14_method_5_code
def yX12_has : MethodName := ⟨RX12, "has", "(II)Z"⟩
abbrev cX12_isLetter : ByteArray := prog_14_method_6_code
def yX12_isLetter : MethodName := ⟨RX12, "isLetter", "(I)Z"⟩
abbrev cX12_isStreet : ByteArray := prog_14_method_7_code
def yX12_isStreet : MethodName := ⟨RX12, "isStreet", "(I)Z"⟩
abbrev cX12_rankBy : ByteArray := prog_14_method_8_code
def yX12_rankBy : MethodName := ⟨RX12, "rankBy", "(I)I"⟩
abbrev cX12_arrives : ByteArray := prog_14_method_9_code
def yX12_arrives : MethodName := ⟨RX12, "arrives", "(I)V"⟩
abbrev cX12_letter : ByteArray := prog_14_method_10_code
def yX12_letter : MethodName := ⟨RX12, "letter", "(III)I"⟩
abbrev cX12_rank : ByteArray := prog_14_method_11_code
def yX12_rank : MethodName := ⟨RX12, "rank", "(II)Z"⟩
abbrev cX12_rack : ByteArray := prog_14_method_12_code
def yX12_rack : MethodName := ⟨RX12, "rack", "(II)Z"⟩
abbrev cX12_placeOf : ByteArray := prog_14_method_13_code
def yX12_placeOf : MethodName := ⟨RX12, "placeOf", "(I)I"⟩
abbrev cX12_types : ByteArray := prog_14_method_14_code
def yX12_types : MethodName := ⟨RX12, "types", "(I)V"⟩
abbrev cX12_feed : ByteArray := prog_14_method_15_code
def yX12_feed : MethodName := ⟨RX12, "feed", "(IIIII)I"⟩
abbrev cX12_here : ByteArray := prog_14_method_16_code
def yX12_here : MethodName := ⟨RX12, "here", "()I"⟩
abbrev cX12_isDigit : ByteArray := prog_14_method_17_code
def yX12_isDigit : MethodName := ⟨RX12, "isDigit", "()Z"⟩
abbrev cX12_wrongAt : ByteArray := prog_14_method_18_code
def yX12_wrongAt : MethodName := ⟨RX12, "wrongAt", "(II)Z"⟩
abbrev cX12_takes : ByteArray := prog_14_method_19_code
def yX12_takes : MethodName := ⟨RX12, "takes", "(I)Z"⟩
abbrev cX12_readsNumber : ByteArray := prog_14_method_20_code
def yX12_readsNumber : MethodName := ⟨RX12, "readsNumber", "()Z"⟩
abbrev cX12_notes : ByteArray := prog_14_method_21_code
def yX12_notes : MethodName := ⟨RX12, "notes", "(II)V"⟩
abbrev cX12_opens : ByteArray := prog_14_method_22_code
def yX12_opens : MethodName := ⟨RX12, "opens", "(I)Z"⟩
abbrev cX12_waitTop : ByteArray := prog_14_method_23_code
def yX12_waitTop : MethodName := ⟨RX12, "waitTop", "()I"⟩
abbrev cX12_factOf : ByteArray := prog_14_method_24_code
def yX12_factOf : MethodName := ⟨RX12, "factOf", "(I)I"⟩
abbrev cX12_sumSign : ByteArray := prog_14_method_25_code
def yX12_sumSign : MethodName := ⟨RX12, "sumSign", "(I)I"⟩
abbrev cX12_closesSums : ByteArray := prog_14_method_26_code
def yX12_closesSums : MethodName := ⟨RX12, "closesSums", "(Z)V"⟩
abbrev cX12_readsFactor : ByteArray := prog_14_method_27_code
def yX12_readsFactor : MethodName := ⟨RX12, "readsFactor", "()Z"⟩
abbrev cX12_hasOpenSum : ByteArray := prog_14_method_28_code
def yX12_hasOpenSum : MethodName := ⟨RX12, "hasOpenSum", "(I)Z"⟩
abbrev cX12_readsSum : ByteArray := prog_14_method_29_code
def yX12_readsSum : MethodName := ⟨RX12, "readsSum", "()Z"⟩
abbrev cX12_endsPiece : ByteArray := prog_14_method_30_code
def yX12_endsPiece : MethodName := ⟨RX12, "endsPiece", "()V"⟩
abbrev cX12_lands : ByteArray := prog_14_method_31_code
def yX12_lands : MethodName := ⟨RX12, "lands", "(Z)V"⟩
abbrev cX12_jumps : ByteArray := prog_14_method_32_code
def yX12_jumps : MethodName := ⟨RX12, "jumps", "(I)V"⟩
abbrev cX12_readsCompared : ByteArray := prog_14_method_33_code
def yX12_readsCompared : MethodName := ⟨RX12, "readsCompared", "()Z"⟩
abbrev cX12_readsCondition : ByteArray := prog_14_method_34_code
def yX12_readsCondition : MethodName := ⟨RX12, "readsCondition", "()Z"⟩
abbrev cX12_readsClause : ByteArray := prog_14_method_35_code
def yX12_readsClause : MethodName := ⟨RX12, "readsClause", "()Z"⟩
abbrev cX12_law : ByteArray := prog_14_method_36_code
def yX12_law : MethodName := ⟨RX12, "law", "(I)I"⟩
abbrev cX12_reckon : ByteArray := prog_14_method_37_code
def yX12_reckon : MethodName := ⟨RX12, "reckon", "(III)I"⟩
abbrev cX12_comesTo : ByteArray := prog_14_method_38_code
def yX12_comesTo : MethodName := ⟨RX12, "comesTo", "(II)I"⟩
abbrev cX12_byLaw : ByteArray := prog_14_method_39_code
def yX12_byLaw : MethodName := ⟨RX12, "byLaw", "(II)I"⟩
abbrev cX12_feels : ByteArray := prog_14_method_40_code
def yX12_feels : MethodName := ⟨RX12, "feels", "(I)V"⟩
abbrev cX12_isLeftOut : ByteArray := prog_14_method_41_code
def yX12_isLeftOut : MethodName := ⟨RX12, "isLeftOut", "(I)Z"⟩
abbrev cX12_holeFor : ByteArray := prog_14_method_42_code
def yX12_holeFor : MethodName := ⟨RX12, "holeFor", "(I)I"⟩
abbrev cX12_secondsFor : ByteArray := prog_14_method_43_code
def yX12_secondsFor : MethodName := ⟨RX12, "secondsFor", "(I)I"⟩
abbrev cX12_comeAhead : ByteArray := prog_14_method_44_code
def yX12_comeAhead : MethodName := ⟨RX12, "comeAhead", "()V"⟩
abbrev cX12_givesBack : ByteArray := prog_14_method_45_code
def yX12_givesBack : MethodName := ⟨RX12, "givesBack", "()V"⟩
abbrev cX12_asksAll : ByteArray := prog_14_method_46_code
def yX12_asksAll : MethodName := ⟨RX12, "asksAll", "()V"⟩
abbrev cX12_throwsAll : ByteArray := prog_14_method_47_code
def yX12_throwsAll : MethodName := ⟨RX12, "throwsAll", "()V"⟩
abbrev cX12_goesOnce : ByteArray := prog_14_method_48_code
def yX12_goesOnce : MethodName := ⟨RX12, "goesOnce", "()V"⟩
abbrev cX12_goesBy : ByteArray := prog_14_method_49_code
def yX12_goesBy : MethodName := ⟨RX12, "goesBy", "(I)V"⟩
abbrev cX12_areGoes : ByteArray := prog_14_method_50_code
def yX12_areGoes : MethodName := ⟨RX12, "areGoes", "(I)Z"⟩
abbrev cX12_copies : ByteArray := prog_14_method_51_code
def yX12_copies : MethodName := ⟨RX12, "copies", "([I[I)V"⟩
abbrev cX12_begins : ByteArray := prog_14_method_52_code
def yX12_begins : MethodName := ⟨RX12, "begins", "()V"⟩
abbrev cX12_again : ByteArray := prog_14_method_53_code
def yX12_again : MethodName := ⟨RX12, "again", "()V"⟩
abbrev cX12_order : ByteArray := prog_14_method_54_code
def yX12_order : MethodName := ⟨RX12, "order", "(I)Z"⟩
abbrev cX12_letterIs : ByteArray := prog_14_method_55_code
def yX12_letterIs : MethodName := ⟨RX12, "letterIs", "(II)I"⟩
abbrev cX12_at : ByteArray := prog_14_method_56_code
def yX12_at : MethodName := ⟨RX12, "at", "(I)I"⟩
abbrev cX12_goes : ByteArray := prog_14_method_57_code
def yX12_goes : MethodName := ⟨RX12, "goes", "(I)I"⟩
abbrev cX12_outOf : ByteArray := prog_14_method_58_code
def yX12_outOf : MethodName := ⟨RX12, "outOf", "()I"⟩
abbrev cX12_out : ByteArray := prog_14_method_59_code
def yX12_out : MethodName := ⟨RX12, "out", "()I"⟩
abbrev cX12_tried : ByteArray := prog_14_method_60_code
def yX12_tried : MethodName := ⟨RX12, "tried", "(II)I"⟩
abbrev cX12_forAny : ByteArray := prog_14_method_61_code
def yX12_forAny : MethodName := ⟨RX12, "forAny", "(II)I"⟩
abbrev cX12_laysRanks : ByteArray := prog_14_method_62_code
def yX12_laysRanks : MethodName := ⟨RX12, "laysRanks", "()V"⟩
abbrev cX12_goTogether : ByteArray := prog_14_method_63_code
def yX12_goTogether : MethodName := ⟨RX12, "goTogether", "(IZ)Z"⟩
abbrev cX12_runs : ByteArray := prog_14_method_64_code
def yX12_runs : MethodName := ⟨RX12, "runs", "(I)I"⟩
abbrev cX12_readsWay : ByteArray := prog_14_method_65_code
def yX12_readsWay : MethodName := ⟨RX12, "readsWay", "(II)Z"⟩
abbrev cX12_plansBy : ByteArray := prog_14_method_66_code
def yX12_plansBy : MethodName := ⟨RX12, "plansBy", "(I)Z"⟩
abbrev cX12_laysPlan : ByteArray := prog_14_method_67_code
def yX12_laysPlan : MethodName := ⟨RX12, "laysPlan", "()V"⟩
abbrev cX12_plan : ByteArray := prog_14_method_68_code
def yX12_plan : MethodName := ⟨RX12, "plan", "()I"⟩
abbrev cX12_rankNumber : ByteArray := prog_14_method_69_code
def yX12_rankNumber : MethodName := ⟨RX12, "rankNumber", "(I)I"⟩
abbrev cX12_planned : ByteArray := prog_14_method_70_code
def yX12_planned : MethodName := ⟨RX12, "planned", "(II)I"⟩
abbrev cX12_planDone : ByteArray := prog_14_method_71_code
def yX12_planDone : MethodName := ⟨RX12, "planDone", "()I"⟩
abbrev cX12_at3 : ByteArray := prog_14_method_72_code
def yX12_at3 : MethodName := ⟨RX12, "at3", "(III)I"⟩
abbrev cX12_laysStreets : ByteArray := prog_14_method_73_code
def yX12_laysStreets : MethodName := ⟨RX12, "laysStreets", "()V"⟩
abbrev cX12_lettersIn : ByteArray := prog_14_method_74_code
def yX12_lettersIn : MethodName := ⟨RX12, "lettersIn", "(II)I"⟩
abbrev cX12_isSingle : ByteArray := prog_14_method_75_code
def yX12_isSingle : MethodName := ⟨RX12, "isSingle", "(II)Z"⟩
abbrev cX12_sum : ByteArray := prog_14_method_76_code
def yX12_sum : MethodName := ⟨RX12, "sum", "(II)I"⟩
abbrev cX12_laysCover : ByteArray := prog_14_method_77_code
def yX12_laysCover : MethodName := ⟨RX12, "laysCover", "(II)V"⟩
abbrev cX12_laysTables : ByteArray := prog_14_method_78_code
def yX12_laysTables : MethodName := ⟨RX12, "laysTables", "(I)V"⟩
abbrev cX12_areTables : ByteArray := prog_14_method_79_code
def yX12_areTables : MethodName := ⟨RX12, "areTables", "(III)Z"⟩
abbrev cX12_tables : ByteArray := prog_14_method_80_code
def yX12_tables : MethodName := ⟨RX12, "tables", "(III)I"⟩
abbrev cX12_table : ByteArray := prog_14_method_81_code
def yX12_table : MethodName := ⟨RX12, "table", "(IIII)I"⟩
abbrev cX12_longestRow : ByteArray := prog_14_method_82_code
def yX12_longestRow : MethodName := ⟨RX12, "longestRow", "(Z)I"⟩
abbrev cX12_yardQueues : ByteArray := prog_14_method_83_code
def yX12_yardQueues : MethodName := ⟨RX12, "yardQueues", "()I"⟩
abbrev cX12_yardPipes : ByteArray := prog_14_method_84_code
def yX12_yardPipes : MethodName := ⟨RX12, "yardPipes", "()I"⟩
abbrev cX12_mayGo : ByteArray := prog_14_method_85_code
def yX12_mayGo : MethodName := ⟨RX12, "mayGo", "(III)Z"⟩
abbrev cX12_nextHole : ByteArray := prog_14_method_86_code
def yX12_nextHole : MethodName := ⟨RX12, "nextHole", "(II)I"⟩
abbrev cX12_canYard : ByteArray := prog_14_method_87_code
def yX12_canYard : MethodName := ⟨RX12, "canYard", "(I)Z"⟩
abbrev cX12_yard : ByteArray := prog_14_method_88_code
def yX12_yard : MethodName := ⟨RX12, "yard", "(II)I"⟩
abbrev cX12_laysTogether : ByteArray := prog_14_method_89_code
def yX12_laysTogether : MethodName := ⟨RX12, "laysTogether", "()Z"⟩
abbrev cX12_rowBy : ByteArray := prog_14_method_90_code
def yX12_rowBy : MethodName := ⟨RX12, "rowBy", "(II)I"⟩
abbrev cX12_rowsBy : ByteArray := prog_14_method_91_code
def yX12_rowsBy : MethodName := ⟨RX12, "rowsBy", "(III)I"⟩
abbrev cX12_laysBreaks : ByteArray := prog_14_method_92_code
def yX12_laysBreaks : MethodName := ⟨RX12, "laysBreaks", "()V"⟩
abbrev cX12_together : ByteArray := prog_14_method_93_code
def yX12_together : MethodName := ⟨RX12, "together", "(I)I"⟩
abbrev cX12_laysAsItIs : ByteArray := prog_14_method_94_code
def yX12_laysAsItIs : MethodName := ⟨RX12, "laysAsItIs", "(I)V"⟩
abbrev cX12_goesWrong : ByteArray := prog_14_method_95_code
def yX12_goesWrong : MethodName := ⟨RX12, "goesWrong", "(IIII)Z"⟩
abbrev cX12_placeIn : ByteArray := prog_14_method_96_code
def yX12_placeIn : MethodName := ⟨RX12, "placeIn", "([III)I"⟩
abbrev cX12_othersElsewhere : ByteArray := prog_14_method_97_code
def yX12_othersElsewhere : MethodName := ⟨RX12, "othersElsewhere", "(I)I"⟩
abbrev cX12_blunder : ByteArray := prog_14_method_98_code
def yX12_blunder : MethodName := ⟨RX12, "blunder", "(IIIII)I"⟩
abbrev cX12_isAsTold : ByteArray := prog_14_method_99_code
def yX12_isAsTold : MethodName := ⟨RX12, "isAsTold", "([I)Z"⟩
abbrev cX12_badly : ByteArray := prog_14_method_100_code
def yX12_badly : MethodName := ⟨RX12, "badly", "(II)I"⟩
abbrev cX12_clerks : ByteArray := prog_14_method_101_code
def yX12_clerks : MethodName := ⟨RX12, "clerks", "(I)I"⟩
abbrev cX12_wanted : ByteArray := prog_14_method_102_code
def yX12_wanted : MethodName := ⟨RX12, "wanted", "(I)I"⟩
abbrev cX12_seed : ByteArray := prog_14_method_103_code
def yX12_seed : MethodName := ⟨RX12, "seed", "(I)Z"⟩
abbrev cX12_shuffle : ByteArray := prog_14_method_104_code
def yX12_shuffle : MethodName := ⟨RX12, "shuffle", "()I"⟩
abbrev cX12_keep : ByteArray := prog_14_method_105_code
def yX12_keep : MethodName := ⟨RX12, "keep", "()I"⟩
abbrev cX12_undo : ByteArray := prog_14_method_106_code
def yX12_undo : MethodName := ⟨RX12, "undo", "()Z"⟩
abbrev cX12_tapeNumber : ByteArray := prog_14_method_107_code
def yX12_tapeNumber : MethodName := ⟨RX12, "tapeNumber", "(I)I"⟩
abbrev cX12_check : ByteArray := prog_14_method_108_code
def yX12_check : MethodName := ⟨RX12, "check", "(I)I"⟩
abbrev cX12_streetBits : ByteArray := prog_14_method_109_code
def yX12_streetBits : MethodName := ⟨RX12, "streetBits", "()I"⟩
abbrev cX12_weightAll : ByteArray := prog_14_method_110_code
def yX12_weightAll : MethodName := ⟨RX12, "weightAll", "()I"⟩
abbrev cX12_count : ByteArray := prog_14_method_111_code
def yX12_count : MethodName := ⟨RX12, "count", "(I)I"⟩
def RJx145de : String := "java/io/Serializable"
def RJx9f9b0 : String := "java/lang/CharSequence"
def RJ11 : String := "java/lang/Character"
abbrev cJ11_isValidCodePoint_9a6ad : ByteArray := prog_15_method_11_code
def yJ11_isValidCodePoint_9a6ad : MethodName := ⟨RJ11, "isValidCodePoint", "(I)Z"⟩
abbrev cJ11_highSurrogate_5068e : ByteArray := prog_15_method_28_code
def yJ11_highSurrogate_5068e : MethodName := ⟨RJ11, "highSurrogate", "(I)C"⟩
abbrev cJ11_lowSurrogate_5068e : ByteArray := prog_15_method_29_code
def yJ11_lowSurrogate_5068e : MethodName := ⟨RJ11, "lowSurrogate", "(I)C"⟩
def RJxb160c : String := "java/lang/Comparable"
def RJ9 : String := "java/lang/Math"
abbrev cJ9_abs_0f7a4 : ByteArray := prog_16_method_59_code
def yJ9_abs_0f7a4 : MethodName := ⟨RJ9, "abs", "(I)I"⟩
abbrev cJ9_max_7cf53 : ByteArray := prog_16_method_65_code
def yJ9_max_7cf53 : MethodName := ⟨RJ9, "max", "(II)I"⟩
abbrev cJ9_min_7cf53 : ByteArray := prog_16_method_69_code
def yJ9_min_7cf53 : MethodName := ⟨RJ9, "min", "(II)I"⟩
def RJ0 : String := "java/lang/String"
abbrev cJ0_length_8abf5 : ByteArray := prog_17_method_54_code
def yJ0_length_8abf5 : MethodName := ⟨RJ0, "length", "()I"⟩
abbrev cJ0_indexOf_0f7a4 : ByteArray := prog_17_method_79_code
def yJ0_indexOf_0f7a4 : MethodName := ⟨RJ0, "indexOf", "(I)I"⟩
abbrev cJ0_indexOf_7cf53 : ByteArray := prog_17_method_80_code
def yJ0_indexOf_7cf53 : MethodName := ⟨RJ0, "indexOf", "(II)I"⟩
abbrev cJ0_coder_7d493 : ByteArray := prog_17_method_152_code
def yJ0_coder_7d493 : MethodName := ⟨RJ0, "coder", "()B"⟩
abbrev cJ0_isLatin1_aae02 : ByteArray := prog_17_method_154_code
def yJ0_isLatin1_aae02 : MethodName := ⟨RJ0, "isLatin1", "()Z"⟩
abbrev cJ0_checkBoundsBeginEnd_23922 : ByteArray := prog_17_method_158_code
def yJ0_checkBoundsBeginEnd_23922 : MethodName := ⟨RJ0, "checkBoundsBeginEnd", "(III)V"⟩
def RJ1 : String := "java/lang/StringLatin1"
abbrev cJ1_canEncode_9a6ad : ByteArray := prog_18_method_4_code
def yJ1_canEncode_9a6ad : MethodName := ⟨RJ1, "canEncode", "(I)Z"⟩
abbrev cJ1_indexOf_4cfef : ByteArray := prog_18_method_22_code
def yJ1_indexOf_4cfef : MethodName := ⟨RJ1, "indexOf", "([BIII)I"⟩
abbrev cJ1_indexOfChar_4cfef : ByteArray := prog_18_method_23_code
def yJ1_indexOfChar_4cfef : MethodName := ⟨RJ1, "indexOfChar", "([BIII)I"⟩
def RJ2 : String := "java/lang/StringUTF16"
abbrev cJ2_getChar_3b067 : ByteArray := prog_19_method_5_code
def yJ2_getChar_3b067 : MethodName := ⟨RJ2, "getChar", "([BI)C"⟩
abbrev cJ2_length_9d52b : ByteArray := prog_19_method_6_code
def yJ2_length_9d52b : MethodName := ⟨RJ2, "length", "([B)I"⟩
abbrev cJ2_indexOf_4cfef : ByteArray := prog_19_method_40_code
def yJ2_indexOf_4cfef : MethodName := ⟨RJ2, "indexOf", "([BIII)I"⟩
abbrev cJ2_indexOfChar_4cfef : ByteArray := prog_19_method_47_code
def yJ2_indexOfChar_4cfef : MethodName := ⟨RJ2, "indexOfChar", "([BIII)I"⟩
abbrev cJ2_indexOfCharUnsafe_4cfef : ByteArray := prog_19_method_48_code
def yJ2_indexOfCharUnsafe_4cfef : MethodName := ⟨RJ2, "indexOfCharUnsafe", "([BIII)I"⟩
abbrev cJ2_indexOfSupplementary_4cfef : ByteArray := prog_19_method_49_code
def yJ2_indexOfSupplementary_4cfef : MethodName := ⟨RJ2, "indexOfSupplementary", "([BIII)I"⟩
abbrev cJ2_checkBoundsBeginEnd_d044e : ByteArray := prog_19_method_93_code
def yJ2_checkBoundsBeginEnd_d044e : MethodName := ⟨RJ2, "checkBoundsBeginEnd", "(II[B)V"⟩
def RJ10 : String := "java/lang/System"
def RJxfd54e : String := "java/lang/constant/Constable"
def RJx3cf43 : String := "java/lang/constant/ConstantDesc"
def RJ7 : String := "java/util/Arrays"
abbrev cJ7_fill_d0a16 : ByteArray := prog_21_method_101_code
def yJ7_fill_d0a16 : MethodName := ⟨RJ7, "fill", "([JJ)V"⟩
abbrev cJ7_fill_53178 : ByteArray := prog_21_method_103_code
def yJ7_fill_53178 : MethodName := ⟨RJ7, "fill", "([II)V"⟩
def RJ3 : String := "jdk/internal/util/Preconditions"
abbrev cJ3_checkFromToIndex_8c36e : ByteArray := prog_22_method_12_code
def yJ3_checkFromToIndex_8c36e : MethodName := ⟨RJ3, "checkFromToIndex", "(IIILjava/util/function/BiFunction;)I"⟩
def RL : String := "NineHolesLaw"
abbrev cL_law : ByteArray := code
def yL_law : MethodName := ⟨RL, "law", "([I)Z"⟩
abbrev vwCl : List vw_C := [(RX0, TX0, 10), (RX1, TX1, 10), (RX2, TX2, 5), (RX3, TX3, 4), (RX4, TX4, 4), (RX5, TX5, 6), (RX6, TX6, 8), (RX7, TX7, 9), (RX8, TX8, 6), (RX9, TX9, 2), (RX10, TX10, 4), (RX11, TX11, 16), (RX12, TX12, 77)]
