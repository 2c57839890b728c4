section
/-- a private method of a class that the tables say can be made, by its rows of tables_1 -/
def lw_okq (q : MethodName × Nat) : Prop := (q.1.cls ≠ "java/lang/invoke/MethodHandle" ∧ q.1.cls ≠ "java/lang/invoke/VarHandle") ∧ Cond.instantiable q.1.cls q.2 ∈ tables_1 ∧ Cond.privateMethod q.1 ∈ tables_1 ∧ Cond.instanceMethod q.1 ∈ tables_1
theorem lw_p0 : lw_okq (⟨"GriefEngine", "refuse", "(I)I"⟩, 11) := ⟨⟨by decide +kernel, by decide +kernel⟩, List.mem_of_getElem? (i := 20) (by decide +kernel), List.mem_of_getElem? (i := 273) (by decide +kernel), List.mem_of_getElem? (i := 274) (by decide +kernel)⟩
theorem lw_p1 : lw_okq (⟨"GriefEngine", "refuseIfFull", "(I)I"⟩, 11) := ⟨⟨by decide +kernel, by decide +kernel⟩, List.mem_of_getElem? (i := 20) (by decide +kernel), List.mem_of_getElem? (i := 285) (by decide +kernel), List.mem_of_getElem? (i := 286) (by decide +kernel)⟩
theorem lw_p2 : lw_okq (⟨"GriefEngine$Text", "advance", "()V"⟩, 10) := ⟨⟨by decide +kernel, by decide +kernel⟩, List.mem_of_getElem? (i := 132) (by decide +kernel), List.mem_of_getElem? (i := 309) (by decide +kernel), List.mem_of_getElem? (i := 310) (by decide +kernel)⟩
theorem lw_p3 : lw_okq (⟨"GriefEngine$Text", "runEnd", "(ICC)I"⟩, 10) := ⟨⟨by decide +kernel, by decide +kernel⟩, List.mem_of_getElem? (i := 132) (by decide +kernel), List.mem_of_getElem? (i := 313) (by decide +kernel), List.mem_of_getElem? (i := 314) (by decide +kernel)⟩
theorem lw_p4 : lw_okq (⟨"GriefEngine$Text", "isBetween", "(ICC)Z"⟩, 10) := ⟨⟨by decide +kernel, by decide +kernel⟩, List.mem_of_getElem? (i := 132) (by decide +kernel), List.mem_of_getElem? (i := 317) (by decide +kernel), List.mem_of_getElem? (i := 318) (by decide +kernel)⟩
theorem lw_p5 : lw_okq (⟨"GriefEngine$Text", "valueOfRun", "()I"⟩, 10) := ⟨⟨by decide +kernel, by decide +kernel⟩, List.mem_of_getElem? (i := 132) (by decide +kernel), List.mem_of_getElem? (i := 321) (by decide +kernel), List.mem_of_getElem? (i := 322) (by decide +kernel)⟩
theorem lw_p6 : lw_okq (⟨"GriefEngine$Text", "isWord", "(Ljava/lang/String;)Z"⟩, 10) := ⟨⟨by decide +kernel, by decide +kernel⟩, List.mem_of_getElem? (i := 132) (by decide +kernel), List.mem_of_getElem? (i := 326) (by decide +kernel), List.mem_of_getElem? (i := 327) (by decide +kernel)⟩
theorem lw_p7 : lw_okq (⟨"GriefEngine$Text", "takesStop", "()Z"⟩, 10) := ⟨⟨by decide +kernel, by decide +kernel⟩, List.mem_of_getElem? (i := 132) (by decide +kernel), List.mem_of_getElem? (i := 378) (by decide +kernel), List.mem_of_getElem? (i := 379) (by decide +kernel)⟩
theorem lw_p8 : lw_okq (⟨"GriefEngine$Text", "takesNumber", "(II)Z"⟩, 10) := ⟨⟨by decide +kernel, by decide +kernel⟩, List.mem_of_getElem? (i := 132) (by decide +kernel), List.mem_of_getElem? (i := 389) (by decide +kernel), List.mem_of_getElem? (i := 390) (by decide +kernel)⟩
theorem lw_p9 : lw_okq (⟨"GriefEngine$Rows", "reckonBefore", "()V"⟩, 6) := ⟨⟨by decide +kernel, by decide +kernel⟩, List.mem_of_getElem? (i := 177) (by decide +kernel), List.mem_of_getElem? (i := 560) (by decide +kernel), List.mem_of_getElem? (i := 561) (by decide +kernel)⟩
theorem lw_p10 : lw_okq (⟨"GriefEngine$Rows", "spread", "(II)V"⟩, 6) := ⟨⟨by decide +kernel, by decide +kernel⟩, List.mem_of_getElem? (i := 177) (by decide +kernel), List.mem_of_getElem? (i := 564) (by decide +kernel), List.mem_of_getElem? (i := 565) (by decide +kernel)⟩
theorem lw_p11 : lw_okq (⟨"GriefEngine$Rows", "reckonAfter", "()V"⟩, 6) := ⟨⟨by decide +kernel, by decide +kernel⟩, List.mem_of_getElem? (i := 177) (by decide +kernel), List.mem_of_getElem? (i := 571) (by decide +kernel), List.mem_of_getElem? (i := 572) (by decide +kernel)⟩
theorem lw_p12 : lw_okq (⟨"GriefEngine$Rows", "milesBy", "(III)I"⟩, 6) := ⟨⟨by decide +kernel, by decide +kernel⟩, List.mem_of_getElem? (i := 177) (by decide +kernel), List.mem_of_getElem? (i := 575) (by decide +kernel), List.mem_of_getElem? (i := 576) (by decide +kernel)⟩
theorem lw_p13 : lw_okq (⟨"GriefEngine$Rows", "firstBestChoice", "(II)I"⟩, 6) := ⟨⟨by decide +kernel, by decide +kernel⟩, List.mem_of_getElem? (i := 177) (by decide +kernel), List.mem_of_getElem? (i := 587) (by decide +kernel), List.mem_of_getElem? (i := 588) (by decide +kernel)⟩
theorem lw_p14 : lw_okq (⟨"GriefEngine$Rows", "farthestTurnAt", "(I)I"⟩, 6) := ⟨⟨by decide +kernel, by decide +kernel⟩, List.mem_of_getElem? (i := 177) (by decide +kernel), List.mem_of_getElem? (i := 607) (by decide +kernel), List.mem_of_getElem? (i := 608) (by decide +kernel)⟩
theorem lw_p15 : lw_okq (⟨"GriefEngine$Pairs", "keepIfBetter", "(I)V"⟩, 3) := ⟨⟨by decide +kernel, by decide +kernel⟩, List.mem_of_getElem? (i := 206) (by decide +kernel), List.mem_of_getElem? (i := 626) (by decide +kernel), List.mem_of_getElem? (i := 627) (by decide +kernel)⟩
def lw_privs_1 : List (MethodName × Nat) := [(⟨"GriefEngine", "refuse", "(I)I"⟩, 11), (⟨"GriefEngine", "refuseIfFull", "(I)I"⟩, 11), (⟨"GriefEngine$Text", "advance", "()V"⟩, 10), (⟨"GriefEngine$Text", "runEnd", "(ICC)I"⟩, 10), (⟨"GriefEngine$Text", "isBetween", "(ICC)Z"⟩, 10), (⟨"GriefEngine$Text", "valueOfRun", "()I"⟩, 10), (⟨"GriefEngine$Text", "isWord", "(Ljava/lang/String;)Z"⟩, 10), (⟨"GriefEngine$Text", "takesStop", "()Z"⟩, 10), (⟨"GriefEngine$Text", "takesNumber", "(II)Z"⟩, 10), (⟨"GriefEngine$Rows", "reckonBefore", "()V"⟩, 6), (⟨"GriefEngine$Rows", "spread", "(II)V"⟩, 6), (⟨"GriefEngine$Rows", "reckonAfter", "()V"⟩, 6), (⟨"GriefEngine$Rows", "milesBy", "(III)I"⟩, 6), (⟨"GriefEngine$Rows", "firstBestChoice", "(II)I"⟩, 6), (⟨"GriefEngine$Rows", "farthestTurnAt", "(I)I"⟩, 6), (⟨"GriefEngine$Pairs", "keepIfBetter", "(I)V"⟩, 3)]
theorem lw_r1 : ∀ q ∈ lw_privs_1, lw_okq q := List.forall_mem_cons.mpr ⟨lw_p0, List.forall_mem_cons.mpr ⟨lw_p1, List.forall_mem_cons.mpr ⟨lw_p2, List.forall_mem_cons.mpr ⟨lw_p3, List.forall_mem_cons.mpr ⟨lw_p4, List.forall_mem_cons.mpr ⟨lw_p5, List.forall_mem_cons.mpr ⟨lw_p6, List.forall_mem_cons.mpr ⟨lw_p7, List.forall_mem_cons.mpr ⟨lw_p8, List.forall_mem_cons.mpr ⟨lw_p9, List.forall_mem_cons.mpr ⟨lw_p10, List.forall_mem_cons.mpr ⟨lw_p11, List.forall_mem_cons.mpr ⟨lw_p12, List.forall_mem_cons.mpr ⟨lw_p13, List.forall_mem_cons.mpr ⟨lw_p14, List.forall_mem_cons.mpr ⟨lw_p15, fun _ h => absurd h List.not_mem_nil⟩⟩⟩⟩⟩⟩⟩⟩⟩⟩⟩⟩⟩⟩⟩⟩
theorem lw_p16 : lw_okq (⟨"GriefEngine", "kindsThatFit", "(I)I"⟩, 11) := ⟨⟨by decide +kernel, by decide +kernel⟩, List.mem_of_getElem? (i := 20) (by decide +kernel), List.mem_of_getElem? (i := 659) (by decide +kernel), List.mem_of_getElem? (i := 660) (by decide +kernel)⟩
theorem lw_p17 : lw_okq (⟨"GriefEngine", "bestMorning", "(II)I"⟩, 11) := ⟨⟨by decide +kernel, by decide +kernel⟩, List.mem_of_getElem? (i := 20) (by decide +kernel), List.mem_of_getElem? (i := 671) (by decide +kernel), List.mem_of_getElem? (i := 672) (by decide +kernel)⟩
theorem lw_p18 : lw_okq (⟨"GriefEngine", "mostAlike", "(IIII)I"⟩, 11) := ⟨⟨by decide +kernel, by decide +kernel⟩, List.mem_of_getElem? (i := 20) (by decide +kernel), List.mem_of_getElem? (i := 675) (by decide +kernel), List.mem_of_getElem? (i := 676) (by decide +kernel)⟩
theorem lw_p19 : lw_okq (⟨"GriefEngine", "isContent", "(IZZ)Z"⟩, 11) := ⟨⟨by decide +kernel, by decide +kernel⟩, List.mem_of_getElem? (i := 20) (by decide +kernel), List.mem_of_getElem? (i := 705) (by decide +kernel), List.mem_of_getElem? (i := 706) (by decide +kernel)⟩
theorem lw_p20 : lw_okq (⟨"GriefEngine", "worthToday", "(IZZ)I"⟩, 11) := ⟨⟨by decide +kernel, by decide +kernel⟩, List.mem_of_getElem? (i := 20) (by decide +kernel), List.mem_of_getElem? (i := 709) (by decide +kernel), List.mem_of_getElem? (i := 710) (by decide +kernel)⟩
theorem lw_p21 : lw_okq (⟨"GriefEngine", "setFraction", "(JJ)V"⟩, 11) := ⟨⟨by decide +kernel, by decide +kernel⟩, List.mem_of_getElem? (i := 20) (by decide +kernel), List.mem_of_getElem? (i := 724) (by decide +kernel), List.mem_of_getElem? (i := 725) (by decide +kernel)⟩
theorem lw_p22 : lw_okq (⟨"GriefEngineModel", "many", "()I"⟩, 20) := ⟨⟨by decide +kernel, by decide +kernel⟩, List.mem_of_getElem? (i := 773) (by decide +kernel), List.mem_of_getElem? (i := 847) (by decide +kernel), List.mem_of_getElem? (i := 848) (by decide +kernel)⟩
theorem lw_p23 : lw_okq (⟨"GriefEngineModel", "bad", "(I)I"⟩, 20) := ⟨⟨by decide +kernel, by decide +kernel⟩, List.mem_of_getElem? (i := 773) (by decide +kernel), List.mem_of_getElem? (i := 860) (by decide +kernel), List.mem_of_getElem? (i := 861) (by decide +kernel)⟩
theorem lw_p24 : lw_okq (⟨"GriefEngineModel", "full", "()I"⟩, 20) := ⟨⟨by decide +kernel, by decide +kernel⟩, List.mem_of_getElem? (i := 773) (by decide +kernel), List.mem_of_getElem? (i := 864) (by decide +kernel), List.mem_of_getElem? (i := 865) (by decide +kernel)⟩
theorem lw_p25 : lw_okq (⟨"GriefEngineModel", "keep", "()V"⟩, 20) := ⟨⟨by decide +kernel, by decide +kernel⟩, List.mem_of_getElem? (i := 773) (by decide +kernel), List.mem_of_getElem? (i := 879) (by decide +kernel), List.mem_of_getElem? (i := 880) (by decide +kernel)⟩
theorem lw_p26 : lw_okq (⟨"GriefEngineModel", "passDay", "([III)I"⟩, 20) := ⟨⟨by decide +kernel, by decide +kernel⟩, List.mem_of_getElem? (i := 773) (by decide +kernel), List.mem_of_getElem? (i := 883) (by decide +kernel), List.mem_of_getElem? (i := 884) (by decide +kernel)⟩
theorem lw_p27 : lw_okq (⟨"GriefEngineModel", "goDay", "(III)V"⟩, 20) := ⟨⟨by decide +kernel, by decide +kernel⟩, List.mem_of_getElem? (i := 773) (by decide +kernel), List.mem_of_getElem? (i := 887) (by decide +kernel), List.mem_of_getElem? (i := 888) (by decide +kernel)⟩
theorem lw_p28 : lw_okq (⟨"GriefEngineModel", "isDriver", "(I)Z"⟩, 20) := ⟨⟨by decide +kernel, by decide +kernel⟩, List.mem_of_getElem? (i := 773) (by decide +kernel), List.mem_of_getElem? (i := 913) (by decide +kernel), List.mem_of_getElem? (i := 914) (by decide +kernel)⟩
theorem lw_p29 : lw_okq (⟨"GriefEngineModel", "no", "()I"⟩, 20) := ⟨⟨by decide +kernel, by decide +kernel⟩, List.mem_of_getElem? (i := 773) (by decide +kernel), List.mem_of_getElem? (i := 921) (by decide +kernel), List.mem_of_getElem? (i := 922) (by decide +kernel)⟩
theorem lw_p30 : lw_okq (⟨"GriefEngineModel", "kindOf", "(I)I"⟩, 20) := ⟨⟨by decide +kernel, by decide +kernel⟩, List.mem_of_getElem? (i := 773) (by decide +kernel), List.mem_of_getElem? (i := 934) (by decide +kernel), List.mem_of_getElem? (i := 935) (by decide +kernel)⟩
theorem lw_p31 : lw_okq (⟨"GriefEngineModel", "layOne", "(I)V"⟩, 20) := ⟨⟨by decide +kernel, by decide +kernel⟩, List.mem_of_getElem? (i := 773) (by decide +kernel), List.mem_of_getElem? (i := 942) (by decide +kernel), List.mem_of_getElem? (i := 943) (by decide +kernel)⟩
def lw_privs_2 : List (MethodName × Nat) := [(⟨"GriefEngine", "kindsThatFit", "(I)I"⟩, 11), (⟨"GriefEngine", "bestMorning", "(II)I"⟩, 11), (⟨"GriefEngine", "mostAlike", "(IIII)I"⟩, 11), (⟨"GriefEngine", "isContent", "(IZZ)Z"⟩, 11), (⟨"GriefEngine", "worthToday", "(IZZ)I"⟩, 11), (⟨"GriefEngine", "setFraction", "(JJ)V"⟩, 11), (⟨"GriefEngineModel", "many", "()I"⟩, 20), (⟨"GriefEngineModel", "bad", "(I)I"⟩, 20), (⟨"GriefEngineModel", "full", "()I"⟩, 20), (⟨"GriefEngineModel", "keep", "()V"⟩, 20), (⟨"GriefEngineModel", "passDay", "([III)I"⟩, 20), (⟨"GriefEngineModel", "goDay", "(III)V"⟩, 20), (⟨"GriefEngineModel", "isDriver", "(I)Z"⟩, 20), (⟨"GriefEngineModel", "no", "()I"⟩, 20), (⟨"GriefEngineModel", "kindOf", "(I)I"⟩, 20), (⟨"GriefEngineModel", "layOne", "(I)V"⟩, 20)]
theorem lw_r2 : ∀ q ∈ lw_privs_2, lw_okq q := List.forall_mem_cons.mpr ⟨lw_p16, List.forall_mem_cons.mpr ⟨lw_p17, List.forall_mem_cons.mpr ⟨lw_p18, List.forall_mem_cons.mpr ⟨lw_p19, List.forall_mem_cons.mpr ⟨lw_p20, List.forall_mem_cons.mpr ⟨lw_p21, List.forall_mem_cons.mpr ⟨lw_p22, List.forall_mem_cons.mpr ⟨lw_p23, List.forall_mem_cons.mpr ⟨lw_p24, List.forall_mem_cons.mpr ⟨lw_p25, List.forall_mem_cons.mpr ⟨lw_p26, List.forall_mem_cons.mpr ⟨lw_p27, List.forall_mem_cons.mpr ⟨lw_p28, List.forall_mem_cons.mpr ⟨lw_p29, List.forall_mem_cons.mpr ⟨lw_p30, List.forall_mem_cons.mpr ⟨lw_p31, fun _ h => absurd h List.not_mem_nil⟩⟩⟩⟩⟩⟩⟩⟩⟩⟩⟩⟩⟩⟩⟩⟩
theorem lw_p32 : lw_okq (⟨"GriefEngineModel", "mostIn", "(II)I"⟩, 20) := ⟨⟨by decide +kernel, by decide +kernel⟩, List.mem_of_getElem? (i := 773) (by decide +kernel), List.mem_of_getElem? (i := 955) (by decide +kernel), List.mem_of_getElem? (i := 956) (by decide +kernel)⟩
theorem lw_p33 : lw_okq (⟨"GriefEngineModel", "milesBy", "(IIIII)I"⟩, 20) := ⟨⟨by decide +kernel, by decide +kernel⟩, List.mem_of_getElem? (i := 773) (by decide +kernel), List.mem_of_getElem? (i := 962) (by decide +kernel), List.mem_of_getElem? (i := 963) (by decide +kernel)⟩
theorem lw_p34 : lw_okq (⟨"GriefEngineModel", "pairsBy", "(II)I"⟩, 20) := ⟨⟨by decide +kernel, by decide +kernel⟩, List.mem_of_getElem? (i := 773) (by decide +kernel), List.mem_of_getElem? (i := 979) (by decide +kernel), List.mem_of_getElem? (i := 980) (by decide +kernel)⟩
theorem lw_p35 : lw_okq (⟨"GriefEngineModel", "worthOf", "(II)I"⟩, 20) := ⟨⟨by decide +kernel, by decide +kernel⟩, List.mem_of_getElem? (i := 773) (by decide +kernel), List.mem_of_getElem? (i := 983) (by decide +kernel), List.mem_of_getElem? (i := 984) (by decide +kernel)⟩
theorem lw_p36 : lw_okq (⟨"GriefEngineModel", "kindsOf", "(I)I"⟩, 20) := ⟨⟨by decide +kernel, by decide +kernel⟩, List.mem_of_getElem? (i := 773) (by decide +kernel), List.mem_of_getElem? (i := 1007) (by decide +kernel), List.mem_of_getElem? (i := 1008) (by decide +kernel)⟩
theorem lw_p37 : lw_okq (⟨"GriefEngineModel", "fits", "(II)Z"⟩, 20) := ⟨⟨by decide +kernel, by decide +kernel⟩, List.mem_of_getElem? (i := 773) (by decide +kernel), List.mem_of_getElem? (i := 1026) (by decide +kernel), List.mem_of_getElem? (i := 1027) (by decide +kernel)⟩
theorem lw_p38 : lw_okq (⟨"GriefEngineModel", "getsBy", "(IZZ)I"⟩, 20) := ⟨⟨by decide +kernel, by decide +kernel⟩, List.mem_of_getElem? (i := 773) (by decide +kernel), List.mem_of_getElem? (i := 1034) (by decide +kernel), List.mem_of_getElem? (i := 1035) (by decide +kernel)⟩
theorem lw_p39 : lw_okq (⟨"GriefEngineModel", "fraction", "(JJ)V"⟩, 20) := ⟨⟨by decide +kernel, by decide +kernel⟩, List.mem_of_getElem? (i := 773) (by decide +kernel), List.mem_of_getElem? (i := 1044) (by decide +kernel), List.mem_of_getElem? (i := 1045) (by decide +kernel)⟩
theorem lw_p40 : lw_okq (⟨"GriefEngineModel", "lookAt", "(I)V"⟩, 20) := ⟨⟨by decide +kernel, by decide +kernel⟩, List.mem_of_getElem? (i := 773) (by decide +kernel), List.mem_of_getElem? (i := 1071) (by decide +kernel), List.mem_of_getElem? (i := 1072) (by decide +kernel)⟩
theorem lw_p41 : lw_okq (⟨"GriefEngineModel", "spells", "(IIIIIII)Z"⟩, 20) := ⟨⟨by decide +kernel, by decide +kernel⟩, List.mem_of_getElem? (i := 773) (by decide +kernel), List.mem_of_getElem? (i := 1085) (by decide +kernel), List.mem_of_getElem? (i := 1086) (by decide +kernel)⟩
theorem lw_p42 : lw_okq (⟨"GriefEngineModel", "goBehind", "()V"⟩, 20) := ⟨⟨by decide +kernel, by decide +kernel⟩, List.mem_of_getElem? (i := 773) (by decide +kernel), List.mem_of_getElem? (i := 1089) (by decide +kernel), List.mem_of_getElem? (i := 1090) (by decide +kernel)⟩
theorem lw_p43 : lw_okq (⟨"GriefEngineModel", "takesItem", "()Z"⟩, 20) := ⟨⟨by decide +kernel, by decide +kernel⟩, List.mem_of_getElem? (i := 773) (by decide +kernel), List.mem_of_getElem? (i := 1093) (by decide +kernel), List.mem_of_getElem? (i := 1094) (by decide +kernel)⟩
theorem lw_p44 : lw_okq (⟨"GriefEngineModel", "takesDriver", "()Z"⟩, 20) := ⟨⟨by decide +kernel, by decide +kernel⟩, List.mem_of_getElem? (i := 773) (by decide +kernel), List.mem_of_getElem? (i := 1097) (by decide +kernel), List.mem_of_getElem? (i := 1098) (by decide +kernel)⟩
theorem lw_p45 : lw_okq (⟨"GriefEngineModel", "takes", "(III)Z"⟩, 20) := ⟨⟨by decide +kernel, by decide +kernel⟩, List.mem_of_getElem? (i := 773) (by decide +kernel), List.mem_of_getElem? (i := 1101) (by decide +kernel), List.mem_of_getElem? (i := 1102) (by decide +kernel)⟩
theorem lw_p46 : lw_okq (⟨"GriefEngineModel", "takesDays", "()Z"⟩, 20) := ⟨⟨by decide +kernel, by decide +kernel⟩, List.mem_of_getElem? (i := 773) (by decide +kernel), List.mem_of_getElem? (i := 1105) (by decide +kernel), List.mem_of_getElem? (i := 1106) (by decide +kernel)⟩
theorem lw_p47 : lw_okq (⟨"GriefEngineModel", "counted", "(I)I"⟩, 20) := ⟨⟨by decide +kernel, by decide +kernel⟩, List.mem_of_getElem? (i := 773) (by decide +kernel), List.mem_of_getElem? (i := 1129) (by decide +kernel), List.mem_of_getElem? (i := 1130) (by decide +kernel)⟩
def lw_privs_3 : List (MethodName × Nat) := [(⟨"GriefEngineModel", "mostIn", "(II)I"⟩, 20), (⟨"GriefEngineModel", "milesBy", "(IIIII)I"⟩, 20), (⟨"GriefEngineModel", "pairsBy", "(II)I"⟩, 20), (⟨"GriefEngineModel", "worthOf", "(II)I"⟩, 20), (⟨"GriefEngineModel", "kindsOf", "(I)I"⟩, 20), (⟨"GriefEngineModel", "fits", "(II)Z"⟩, 20), (⟨"GriefEngineModel", "getsBy", "(IZZ)I"⟩, 20), (⟨"GriefEngineModel", "fraction", "(JJ)V"⟩, 20), (⟨"GriefEngineModel", "lookAt", "(I)V"⟩, 20), (⟨"GriefEngineModel", "spells", "(IIIIIII)Z"⟩, 20), (⟨"GriefEngineModel", "goBehind", "()V"⟩, 20), (⟨"GriefEngineModel", "takesItem", "()Z"⟩, 20), (⟨"GriefEngineModel", "takesDriver", "()Z"⟩, 20), (⟨"GriefEngineModel", "takes", "(III)Z"⟩, 20), (⟨"GriefEngineModel", "takesDays", "()Z"⟩, 20), (⟨"GriefEngineModel", "counted", "(I)I"⟩, 20)]
theorem lw_r3 : ∀ q ∈ lw_privs_3, lw_okq q := List.forall_mem_cons.mpr ⟨lw_p32, List.forall_mem_cons.mpr ⟨lw_p33, List.forall_mem_cons.mpr ⟨lw_p34, List.forall_mem_cons.mpr ⟨lw_p35, List.forall_mem_cons.mpr ⟨lw_p36, List.forall_mem_cons.mpr ⟨lw_p37, List.forall_mem_cons.mpr ⟨lw_p38, List.forall_mem_cons.mpr ⟨lw_p39, List.forall_mem_cons.mpr ⟨lw_p40, List.forall_mem_cons.mpr ⟨lw_p41, List.forall_mem_cons.mpr ⟨lw_p42, List.forall_mem_cons.mpr ⟨lw_p43, List.forall_mem_cons.mpr ⟨lw_p44, List.forall_mem_cons.mpr ⟨lw_p45, List.forall_mem_cons.mpr ⟨lw_p46, List.forall_mem_cons.mpr ⟨lw_p47, fun _ h => absurd h List.not_mem_nil⟩⟩⟩⟩⟩⟩⟩⟩⟩⟩⟩⟩⟩⟩⟩⟩
theorem lw_p48 : lw_okq (⟨"GriefEngineModel", "allOf", "(I)I"⟩, 20) := ⟨⟨by decide +kernel, by decide +kernel⟩, List.mem_of_getElem? (i := 773) (by decide +kernel), List.mem_of_getElem? (i := 1133) (by decide +kernel), List.mem_of_getElem? (i := 1134) (by decide +kernel)⟩
theorem lw_p49 : lw_okq (⟨"GriefEngineModel", "sums", "(JII)J"⟩, 20) := ⟨⟨by decide +kernel, by decide +kernel⟩, List.mem_of_getElem? (i := 773) (by decide +kernel), List.mem_of_getElem? (i := 1143) (by decide +kernel), List.mem_of_getElem? (i := 1144) (by decide +kernel)⟩
def lw_privs_4 : List (MethodName × Nat) := [(⟨"GriefEngineModel", "allOf", "(I)I"⟩, 20), (⟨"GriefEngineModel", "sums", "(JII)J"⟩, 20)]
theorem lw_r4 : ∀ q ∈ lw_privs_4, lw_okq q := List.forall_mem_cons.mpr ⟨lw_p48, List.forall_mem_cons.mpr ⟨lw_p49, fun _ h => absurd h List.not_mem_nil⟩⟩
def lw_privs : List (MethodName × Nat) := lw_privs_1 ++ (lw_privs_2 ++ (lw_privs_3 ++ (lw_privs_4)))
def lw_tbl : List Cond := k2_sels lw_privs ++ tables_1
theorem lw_privs_ok : ∀ q ∈ lw_privs, lw_okq q := by
  show ∀ q ∈ lw_privs_1 ++ (lw_privs_2 ++ (lw_privs_3 ++ (lw_privs_4))), lw_okq q
  exact List.forall_mem_append.mpr ⟨lw_r1, List.forall_mem_append.mpr ⟨lw_r2, List.forall_mem_append.mpr ⟨lw_r3, lw_r4⟩⟩⟩
end
section
def RX0 : String := "GriefEngine$Keeper"
def TX0 : u_T := fun k => match k with
  | _ => ("", "", "", false)
def tyX0 : Nat → FieldType := fun k => match k with
  | _ => .int
abbrev wsX00 : List Cond := u_ws RX0 TX0 0
theorem nmX0 : ∀ a, a < 0 → ∀ b, b < 0 → a ≠ b → (TX0 a).2.1 ≠ (TX0 b).2.1 := by decide +kernel
theorem tyX0_ok : ∀ k, k < 0 → parseFieldDescriptor (TX0 k).2.2.1 = some (tyX0 k) := by decide +kernel
abbrev cX0_init : ByteArray := prog_2_method_1_code
def yX0_init : MethodName := ⟨RX0, "<init>", "()V"⟩
abbrev cX0_behindDriving : ByteArray := prog_2_method_2_code
def yX0_behindDriving : MethodName := ⟨RX0, "behindDriving", "(I)I"⟩
def RX1 : String := "GriefEngine$Old"
def TX1 : u_T := fun k => match k with
  | _ => ("", "", "", false)
def tyX1 : Nat → FieldType := fun k => match k with
  | _ => .int
abbrev wsX10 : List Cond := u_ws RX1 TX1 0
theorem nmX1 : ∀ a, a < 0 → ∀ b, b < 0 → a ≠ b → (TX1 a).2.1 ≠ (TX1 b).2.1 := by decide +kernel
theorem tyX1_ok : ∀ k, k < 0 → parseFieldDescriptor (TX1 k).2.2.1 = some (tyX1 k) := by decide +kernel
abbrev cX1_init : ByteArray := prog_3_method_1_code
def yX1_init : MethodName := ⟨RX1, "<init>", "()V"⟩
abbrev cX1_runs : ByteArray := prog_3_method_2_code
def yX1_runs : MethodName := ⟨RX1, "runs", "(II)I"⟩
abbrev cX1_behindResting : ByteArray := prog_3_method_3_code
def yX1_behindResting : MethodName := ⟨RX1, "behindResting", "(I)I"⟩
def RX2 : String := "GriefEngine$Pairs"
def TX2 : u_T := fun k => match k with
  | 0 => ("GriefEngine$Pairs", "best", "[I", true)
  | 1 => ("GriefEngine$Pairs", "bestWorth", "I", false)
  | _ => ("GriefEngine$Pairs", "partner", "[I", true)
def tyX2 : Nat → FieldType := fun k => match k with
  | 0 => .array .int
  | 1 => .int
  | _ => .array .int
abbrev wsX20 : List Cond := u_ws RX2 TX2 3
theorem nmX2 : ∀ a, a < 3 → ∀ b, b < 3 → a ≠ b → (TX2 a).2.1 ≠ (TX2 b).2.1 := by decide +kernel
theorem tyX2_ok : ∀ k, k < 3 → parseFieldDescriptor (TX2 k).2.2.1 = some (tyX2 k) := by decide +kernel
abbrev cX2_init : ByteArray := prog_4_method_1_code
def yX2_init : MethodName := ⟨RX2, "<init>", "()V"⟩
abbrev cX2_reckon : ByteArray := prog_4_method_2_code
def yX2_reckon : MethodName := ⟨RX2, "reckon", "(LGriefEngine$Rank;)V"⟩
abbrev cX2_tryFrom : ByteArray := prog_4_method_3_code
def yX2_tryFrom : MethodName := ⟨RX2, "tryFrom", "(LGriefEngine$Pairs;LGriefEngine$Rank;II)V"⟩
abbrev cX2_keepIfBetter : ByteArray := prog_4_method_4_code
def yX2_keepIfBetter : MethodName := ⟨RX2, "keepIfBetter", "(I)V"⟩
abbrev cX2_pairWorth : ByteArray := prog_4_method_5_code
def yX2_pairWorth : MethodName := ⟨RX2, "pairWorth", "(LGriefEngine$Rank;II)I"⟩
def RX3 : String := "GriefEngine$Plain"
def TX3 : u_T := fun k => match k with
  | _ => ("", "", "", false)
def tyX3 : Nat → FieldType := fun k => match k with
  | _ => .int
abbrev wsX30 : List Cond := u_ws RX3 TX3 0
theorem nmX3 : ∀ a, a < 0 → ∀ b, b < 0 → a ≠ b → (TX3 a).2.1 ≠ (TX3 b).2.1 := by decide +kernel
theorem tyX3_ok : ∀ k, k < 0 → parseFieldDescriptor (TX3 k).2.2.1 = some (tyX3 k) := by decide +kernel
abbrev cX3_init : ByteArray := prog_5_method_1_code
def yX3_init : MethodName := ⟨RX3, "<init>", "()V"⟩
abbrev cX3_runs : ByteArray := prog_5_method_2_code
def yX3_runs : MethodName := ⟨RX3, "runs", "(II)I"⟩
abbrev cX3_behindDriving : ByteArray := prog_5_method_3_code
def yX3_behindDriving : MethodName := ⟨RX3, "behindDriving", "(I)I"⟩
abbrev cX3_behindTelling : ByteArray := prog_5_method_4_code
def yX3_behindTelling : MethodName := ⟨RX3, "behindTelling", "(I)I"⟩
abbrev cX3_behindResting : ByteArray := prog_5_method_5_code
def yX3_behindResting : MethodName := ⟨RX3, "behindResting", "(I)I"⟩
abbrev cX3_left : ByteArray := prog_5_method_6_code
def yX3_left : MethodName := ⟨RX3, "left", "(II)I"⟩
abbrev cX3_milesFromFirstDay : ByteArray := prog_5_method_7_code
def yX3_milesFromFirstDay : MethodName := ⟨RX3, "milesFromFirstDay", "(II)I"⟩
def RX4 : String := "GriefEngine$Rank"
def TX4 : u_T := fun k => match k with
  | 0 => ("GriefEngine$Rank", "kinds", "[LGriefEngine$Plain;", true)
  | 1 => ("GriefEngine$Rank", "kind", "[I", true)
  | 2 => ("GriefEngine$Rank", "grief", "[I", true)
  | 3 => ("GriefEngine$Rank", "miles", "[I", true)
  | 4 => ("GriefEngine$Rank", "notes", "[I", true)
  | 5 => ("GriefEngine$Rank", "trips", "[I", true)
  | 6 => ("GriefEngine$Rank", "past", "[I", true)
  | 7 => ("GriefEngine$Rank", "size", "I", false)
  | 8 => ("GriefEngine$Rank", "today", "I", false)
  | 9 => ("GriefEngine$Rank", "noteCount", "I", false)
  | 10 => ("GriefEngine$Rank", "tripCount", "I", false)
  | _ => ("GriefEngine$Rank", "undoCount", "I", false)
def tyX4 : Nat → FieldType := fun k => match k with
  | 0 => .array (.object "GriefEngine$Plain")
  | 1 => .array .int
  | 2 => .array .int
  | 3 => .array .int
  | 4 => .array .int
  | 5 => .array .int
  | 6 => .array .int
  | 7 => .int
  | 8 => .int
  | 9 => .int
  | 10 => .int
  | _ => .int
abbrev wsX40 : List Cond := u_ws RX4 TX4 12
theorem nmX4 : ∀ a, a < 12 → ∀ b, b < 12 → a ≠ b → (TX4 a).2.1 ≠ (TX4 b).2.1 := by decide +kernel
theorem tyX4_ok : ∀ k, k < 12 → parseFieldDescriptor (TX4 k).2.2.1 = some (tyX4 k) := by decide +kernel
abbrev cX4_init : ByteArray := prog_6_method_1_code
def yX4_init : MethodName := ⟨RX4, "<init>", "()V"⟩
abbrev cX4_reset : ByteArray := prog_6_method_2_code
def yX4_reset : MethodName := ⟨RX4, "reset", "()V"⟩
abbrev cX4_copyFrom : ByteArray := prog_6_method_3_code
def yX4_copyFrom : MethodName := ⟨RX4, "copyFrom", "(LGriefEngine$Rank;)V"⟩
abbrev cX4_has : ByteArray := prog_6_method_4_code
def yX4_has : MethodName := ⟨RX4, "has", "(I)Z"⟩
abbrev cX4_isFull : ByteArray := prog_6_method_5_code
def yX4_isFull : MethodName := ⟨RX4, "isFull", "()Z"⟩
abbrev cX4_kindOf : ByteArray := prog_6_method_6_code
def yX4_kindOf : MethodName := ⟨RX4, "kindOf", "(I)LGriefEngine$Plain;"⟩
abbrev cX4_addDriver : ByteArray := prog_6_method_7_code
def yX4_addDriver : MethodName := ⟨RX4, "addDriver", "(II)I"⟩
abbrev cX4_passDays : ByteArray := prog_6_method_8_code
def yX4_passDays : MethodName := ⟨RX4, "passDays", "(III)I"⟩
abbrev cX4_act : ByteArray := prog_6_method_9_code
def yX4_act : MethodName := ⟨RX4, "act", "(II)I"⟩
abbrev cX4_remember : ByteArray := prog_6_method_10_code
def yX4_remember : MethodName := ⟨RX4, "remember", "()V"⟩
abbrev cX4_takeBack : ByteArray := prog_6_method_11_code
def yX4_takeBack : MethodName := ⟨RX4, "takeBack", "()V"⟩
abbrev cX4_sumOf : ByteArray := prog_6_method_12_code
def yX4_sumOf : MethodName := ⟨RX4, "sumOf", "([I)I"⟩
abbrev cX4_addNote : ByteArray := prog_6_method_13_code
def yX4_addNote : MethodName := ⟨RX4, "addNote", "(IIIIII)I"⟩
abbrev cX4_notesFit : ByteArray := prog_6_method_14_code
def yX4_notesFit : MethodName := ⟨RX4, "notesFit", "(ILGriefEngine$Plain;)Z"⟩
abbrev cX4_addTrip : ByteArray := prog_6_method_15_code
def yX4_addTrip : MethodName := ⟨RX4, "addTrip", "(III)I"⟩
abbrev cX4_tripsFit : ByteArray := prog_6_method_16_code
def yX4_tripsFit : MethodName := ⟨RX4, "tripsFit", "(II)Z"⟩
def RX5 : String := "GriefEngine$Rows"
def TX5 : u_T := fun k => match k with
  | 0 => ("GriefEngine$Rows", "before", "[[I", true)
  | 1 => ("GriefEngine$Rows", "after", "[[I", true)
  | 2 => ("GriefEngine$Rows", "kind", "LGriefEngine$Plain;", false)
  | 3 => ("GriefEngine$Rows", "firstDay", "I", false)
  | 4 => ("GriefEngine$Rows", "firstGrief", "I", false)
  | _ => ("GriefEngine$Rows", "length", "I", false)
def tyX5 : Nat → FieldType := fun k => match k with
  | 0 => .array (.array .int)
  | 1 => .array (.array .int)
  | 2 => .object "GriefEngine$Plain"
  | 3 => .int
  | 4 => .int
  | _ => .int
abbrev wsX50 : List Cond := u_ws RX5 TX5 6
theorem nmX5 : ∀ a, a < 6 → ∀ b, b < 6 → a ≠ b → (TX5 a).2.1 ≠ (TX5 b).2.1 := by decide +kernel
theorem tyX5_ok : ∀ k, k < 6 → parseFieldDescriptor (TX5 k).2.2.1 = some (tyX5 k) := by decide +kernel
abbrev cX5_init : ByteArray := prog_7_method_1_code
def yX5_init : MethodName := ⟨RX5, "<init>", "()V"⟩
abbrev cX5_reckon : ByteArray := prog_7_method_2_code
def yX5_reckon : MethodName := ⟨RX5, "reckon", "(LGriefEngine$Rank;II)V"⟩
abbrev cX5_reckonBefore : ByteArray := prog_7_method_3_code
def yX5_reckonBefore : MethodName := ⟨RX5, "reckonBefore", "()V"⟩
abbrev cX5_spread : ByteArray := prog_7_method_4_code
def yX5_spread : MethodName := ⟨RX5, "spread", "(II)V"⟩
abbrev cX5_reckonAfter : ByteArray := prog_7_method_5_code
def yX5_reckonAfter : MethodName := ⟨RX5, "reckonAfter", "()V"⟩
abbrev cX5_milesBy : ByteArray := prog_7_method_6_code
def yX5_milesBy : MethodName := ⟨RX5, "milesBy", "(III)I"⟩
abbrev cX5_mostMiles : ByteArray := prog_7_method_7_code
def yX5_mostMiles : MethodName := ⟨RX5, "mostMiles", "()I"⟩
abbrev cX5_choiceOf : ByteArray := prog_7_method_8_code
def yX5_choiceOf : MethodName := ⟨RX5, "choiceOf", "(I)I"⟩
abbrev cX5_firstBestChoice : ByteArray := prog_7_method_9_code
def yX5_firstBestChoice : MethodName := ⟨RX5, "firstBestChoice", "(II)I"⟩
abbrev cX5_fewestDaysFor : ByteArray := prog_7_method_10_code
def yX5_fewestDaysFor : MethodName := ⟨RX5, "fewestDaysFor", "(I)I"⟩
abbrev cX5_farthestTurn : ByteArray := prog_7_method_11_code
def yX5_farthestTurn : MethodName := ⟨RX5, "farthestTurn", "()I"⟩
abbrev cX5_firstTurnAt : ByteArray := prog_7_method_12_code
def yX5_firstTurnAt : MethodName := ⟨RX5, "firstTurnAt", "(I)I"⟩
abbrev cX5_farthestTurnAt : ByteArray := prog_7_method_13_code
def yX5_farthestTurnAt : MethodName := ⟨RX5, "farthestTurnAt", "(I)I"⟩
def RX6 : String := "GriefEngine$Sham"
def TX6 : u_T := fun k => match k with
  | _ => ("", "", "", false)
def tyX6 : Nat → FieldType := fun k => match k with
  | _ => .int
abbrev wsX60 : List Cond := u_ws RX6 TX6 0
theorem nmX6 : ∀ a, a < 0 → ∀ b, b < 0 → a ≠ b → (TX6 a).2.1 ≠ (TX6 b).2.1 := by decide +kernel
theorem tyX6_ok : ∀ k, k < 0 → parseFieldDescriptor (TX6 k).2.2.1 = some (tyX6 k) := by decide +kernel
abbrev cX6_init : ByteArray := prog_8_method_1_code
def yX6_init : MethodName := ⟨RX6, "<init>", "()V"⟩
abbrev cX6_runs : ByteArray := prog_8_method_2_code
def yX6_runs : MethodName := ⟨RX6, "runs", "(II)I"⟩
abbrev cX6_behindTelling : ByteArray := prog_8_method_3_code
def yX6_behindTelling : MethodName := ⟨RX6, "behindTelling", "(I)I"⟩
def RX7 : String := "GriefEngine$Spring"
def TX7 : u_T := fun k => match k with
  | _ => ("", "", "", false)
def tyX7 : Nat → FieldType := fun k => match k with
  | _ => .int
abbrev wsX70 : List Cond := u_ws RX7 TX7 0
theorem nmX7 : ∀ a, a < 0 → ∀ b, b < 0 → a ≠ b → (TX7 a).2.1 ≠ (TX7 b).2.1 := by decide +kernel
theorem tyX7_ok : ∀ k, k < 0 → parseFieldDescriptor (TX7 k).2.2.1 = some (tyX7 k) := by decide +kernel
abbrev cX7_init : ByteArray := prog_9_method_1_code
def yX7_init : MethodName := ⟨RX7, "<init>", "()V"⟩
abbrev cX7_runs : ByteArray := prog_9_method_2_code
def yX7_runs : MethodName := ⟨RX7, "runs", "(II)I"⟩
def RX8 : String := "GriefEngine$Teller"
def TX8 : u_T := fun k => match k with
  | _ => ("", "", "", false)
def tyX8 : Nat → FieldType := fun k => match k with
  | _ => .int
abbrev wsX80 : List Cond := u_ws RX8 TX8 0
theorem nmX8 : ∀ a, a < 0 → ∀ b, b < 0 → a ≠ b → (TX8 a).2.1 ≠ (TX8 b).2.1 := by decide +kernel
theorem tyX8_ok : ∀ k, k < 0 → parseFieldDescriptor (TX8 k).2.2.1 = some (tyX8 k) := by decide +kernel
abbrev cX8_init : ByteArray := prog_10_method_1_code
def yX8_init : MethodName := ⟨RX8, "<init>", "()V"⟩
abbrev cX8_behindTelling : ByteArray := prog_10_method_2_code
def yX8_behindTelling : MethodName := ⟨RX8, "behindTelling", "(I)I"⟩
abbrev cX8_behindResting : ByteArray := prog_10_method_3_code
def yX8_behindResting : MethodName := ⟨RX8, "behindResting", "(I)I"⟩
def RX9 : String := "GriefEngine$Text"
def TX9 : u_T := fun k => match k with
  | 0 => ("GriefEngine$Text", "bytes", "[B", true)
  | 1 => ("GriefEngine$Text", "length", "I", false)
  | 2 => ("GriefEngine$Text", "start", "I", false)
  | 3 => ("GriefEngine$Text", "isFinished", "Z", false)
  | 4 => ("GriefEngine$Text", "isDriver", "Z", false)
  | 5 => ("GriefEngine$Text", "first", "I", false)
  | 6 => ("GriefEngine$Text", "second", "I", false)
  | 7 => ("GriefEngine$Text", "sort", "I", false)
  | 8 => ("GriefEngine$Text", "next", "I", false)
  | _ => ("GriefEngine$Text", "number", "I", false)
def tyX9 : Nat → FieldType := fun k => match k with
  | 0 => .array .byte
  | 1 => .int
  | 2 => .int
  | 3 => .boolean
  | 4 => .boolean
  | 5 => .int
  | 6 => .int
  | 7 => .int
  | 8 => .int
  | _ => .int
abbrev wsX90 : List Cond := u_ws RX9 TX9 10
theorem nmX9 : ∀ a, a < 10 → ∀ b, b < 10 → a ≠ b → (TX9 a).2.1 ≠ (TX9 b).2.1 := by decide +kernel
theorem tyX9_ok : ∀ k, k < 10 → parseFieldDescriptor (TX9 k).2.2.1 = some (tyX9 k) := by decide +kernel
abbrev cX9_init : ByteArray := prog_11_method_1_code
def yX9_init : MethodName := ⟨RX9, "<init>", "()V"⟩
abbrev cX9_append : ByteArray := prog_11_method_2_code
def yX9_append : MethodName := ⟨RX9, "append", "(I)I"⟩
abbrev cX9_takesRank : ByteArray := prog_11_method_3_code
def yX9_takesRank : MethodName := ⟨RX9, "takesRank", "()Z"⟩
abbrev cX9_takesItem : ByteArray := prog_11_method_4_code
def yX9_takesItem : MethodName := ⟨RX9, "takesItem", "(Z)Z"⟩
abbrev cX9_takesNumber : ByteArray := prog_11_method_5_code
def yX9_takesNumber : MethodName := ⟨RX9, "takesNumber", "(II)Z"⟩
abbrev cX9_takesStop : ByteArray := prog_11_method_6_code
def yX9_takesStop : MethodName := ⟨RX9, "takesStop", "()Z"⟩
abbrev cX9_advance : ByteArray := prog_11_method_7_code
def yX9_advance : MethodName := ⟨RX9, "advance", "()V"⟩
abbrev cX9_isBetween : ByteArray := prog_11_method_8_code
def yX9_isBetween : MethodName := ⟨RX9, "isBetween", "(ICC)Z"⟩
abbrev cX9_runEnd : ByteArray := prog_11_method_9_code
def yX9_runEnd : MethodName := ⟨RX9, "runEnd", "(ICC)I"⟩
abbrev cX9_valueOfRun : ByteArray := prog_11_method_10_code
def yX9_valueOfRun : MethodName := ⟨RX9, "valueOfRun", "()I"⟩
abbrev cX9_isWord : ByteArray := prog_11_method_11_code
def yX9_isWord : MethodName := ⟨RX9, "isWord", "(Ljava/lang/String;)Z"⟩
def RX10 : String := "GriefEngine"
def TX10 : u_T := fun k => match k with
  | 0 => ("GriefEngine", "live", "LGriefEngine$Rank;", true)
  | 1 => ("GriefEngine", "draft", "LGriefEngine$Rank;", true)
  | 2 => ("GriefEngine", "images", "[LGriefEngine$Rank;", true)
  | 3 => ("GriefEngine", "kept", "[Z", true)
  | 4 => ("GriefEngine", "text", "LGriefEngine$Text;", true)
  | 5 => ("GriefEngine", "rows", "LGriefEngine$Rows;", true)
  | 6 => ("GriefEngine", "pairs", "LGriefEngine$Pairs;", true)
  | 7 => ("GriefEngine", "signs", "[I", true)
  | 8 => ("GriefEngine", "refused", "[I", true)
  | 9 => ("GriefEngine", "above", "J", false)
  | _ => ("GriefEngine", "below", "J", false)
def tyX10 : Nat → FieldType := fun k => match k with
  | 0 => .object "GriefEngine$Rank"
  | 1 => .object "GriefEngine$Rank"
  | 2 => .array (.object "GriefEngine$Rank")
  | 3 => .array .boolean
  | 4 => .object "GriefEngine$Text"
  | 5 => .object "GriefEngine$Rows"
  | 6 => .object "GriefEngine$Pairs"
  | 7 => .array .int
  | 8 => .array .int
  | 9 => .long
  | _ => .long
abbrev wsX100 : List Cond := u_ws RX10 TX10 11
theorem nmX10 : ∀ a, a < 11 → ∀ b, b < 11 → a ≠ b → (TX10 a).2.1 ≠ (TX10 b).2.1 := by decide +kernel
theorem tyX10_ok : ∀ k, k < 11 → parseFieldDescriptor (TX10 k).2.2.1 = some (tyX10 k) := by decide +kernel
abbrev cX10_init : ByteArray := prog_1_method_1_code
def yX10_init : MethodName := ⟨RX10, "<init>", "()V"⟩
abbrev cX10_rank : ByteArray := prog_1_method_2_code
def yX10_rank : MethodName := ⟨RX10, "rank", "()I"⟩
abbrev cX10_driver : ByteArray := prog_1_method_3_code
def yX10_driver : MethodName := ⟨RX10, "driver", "(II)I"⟩
abbrev cX10_type : ByteArray := prog_1_method_4_code
def yX10_type : MethodName := ⟨RX10, "type", "(I)I"⟩
abbrev cX10_clear : ByteArray := prog_1_method_5_code
def yX10_clear : MethodName := ⟨RX10, "clear", "()I"⟩
abbrev cX10_read : ByteArray := prog_1_method_6_code
def yX10_read : MethodName := ⟨RX10, "read", "()I"⟩
abbrev cX10_days : ByteArray := prog_1_method_7_code
def yX10_days : MethodName := ⟨RX10, "days", "(II)I"⟩
abbrev cX10_day : ByteArray := prog_1_method_8_code
def yX10_day : MethodName := ⟨RX10, "day", "(II)I"⟩
abbrev cX10_undo : ByteArray := prog_1_method_9_code
def yX10_undo : MethodName := ⟨RX10, "undo", "()I"⟩
abbrev cX10_of : ByteArray := prog_1_method_10_code
def yX10_of : MethodName := ⟨RX10, "of", "(II)I"⟩
abbrev cX10_today : ByteArray := prog_1_method_11_code
def yX10_today : MethodName := ⟨RX10, "today", "(II)I"⟩
abbrev cX10_then : ByteArray := prog_1_method_12_code
def yX10_then : MethodName := ⟨RX10, "then", "(IIII)I"⟩
abbrev cX10_over : ByteArray := prog_1_method_13_code
def yX10_over : MethodName := ⟨RX10, "over", "(I)I"⟩
abbrev cX10_most : ByteArray := prog_1_method_14_code
def yX10_most : MethodName := ⟨RX10, "most", "(III)I"⟩
abbrev cX10_soonest : ByteArray := prog_1_method_15_code
def yX10_soonest : MethodName := ⟨RX10, "soonest", "(II)I"⟩
abbrev cX10_home : ByteArray := prog_1_method_16_code
def yX10_home : MethodName := ⟨RX10, "home", "(III)I"⟩
abbrev cX10_tell : ByteArray := prog_1_method_17_code
def yX10_tell : MethodName := ⟨RX10, "tell", "(I)I"⟩
abbrev cX10_note : ByteArray := prog_1_method_18_code
def yX10_note : MethodName := ⟨RX10, "note", "(IIIIII)I"⟩
abbrev cX10_gone : ByteArray := prog_1_method_19_code
def yX10_gone : MethodName := ⟨RX10, "gone", "(III)I"⟩
abbrev cX10_forget : ByteArray := prog_1_method_20_code
def yX10_forget : MethodName := ⟨RX10, "forget", "(I)I"⟩
abbrev cX10_is : ByteArray := prog_1_method_21_code
def yX10_is : MethodName := ⟨RX10, "is", "(I)I"⟩
abbrev cX10_look : ByteArray := prog_1_method_22_code
def yX10_look : MethodName := ⟨RX10, "look", "(I)I"⟩
abbrev cX10_had : ByteArray := prog_1_method_23_code
def yX10_had : MethodName := ⟨RX10, "had", "(II)I"⟩
abbrev cX10_fares : ByteArray := prog_1_method_24_code
def yX10_fares : MethodName := ⟨RX10, "fares", "(II)I"⟩
abbrev cX10_starts : ByteArray := prog_1_method_25_code
def yX10_starts : MethodName := ⟨RX10, "starts", "(III)I"⟩
abbrev cX10_years : ByteArray := prog_1_method_26_code
def yX10_years : MethodName := ⟨RX10, "years", "(II)I"⟩
abbrev cX10_part : ByteArray := prog_1_method_27_code
def yX10_part : MethodName := ⟨RX10, "part", "(I)J"⟩
abbrev cX10_image : ByteArray := prog_1_method_28_code
def yX10_image : MethodName := ⟨RX10, "image", "(I)I"⟩
abbrev cX10_from : ByteArray := prog_1_method_29_code
def yX10_from : MethodName := ⟨RX10, "from", "(I)I"⟩
abbrev cX10_status : ByteArray := prog_1_method_30_code
def yX10_status : MethodName := ⟨RX10, "status", "(I)I"⟩
abbrev cX10_count : ByteArray := prog_1_method_31_code
def yX10_count : MethodName := ⟨RX10, "count", "(I)I"⟩
abbrev cX10_digest : ByteArray := prog_1_method_32_code
def yX10_digest : MethodName := ⟨RX10, "digest", "()J"⟩
abbrev cX10_refuse : ByteArray := prog_1_method_33_code
def yX10_refuse : MethodName := ⟨RX10, "refuse", "(I)I"⟩
abbrev cX10_refuseIfFull : ByteArray := prog_1_method_34_code
def yX10_refuseIfFull : MethodName := ⟨RX10, "refuseIfFull", "(I)I"⟩
abbrev cX10_within : ByteArray := prog_1_method_35_code
def yX10_within : MethodName := ⟨RX10, "within", "(III)Z"⟩
abbrev cX10_isChoice : ByteArray := prog_1_method_36_code
def yX10_isChoice : MethodName := ⟨RX10, "isChoice", "(I)Z"⟩
abbrev cX10_seasonOf : ByteArray := prog_1_method_37_code
def yX10_seasonOf : MethodName := ⟨RX10, "seasonOf", "(I)I"⟩
abbrev cX10_kindsThatFit : ByteArray := prog_1_method_38_code
def yX10_kindsThatFit : MethodName := ⟨RX10, "kindsThatFit", "(I)I"⟩
abbrev cX10_bestMorning : ByteArray := prog_1_method_39_code
def yX10_bestMorning : MethodName := ⟨RX10, "bestMorning", "(II)I"⟩
abbrev cX10_mostAlike : ByteArray := prog_1_method_40_code
def yX10_mostAlike : MethodName := ⟨RX10, "mostAlike", "(IIII)I"⟩
abbrev cX10_isContent : ByteArray := prog_1_method_41_code
def yX10_isContent : MethodName := ⟨RX10, "isContent", "(IZZ)Z"⟩
abbrev cX10_worthToday : ByteArray := prog_1_method_42_code
def yX10_worthToday : MethodName := ⟨RX10, "worthToday", "(IZZ)I"⟩
abbrev cX10_tenfoldMean : ByteArray := prog_1_method_43_code
def yX10_tenfoldMean : MethodName := ⟨RX10, "tenfoldMean", "(LGriefEngine$Plain;IIII)J"⟩
abbrev cX10_tenTo : ByteArray := prog_1_method_44_code
def yX10_tenTo : MethodName := ⟨RX10, "tenTo", "(I)J"⟩
abbrev cX10_setFraction : ByteArray := prog_1_method_45_code
def yX10_setFraction : MethodName := ⟨RX10, "setFraction", "(JJ)V"⟩
abbrev cX10_commonDivisor : ByteArray := prog_1_method_46_code
def yX10_commonDivisor : MethodName := ⟨RX10, "commonDivisor", "(JJ)J"⟩
def RX11 : String := "GriefEngineModel"
def TX11 : u_T := fun k => match k with
  | 0 => ("GriefEngineModel", "told", "[I", true)
  | 1 => ("GriefEngineModel", "kept", "[I", true)
  | 2 => ("GriefEngineModel", "isKept", "[Z", true)
  | 3 => ("GriefEngineModel", "refused", "[I", true)
  | 4 => ("GriefEngineModel", "above", "J", false)
  | 5 => ("GriefEngineModel", "below", "J", false)
  | 6 => ("GriefEngineModel", "grief", "I", false)
  | 7 => ("GriefEngineModel", "ran", "I", false)
  | 8 => ("GriefEngineModel", "bestCode", "I", false)
  | 9 => ("GriefEngineModel", "partners", "[I", true)
  | 10 => ("GriefEngineModel", "bestPartners", "[I", true)
  | 11 => ("GriefEngineModel", "griefs", "[I", true)
  | 12 => ("GriefEngineModel", "bytes", "[I", true)
  | 13 => ("GriefEngineModel", "bytesLong", "I", false)
  | 14 => ("GriefEngineModel", "tokenAt", "I", false)
  | 15 => ("GriefEngineModel", "tokenLong", "I", false)
  | 16 => ("GriefEngineModel", "token", "I", false)
  | 17 => ("GriefEngineModel", "value", "I", false)
  | 18 => ("GriefEngineModel", "anew", "[I", true)
  | _ => ("GriefEngineModel", "values", "[I", true)
def tyX11 : Nat → FieldType := fun k => match k with
  | 0 => .array .int
  | 1 => .array .int
  | 2 => .array .boolean
  | 3 => .array .int
  | 4 => .long
  | 5 => .long
  | 6 => .int
  | 7 => .int
  | 8 => .int
  | 9 => .array .int
  | 10 => .array .int
  | 11 => .array .int
  | 12 => .array .int
  | 13 => .int
  | 14 => .int
  | 15 => .int
  | 16 => .int
  | 17 => .int
  | 18 => .array .int
  | _ => .array .int
abbrev wsX110 : List Cond := u_ws RX11 TX11 20
theorem nmX11 : ∀ a, a < 20 → ∀ b, b < 20 → a ≠ b → (TX11 a).2.1 ≠ (TX11 b).2.1 := by decide +kernel
theorem tyX11_ok : ∀ k, k < 20 → parseFieldDescriptor (TX11 k).2.2.1 = some (tyX11 k) := by decide +kernel
abbrev cX11_init : ByteArray := prog_13_method_1_code
def yX11_init : MethodName := ⟨RX11, "<init>", "()V"⟩
abbrev cX11_in : ByteArray := prog_13_method_3_code
def yX11_in : MethodName := ⟨RX11, "in", "(JJJ)Z"⟩
abbrev cX11_bad : ByteArray := prog_13_method_4_code
def yX11_bad : MethodName := ⟨RX11, "bad", "(I)I"⟩
abbrev cX11_no : ByteArray := prog_13_method_5_code
def yX11_no : MethodName := ⟨RX11, "no", "()I"⟩
abbrev cX11_full : ByteArray := prog_13_method_6_code
def yX11_full : MethodName := ⟨RX11, "full", "()I"⟩
abbrev cX11_has : ByteArray := prog_13_method_8_code
def yX11_has : MethodName := ⟨RX11, "has", "(II)Z"⟩
abbrev cX11_begin : ByteArray := prog_13_method_9_code
def yX11_begin : MethodName := ⟨RX11, "begin", "([I)V"⟩
abbrev cX11_many : ByteArray := prog_13_method_10_code
def yX11_many : MethodName := ⟨RX11, "many", "()I"⟩
abbrev cX11_isDriver : ByteArray := prog_13_method_11_code
def yX11_isDriver : MethodName := ⟨RX11, "isDriver", "(I)Z"⟩
abbrev cX11_isChoice : ByteArray := prog_13_method_12_code
def yX11_isChoice : MethodName := ⟨RX11, "isChoice", "(I)Z"⟩
abbrev cX11_rank : ByteArray := prog_13_method_13_code
def yX11_rank : MethodName := ⟨RX11, "rank", "()I"⟩
abbrev cX11_layDriver : ByteArray := prog_13_method_14_code
def yX11_layDriver : MethodName := ⟨RX11, "layDriver", "([III)V"⟩
abbrev cX11_driver : ByteArray := prog_13_method_15_code
def yX11_driver : MethodName := ⟨RX11, "driver", "(II)I"⟩
abbrev cX11_seasonOf : ByteArray := prog_13_method_16_code
def yX11_seasonOf : MethodName := ⟨RX11, "seasonOf", "(I)I"⟩
abbrev cX11_runsAs : ByteArray := prog_13_method_17_code
def yX11_runsAs : MethodName := ⟨RX11, "runsAs", "(III)I"⟩
abbrev cX11_droveAs : ByteArray := prog_13_method_18_code
def yX11_droveAs : MethodName := ⟨RX11, "droveAs", "(II)I"⟩
abbrev cX11_toldAs : ByteArray := prog_13_method_19_code
def yX11_toldAs : MethodName := ⟨RX11, "toldAs", "(II)I"⟩
abbrev cX11_restedAs : ByteArray := prog_13_method_20_code
def yX11_restedAs : MethodName := ⟨RX11, "restedAs", "(II)I"⟩
abbrev cX11_leftAs : ByteArray := prog_13_method_21_code
def yX11_leftAs : MethodName := ⟨RX11, "leftAs", "(III)I"⟩
abbrev cX11_kindOf : ByteArray := prog_13_method_22_code
def yX11_kindOf : MethodName := ⟨RX11, "kindOf", "(I)I"⟩
abbrev cX11_goDay : ByteArray := prog_13_method_23_code
def yX11_goDay : MethodName := ⟨RX11, "goDay", "(III)V"⟩
abbrev cX11_layOne : ByteArray := prog_13_method_24_code
def yX11_layOne : MethodName := ⟨RX11, "layOne", "(I)V"⟩
abbrev cX11_keep : ByteArray := prog_13_method_25_code
def yX11_keep : MethodName := ⟨RX11, "keep", "()V"⟩
abbrev cX11_passDay : ByteArray := prog_13_method_26_code
def yX11_passDay : MethodName := ⟨RX11, "passDay", "([III)I"⟩
abbrev cX11_days : ByteArray := prog_13_method_27_code
def yX11_days : MethodName := ⟨RX11, "days", "(II)I"⟩
abbrev cX11_day : ByteArray := prog_13_method_28_code
def yX11_day : MethodName := ⟨RX11, "day", "(II)I"⟩
abbrev cX11_undo : ByteArray := prog_13_method_29_code
def yX11_undo : MethodName := ⟨RX11, "undo", "()I"⟩
abbrev cX11_of : ByteArray := prog_13_method_30_code
def yX11_of : MethodName := ⟨RX11, "of", "(II)I"⟩
abbrev cX11_today : ByteArray := prog_13_method_31_code
def yX11_today : MethodName := ⟨RX11, "today", "(II)I"⟩
abbrev cX11_then : ByteArray := prog_13_method_32_code
def yX11_then : MethodName := ⟨RX11, "then", "(IIII)I"⟩
abbrev cX11_over : ByteArray := prog_13_method_33_code
def yX11_over : MethodName := ⟨RX11, "over", "(I)I"⟩
abbrev cX11_powerOfThree : ByteArray := prog_13_method_34_code
def yX11_powerOfThree : MethodName := ⟨RX11, "powerOfThree", "(I)I"⟩
abbrev cX11_milesBy : ByteArray := prog_13_method_35_code
def yX11_milesBy : MethodName := ⟨RX11, "milesBy", "(IIIII)I"⟩
abbrev cX11_mostIn : ByteArray := prog_13_method_36_code
def yX11_mostIn : MethodName := ⟨RX11, "mostIn", "(II)I"⟩
abbrev cX11_most : ByteArray := prog_13_method_37_code
def yX11_most : MethodName := ⟨RX11, "most", "(III)I"⟩
abbrev cX11_soonest : ByteArray := prog_13_method_38_code
def yX11_soonest : MethodName := ⟨RX11, "soonest", "(II)I"⟩
abbrev cX11_home : ByteArray := prog_13_method_39_code
def yX11_home : MethodName := ⟨RX11, "home", "(III)I"⟩
abbrev cX11_worthOf : ByteArray := prog_13_method_40_code
def yX11_worthOf : MethodName := ⟨RX11, "worthOf", "(II)I"⟩
abbrev cX11_pairsBy : ByteArray := prog_13_method_41_code
def yX11_pairsBy : MethodName := ⟨RX11, "pairsBy", "(II)I"⟩
abbrev cX11_tell : ByteArray := prog_13_method_42_code
def yX11_tell : MethodName := ⟨RX11, "tell", "(I)I"⟩
abbrev cX11_note : ByteArray := prog_13_method_43_code
def yX11_note : MethodName := ⟨RX11, "note", "(IIIIII)I"⟩
abbrev cX11_gone : ByteArray := prog_13_method_44_code
def yX11_gone : MethodName := ⟨RX11, "gone", "(III)I"⟩
abbrev cX11_forget : ByteArray := prog_13_method_45_code
def yX11_forget : MethodName := ⟨RX11, "forget", "(I)I"⟩
abbrev cX11_kindsOf : ByteArray := prog_13_method_46_code
def yX11_kindsOf : MethodName := ⟨RX11, "kindsOf", "(I)I"⟩
abbrev cX11_is : ByteArray := prog_13_method_47_code
def yX11_is : MethodName := ⟨RX11, "is", "(I)I"⟩
abbrev cX11_areAlike : ByteArray := prog_13_method_48_code
def yX11_areAlike : MethodName := ⟨RX11, "areAlike", "(IIIII)Z"⟩
abbrev cX11_look : ByteArray := prog_13_method_49_code
def yX11_look : MethodName := ⟨RX11, "look", "(I)I"⟩
abbrev cX11_fits : ByteArray := prog_13_method_50_code
def yX11_fits : MethodName := ⟨RX11, "fits", "(II)Z"⟩
abbrev cX11_had : ByteArray := prog_13_method_51_code
def yX11_had : MethodName := ⟨RX11, "had", "(II)I"⟩
abbrev cX11_getsBy : ByteArray := prog_13_method_52_code
def yX11_getsBy : MethodName := ⟨RX11, "getsBy", "(IZZ)I"⟩
abbrev cX11_fares : ByteArray := prog_13_method_53_code
def yX11_fares : MethodName := ⟨RX11, "fares", "(II)I"⟩
abbrev cX11_fraction : ByteArray := prog_13_method_54_code
def yX11_fraction : MethodName := ⟨RX11, "fraction", "(JJ)V"⟩
abbrev cX11_starts : ByteArray := prog_13_method_55_code
def yX11_starts : MethodName := ⟨RX11, "starts", "(III)I"⟩
abbrev cX11_years : ByteArray := prog_13_method_56_code
def yX11_years : MethodName := ⟨RX11, "years", "(II)I"⟩
abbrev cX11_type : ByteArray := prog_13_method_57_code
def yX11_type : MethodName := ⟨RX11, "type", "(I)I"⟩
abbrev cX11_clear : ByteArray := prog_13_method_58_code
def yX11_clear : MethodName := ⟨RX11, "clear", "()I"⟩
abbrev cX11_isSmall : ByteArray := prog_13_method_59_code
def yX11_isSmall : MethodName := ⟨RX11, "isSmall", "(I)Z"⟩
abbrev cX11_isFigure : ByteArray := prog_13_method_60_code
def yX11_isFigure : MethodName := ⟨RX11, "isFigure", "(I)Z"⟩
abbrev cX11_lookAt : ByteArray := prog_13_method_61_code
def yX11_lookAt : MethodName := ⟨RX11, "lookAt", "(I)V"⟩
abbrev cX11_goBehind : ByteArray := prog_13_method_62_code
def yX11_goBehind : MethodName := ⟨RX11, "goBehind", "()V"⟩
abbrev cX11_spells : ByteArray := prog_13_method_63_code
def yX11_spells : MethodName := ⟨RX11, "spells", "(IIIIIII)Z"⟩
abbrev cX11_takes : ByteArray := prog_13_method_64_code
def yX11_takes : MethodName := ⟨RX11, "takes", "(III)Z"⟩
abbrev cX11_takesDriver : ByteArray := prog_13_method_65_code
def yX11_takesDriver : MethodName := ⟨RX11, "takesDriver", "()Z"⟩
abbrev cX11_takesDays : ByteArray := prog_13_method_66_code
def yX11_takesDays : MethodName := ⟨RX11, "takesDays", "()Z"⟩
abbrev cX11_takesItem : ByteArray := prog_13_method_67_code
def yX11_takesItem : MethodName := ⟨RX11, "takesItem", "()Z"⟩
abbrev cX11_read : ByteArray := prog_13_method_68_code
def yX11_read : MethodName := ⟨RX11, "read", "()I"⟩
abbrev cX11_part : ByteArray := prog_13_method_69_code
def yX11_part : MethodName := ⟨RX11, "part", "(I)J"⟩
abbrev cX11_image : ByteArray := prog_13_method_70_code
def yX11_image : MethodName := ⟨RX11, "image", "(I)I"⟩
abbrev cX11_from : ByteArray := prog_13_method_71_code
def yX11_from : MethodName := ⟨RX11, "from", "(I)I"⟩
abbrev cX11_status : ByteArray := prog_13_method_72_code
def yX11_status : MethodName := ⟨RX11, "status", "(I)I"⟩
abbrev cX11_allOf : ByteArray := prog_13_method_73_code
def yX11_allOf : MethodName := ⟨RX11, "allOf", "(I)I"⟩
abbrev cX11_counted : ByteArray := prog_13_method_74_code
def yX11_counted : MethodName := ⟨RX11, "counted", "(I)I"⟩
abbrev cX11_count : ByteArray := prog_13_method_75_code
def yX11_count : MethodName := ⟨RX11, "count", "(I)I"⟩
abbrev cX11_sums : ByteArray := prog_13_method_76_code
def yX11_sums : MethodName := ⟨RX11, "sums", "(JII)J"⟩
abbrev cX11_digest : ByteArray := prog_13_method_77_code
def yX11_digest : MethodName := ⟨RX11, "digest", "()J"⟩
def RJ9 : String := "java/lang/Math"
def TJ9 : u_T := fun k => match k with
  | _ => ("", "", "", false)
def tyJ9 : Nat → FieldType := fun k => match k with
  | _ => .int
abbrev wsJ90 : List Cond := u_ws RJ9 TJ9 0
theorem nmJ9 : ∀ a, a < 0 → ∀ b, b < 0 → a ≠ b → (TJ9 a).2.1 ≠ (TJ9 b).2.1 := by decide +kernel
theorem tyJ9_ok : ∀ k, k < 0 → parseFieldDescriptor (TJ9 k).2.2.1 = some (tyJ9 k) := by decide +kernel
abbrev cJ9_max_7cf53 : ByteArray := prog_14_method_65_code
def yJ9_max_7cf53 : MethodName := ⟨RJ9, "max", "(II)I"⟩
abbrev cJ9_min_7cf53 : ByteArray := prog_14_method_69_code
def yJ9_min_7cf53 : MethodName := ⟨RJ9, "min", "(II)I"⟩
def RJ0 : String := "java/lang/String"
def TJ0 : u_T := fun k => match k with
  | _ => ("", "", "", false)
def tyJ0 : Nat → FieldType := fun k => match k with
  | _ => .int
abbrev wsJ00 : List Cond := u_ws RJ0 TJ0 0
theorem nmJ0 : ∀ a, a < 0 → ∀ b, b < 0 → a ≠ b → (TJ0 a).2.1 ≠ (TJ0 b).2.1 := by decide +kernel
theorem tyJ0_ok : ∀ k, k < 0 → parseFieldDescriptor (TJ0 k).2.2.1 = some (tyJ0 k) := by decide +kernel
abbrev cJ0_length_8abf5 : ByteArray := prog_15_method_54_code
def yJ0_length_8abf5 : MethodName := ⟨RJ0, "length", "()I"⟩
abbrev cJ0_charAt_5068e : ByteArray := prog_15_method_56_code
def yJ0_charAt_5068e : MethodName := ⟨RJ0, "charAt", "(I)C"⟩
abbrev cJ0_coder_7d493 : ByteArray := prog_15_method_152_code
def yJ0_coder_7d493 : MethodName := ⟨RJ0, "coder", "()B"⟩
abbrev cJ0_isLatin1_aae02 : ByteArray := prog_15_method_154_code
def yJ0_isLatin1_aae02 : MethodName := ⟨RJ0, "isLatin1", "()Z"⟩
abbrev cJ0_checkIndex_df160 : ByteArray := prog_15_method_155_code
def yJ0_checkIndex_df160 : MethodName := ⟨RJ0, "checkIndex", "(II)V"⟩
def RJ1 : String := "java/lang/StringLatin1"
def TJ1 : u_T := fun k => match k with
  | _ => ("", "", "", false)
def tyJ1 : Nat → FieldType := fun k => match k with
  | _ => .int
abbrev wsJ10 : List Cond := u_ws RJ1 TJ1 0
theorem nmJ1 : ∀ a, a < 0 → ∀ b, b < 0 → a ≠ b → (TJ1 a).2.1 ≠ (TJ1 b).2.1 := by decide +kernel
theorem tyJ1_ok : ∀ k, k < 0 → parseFieldDescriptor (TJ1 k).2.2.1 = some (tyJ1 k) := by decide +kernel
abbrev cJ1_charAt_3b067 : ByteArray := prog_16_method_2_code
def yJ1_charAt_3b067 : MethodName := ⟨RJ1, "charAt", "([BI)C"⟩
def RJ2 : String := "java/lang/StringUTF16"
def TJ2 : u_T := fun k => match k with
  | _ => ("", "", "", false)
def tyJ2 : Nat → FieldType := fun k => match k with
  | _ => .int
abbrev wsJ20 : List Cond := u_ws RJ2 TJ2 0
theorem nmJ2 : ∀ a, a < 0 → ∀ b, b < 0 → a ≠ b → (TJ2 a).2.1 ≠ (TJ2 b).2.1 := by decide +kernel
theorem tyJ2_ok : ∀ k, k < 0 → parseFieldDescriptor (TJ2 k).2.2.1 = some (tyJ2 k) := by decide +kernel
abbrev cJ2_getChar_3b067 : ByteArray := prog_17_method_5_code
def yJ2_getChar_3b067 : MethodName := ⟨RJ2, "getChar", "([BI)C"⟩
abbrev cJ2_length_9d52b : ByteArray := prog_17_method_6_code
def yJ2_length_9d52b : MethodName := ⟨RJ2, "length", "([B)I"⟩
abbrev cJ2_charAt_3b067 : ByteArray := prog_17_method_83_code
def yJ2_charAt_3b067 : MethodName := ⟨RJ2, "charAt", "([BI)C"⟩
abbrev cJ2_checkIndex_2214a : ByteArray := prog_17_method_91_code
def yJ2_checkIndex_2214a : MethodName := ⟨RJ2, "checkIndex", "(I[B)V"⟩
def RJ10 : String := "java/lang/System"
def TJ10 : u_T := fun k => match k with
  | _ => ("", "", "", false)
def tyJ10 : Nat → FieldType := fun k => match k with
  | _ => .int
abbrev wsJ100 : List Cond := u_ws RJ10 TJ10 0
theorem nmJ10 : ∀ a, a < 0 → ∀ b, b < 0 → a ≠ b → (TJ10 a).2.1 ≠ (TJ10 b).2.1 := by decide +kernel
theorem tyJ10_ok : ∀ k, k < 0 → parseFieldDescriptor (TJ10 k).2.2.1 = some (tyJ10 k) := by decide +kernel
def RJ3 : String := "jdk/internal/util/Preconditions"
def TJ3 : u_T := fun k => match k with
  | _ => ("", "", "", false)
def tyJ3 : Nat → FieldType := fun k => match k with
  | _ => .int
abbrev wsJ30 : List Cond := u_ws RJ3 TJ3 0
theorem nmJ3 : ∀ a, a < 0 → ∀ b, b < 0 → a ≠ b → (TJ3 a).2.1 ≠ (TJ3 b).2.1 := by decide +kernel
theorem tyJ3_ok : ∀ k, k < 0 → parseFieldDescriptor (TJ3 k).2.2.1 = some (tyJ3 k) := by decide +kernel
abbrev cJ3_checkIndex_8e157 : ByteArray := prog_19_method_11_code
def yJ3_checkIndex_8e157 : MethodName := ⟨RJ3, "checkIndex", "(IILjava/util/function/BiFunction;)I"⟩
def RL : String := "GriefEngineLaw"
abbrev cL_law : ByteArray := code
def yL_law : MethodName := ⟨RL, "law", "([I)Z"⟩
abbrev vwCl : List vw_C := [(RX0, TX0, 0), (RX1, TX1, 0), (RX2, TX2, 3), (RX3, TX3, 0), (RX4, TX4, 12), (RX5, TX5, 6), (RX6, TX6, 0), (RX7, TX7, 0), (RX8, TX8, 0), (RX9, TX9, 10), (RX10, TX10, 11), (RX11, TX11, 20)]
end
section
/-- the words of the tables that stay -/
def GW : List Cond := lw_tbl.filter goodWord
theorem in_GW {w : Cond} (h : w ∈ tables_1) (hg : goodWord w = true) : w ∈ GW := List.mem_filter.mpr ⟨List.mem_append_right _ h, hg⟩
theorem in_t1 {w : Cond} (h : w ∈ tables_1_1) (hg : goodWord w = true) : w ∈ GW := in_GW (List.mem_append_left _ h) hg
theorem in_t2 {w : Cond} (h : w ∈ tables_1_2) (hg : goodWord w = true) : w ∈ GW := in_GW (List.mem_append_right _ (List.mem_append_left _ h)) hg
theorem in_t3 {w : Cond} (h : w ∈ tables_1_3) (hg : goodWord w = true) : w ∈ GW := in_GW (List.mem_append_right _ (List.mem_append_right _ (List.mem_append_left _ h))) hg
theorem in_t4 {w : Cond} (h : w ∈ tables_1_4) (hg : goodWord w = true) : w ∈ GW := in_GW (List.mem_append_right _ (List.mem_append_right _ (List.mem_append_right _ (List.mem_append_left _ h)))) hg
theorem in_t5 {w : Cond} (h : w ∈ tables_1_5) (hg : goodWord w = true) : w ∈ GW := in_GW (List.mem_append_right _ (List.mem_append_right _ (List.mem_append_right _ (List.mem_append_right _ (h))))) hg
theorem tw1_0 : (Jvm.Cond.initialized "GriefEngineLaw") ∈ GW := in_t1 (List.mem_of_getElem? (i := 0) (by decide +kernel)) (by decide +kernel)
theorem tw1_1 : (Jvm.Cond.initialized "GriefEngine") ∈ GW := in_t1 (List.mem_of_getElem? (i := 1) (by decide +kernel)) (by decide +kernel)
theorem tw1_2 : (Jvm.Cond.initialized "GriefEngine$Rank") ∈ GW := in_t1 (List.mem_of_getElem? (i := 2) (by decide +kernel)) (by decide +kernel)
theorem tw1_3 : (Jvm.Cond.initialized "GriefEngine$Plain") ∈ GW := in_t1 (List.mem_of_getElem? (i := 3) (by decide +kernel)) (by decide +kernel)
theorem tw1_4 : (Jvm.Cond.initialized "GriefEngine$Keeper") ∈ GW := in_t1 (List.mem_of_getElem? (i := 4) (by decide +kernel)) (by decide +kernel)
theorem tw1_5 : (Jvm.Cond.initialized "GriefEngine$Sham") ∈ GW := in_t1 (List.mem_of_getElem? (i := 5) (by decide +kernel)) (by decide +kernel)
theorem tw1_6 : (Jvm.Cond.initialized "GriefEngine$Spring") ∈ GW := in_t1 (List.mem_of_getElem? (i := 6) (by decide +kernel)) (by decide +kernel)
theorem tw1_7 : (Jvm.Cond.initialized "GriefEngine$Teller") ∈ GW := in_t1 (List.mem_of_getElem? (i := 7) (by decide +kernel)) (by decide +kernel)
theorem tw1_8 : (Jvm.Cond.initialized "GriefEngine$Old") ∈ GW := in_t1 (List.mem_of_getElem? (i := 8) (by decide +kernel)) (by decide +kernel)
theorem tw1_9 : (Jvm.Cond.initialized "GriefEngine$Text") ∈ GW := in_t1 (List.mem_of_getElem? (i := 9) (by decide +kernel)) (by decide +kernel)
theorem tw1_10 : (Jvm.Cond.initialized "GriefEngine$Rows") ∈ GW := in_t1 (List.mem_of_getElem? (i := 10) (by decide +kernel)) (by decide +kernel)
theorem tw1_11 : (Jvm.Cond.initialized "GriefEngine$Pairs") ∈ GW := in_t1 (List.mem_of_getElem? (i := 11) (by decide +kernel)) (by decide +kernel)
theorem tw1_12 : (Jvm.Cond.initialized "GriefEngineModel") ∈ GW := in_t1 (List.mem_of_getElem? (i := 12) (by decide +kernel)) (by decide +kernel)
theorem tw1_13 : (Jvm.Cond.initialized "java/lang/String") ∈ GW := in_t1 (List.mem_of_getElem? (i := 13) (by decide +kernel)) (by decide +kernel)
theorem tw1_14 : (Jvm.Cond.initialized "java/lang/StringLatin1") ∈ GW := in_t1 (List.mem_of_getElem? (i := 14) (by decide +kernel)) (by decide +kernel)
theorem tw1_15 : (Jvm.Cond.initialized "jdk/internal/util/Preconditions") ∈ GW := in_t1 (List.mem_of_getElem? (i := 15) (by decide +kernel)) (by decide +kernel)
theorem tw1_16 : (Jvm.Cond.initialized "java/lang/StringUTF16") ∈ GW := in_t1 (List.mem_of_getElem? (i := 16) (by decide +kernel)) (by decide +kernel)
theorem tw1_17 : (Jvm.Cond.initialized "java/lang/Math") ∈ GW := in_t1 (List.mem_of_getElem? (i := 17) (by decide +kernel)) (by decide +kernel)
theorem tw1_18 : (Jvm.Cond.initialized "java/lang/System") ∈ GW := in_t1 (List.mem_of_getElem? (i := 18) (by decide +kernel)) (by decide +kernel)
theorem tw1_19 : (Jvm.Cond.classLink "GriefEngineLaw" (7 : Nat) "GriefEngine") ∈ GW := in_t1 (List.mem_of_getElem? (i := 19) (by decide +kernel)) (by decide +kernel)
theorem tw1_20 : (Jvm.Cond.instantiable "GriefEngine" (11 : Nat)) ∈ GW := in_t1 (List.mem_of_getElem? (i := 20) (by decide +kernel)) (by decide +kernel)
theorem tw1_21 : (Jvm.Cond.methodLink "GriefEngineLaw" (9 : Nat) ({ cls := "GriefEngine", name := "<init>", desc := "()V" } : Jvm.MethodName)) ∈ GW := in_t1 (List.mem_of_getElem? (i := 21) (by decide +kernel)) (by decide +kernel)
theorem tw1_22 : (Jvm.Cond.instanceMethod ({ cls := "GriefEngine", name := "<init>", desc := "()V" } : Jvm.MethodName)) ∈ GW := in_t1 (List.mem_of_getElem? (i := 22) (by decide +kernel)) (by decide +kernel)
theorem tw1_23 : (Jvm.Cond.code ({ cls := "GriefEngine", name := "<init>", desc := "()V" } : Jvm.MethodName) prog_1_method_1_code (1 : Nat) (Option.none : Option Jvm.ClassFile.FieldType)) ∈ GW := in_t1 (List.mem_of_getElem? (i := 23) (by decide +kernel)) (by decide +kernel)
theorem tw1_24 : (Jvm.Cond.methodLink "GriefEngine" (3 : Nat) ({ cls := "java/lang/Object", name := "<init>", desc := "()V" } : Jvm.MethodName)) ∈ GW := in_t1 (List.mem_of_getElem? (i := 24) (by decide +kernel)) (by decide +kernel)
theorem tw1_25 : (Jvm.Cond.instanceMethod ({ cls := "java/lang/Object", name := "<init>", desc := "()V" } : Jvm.MethodName)) ∈ GW := in_t1 (List.mem_of_getElem? (i := 25) (by decide +kernel)) (by decide +kernel)
theorem tw1_26 : (Jvm.Cond.code ({ cls := "java/lang/Object", name := "<init>", desc := "()V" } : Jvm.MethodName) object_method_1_code (1 : Nat) (Option.none : Option Jvm.ClassFile.FieldType)) ∈ GW := in_t1 (List.mem_of_getElem? (i := 26) (by decide +kernel)) (by decide +kernel)
theorem tw1_27 : (Jvm.Cond.classLink "GriefEngine" (9 : Nat) "GriefEngine$Rank") ∈ GW := in_t1 (List.mem_of_getElem? (i := 27) (by decide +kernel)) (by decide +kernel)
theorem tw1_28 : (Jvm.Cond.instantiable "GriefEngine$Rank" (12 : Nat)) ∈ GW := in_t1 (List.mem_of_getElem? (i := 28) (by decide +kernel)) (by decide +kernel)
theorem tw1_30 : (Jvm.Cond.instanceMethod ({ cls := "GriefEngine$Rank", name := "<init>", desc := "()V" } : Jvm.MethodName)) ∈ GW := in_t1 (List.mem_of_getElem? (i := 30) (by decide +kernel)) (by decide +kernel)
theorem tw1_31 : (Jvm.Cond.code ({ cls := "GriefEngine$Rank", name := "<init>", desc := "()V" } : Jvm.MethodName) prog_6_method_1_code (1 : Nat) (Option.none : Option Jvm.ClassFile.FieldType)) ∈ GW := in_t1 (List.mem_of_getElem? (i := 31) (by decide +kernel)) (by decide +kernel)
theorem tw1_32 : (Jvm.Cond.methodLink "GriefEngine$Rank" (3 : Nat) ({ cls := "java/lang/Object", name := "<init>", desc := "()V" } : Jvm.MethodName)) ∈ GW := in_t1 (List.mem_of_getElem? (i := 32) (by decide +kernel)) (by decide +kernel)
theorem tw1_33 : (Jvm.Cond.classLink "GriefEngine$Rank" (9 : Nat) "GriefEngine$Plain") ∈ GW := in_t1 (List.mem_of_getElem? (i := 33) (by decide +kernel)) (by decide +kernel)
theorem tw1_35 : (Jvm.Cond.instantiable "GriefEngine$Plain" (0 : Nat)) ∈ GW := in_t1 (List.mem_of_getElem? (i := 35) (by decide +kernel)) (by decide +kernel)
theorem tw1_37 : (Jvm.Cond.instanceMethod ({ cls := "GriefEngine$Plain", name := "<init>", desc := "()V" } : Jvm.MethodName)) ∈ GW := in_t1 (List.mem_of_getElem? (i := 37) (by decide +kernel)) (by decide +kernel)
theorem tw1_38 : (Jvm.Cond.code ({ cls := "GriefEngine$Plain", name := "<init>", desc := "()V" } : Jvm.MethodName) prog_5_method_1_code (1 : Nat) (Option.none : Option Jvm.ClassFile.FieldType)) ∈ GW := in_t1 (List.mem_of_getElem? (i := 38) (by decide +kernel)) (by decide +kernel)
theorem tw1_39 : (Jvm.Cond.methodLink "GriefEngine$Plain" (3 : Nat) ({ cls := "java/lang/Object", name := "<init>", desc := "()V" } : Jvm.MethodName)) ∈ GW := in_t1 (List.mem_of_getElem? (i := 39) (by decide +kernel)) (by decide +kernel)
theorem tw1_40 : (Jvm.Cond.superclass "GriefEngine$Plain" "java/lang/Object") ∈ GW := in_t1 (List.mem_of_getElem? (i := 40) (by decide +kernel)) (by decide +kernel)
theorem tw1_41 : (Jvm.Cond.classLink "GriefEngine$Rank" (12 : Nat) "GriefEngine$Keeper") ∈ GW := in_t1 (List.mem_of_getElem? (i := 41) (by decide +kernel)) (by decide +kernel)
theorem tw1_42 : (Jvm.Cond.instantiable "GriefEngine$Keeper" (0 : Nat)) ∈ GW := in_t1 (List.mem_of_getElem? (i := 42) (by decide +kernel)) (by decide +kernel)
theorem tw1_44 : (Jvm.Cond.instanceMethod ({ cls := "GriefEngine$Keeper", name := "<init>", desc := "()V" } : Jvm.MethodName)) ∈ GW := in_t1 (List.mem_of_getElem? (i := 44) (by decide +kernel)) (by decide +kernel)
theorem tw1_45 : (Jvm.Cond.code ({ cls := "GriefEngine$Keeper", name := "<init>", desc := "()V" } : Jvm.MethodName) prog_2_method_1_code (1 : Nat) (Option.none : Option Jvm.ClassFile.FieldType)) ∈ GW := in_t1 (List.mem_of_getElem? (i := 45) (by decide +kernel)) (by decide +kernel)
theorem tw1_47 : (Jvm.Cond.superclass "GriefEngine$Keeper" "GriefEngine$Plain") ∈ GW := in_t1 (List.mem_of_getElem? (i := 47) (by decide +kernel)) (by decide +kernel)
theorem tw1_48 : (Jvm.Cond.classLink "GriefEngine$Rank" (15 : Nat) "GriefEngine$Sham") ∈ GW := in_t1 (List.mem_of_getElem? (i := 48) (by decide +kernel)) (by decide +kernel)
theorem tw1_49 : (Jvm.Cond.instantiable "GriefEngine$Sham" (0 : Nat)) ∈ GW := in_t1 (List.mem_of_getElem? (i := 49) (by decide +kernel)) (by decide +kernel)
theorem tw1_51 : (Jvm.Cond.instanceMethod ({ cls := "GriefEngine$Sham", name := "<init>", desc := "()V" } : Jvm.MethodName)) ∈ GW := in_t1 (List.mem_of_getElem? (i := 51) (by decide +kernel)) (by decide +kernel)
theorem tw1_52 : (Jvm.Cond.code ({ cls := "GriefEngine$Sham", name := "<init>", desc := "()V" } : Jvm.MethodName) prog_8_method_1_code (1 : Nat) (Option.none : Option Jvm.ClassFile.FieldType)) ∈ GW := in_t1 (List.mem_of_getElem? (i := 52) (by decide +kernel)) (by decide +kernel)
theorem tw1_54 : (Jvm.Cond.superclass "GriefEngine$Sham" "GriefEngine$Plain") ∈ GW := in_t1 (List.mem_of_getElem? (i := 54) (by decide +kernel)) (by decide +kernel)
theorem tw1_55 : (Jvm.Cond.classLink "GriefEngine$Rank" (18 : Nat) "GriefEngine$Spring") ∈ GW := in_t1 (List.mem_of_getElem? (i := 55) (by decide +kernel)) (by decide +kernel)
theorem tw1_56 : (Jvm.Cond.instantiable "GriefEngine$Spring" (0 : Nat)) ∈ GW := in_t1 (List.mem_of_getElem? (i := 56) (by decide +kernel)) (by decide +kernel)
theorem tw1_58 : (Jvm.Cond.instanceMethod ({ cls := "GriefEngine$Spring", name := "<init>", desc := "()V" } : Jvm.MethodName)) ∈ GW := in_t1 (List.mem_of_getElem? (i := 58) (by decide +kernel)) (by decide +kernel)
theorem tw1_59 : (Jvm.Cond.code ({ cls := "GriefEngine$Spring", name := "<init>", desc := "()V" } : Jvm.MethodName) prog_9_method_1_code (1 : Nat) (Option.none : Option Jvm.ClassFile.FieldType)) ∈ GW := in_t1 (List.mem_of_getElem? (i := 59) (by decide +kernel)) (by decide +kernel)
theorem tw1_61 : (Jvm.Cond.superclass "GriefEngine$Spring" "GriefEngine$Plain") ∈ GW := in_t1 (List.mem_of_getElem? (i := 61) (by decide +kernel)) (by decide +kernel)
theorem tw1_62 : (Jvm.Cond.classLink "GriefEngine$Rank" (21 : Nat) "GriefEngine$Teller") ∈ GW := in_t1 (List.mem_of_getElem? (i := 62) (by decide +kernel)) (by decide +kernel)
theorem tw1_63 : (Jvm.Cond.instantiable "GriefEngine$Teller" (0 : Nat)) ∈ GW := in_t1 (List.mem_of_getElem? (i := 63) (by decide +kernel)) (by decide +kernel)
theorem tw1_65 : (Jvm.Cond.instanceMethod ({ cls := "GriefEngine$Teller", name := "<init>", desc := "()V" } : Jvm.MethodName)) ∈ GW := in_t1 (List.mem_of_getElem? (i := 65) (by decide +kernel)) (by decide +kernel)
theorem tw1_66 : (Jvm.Cond.code ({ cls := "GriefEngine$Teller", name := "<init>", desc := "()V" } : Jvm.MethodName) prog_10_method_1_code (1 : Nat) (Option.none : Option Jvm.ClassFile.FieldType)) ∈ GW := in_t1 (List.mem_of_getElem? (i := 66) (by decide +kernel)) (by decide +kernel)
theorem tw1_68 : (Jvm.Cond.superclass "GriefEngine$Teller" "GriefEngine$Keeper") ∈ GW := in_t1 (List.mem_of_getElem? (i := 68) (by decide +kernel)) (by decide +kernel)
theorem tw1_69 : (Jvm.Cond.classLink "GriefEngine$Rank" (24 : Nat) "GriefEngine$Old") ∈ GW := in_t1 (List.mem_of_getElem? (i := 69) (by decide +kernel)) (by decide +kernel)
theorem tw1_70 : (Jvm.Cond.instantiable "GriefEngine$Old" (0 : Nat)) ∈ GW := in_t1 (List.mem_of_getElem? (i := 70) (by decide +kernel)) (by decide +kernel)
theorem tw1_72 : (Jvm.Cond.instanceMethod ({ cls := "GriefEngine$Old", name := "<init>", desc := "()V" } : Jvm.MethodName)) ∈ GW := in_t1 (List.mem_of_getElem? (i := 72) (by decide +kernel)) (by decide +kernel)
theorem tw1_73 : (Jvm.Cond.code ({ cls := "GriefEngine$Old", name := "<init>", desc := "()V" } : Jvm.MethodName) prog_3_method_1_code (1 : Nat) (Option.none : Option Jvm.ClassFile.FieldType)) ∈ GW := in_t1 (List.mem_of_getElem? (i := 73) (by decide +kernel)) (by decide +kernel)
theorem tw1_75 : (Jvm.Cond.superclass "GriefEngine$Old" "GriefEngine$Spring") ∈ GW := in_t1 (List.mem_of_getElem? (i := 75) (by decide +kernel)) (by decide +kernel)
theorem tw1_76 : (Jvm.Cond.fieldLink "GriefEngine$Rank" (27 : Nat) "GriefEngine$Rank" "kinds" "[LGriefEngine$Plain;") ∈ GW := in_t1 (List.mem_of_getElem? (i := 76) (by decide +kernel)) (by decide +kernel)
theorem tw1_77 : (Jvm.Cond.fieldLink "GriefEngine" (266 : Nat) "GriefEngine$Rank" "kinds" "[LGriefEngine$Plain;") ∈ GW := in_t1 (List.mem_of_getElem? (i := 77) (by decide +kernel)) (by decide +kernel)
theorem tw1_78 : (Jvm.Cond.fieldLink "GriefEngine$Rank" (33 : Nat) "GriefEngine$Rank" "kind" "[I") ∈ GW := in_t1 (List.mem_of_getElem? (i := 78) (by decide +kernel)) (by decide +kernel)
theorem tw1_79 : (Jvm.Cond.fieldLink "GriefEngine$Pairs" (54 : Nat) "GriefEngine$Rank" "kind" "[I") ∈ GW := in_t1 (List.mem_of_getElem? (i := 79) (by decide +kernel)) (by decide +kernel)
theorem tw1_80 : (Jvm.Cond.fieldLink "GriefEngine" (144 : Nat) "GriefEngine$Rank" "kind" "[I") ∈ GW := in_t1 (List.mem_of_getElem? (i := 80) (by decide +kernel)) (by decide +kernel)
theorem tw1_81 : (Jvm.Cond.fieldLink "GriefEngine$Rank" (37 : Nat) "GriefEngine$Rank" "grief" "[I") ∈ GW := in_t1 (List.mem_of_getElem? (i := 81) (by decide +kernel)) (by decide +kernel)
theorem tw1_82 : (Jvm.Cond.fieldLink "GriefEngine$Rows" (43 : Nat) "GriefEngine$Rank" "grief" "[I") ∈ GW := in_t1 (List.mem_of_getElem? (i := 82) (by decide +kernel)) (by decide +kernel)
theorem tw1_83 : (Jvm.Cond.fieldLink "GriefEngine$Pairs" (45 : Nat) "GriefEngine$Rank" "grief" "[I") ∈ GW := in_t1 (List.mem_of_getElem? (i := 83) (by decide +kernel)) (by decide +kernel)
theorem tw1_84 : (Jvm.Cond.fieldLink "GriefEngine" (147 : Nat) "GriefEngine$Rank" "grief" "[I") ∈ GW := in_t1 (List.mem_of_getElem? (i := 84) (by decide +kernel)) (by decide +kernel)
theorem tw1_85 : (Jvm.Cond.fieldLink "GriefEngine$Rank" (40 : Nat) "GriefEngine$Rank" "miles" "[I") ∈ GW := in_t1 (List.mem_of_getElem? (i := 85) (by decide +kernel)) (by decide +kernel)
theorem tw1_86 : (Jvm.Cond.fieldLink "GriefEngine" (150 : Nat) "GriefEngine$Rank" "miles" "[I") ∈ GW := in_t1 (List.mem_of_getElem? (i := 86) (by decide +kernel)) (by decide +kernel)
theorem tw1_87 : (Jvm.Cond.fieldLink "GriefEngine$Rank" (43 : Nat) "GriefEngine$Rank" "notes" "[I") ∈ GW := in_t1 (List.mem_of_getElem? (i := 87) (by decide +kernel)) (by decide +kernel)
theorem tw1_88 : (Jvm.Cond.fieldLink "GriefEngine" (260 : Nat) "GriefEngine$Rank" "notes" "[I") ∈ GW := in_t1 (List.mem_of_getElem? (i := 88) (by decide +kernel)) (by decide +kernel)
theorem tw1_89 : (Jvm.Cond.fieldLink "GriefEngine$Rank" (46 : Nat) "GriefEngine$Rank" "trips" "[I") ∈ GW := in_t1 (List.mem_of_getElem? (i := 89) (by decide +kernel)) (by decide +kernel)
theorem tw1_90 : (Jvm.Cond.fieldLink "GriefEngine" (263 : Nat) "GriefEngine$Rank" "trips" "[I") ∈ GW := in_t1 (List.mem_of_getElem? (i := 90) (by decide +kernel)) (by decide +kernel)
theorem tw1_91 : (Jvm.Cond.fieldLink "GriefEngine$Rank" (49 : Nat) "GriefEngine$Rank" "past" "[I") ∈ GW := in_t1 (List.mem_of_getElem? (i := 91) (by decide +kernel)) (by decide +kernel)
theorem tw1_92 : (Jvm.Cond.fieldLink "GriefEngine$Rank" (52 : Nat) "GriefEngine$Rank" "size" "I") ∈ GW := in_t1 (List.mem_of_getElem? (i := 92) (by decide +kernel)) (by decide +kernel)
theorem tw1_93 : (Jvm.Cond.fieldLink "GriefEngine" (62 : Nat) "GriefEngine$Rank" "size" "I") ∈ GW := in_t1 (List.mem_of_getElem? (i := 93) (by decide +kernel)) (by decide +kernel)
theorem tw1_94 : (Jvm.Cond.fieldLink "GriefEngine$Pairs" (26 : Nat) "GriefEngine$Rank" "size" "I") ∈ GW := in_t1 (List.mem_of_getElem? (i := 94) (by decide +kernel)) (by decide +kernel)
theorem tw1_95 : (Jvm.Cond.fieldLink "GriefEngine$Rank" (56 : Nat) "GriefEngine$Rank" "today" "I") ∈ GW := in_t1 (List.mem_of_getElem? (i := 95) (by decide +kernel)) (by decide +kernel)
theorem tw1_96 : (Jvm.Cond.fieldLink "GriefEngine$Rows" (36 : Nat) "GriefEngine$Rank" "today" "I") ∈ GW := in_t1 (List.mem_of_getElem? (i := 96) (by decide +kernel)) (by decide +kernel)
theorem tw1_97 : (Jvm.Cond.fieldLink "GriefEngine" (141 : Nat) "GriefEngine$Rank" "today" "I") ∈ GW := in_t1 (List.mem_of_getElem? (i := 97) (by decide +kernel)) (by decide +kernel)
theorem tw1_98 : (Jvm.Cond.fieldLink "GriefEngine$Rank" (59 : Nat) "GriefEngine$Rank" "noteCount" "I") ∈ GW := in_t1 (List.mem_of_getElem? (i := 98) (by decide +kernel)) (by decide +kernel)
theorem tw1_99 : (Jvm.Cond.fieldLink "GriefEngine" (203 : Nat) "GriefEngine$Rank" "noteCount" "I") ∈ GW := in_t1 (List.mem_of_getElem? (i := 99) (by decide +kernel)) (by decide +kernel)
theorem tw1_100 : (Jvm.Cond.fieldLink "GriefEngine$Rank" (62 : Nat) "GriefEngine$Rank" "tripCount" "I") ∈ GW := in_t1 (List.mem_of_getElem? (i := 100) (by decide +kernel)) (by decide +kernel)
theorem tw1_101 : (Jvm.Cond.fieldLink "GriefEngine" (206 : Nat) "GriefEngine$Rank" "tripCount" "I") ∈ GW := in_t1 (List.mem_of_getElem? (i := 101) (by decide +kernel)) (by decide +kernel)
theorem tw1_102 : (Jvm.Cond.fieldLink "GriefEngine$Rank" (65 : Nat) "GriefEngine$Rank" "undoCount" "I") ∈ GW := in_t1 (List.mem_of_getElem? (i := 102) (by decide +kernel)) (by decide +kernel)
theorem tw1_103 : (Jvm.Cond.fieldLink "GriefEngine" (135 : Nat) "GriefEngine$Rank" "undoCount" "I") ∈ GW := in_t1 (List.mem_of_getElem? (i := 103) (by decide +kernel)) (by decide +kernel)
theorem tw1_104 : (Jvm.Cond.laysFinal "GriefEngine$Rank" "GriefEngine$Rank" "kinds" "[LGriefEngine$Plain;") ∈ GW := in_t1 (List.mem_of_getElem? (i := 104) (by decide +kernel)) (by decide +kernel)
theorem tw1_106 : (Jvm.Cond.laysFinal "GriefEngine$Rank" "GriefEngine$Rank" "kind" "[I") ∈ GW := in_t1 (List.mem_of_getElem? (i := 106) (by decide +kernel)) (by decide +kernel)
theorem tw1_108 : (Jvm.Cond.laysFinal "GriefEngine$Rank" "GriefEngine$Rank" "grief" "[I") ∈ GW := in_t1 (List.mem_of_getElem? (i := 108) (by decide +kernel)) (by decide +kernel)
theorem tw1_110 : (Jvm.Cond.laysFinal "GriefEngine$Rank" "GriefEngine$Rank" "miles" "[I") ∈ GW := in_t1 (List.mem_of_getElem? (i := 110) (by decide +kernel)) (by decide +kernel)
theorem tw1_112 : (Jvm.Cond.laysFinal "GriefEngine$Rank" "GriefEngine$Rank" "notes" "[I") ∈ GW := in_t1 (List.mem_of_getElem? (i := 112) (by decide +kernel)) (by decide +kernel)
theorem tw1_114 : (Jvm.Cond.laysFinal "GriefEngine$Rank" "GriefEngine$Rank" "trips" "[I") ∈ GW := in_t1 (List.mem_of_getElem? (i := 114) (by decide +kernel)) (by decide +kernel)
theorem tw1_116 : (Jvm.Cond.laysFinal "GriefEngine$Rank" "GriefEngine$Rank" "past" "[I") ∈ GW := in_t1 (List.mem_of_getElem? (i := 116) (by decide +kernel)) (by decide +kernel)
theorem tw1_118 : (Jvm.Cond.lays "GriefEngine$Rank" "GriefEngine$Rank" "size" "I") ∈ GW := in_t1 (List.mem_of_getElem? (i := 118) (by decide +kernel)) (by decide +kernel)
theorem tw1_120 : (Jvm.Cond.lays "GriefEngine$Rank" "GriefEngine$Rank" "today" "I") ∈ GW := in_t1 (List.mem_of_getElem? (i := 120) (by decide +kernel)) (by decide +kernel)
theorem tw1_122 : (Jvm.Cond.lays "GriefEngine$Rank" "GriefEngine$Rank" "noteCount" "I") ∈ GW := in_t1 (List.mem_of_getElem? (i := 122) (by decide +kernel)) (by decide +kernel)
theorem tw1_124 : (Jvm.Cond.lays "GriefEngine$Rank" "GriefEngine$Rank" "tripCount" "I") ∈ GW := in_t1 (List.mem_of_getElem? (i := 124) (by decide +kernel)) (by decide +kernel)
theorem tw1_126 : (Jvm.Cond.lays "GriefEngine$Rank" "GriefEngine$Rank" "undoCount" "I") ∈ GW := in_t1 (List.mem_of_getElem? (i := 126) (by decide +kernel)) (by decide +kernel)
theorem tw1_128 : (Jvm.Cond.superclass "GriefEngine$Rank" "java/lang/Object") ∈ GW := in_t1 (List.mem_of_getElem? (i := 128) (by decide +kernel)) (by decide +kernel)
theorem tw1_129 : (Jvm.Cond.arrayClass Jvm.ClassFile.FieldType.int) ∈ GW := in_t1 (List.mem_of_getElem? (i := 129) (by decide +kernel)) (by decide +kernel)
theorem tw1_131 : (Jvm.Cond.classLink "GriefEngine" (27 : Nat) "GriefEngine$Text") ∈ GW := in_t1 (List.mem_of_getElem? (i := 131) (by decide +kernel)) (by decide +kernel)
theorem tw1_132 : (Jvm.Cond.instantiable "GriefEngine$Text" (10 : Nat)) ∈ GW := in_t1 (List.mem_of_getElem? (i := 132) (by decide +kernel)) (by decide +kernel)
theorem tw1_134 : (Jvm.Cond.instanceMethod ({ cls := "GriefEngine$Text", name := "<init>", desc := "()V" } : Jvm.MethodName)) ∈ GW := in_t1 (List.mem_of_getElem? (i := 134) (by decide +kernel)) (by decide +kernel)
theorem tw1_135 : (Jvm.Cond.code ({ cls := "GriefEngine$Text", name := "<init>", desc := "()V" } : Jvm.MethodName) prog_11_method_1_code (1 : Nat) (Option.none : Option Jvm.ClassFile.FieldType)) ∈ GW := in_t1 (List.mem_of_getElem? (i := 135) (by decide +kernel)) (by decide +kernel)
theorem tw1_136 : (Jvm.Cond.methodLink "GriefEngine$Text" (3 : Nat) ({ cls := "java/lang/Object", name := "<init>", desc := "()V" } : Jvm.MethodName)) ∈ GW := in_t1 (List.mem_of_getElem? (i := 136) (by decide +kernel)) (by decide +kernel)
theorem tw1_137 : (Jvm.Cond.fieldLink "GriefEngine$Text" (9 : Nat) "GriefEngine$Text" "bytes" "[B") ∈ GW := in_t1 (List.mem_of_getElem? (i := 137) (by decide +kernel)) (by decide +kernel)
theorem tw1_138 : (Jvm.Cond.fieldLink "GriefEngine$Text" (15 : Nat) "GriefEngine$Text" "length" "I") ∈ GW := in_t1 (List.mem_of_getElem? (i := 138) (by decide +kernel)) (by decide +kernel)
theorem tw1_139 : (Jvm.Cond.fieldLink "GriefEngine" (87 : Nat) "GriefEngine$Text" "length" "I") ∈ GW := in_t1 (List.mem_of_getElem? (i := 139) (by decide +kernel)) (by decide +kernel)
theorem tw1_140 : (Jvm.Cond.fieldLink "GriefEngine" (118 : Nat) "GriefEngine$Text" "start" "I") ∈ GW := in_t1 (List.mem_of_getElem? (i := 140) (by decide +kernel)) (by decide +kernel)
theorem tw1_141 : (Jvm.Cond.fieldLink "GriefEngine$Text" (66 : Nat) "GriefEngine$Text" "start" "I") ∈ GW := in_t1 (List.mem_of_getElem? (i := 141) (by decide +kernel)) (by decide +kernel)
theorem tw1_142 : (Jvm.Cond.fieldLink "GriefEngine$Text" (22 : Nat) "GriefEngine$Text" "isFinished" "Z") ∈ GW := in_t1 (List.mem_of_getElem? (i := 142) (by decide +kernel)) (by decide +kernel)
theorem tw1_143 : (Jvm.Cond.fieldLink "GriefEngine" (115 : Nat) "GriefEngine$Text" "isFinished" "Z") ∈ GW := in_t1 (List.mem_of_getElem? (i := 143) (by decide +kernel)) (by decide +kernel)
theorem tw1_144 : (Jvm.Cond.fieldLink "GriefEngine$Text" (44 : Nat) "GriefEngine$Text" "isDriver" "Z") ∈ GW := in_t1 (List.mem_of_getElem? (i := 144) (by decide +kernel)) (by decide +kernel)
theorem tw1_145 : (Jvm.Cond.fieldLink "GriefEngine" (101 : Nat) "GriefEngine$Text" "isDriver" "Z") ∈ GW := in_t1 (List.mem_of_getElem? (i := 145) (by decide +kernel)) (by decide +kernel)
theorem tw1_146 : (Jvm.Cond.fieldLink "GriefEngine$Text" (56 : Nat) "GriefEngine$Text" "first" "I") ∈ GW := in_t1 (List.mem_of_getElem? (i := 146) (by decide +kernel)) (by decide +kernel)
theorem tw1_147 : (Jvm.Cond.fieldLink "GriefEngine" (105 : Nat) "GriefEngine$Text" "first" "I") ∈ GW := in_t1 (List.mem_of_getElem? (i := 147) (by decide +kernel)) (by decide +kernel)
theorem tw1_148 : (Jvm.Cond.fieldLink "GriefEngine$Text" (59 : Nat) "GriefEngine$Text" "second" "I") ∈ GW := in_t1 (List.mem_of_getElem? (i := 148) (by decide +kernel)) (by decide +kernel)
theorem tw1_149 : (Jvm.Cond.fieldLink "GriefEngine" (108 : Nat) "GriefEngine$Text" "second" "I") ∈ GW := in_t1 (List.mem_of_getElem? (i := 149) (by decide +kernel)) (by decide +kernel)
theorem tw1_150 : (Jvm.Cond.fieldLink "GriefEngine$Text" (39 : Nat) "GriefEngine$Text" "sort" "I") ∈ GW := in_t1 (List.mem_of_getElem? (i := 150) (by decide +kernel)) (by decide +kernel)
theorem tw1_151 : (Jvm.Cond.fieldLink "GriefEngine$Text" (19 : Nat) "GriefEngine$Text" "next" "I") ∈ GW := in_t1 (List.mem_of_getElem? (i := 151) (by decide +kernel)) (by decide +kernel)
theorem tw1_152 : (Jvm.Cond.fieldLink "GriefEngine$Text" (53 : Nat) "GriefEngine$Text" "number" "I") ∈ GW := in_t1 (List.mem_of_getElem? (i := 152) (by decide +kernel)) (by decide +kernel)
theorem tw1_153 : (Jvm.Cond.laysFinal "GriefEngine$Text" "GriefEngine$Text" "bytes" "[B") ∈ GW := in_t1 (List.mem_of_getElem? (i := 153) (by decide +kernel)) (by decide +kernel)
theorem tw1_155 : (Jvm.Cond.lays "GriefEngine$Text" "GriefEngine$Text" "length" "I") ∈ GW := in_t1 (List.mem_of_getElem? (i := 155) (by decide +kernel)) (by decide +kernel)
theorem tw1_157 : (Jvm.Cond.lays "GriefEngine$Text" "GriefEngine$Text" "start" "I") ∈ GW := in_t1 (List.mem_of_getElem? (i := 157) (by decide +kernel)) (by decide +kernel)
theorem tw1_159 : (Jvm.Cond.lays "GriefEngine$Text" "GriefEngine$Text" "isFinished" "Z") ∈ GW := in_t1 (List.mem_of_getElem? (i := 159) (by decide +kernel)) (by decide +kernel)
theorem tw1_161 : (Jvm.Cond.lays "GriefEngine$Text" "GriefEngine$Text" "isDriver" "Z") ∈ GW := in_t1 (List.mem_of_getElem? (i := 161) (by decide +kernel)) (by decide +kernel)
theorem tw1_163 : (Jvm.Cond.lays "GriefEngine$Text" "GriefEngine$Text" "first" "I") ∈ GW := in_t1 (List.mem_of_getElem? (i := 163) (by decide +kernel)) (by decide +kernel)
theorem tw1_165 : (Jvm.Cond.lays "GriefEngine$Text" "GriefEngine$Text" "second" "I") ∈ GW := in_t1 (List.mem_of_getElem? (i := 165) (by decide +kernel)) (by decide +kernel)
theorem tw1_167 : (Jvm.Cond.lays "GriefEngine$Text" "GriefEngine$Text" "sort" "I") ∈ GW := in_t1 (List.mem_of_getElem? (i := 167) (by decide +kernel)) (by decide +kernel)
theorem tw1_169 : (Jvm.Cond.lays "GriefEngine$Text" "GriefEngine$Text" "next" "I") ∈ GW := in_t1 (List.mem_of_getElem? (i := 169) (by decide +kernel)) (by decide +kernel)
theorem tw1_171 : (Jvm.Cond.lays "GriefEngine$Text" "GriefEngine$Text" "number" "I") ∈ GW := in_t1 (List.mem_of_getElem? (i := 171) (by decide +kernel)) (by decide +kernel)
theorem tw1_173 : (Jvm.Cond.superclass "GriefEngine$Text" "java/lang/Object") ∈ GW := in_t1 (List.mem_of_getElem? (i := 173) (by decide +kernel)) (by decide +kernel)
theorem tw1_174 : (Jvm.Cond.arrayClass Jvm.ClassFile.FieldType.boolean) ∈ GW := in_t1 (List.mem_of_getElem? (i := 174) (by decide +kernel)) (by decide +kernel)
theorem tw1_175 : (Jvm.Cond.arrayClass Jvm.ClassFile.FieldType.byte) ∈ GW := in_t1 (List.mem_of_getElem? (i := 175) (by decide +kernel)) (by decide +kernel)
theorem tw1_176 : (Jvm.Cond.classLink "GriefEngine" (34 : Nat) "GriefEngine$Rows") ∈ GW := in_t1 (List.mem_of_getElem? (i := 176) (by decide +kernel)) (by decide +kernel)
theorem tw1_177 : (Jvm.Cond.instantiable "GriefEngine$Rows" (6 : Nat)) ∈ GW := in_t1 (List.mem_of_getElem? (i := 177) (by decide +kernel)) (by decide +kernel)
theorem tw1_178 : (Jvm.Cond.methodLink "GriefEngine" (36 : Nat) ({ cls := "GriefEngine$Rows", name := "<init>", desc := "()V" } : Jvm.MethodName)) ∈ GW := in_t1 (List.mem_of_getElem? (i := 178) (by decide +kernel)) (by decide +kernel)
theorem tw1_179 : (Jvm.Cond.instanceMethod ({ cls := "GriefEngine$Rows", name := "<init>", desc := "()V" } : Jvm.MethodName)) ∈ GW := in_t1 (List.mem_of_getElem? (i := 179) (by decide +kernel)) (by decide +kernel)
theorem tw1_180 : (Jvm.Cond.code ({ cls := "GriefEngine$Rows", name := "<init>", desc := "()V" } : Jvm.MethodName) prog_7_method_1_code (1 : Nat) (Option.none : Option Jvm.ClassFile.FieldType)) ∈ GW := in_t1 (List.mem_of_getElem? (i := 180) (by decide +kernel)) (by decide +kernel)
theorem tw1_181 : (Jvm.Cond.methodLink "GriefEngine$Rows" (3 : Nat) ({ cls := "java/lang/Object", name := "<init>", desc := "()V" } : Jvm.MethodName)) ∈ GW := in_t1 (List.mem_of_getElem? (i := 181) (by decide +kernel)) (by decide +kernel)
theorem tw1_182 : (Jvm.Cond.classLink "GriefEngine$Rows" (9 : Nat) "[[I") ∈ GW := in_t1 (List.mem_of_getElem? (i := 182) (by decide +kernel)) (by decide +kernel)
theorem tw1_184 : (Jvm.Cond.classLink "GriefEngine$Rows" (19 : Nat) "GriefEngine$Plain") ∈ GW := in_t1 (List.mem_of_getElem? (i := 184) (by decide +kernel)) (by decide +kernel)
theorem tw1_186 : (Jvm.Cond.fieldLink "GriefEngine$Rows" (11 : Nat) "GriefEngine$Rows" "before" "[[I") ∈ GW := in_t1 (List.mem_of_getElem? (i := 186) (by decide +kernel)) (by decide +kernel)
theorem tw1_187 : (Jvm.Cond.fieldLink "GriefEngine$Rows" (16 : Nat) "GriefEngine$Rows" "after" "[[I") ∈ GW := in_t1 (List.mem_of_getElem? (i := 187) (by decide +kernel)) (by decide +kernel)
theorem tw1_188 : (Jvm.Cond.fieldLink "GriefEngine$Rows" (22 : Nat) "GriefEngine$Rows" "kind" "LGriefEngine$Plain;") ∈ GW := in_t1 (List.mem_of_getElem? (i := 188) (by decide +kernel)) (by decide +kernel)
theorem tw1_189 : (Jvm.Cond.fieldLink "GriefEngine$Rows" (40 : Nat) "GriefEngine$Rows" "firstDay" "I") ∈ GW := in_t1 (List.mem_of_getElem? (i := 189) (by decide +kernel)) (by decide +kernel)
theorem tw1_190 : (Jvm.Cond.fieldLink "GriefEngine$Rows" (56 : Nat) "GriefEngine$Rows" "firstGrief" "I") ∈ GW := in_t1 (List.mem_of_getElem? (i := 190) (by decide +kernel)) (by decide +kernel)
theorem tw1_191 : (Jvm.Cond.fieldLink "GriefEngine$Rows" (59 : Nat) "GriefEngine$Rows" "length" "I") ∈ GW := in_t1 (List.mem_of_getElem? (i := 191) (by decide +kernel)) (by decide +kernel)
theorem tw1_192 : (Jvm.Cond.laysFinal "GriefEngine$Rows" "GriefEngine$Rows" "before" "[[I") ∈ GW := in_t1 (List.mem_of_getElem? (i := 192) (by decide +kernel)) (by decide +kernel)
theorem tw1_194 : (Jvm.Cond.laysFinal "GriefEngine$Rows" "GriefEngine$Rows" "after" "[[I") ∈ GW := in_t1 (List.mem_of_getElem? (i := 194) (by decide +kernel)) (by decide +kernel)
theorem tw1_196 : (Jvm.Cond.lays "GriefEngine$Rows" "GriefEngine$Rows" "kind" "LGriefEngine$Plain;") ∈ GW := in_t1 (List.mem_of_getElem? (i := 196) (by decide +kernel)) (by decide +kernel)
theorem tw1_198 : (Jvm.Cond.lays "GriefEngine$Rows" "GriefEngine$Rows" "firstDay" "I") ∈ GW := in_t1 (List.mem_of_getElem? (i := 198) (by decide +kernel)) (by decide +kernel)
theorem tw1_200 : (Jvm.Cond.lays "GriefEngine$Rows" "GriefEngine$Rows" "firstGrief" "I") ∈ GW := in_t1 (List.mem_of_getElem? (i := 200) (by decide +kernel)) (by decide +kernel)
theorem tw1_202 : (Jvm.Cond.lays "GriefEngine$Rows" "GriefEngine$Rows" "length" "I") ∈ GW := in_t1 (List.mem_of_getElem? (i := 202) (by decide +kernel)) (by decide +kernel)
theorem tw1_204 : (Jvm.Cond.superclass "GriefEngine$Rows" "java/lang/Object") ∈ GW := in_t1 (List.mem_of_getElem? (i := 204) (by decide +kernel)) (by decide +kernel)
theorem tw1_205 : (Jvm.Cond.classLink "GriefEngine" (41 : Nat) "GriefEngine$Pairs") ∈ GW := in_t1 (List.mem_of_getElem? (i := 205) (by decide +kernel)) (by decide +kernel)
theorem tw1_206 : (Jvm.Cond.instantiable "GriefEngine$Pairs" (3 : Nat)) ∈ GW := in_t1 (List.mem_of_getElem? (i := 206) (by decide +kernel)) (by decide +kernel)
theorem tw1_208 : (Jvm.Cond.instanceMethod ({ cls := "GriefEngine$Pairs", name := "<init>", desc := "()V" } : Jvm.MethodName)) ∈ GW := in_t1 (List.mem_of_getElem? (i := 208) (by decide +kernel)) (by decide +kernel)
theorem tw1_209 : (Jvm.Cond.code ({ cls := "GriefEngine$Pairs", name := "<init>", desc := "()V" } : Jvm.MethodName) prog_4_method_1_code (1 : Nat) (Option.none : Option Jvm.ClassFile.FieldType)) ∈ GW := in_t1 (List.mem_of_getElem? (i := 209) (by decide +kernel)) (by decide +kernel)
theorem tw1_210 : (Jvm.Cond.methodLink "GriefEngine$Pairs" (3 : Nat) ({ cls := "java/lang/Object", name := "<init>", desc := "()V" } : Jvm.MethodName)) ∈ GW := in_t1 (List.mem_of_getElem? (i := 210) (by decide +kernel)) (by decide +kernel)
theorem tw1_211 : (Jvm.Cond.fieldLink "GriefEngine$Pairs" (9 : Nat) "GriefEngine$Pairs" "best" "[I") ∈ GW := in_t1 (List.mem_of_getElem? (i := 211) (by decide +kernel)) (by decide +kernel)
theorem tw1_212 : (Jvm.Cond.fieldLink "GriefEngine" (193 : Nat) "GriefEngine$Pairs" "best" "[I") ∈ GW := in_t1 (List.mem_of_getElem? (i := 212) (by decide +kernel)) (by decide +kernel)
theorem tw1_213 : (Jvm.Cond.fieldLink "GriefEngine$Pairs" (18 : Nat) "GriefEngine$Pairs" "bestWorth" "I") ∈ GW := in_t1 (List.mem_of_getElem? (i := 213) (by decide +kernel)) (by decide +kernel)
theorem tw1_214 : (Jvm.Cond.fieldLink "GriefEngine" (190 : Nat) "GriefEngine$Pairs" "bestWorth" "I") ∈ GW := in_t1 (List.mem_of_getElem? (i := 214) (by decide +kernel)) (by decide +kernel)
theorem tw1_215 : (Jvm.Cond.fieldLink "GriefEngine$Pairs" (15 : Nat) "GriefEngine$Pairs" "partner" "[I") ∈ GW := in_t1 (List.mem_of_getElem? (i := 215) (by decide +kernel)) (by decide +kernel)
theorem tw1_216 : (Jvm.Cond.laysFinal "GriefEngine$Pairs" "GriefEngine$Pairs" "best" "[I") ∈ GW := in_t1 (List.mem_of_getElem? (i := 216) (by decide +kernel)) (by decide +kernel)
theorem tw1_218 : (Jvm.Cond.lays "GriefEngine$Pairs" "GriefEngine$Pairs" "bestWorth" "I") ∈ GW := in_t1 (List.mem_of_getElem? (i := 218) (by decide +kernel)) (by decide +kernel)
theorem tw1_220 : (Jvm.Cond.laysFinal "GriefEngine$Pairs" "GriefEngine$Pairs" "partner" "[I") ∈ GW := in_t1 (List.mem_of_getElem? (i := 220) (by decide +kernel)) (by decide +kernel)
theorem tw1_222 : (Jvm.Cond.superclass "GriefEngine$Pairs" "java/lang/Object") ∈ GW := in_t1 (List.mem_of_getElem? (i := 222) (by decide +kernel)) (by decide +kernel)
theorem tw1_223 : (Jvm.Cond.fieldLink "GriefEngine" (12 : Nat) "GriefEngine" "live" "LGriefEngine$Rank;") ∈ GW := in_t1 (List.mem_of_getElem? (i := 223) (by decide +kernel)) (by decide +kernel)
theorem tw1_224 : (Jvm.Cond.fieldLink "GriefEngine" (16 : Nat) "GriefEngine" "draft" "LGriefEngine$Rank;") ∈ GW := in_t1 (List.mem_of_getElem? (i := 224) (by decide +kernel)) (by decide +kernel)
theorem tw1_225 : (Jvm.Cond.fieldLink "GriefEngine" (19 : Nat) "GriefEngine" "images" "[LGriefEngine$Rank;") ∈ GW := in_t1 (List.mem_of_getElem? (i := 225) (by decide +kernel)) (by decide +kernel)
theorem tw1_226 : (Jvm.Cond.fieldLink "GriefEngine" (23 : Nat) "GriefEngine" "kept" "[Z") ∈ GW := in_t1 (List.mem_of_getElem? (i := 226) (by decide +kernel)) (by decide +kernel)
theorem tw1_227 : (Jvm.Cond.fieldLink "GriefEngine" (30 : Nat) "GriefEngine" "text" "LGriefEngine$Text;") ∈ GW := in_t1 (List.mem_of_getElem? (i := 227) (by decide +kernel)) (by decide +kernel)
theorem tw1_228 : (Jvm.Cond.fieldLink "GriefEngine" (37 : Nat) "GriefEngine" "rows" "LGriefEngine$Rows;") ∈ GW := in_t1 (List.mem_of_getElem? (i := 228) (by decide +kernel)) (by decide +kernel)
theorem tw1_229 : (Jvm.Cond.fieldLink "GriefEngine" (44 : Nat) "GriefEngine" "pairs" "LGriefEngine$Pairs;") ∈ GW := in_t1 (List.mem_of_getElem? (i := 229) (by decide +kernel)) (by decide +kernel)
theorem tw1_230 : (Jvm.Cond.fieldLink "GriefEngine" (48 : Nat) "GriefEngine" "signs" "[I") ∈ GW := in_t1 (List.mem_of_getElem? (i := 230) (by decide +kernel)) (by decide +kernel)
theorem tw1_231 : (Jvm.Cond.fieldLink "GriefEngine" (52 : Nat) "GriefEngine" "refused" "[I") ∈ GW := in_t1 (List.mem_of_getElem? (i := 231) (by decide +kernel)) (by decide +kernel)
theorem tw1_232 : (Jvm.Cond.fieldLink "GriefEngine" (55 : Nat) "GriefEngine" "above" "J") ∈ GW := in_t1 (List.mem_of_getElem? (i := 232) (by decide +kernel)) (by decide +kernel)
theorem tw1_233 : (Jvm.Cond.fieldLink "GriefEngine" (59 : Nat) "GriefEngine" "below" "J") ∈ GW := in_t1 (List.mem_of_getElem? (i := 233) (by decide +kernel)) (by decide +kernel)
theorem tw1_234 : (Jvm.Cond.laysFinal "GriefEngine" "GriefEngine" "live" "LGriefEngine$Rank;") ∈ GW := in_t1 (List.mem_of_getElem? (i := 234) (by decide +kernel)) (by decide +kernel)
theorem tw1_236 : (Jvm.Cond.laysFinal "GriefEngine" "GriefEngine" "draft" "LGriefEngine$Rank;") ∈ GW := in_t1 (List.mem_of_getElem? (i := 236) (by decide +kernel)) (by decide +kernel)
theorem tw1_238 : (Jvm.Cond.laysFinal "GriefEngine" "GriefEngine" "images" "[LGriefEngine$Rank;") ∈ GW := in_t1 (List.mem_of_getElem? (i := 238) (by decide +kernel)) (by decide +kernel)
theorem tw2_0 : (Jvm.Cond.laysFinal "GriefEngine" "GriefEngine" "kept" "[Z") ∈ GW := in_t2 (List.mem_of_getElem? (i := 0) (by decide +kernel)) (by decide +kernel)
theorem tw2_2 : (Jvm.Cond.laysFinal "GriefEngine" "GriefEngine" "text" "LGriefEngine$Text;") ∈ GW := in_t2 (List.mem_of_getElem? (i := 2) (by decide +kernel)) (by decide +kernel)
theorem tw2_4 : (Jvm.Cond.laysFinal "GriefEngine" "GriefEngine" "rows" "LGriefEngine$Rows;") ∈ GW := in_t2 (List.mem_of_getElem? (i := 4) (by decide +kernel)) (by decide +kernel)
theorem tw2_6 : (Jvm.Cond.laysFinal "GriefEngine" "GriefEngine" "pairs" "LGriefEngine$Pairs;") ∈ GW := in_t2 (List.mem_of_getElem? (i := 6) (by decide +kernel)) (by decide +kernel)
theorem tw2_8 : (Jvm.Cond.laysFinal "GriefEngine" "GriefEngine" "signs" "[I") ∈ GW := in_t2 (List.mem_of_getElem? (i := 8) (by decide +kernel)) (by decide +kernel)
theorem tw2_10 : (Jvm.Cond.laysFinal "GriefEngine" "GriefEngine" "refused" "[I") ∈ GW := in_t2 (List.mem_of_getElem? (i := 10) (by decide +kernel)) (by decide +kernel)
theorem tw2_12 : (Jvm.Cond.lays "GriefEngine" "GriefEngine" "above" "J") ∈ GW := in_t2 (List.mem_of_getElem? (i := 12) (by decide +kernel)) (by decide +kernel)
theorem tw2_14 : (Jvm.Cond.lays "GriefEngine" "GriefEngine" "below" "J") ∈ GW := in_t2 (List.mem_of_getElem? (i := 14) (by decide +kernel)) (by decide +kernel)
theorem tw2_16 : (Jvm.Cond.superclass "GriefEngine" "java/lang/Object") ∈ GW := in_t2 (List.mem_of_getElem? (i := 16) (by decide +kernel)) (by decide +kernel)
theorem tw2_17 : (Jvm.Cond.methodLink "GriefEngineLaw" (13 : Nat) ({ cls := "GriefEngine", name := "rank", desc := "()I" } : Jvm.MethodName)) ∈ GW := in_t2 (List.mem_of_getElem? (i := 17) (by decide +kernel)) (by decide +kernel)
theorem tw2_18 : (Jvm.Cond.instanceMethod ({ cls := "GriefEngine", name := "rank", desc := "()I" } : Jvm.MethodName)) ∈ GW := in_t2 (List.mem_of_getElem? (i := 18) (by decide +kernel)) (by decide +kernel)
theorem tw2_19 : (Jvm.Cond.selects "GriefEngine" ({ cls := "GriefEngine", name := "rank", desc := "()I" } : Jvm.MethodName) ({ cls := "GriefEngine", name := "rank", desc := "()I" } : Jvm.MethodName)) ∈ GW := in_t2 (List.mem_of_getElem? (i := 19) (by decide +kernel)) (by decide +kernel)
theorem tw2_20 : (Jvm.Cond.code ({ cls := "GriefEngine", name := "rank", desc := "()I" } : Jvm.MethodName) prog_1_method_2_code (2 : Nat) (Option.some Jvm.ClassFile.FieldType.int)) ∈ GW := in_t2 (List.mem_of_getElem? (i := 20) (by decide +kernel)) (by decide +kernel)
theorem tw2_21 : (Jvm.Cond.methodLink "GriefEngine" (66 : Nat) ({ cls := "GriefEngine$Rank", name := "reset", desc := "()V" } : Jvm.MethodName)) ∈ GW := in_t2 (List.mem_of_getElem? (i := 21) (by decide +kernel)) (by decide +kernel)
theorem tw2_22 : (Jvm.Cond.instanceMethod ({ cls := "GriefEngine$Rank", name := "reset", desc := "()V" } : Jvm.MethodName)) ∈ GW := in_t2 (List.mem_of_getElem? (i := 22) (by decide +kernel)) (by decide +kernel)
theorem tw2_23 : (Jvm.Cond.selects "GriefEngine$Rank" ({ cls := "GriefEngine$Rank", name := "reset", desc := "()V" } : Jvm.MethodName) ({ cls := "GriefEngine$Rank", name := "reset", desc := "()V" } : Jvm.MethodName)) ∈ GW := in_t2 (List.mem_of_getElem? (i := 23) (by decide +kernel)) (by decide +kernel)
theorem tw2_24 : (Jvm.Cond.code ({ cls := "GriefEngine$Rank", name := "reset", desc := "()V" } : Jvm.MethodName) prog_6_method_2_code (1 : Nat) (Option.none : Option Jvm.ClassFile.FieldType)) ∈ GW := in_t2 (List.mem_of_getElem? (i := 24) (by decide +kernel)) (by decide +kernel)
theorem tw2_25 : (Jvm.Cond.methodLink "GriefEngineLaw" (18 : Nat) ({ cls := "GriefEngine", name := "driver", desc := "(II)I" } : Jvm.MethodName)) ∈ GW := in_t2 (List.mem_of_getElem? (i := 25) (by decide +kernel)) (by decide +kernel)
theorem tw2_26 : (Jvm.Cond.instanceMethod ({ cls := "GriefEngine", name := "driver", desc := "(II)I" } : Jvm.MethodName)) ∈ GW := in_t2 (List.mem_of_getElem? (i := 26) (by decide +kernel)) (by decide +kernel)
theorem tw2_27 : (Jvm.Cond.selects "GriefEngine" ({ cls := "GriefEngine", name := "driver", desc := "(II)I" } : Jvm.MethodName) ({ cls := "GriefEngine", name := "driver", desc := "(II)I" } : Jvm.MethodName)) ∈ GW := in_t2 (List.mem_of_getElem? (i := 27) (by decide +kernel)) (by decide +kernel)
theorem tw2_28 : (Jvm.Cond.code ({ cls := "GriefEngine", name := "driver", desc := "(II)I" } : Jvm.MethodName) prog_1_method_3_code (3 : Nat) (Option.some Jvm.ClassFile.FieldType.int)) ∈ GW := in_t2 (List.mem_of_getElem? (i := 28) (by decide +kernel)) (by decide +kernel)
theorem tw2_29 : (Jvm.Cond.methodLink "GriefEngine" (69 : Nat) ({ cls := "GriefEngine", name := "within", desc := "(III)Z" } : Jvm.MethodName)) ∈ GW := in_t2 (List.mem_of_getElem? (i := 29) (by decide +kernel)) (by decide +kernel)
theorem tw2_30 : (Jvm.Cond.static ({ cls := "GriefEngine", name := "within", desc := "(III)Z" } : Jvm.MethodName)) ∈ GW := in_t2 (List.mem_of_getElem? (i := 30) (by decide +kernel)) (by decide +kernel)
theorem tw2_31 : (Jvm.Cond.code ({ cls := "GriefEngine", name := "within", desc := "(III)Z" } : Jvm.MethodName) prog_1_method_35_code (3 : Nat) (Option.some Jvm.ClassFile.FieldType.boolean)) ∈ GW := in_t2 (List.mem_of_getElem? (i := 31) (by decide +kernel)) (by decide +kernel)
theorem tw2_32 : (Jvm.Cond.methodLink "GriefEngine" (73 : Nat) ({ cls := "GriefEngine", name := "refuse", desc := "(I)I" } : Jvm.MethodName)) ∈ GW := in_t2 (List.mem_of_getElem? (i := 32) (by decide +kernel)) (by decide +kernel)
theorem tw2_34 : (Jvm.Cond.instanceMethod ({ cls := "GriefEngine", name := "refuse", desc := "(I)I" } : Jvm.MethodName)) ∈ GW := in_t2 (List.mem_of_getElem? (i := 34) (by decide +kernel)) (by decide +kernel)
theorem tw2_35 : (Jvm.Cond.code ({ cls := "GriefEngine", name := "refuse", desc := "(I)I" } : Jvm.MethodName) prog_1_method_33_code (3 : Nat) (Option.some Jvm.ClassFile.FieldType.int)) ∈ GW := in_t2 (List.mem_of_getElem? (i := 35) (by decide +kernel)) (by decide +kernel)
theorem tw2_36 : (Jvm.Cond.methodLink "GriefEngine" (77 : Nat) ({ cls := "GriefEngine$Rank", name := "addDriver", desc := "(II)I" } : Jvm.MethodName)) ∈ GW := in_t2 (List.mem_of_getElem? (i := 36) (by decide +kernel)) (by decide +kernel)
theorem tw2_37 : (Jvm.Cond.instanceMethod ({ cls := "GriefEngine$Rank", name := "addDriver", desc := "(II)I" } : Jvm.MethodName)) ∈ GW := in_t2 (List.mem_of_getElem? (i := 37) (by decide +kernel)) (by decide +kernel)
theorem tw2_38 : (Jvm.Cond.selects "GriefEngine$Rank" ({ cls := "GriefEngine$Rank", name := "addDriver", desc := "(II)I" } : Jvm.MethodName) ({ cls := "GriefEngine$Rank", name := "addDriver", desc := "(II)I" } : Jvm.MethodName)) ∈ GW := in_t2 (List.mem_of_getElem? (i := 38) (by decide +kernel)) (by decide +kernel)
theorem tw2_39 : (Jvm.Cond.code ({ cls := "GriefEngine$Rank", name := "addDriver", desc := "(II)I" } : Jvm.MethodName) prog_6_method_7_code (4 : Nat) (Option.some Jvm.ClassFile.FieldType.int)) ∈ GW := in_t2 (List.mem_of_getElem? (i := 39) (by decide +kernel)) (by decide +kernel)
theorem tw2_40 : (Jvm.Cond.methodLink "GriefEngine$Rank" (78 : Nat) ({ cls := "GriefEngine$Rank", name := "isFull", desc := "()Z" } : Jvm.MethodName)) ∈ GW := in_t2 (List.mem_of_getElem? (i := 40) (by decide +kernel)) (by decide +kernel)
theorem tw2_41 : (Jvm.Cond.instanceMethod ({ cls := "GriefEngine$Rank", name := "isFull", desc := "()Z" } : Jvm.MethodName)) ∈ GW := in_t2 (List.mem_of_getElem? (i := 41) (by decide +kernel)) (by decide +kernel)
theorem tw2_42 : (Jvm.Cond.selects "GriefEngine$Rank" ({ cls := "GriefEngine$Rank", name := "isFull", desc := "()Z" } : Jvm.MethodName) ({ cls := "GriefEngine$Rank", name := "isFull", desc := "()Z" } : Jvm.MethodName)) ∈ GW := in_t2 (List.mem_of_getElem? (i := 42) (by decide +kernel)) (by decide +kernel)
theorem tw2_43 : (Jvm.Cond.code ({ cls := "GriefEngine$Rank", name := "isFull", desc := "()Z" } : Jvm.MethodName) prog_6_method_5_code (1 : Nat) (Option.some Jvm.ClassFile.FieldType.boolean)) ∈ GW := in_t2 (List.mem_of_getElem? (i := 43) (by decide +kernel)) (by decide +kernel)
theorem tw2_44 : (Jvm.Cond.methodLink "GriefEngine" (81 : Nat) ({ cls := "GriefEngine", name := "refuseIfFull", desc := "(I)I" } : Jvm.MethodName)) ∈ GW := in_t2 (List.mem_of_getElem? (i := 44) (by decide +kernel)) (by decide +kernel)
theorem tw2_46 : (Jvm.Cond.instanceMethod ({ cls := "GriefEngine", name := "refuseIfFull", desc := "(I)I" } : Jvm.MethodName)) ∈ GW := in_t2 (List.mem_of_getElem? (i := 46) (by decide +kernel)) (by decide +kernel)
theorem tw2_47 : (Jvm.Cond.code ({ cls := "GriefEngine", name := "refuseIfFull", desc := "(I)I" } : Jvm.MethodName) prog_1_method_34_code (2 : Nat) (Option.some Jvm.ClassFile.FieldType.int)) ∈ GW := in_t2 (List.mem_of_getElem? (i := 47) (by decide +kernel)) (by decide +kernel)
theorem tw2_48 : (Jvm.Cond.methodLink "GriefEngineLaw" (23 : Nat) ({ cls := "GriefEngine", name := "type", desc := "(I)I" } : Jvm.MethodName)) ∈ GW := in_t2 (List.mem_of_getElem? (i := 48) (by decide +kernel)) (by decide +kernel)
theorem tw2_49 : (Jvm.Cond.instanceMethod ({ cls := "GriefEngine", name := "type", desc := "(I)I" } : Jvm.MethodName)) ∈ GW := in_t2 (List.mem_of_getElem? (i := 49) (by decide +kernel)) (by decide +kernel)
theorem tw2_50 : (Jvm.Cond.selects "GriefEngine" ({ cls := "GriefEngine", name := "type", desc := "(I)I" } : Jvm.MethodName) ({ cls := "GriefEngine", name := "type", desc := "(I)I" } : Jvm.MethodName)) ∈ GW := in_t2 (List.mem_of_getElem? (i := 50) (by decide +kernel)) (by decide +kernel)
theorem tw2_51 : (Jvm.Cond.code ({ cls := "GriefEngine", name := "type", desc := "(I)I" } : Jvm.MethodName) prog_1_method_4_code (2 : Nat) (Option.some Jvm.ClassFile.FieldType.int)) ∈ GW := in_t2 (List.mem_of_getElem? (i := 51) (by decide +kernel)) (by decide +kernel)
theorem tw2_52 : (Jvm.Cond.methodLink "GriefEngine" (84 : Nat) ({ cls := "GriefEngine$Text", name := "append", desc := "(I)I" } : Jvm.MethodName)) ∈ GW := in_t2 (List.mem_of_getElem? (i := 52) (by decide +kernel)) (by decide +kernel)
theorem tw2_53 : (Jvm.Cond.instanceMethod ({ cls := "GriefEngine$Text", name := "append", desc := "(I)I" } : Jvm.MethodName)) ∈ GW := in_t2 (List.mem_of_getElem? (i := 53) (by decide +kernel)) (by decide +kernel)
theorem tw2_54 : (Jvm.Cond.selects "GriefEngine$Text" ({ cls := "GriefEngine$Text", name := "append", desc := "(I)I" } : Jvm.MethodName) ({ cls := "GriefEngine$Text", name := "append", desc := "(I)I" } : Jvm.MethodName)) ∈ GW := in_t2 (List.mem_of_getElem? (i := 54) (by decide +kernel)) (by decide +kernel)
theorem tw2_55 : (Jvm.Cond.code ({ cls := "GriefEngine$Text", name := "append", desc := "(I)I" } : Jvm.MethodName) prog_11_method_2_code (2 : Nat) (Option.some Jvm.ClassFile.FieldType.int)) ∈ GW := in_t2 (List.mem_of_getElem? (i := 55) (by decide +kernel)) (by decide +kernel)
theorem tw2_56 : (Jvm.Cond.methodLink "GriefEngineLaw" (28 : Nat) ({ cls := "GriefEngine", name := "clear", desc := "()I" } : Jvm.MethodName)) ∈ GW := in_t2 (List.mem_of_getElem? (i := 56) (by decide +kernel)) (by decide +kernel)
theorem tw2_57 : (Jvm.Cond.instanceMethod ({ cls := "GriefEngine", name := "clear", desc := "()I" } : Jvm.MethodName)) ∈ GW := in_t2 (List.mem_of_getElem? (i := 57) (by decide +kernel)) (by decide +kernel)
theorem tw2_58 : (Jvm.Cond.selects "GriefEngine" ({ cls := "GriefEngine", name := "clear", desc := "()I" } : Jvm.MethodName) ({ cls := "GriefEngine", name := "clear", desc := "()I" } : Jvm.MethodName)) ∈ GW := in_t2 (List.mem_of_getElem? (i := 58) (by decide +kernel)) (by decide +kernel)
theorem tw2_59 : (Jvm.Cond.code ({ cls := "GriefEngine", name := "clear", desc := "()I" } : Jvm.MethodName) prog_1_method_5_code (2 : Nat) (Option.some Jvm.ClassFile.FieldType.int)) ∈ GW := in_t2 (List.mem_of_getElem? (i := 59) (by decide +kernel)) (by decide +kernel)
theorem tw2_60 : (Jvm.Cond.methodLink "GriefEngineLaw" (32 : Nat) ({ cls := "GriefEngine", name := "read", desc := "()I" } : Jvm.MethodName)) ∈ GW := in_t2 (List.mem_of_getElem? (i := 60) (by decide +kernel)) (by decide +kernel)
theorem tw2_61 : (Jvm.Cond.instanceMethod ({ cls := "GriefEngine", name := "read", desc := "()I" } : Jvm.MethodName)) ∈ GW := in_t2 (List.mem_of_getElem? (i := 61) (by decide +kernel)) (by decide +kernel)
theorem tw2_62 : (Jvm.Cond.selects "GriefEngine" ({ cls := "GriefEngine", name := "read", desc := "()I" } : Jvm.MethodName) ({ cls := "GriefEngine", name := "read", desc := "()I" } : Jvm.MethodName)) ∈ GW := in_t2 (List.mem_of_getElem? (i := 62) (by decide +kernel)) (by decide +kernel)
theorem tw2_63 : (Jvm.Cond.code ({ cls := "GriefEngine", name := "read", desc := "()I" } : Jvm.MethodName) prog_1_method_6_code (2 : Nat) (Option.some Jvm.ClassFile.FieldType.int)) ∈ GW := in_t2 (List.mem_of_getElem? (i := 63) (by decide +kernel)) (by decide +kernel)
theorem tw2_64 : (Jvm.Cond.methodLink "GriefEngine" (90 : Nat) ({ cls := "GriefEngine$Text", name := "takesRank", desc := "()Z" } : Jvm.MethodName)) ∈ GW := in_t2 (List.mem_of_getElem? (i := 64) (by decide +kernel)) (by decide +kernel)
theorem tw2_65 : (Jvm.Cond.instanceMethod ({ cls := "GriefEngine$Text", name := "takesRank", desc := "()Z" } : Jvm.MethodName)) ∈ GW := in_t2 (List.mem_of_getElem? (i := 65) (by decide +kernel)) (by decide +kernel)
theorem tw2_66 : (Jvm.Cond.selects "GriefEngine$Text" ({ cls := "GriefEngine$Text", name := "takesRank", desc := "()Z" } : Jvm.MethodName) ({ cls := "GriefEngine$Text", name := "takesRank", desc := "()Z" } : Jvm.MethodName)) ∈ GW := in_t2 (List.mem_of_getElem? (i := 66) (by decide +kernel)) (by decide +kernel)
theorem tw2_67 : (Jvm.Cond.code ({ cls := "GriefEngine$Text", name := "takesRank", desc := "()Z" } : Jvm.MethodName) prog_11_method_3_code (1 : Nat) (Option.some Jvm.ClassFile.FieldType.boolean)) ∈ GW := in_t2 (List.mem_of_getElem? (i := 67) (by decide +kernel)) (by decide +kernel)
theorem tw2_68 : (Jvm.Cond.methodLink "GriefEngine$Text" (26 : Nat) ({ cls := "GriefEngine$Text", name := "advance", desc := "()V" } : Jvm.MethodName)) ∈ GW := in_t2 (List.mem_of_getElem? (i := 68) (by decide +kernel)) (by decide +kernel)
theorem tw2_70 : (Jvm.Cond.instanceMethod ({ cls := "GriefEngine$Text", name := "advance", desc := "()V" } : Jvm.MethodName)) ∈ GW := in_t2 (List.mem_of_getElem? (i := 70) (by decide +kernel)) (by decide +kernel)
theorem tw2_71 : (Jvm.Cond.code ({ cls := "GriefEngine$Text", name := "advance", desc := "()V" } : Jvm.MethodName) prog_11_method_7_code (1 : Nat) (Option.none : Option Jvm.ClassFile.FieldType)) ∈ GW := in_t2 (List.mem_of_getElem? (i := 71) (by decide +kernel)) (by decide +kernel)
theorem tw2_72 : (Jvm.Cond.methodLink "GriefEngine$Text" (62 : Nat) ({ cls := "GriefEngine$Text", name := "runEnd", desc := "(ICC)I" } : Jvm.MethodName)) ∈ GW := in_t2 (List.mem_of_getElem? (i := 72) (by decide +kernel)) (by decide +kernel)
theorem tw2_74 : (Jvm.Cond.instanceMethod ({ cls := "GriefEngine$Text", name := "runEnd", desc := "(ICC)I" } : Jvm.MethodName)) ∈ GW := in_t2 (List.mem_of_getElem? (i := 74) (by decide +kernel)) (by decide +kernel)
theorem tw2_75 : (Jvm.Cond.code ({ cls := "GriefEngine$Text", name := "runEnd", desc := "(ICC)I" } : Jvm.MethodName) prog_11_method_9_code (5 : Nat) (Option.some Jvm.ClassFile.FieldType.int)) ∈ GW := in_t2 (List.mem_of_getElem? (i := 75) (by decide +kernel)) (by decide +kernel)
theorem tw2_76 : (Jvm.Cond.methodLink "GriefEngine$Text" (69 : Nat) ({ cls := "GriefEngine$Text", name := "isBetween", desc := "(ICC)Z" } : Jvm.MethodName)) ∈ GW := in_t2 (List.mem_of_getElem? (i := 76) (by decide +kernel)) (by decide +kernel)
theorem tw2_78 : (Jvm.Cond.instanceMethod ({ cls := "GriefEngine$Text", name := "isBetween", desc := "(ICC)Z" } : Jvm.MethodName)) ∈ GW := in_t2 (List.mem_of_getElem? (i := 78) (by decide +kernel)) (by decide +kernel)
theorem tw2_79 : (Jvm.Cond.code ({ cls := "GriefEngine$Text", name := "isBetween", desc := "(ICC)Z" } : Jvm.MethodName) prog_11_method_8_code (4 : Nat) (Option.some Jvm.ClassFile.FieldType.boolean)) ∈ GW := in_t2 (List.mem_of_getElem? (i := 79) (by decide +kernel)) (by decide +kernel)
theorem tw2_80 : (Jvm.Cond.methodLink "GriefEngine$Text" (73 : Nat) ({ cls := "GriefEngine$Text", name := "valueOfRun", desc := "()I" } : Jvm.MethodName)) ∈ GW := in_t2 (List.mem_of_getElem? (i := 80) (by decide +kernel)) (by decide +kernel)
theorem tw2_82 : (Jvm.Cond.instanceMethod ({ cls := "GriefEngine$Text", name := "valueOfRun", desc := "()I" } : Jvm.MethodName)) ∈ GW := in_t2 (List.mem_of_getElem? (i := 82) (by decide +kernel)) (by decide +kernel)
theorem tw2_83 : (Jvm.Cond.code ({ cls := "GriefEngine$Text", name := "valueOfRun", desc := "()I" } : Jvm.MethodName) prog_11_method_10_code (3 : Nat) (Option.some Jvm.ClassFile.FieldType.int)) ∈ GW := in_t2 (List.mem_of_getElem? (i := 83) (by decide +kernel)) (by decide +kernel)
theorem tw2_85 : (Jvm.Cond.methodLink "GriefEngine$Text" (31 : Nat) ({ cls := "GriefEngine$Text", name := "isWord", desc := "(Ljava/lang/String;)Z" } : Jvm.MethodName)) ∈ GW := in_t2 (List.mem_of_getElem? (i := 85) (by decide +kernel)) (by decide +kernel)
theorem tw2_87 : (Jvm.Cond.instanceMethod ({ cls := "GriefEngine$Text", name := "isWord", desc := "(Ljava/lang/String;)Z" } : Jvm.MethodName)) ∈ GW := in_t2 (List.mem_of_getElem? (i := 87) (by decide +kernel)) (by decide +kernel)
theorem tw2_88 : (Jvm.Cond.code ({ cls := "GriefEngine$Text", name := "isWord", desc := "(Ljava/lang/String;)Z" } : Jvm.MethodName) prog_11_method_11_code (3 : Nat) (Option.some Jvm.ClassFile.FieldType.boolean)) ∈ GW := in_t2 (List.mem_of_getElem? (i := 88) (by decide +kernel)) (by decide +kernel)
theorem tw2_89 : (Jvm.Cond.methodLink "GriefEngine$Text" (77 : Nat) ({ cls := "java/lang/String", name := "length", desc := "()I" } : Jvm.MethodName)) ∈ GW := in_t2 (List.mem_of_getElem? (i := 89) (by decide +kernel)) (by decide +kernel)
theorem tw2_90 : (Jvm.Cond.instanceMethod ({ cls := "java/lang/String", name := "length", desc := "()I" } : Jvm.MethodName)) ∈ GW := in_t2 (List.mem_of_getElem? (i := 90) (by decide +kernel)) (by decide +kernel)
theorem tw2_91 : (Jvm.Cond.selects "java/lang/String" ({ cls := "java/lang/String", name := "length", desc := "()I" } : Jvm.MethodName) ({ cls := "java/lang/String", name := "length", desc := "()I" } : Jvm.MethodName)) ∈ GW := in_t2 (List.mem_of_getElem? (i := 91) (by decide +kernel)) (by decide +kernel)
theorem tw2_92 : (Jvm.Cond.code ({ cls := "java/lang/String", name := "length", desc := "()I" } : Jvm.MethodName) prog_15_method_54_code (1 : Nat) (Option.some Jvm.ClassFile.FieldType.int)) ∈ GW := in_t2 (List.mem_of_getElem? (i := 92) (by decide +kernel)) (by decide +kernel)
theorem tw2_93 : (Jvm.Cond.methodLink "java/lang/String" (335 : Nat) ({ cls := "java/lang/String", name := "coder", desc := "()B" } : Jvm.MethodName)) ∈ GW := in_t2 (List.mem_of_getElem? (i := 93) (by decide +kernel)) (by decide +kernel)
theorem tw2_94 : (Jvm.Cond.instanceMethod ({ cls := "java/lang/String", name := "coder", desc := "()B" } : Jvm.MethodName)) ∈ GW := in_t2 (List.mem_of_getElem? (i := 94) (by decide +kernel)) (by decide +kernel)
theorem tw2_95 : (Jvm.Cond.selects "java/lang/String" ({ cls := "java/lang/String", name := "coder", desc := "()B" } : Jvm.MethodName) ({ cls := "java/lang/String", name := "coder", desc := "()B" } : Jvm.MethodName)) ∈ GW := in_t2 (List.mem_of_getElem? (i := 95) (by decide +kernel)) (by decide +kernel)
theorem tw2_96 : (Jvm.Cond.code ({ cls := "java/lang/String", name := "coder", desc := "()B" } : Jvm.MethodName) prog_15_method_152_code (1 : Nat) (Option.some Jvm.ClassFile.FieldType.byte)) ∈ GW := in_t2 (List.mem_of_getElem? (i := 96) (by decide +kernel)) (by decide +kernel)
theorem tw2_97 : (Jvm.Cond.fieldLink "java/lang/String" (38 : Nat) "java/lang/String" "COMPACT_STRINGS" "Z") ∈ GW := in_t2 (List.mem_of_getElem? (i := 97) (by decide +kernel)) (by decide +kernel)
theorem tw2_99 : (Jvm.Cond.methodLink "GriefEngine$Text" (81 : Nat) ({ cls := "java/lang/String", name := "charAt", desc := "(I)C" } : Jvm.MethodName)) ∈ GW := in_t2 (List.mem_of_getElem? (i := 99) (by decide +kernel)) (by decide +kernel)
theorem tw2_100 : (Jvm.Cond.instanceMethod ({ cls := "java/lang/String", name := "charAt", desc := "(I)C" } : Jvm.MethodName)) ∈ GW := in_t2 (List.mem_of_getElem? (i := 100) (by decide +kernel)) (by decide +kernel)
theorem tw2_101 : (Jvm.Cond.selects "java/lang/String" ({ cls := "java/lang/String", name := "charAt", desc := "(I)C" } : Jvm.MethodName) ({ cls := "java/lang/String", name := "charAt", desc := "(I)C" } : Jvm.MethodName)) ∈ GW := in_t2 (List.mem_of_getElem? (i := 101) (by decide +kernel)) (by decide +kernel)
theorem tw2_102 : (Jvm.Cond.code ({ cls := "java/lang/String", name := "charAt", desc := "(I)C" } : Jvm.MethodName) prog_15_method_56_code (2 : Nat) (Option.some Jvm.ClassFile.FieldType.char)) ∈ GW := in_t2 (List.mem_of_getElem? (i := 102) (by decide +kernel)) (by decide +kernel)
theorem tw2_103 : (Jvm.Cond.methodLink "java/lang/String" (492 : Nat) ({ cls := "java/lang/String", name := "isLatin1", desc := "()Z" } : Jvm.MethodName)) ∈ GW := in_t2 (List.mem_of_getElem? (i := 103) (by decide +kernel)) (by decide +kernel)
theorem tw2_104 : (Jvm.Cond.instanceMethod ({ cls := "java/lang/String", name := "isLatin1", desc := "()Z" } : Jvm.MethodName)) ∈ GW := in_t2 (List.mem_of_getElem? (i := 104) (by decide +kernel)) (by decide +kernel)
theorem tw2_105 : (Jvm.Cond.selects "java/lang/String" ({ cls := "java/lang/String", name := "isLatin1", desc := "()Z" } : Jvm.MethodName) ({ cls := "java/lang/String", name := "isLatin1", desc := "()Z" } : Jvm.MethodName)) ∈ GW := in_t2 (List.mem_of_getElem? (i := 105) (by decide +kernel)) (by decide +kernel)
theorem tw2_106 : (Jvm.Cond.code ({ cls := "java/lang/String", name := "isLatin1", desc := "()Z" } : Jvm.MethodName) prog_15_method_154_code (1 : Nat) (Option.some Jvm.ClassFile.FieldType.boolean)) ∈ GW := in_t2 (List.mem_of_getElem? (i := 106) (by decide +kernel)) (by decide +kernel)
theorem tw2_107 : (Jvm.Cond.methodLink "java/lang/String" (495 : Nat) ({ cls := "java/lang/StringLatin1", name := "charAt", desc := "([BI)C" } : Jvm.MethodName)) ∈ GW := in_t2 (List.mem_of_getElem? (i := 107) (by decide +kernel)) (by decide +kernel)
theorem tw2_108 : (Jvm.Cond.static ({ cls := "java/lang/StringLatin1", name := "charAt", desc := "([BI)C" } : Jvm.MethodName)) ∈ GW := in_t2 (List.mem_of_getElem? (i := 108) (by decide +kernel)) (by decide +kernel)
theorem tw2_109 : (Jvm.Cond.code ({ cls := "java/lang/StringLatin1", name := "charAt", desc := "([BI)C" } : Jvm.MethodName) prog_16_method_2_code (2 : Nat) (Option.some Jvm.ClassFile.FieldType.char)) ∈ GW := in_t2 (List.mem_of_getElem? (i := 109) (by decide +kernel)) (by decide +kernel)
theorem tw2_110 : (Jvm.Cond.methodLink "java/lang/StringLatin1" (9 : Nat) ({ cls := "java/lang/String", name := "checkIndex", desc := "(II)V" } : Jvm.MethodName)) ∈ GW := in_t2 (List.mem_of_getElem? (i := 110) (by decide +kernel)) (by decide +kernel)
theorem tw2_111 : (Jvm.Cond.static ({ cls := "java/lang/String", name := "checkIndex", desc := "(II)V" } : Jvm.MethodName)) ∈ GW := in_t2 (List.mem_of_getElem? (i := 111) (by decide +kernel)) (by decide +kernel)
theorem tw2_112 : (Jvm.Cond.code ({ cls := "java/lang/String", name := "checkIndex", desc := "(II)V" } : Jvm.MethodName) prog_15_method_155_code (2 : Nat) (Option.none : Option Jvm.ClassFile.FieldType)) ∈ GW := in_t2 (List.mem_of_getElem? (i := 112) (by decide +kernel)) (by decide +kernel)
theorem tw2_113 : (Jvm.Cond.fieldLink "java/lang/String" (1053 : Nat) "jdk/internal/util/Preconditions" "SIOOBE_FORMATTER" "Ljava/util/function/BiFunction;") ∈ GW := in_t2 (List.mem_of_getElem? (i := 113) (by decide +kernel)) (by decide +kernel)
theorem tw2_115 : (Jvm.Cond.methodLink "java/lang/String" (1059 : Nat) ({ cls := "jdk/internal/util/Preconditions", name := "checkIndex", desc := "(IILjava/util/function/BiFunction;)I" } : Jvm.MethodName)) ∈ GW := in_t2 (List.mem_of_getElem? (i := 115) (by decide +kernel)) (by decide +kernel)
theorem tw2_116 : (Jvm.Cond.static ({ cls := "jdk/internal/util/Preconditions", name := "checkIndex", desc := "(IILjava/util/function/BiFunction;)I" } : Jvm.MethodName)) ∈ GW := in_t2 (List.mem_of_getElem? (i := 116) (by decide +kernel)) (by decide +kernel)
theorem tw2_117 : (Jvm.Cond.code ({ cls := "jdk/internal/util/Preconditions", name := "checkIndex", desc := "(IILjava/util/function/BiFunction;)I" } : Jvm.MethodName) prog_19_method_11_code (3 : Nat) (Option.some Jvm.ClassFile.FieldType.int)) ∈ GW := in_t2 (List.mem_of_getElem? (i := 117) (by decide +kernel)) (by decide +kernel)
theorem tw2_118 : (Jvm.Cond.methodLink "java/lang/String" (498 : Nat) ({ cls := "java/lang/StringUTF16", name := "charAt", desc := "([BI)C" } : Jvm.MethodName)) ∈ GW := in_t2 (List.mem_of_getElem? (i := 118) (by decide +kernel)) (by decide +kernel)
theorem tw2_119 : (Jvm.Cond.static ({ cls := "java/lang/StringUTF16", name := "charAt", desc := "([BI)C" } : Jvm.MethodName)) ∈ GW := in_t2 (List.mem_of_getElem? (i := 119) (by decide +kernel)) (by decide +kernel)
theorem tw2_120 : (Jvm.Cond.code ({ cls := "java/lang/StringUTF16", name := "charAt", desc := "([BI)C" } : Jvm.MethodName) prog_17_method_83_code (2 : Nat) (Option.some Jvm.ClassFile.FieldType.char)) ∈ GW := in_t2 (List.mem_of_getElem? (i := 120) (by decide +kernel)) (by decide +kernel)
theorem tw2_121 : (Jvm.Cond.methodLink "java/lang/StringUTF16" (67 : Nat) ({ cls := "java/lang/StringUTF16", name := "checkIndex", desc := "(I[B)V" } : Jvm.MethodName)) ∈ GW := in_t2 (List.mem_of_getElem? (i := 121) (by decide +kernel)) (by decide +kernel)
theorem tw2_122 : (Jvm.Cond.static ({ cls := "java/lang/StringUTF16", name := "checkIndex", desc := "(I[B)V" } : Jvm.MethodName)) ∈ GW := in_t2 (List.mem_of_getElem? (i := 122) (by decide +kernel)) (by decide +kernel)
theorem tw2_123 : (Jvm.Cond.code ({ cls := "java/lang/StringUTF16", name := "checkIndex", desc := "(I[B)V" } : Jvm.MethodName) prog_17_method_91_code (2 : Nat) (Option.none : Option Jvm.ClassFile.FieldType)) ∈ GW := in_t2 (List.mem_of_getElem? (i := 123) (by decide +kernel)) (by decide +kernel)
theorem tw2_124 : (Jvm.Cond.methodLink "java/lang/StringUTF16" (48 : Nat) ({ cls := "java/lang/StringUTF16", name := "length", desc := "([B)I" } : Jvm.MethodName)) ∈ GW := in_t2 (List.mem_of_getElem? (i := 124) (by decide +kernel)) (by decide +kernel)
theorem tw2_125 : (Jvm.Cond.static ({ cls := "java/lang/StringUTF16", name := "length", desc := "([B)I" } : Jvm.MethodName)) ∈ GW := in_t2 (List.mem_of_getElem? (i := 125) (by decide +kernel)) (by decide +kernel)
theorem tw2_126 : (Jvm.Cond.code ({ cls := "java/lang/StringUTF16", name := "length", desc := "([B)I" } : Jvm.MethodName) prog_17_method_6_code (1 : Nat) (Option.some Jvm.ClassFile.FieldType.int)) ∈ GW := in_t2 (List.mem_of_getElem? (i := 126) (by decide +kernel)) (by decide +kernel)
theorem tw2_127 : (Jvm.Cond.methodLink "java/lang/StringUTF16" (414 : Nat) ({ cls := "java/lang/String", name := "checkIndex", desc := "(II)V" } : Jvm.MethodName)) ∈ GW := in_t2 (List.mem_of_getElem? (i := 127) (by decide +kernel)) (by decide +kernel)
theorem tw2_128 : (Jvm.Cond.methodLink "java/lang/StringUTF16" (71 : Nat) ({ cls := "java/lang/StringUTF16", name := "getChar", desc := "([BI)C" } : Jvm.MethodName)) ∈ GW := in_t2 (List.mem_of_getElem? (i := 128) (by decide +kernel)) (by decide +kernel)
theorem tw2_129 : (Jvm.Cond.static ({ cls := "java/lang/StringUTF16", name := "getChar", desc := "([BI)C" } : Jvm.MethodName)) ∈ GW := in_t2 (List.mem_of_getElem? (i := 129) (by decide +kernel)) (by decide +kernel)
theorem tw2_130 : (Jvm.Cond.code ({ cls := "java/lang/StringUTF16", name := "getChar", desc := "([BI)C" } : Jvm.MethodName) prog_17_method_5_code (2 : Nat) (Option.some Jvm.ClassFile.FieldType.char)) ∈ GW := in_t2 (List.mem_of_getElem? (i := 130) (by decide +kernel)) (by decide +kernel)
theorem tw2_131 : (Jvm.Cond.fieldLink "java/lang/StringUTF16" (44 : Nat) "java/lang/StringUTF16" "$assertionsDisabled" "Z") ∈ GW := in_t2 (List.mem_of_getElem? (i := 131) (by decide +kernel)) (by decide +kernel)
theorem tw2_133 : (Jvm.Cond.fieldLink "java/lang/StringUTF16" (59 : Nat) "java/lang/StringUTF16" "HI_BYTE_SHIFT" "I") ∈ GW := in_t2 (List.mem_of_getElem? (i := 133) (by decide +kernel)) (by decide +kernel)
theorem tw2_135 : (Jvm.Cond.fieldLink "java/lang/StringUTF16" (63 : Nat) "java/lang/StringUTF16" "LO_BYTE_SHIFT" "I") ∈ GW := in_t2 (List.mem_of_getElem? (i := 135) (by decide +kernel)) (by decide +kernel)
theorem tw2_137 : (Jvm.Cond.methodLink "GriefEngine$Text" (35 : Nat) ({ cls := "GriefEngine$Text", name := "takesStop", desc := "()Z" } : Jvm.MethodName)) ∈ GW := in_t2 (List.mem_of_getElem? (i := 137) (by decide +kernel)) (by decide +kernel)
theorem tw2_139 : (Jvm.Cond.instanceMethod ({ cls := "GriefEngine$Text", name := "takesStop", desc := "()Z" } : Jvm.MethodName)) ∈ GW := in_t2 (List.mem_of_getElem? (i := 139) (by decide +kernel)) (by decide +kernel)
theorem tw2_140 : (Jvm.Cond.code ({ cls := "GriefEngine$Text", name := "takesStop", desc := "()Z" } : Jvm.MethodName) prog_11_method_6_code (1 : Nat) (Option.some Jvm.ClassFile.FieldType.boolean)) ∈ GW := in_t2 (List.mem_of_getElem? (i := 140) (by decide +kernel)) (by decide +kernel)
theorem tw2_141 : (Jvm.Cond.methodLink "GriefEngine" (94 : Nat) ({ cls := "GriefEngine$Rank", name := "isFull", desc := "()Z" } : Jvm.MethodName)) ∈ GW := in_t2 (List.mem_of_getElem? (i := 141) (by decide +kernel)) (by decide +kernel)
theorem tw2_142 : (Jvm.Cond.methodLink "GriefEngine" (97 : Nat) ({ cls := "GriefEngine$Text", name := "takesItem", desc := "(Z)Z" } : Jvm.MethodName)) ∈ GW := in_t2 (List.mem_of_getElem? (i := 142) (by decide +kernel)) (by decide +kernel)
theorem tw2_143 : (Jvm.Cond.instanceMethod ({ cls := "GriefEngine$Text", name := "takesItem", desc := "(Z)Z" } : Jvm.MethodName)) ∈ GW := in_t2 (List.mem_of_getElem? (i := 143) (by decide +kernel)) (by decide +kernel)
theorem tw2_144 : (Jvm.Cond.selects "GriefEngine$Text" ({ cls := "GriefEngine$Text", name := "takesItem", desc := "(Z)Z" } : Jvm.MethodName) ({ cls := "GriefEngine$Text", name := "takesItem", desc := "(Z)Z" } : Jvm.MethodName)) ∈ GW := in_t2 (List.mem_of_getElem? (i := 144) (by decide +kernel)) (by decide +kernel)
theorem tw2_145 : (Jvm.Cond.code ({ cls := "GriefEngine$Text", name := "takesItem", desc := "(Z)Z" } : Jvm.MethodName) prog_11_method_4_code (2 : Nat) (Option.some Jvm.ClassFile.FieldType.boolean)) ∈ GW := in_t2 (List.mem_of_getElem? (i := 145) (by decide +kernel)) (by decide +kernel)
theorem tw2_148 : (Jvm.Cond.methodLink "GriefEngine$Text" (49 : Nat) ({ cls := "GriefEngine$Text", name := "takesNumber", desc := "(II)Z" } : Jvm.MethodName)) ∈ GW := in_t2 (List.mem_of_getElem? (i := 148) (by decide +kernel)) (by decide +kernel)
theorem tw2_150 : (Jvm.Cond.instanceMethod ({ cls := "GriefEngine$Text", name := "takesNumber", desc := "(II)Z" } : Jvm.MethodName)) ∈ GW := in_t2 (List.mem_of_getElem? (i := 150) (by decide +kernel)) (by decide +kernel)
theorem tw2_151 : (Jvm.Cond.code ({ cls := "GriefEngine$Text", name := "takesNumber", desc := "(II)Z" } : Jvm.MethodName) prog_11_method_5_code (3 : Nat) (Option.some Jvm.ClassFile.FieldType.boolean)) ∈ GW := in_t2 (List.mem_of_getElem? (i := 151) (by decide +kernel)) (by decide +kernel)
theorem tw2_152 : (Jvm.Cond.methodLink "GriefEngine" (111 : Nat) ({ cls := "GriefEngine$Rank", name := "passDays", desc := "(III)I" } : Jvm.MethodName)) ∈ GW := in_t2 (List.mem_of_getElem? (i := 152) (by decide +kernel)) (by decide +kernel)
theorem tw2_153 : (Jvm.Cond.instanceMethod ({ cls := "GriefEngine$Rank", name := "passDays", desc := "(III)I" } : Jvm.MethodName)) ∈ GW := in_t2 (List.mem_of_getElem? (i := 153) (by decide +kernel)) (by decide +kernel)
theorem tw2_154 : (Jvm.Cond.selects "GriefEngine$Rank" ({ cls := "GriefEngine$Rank", name := "passDays", desc := "(III)I" } : Jvm.MethodName) ({ cls := "GriefEngine$Rank", name := "passDays", desc := "(III)I" } : Jvm.MethodName)) ∈ GW := in_t2 (List.mem_of_getElem? (i := 154) (by decide +kernel)) (by decide +kernel)
theorem tw2_155 : (Jvm.Cond.code ({ cls := "GriefEngine$Rank", name := "passDays", desc := "(III)I" } : Jvm.MethodName) prog_6_method_8_code (7 : Nat) (Option.some Jvm.ClassFile.FieldType.int)) ∈ GW := in_t2 (List.mem_of_getElem? (i := 155) (by decide +kernel)) (by decide +kernel)
theorem tw2_156 : (Jvm.Cond.methodLink "GriefEngine$Rank" (82 : Nat) ({ cls := "GriefEngine$Rank", name := "act", desc := "(II)I" } : Jvm.MethodName)) ∈ GW := in_t2 (List.mem_of_getElem? (i := 156) (by decide +kernel)) (by decide +kernel)
theorem tw2_157 : (Jvm.Cond.instanceMethod ({ cls := "GriefEngine$Rank", name := "act", desc := "(II)I" } : Jvm.MethodName)) ∈ GW := in_t2 (List.mem_of_getElem? (i := 157) (by decide +kernel)) (by decide +kernel)
theorem tw2_158 : (Jvm.Cond.selects "GriefEngine$Rank" ({ cls := "GriefEngine$Rank", name := "act", desc := "(II)I" } : Jvm.MethodName) ({ cls := "GriefEngine$Rank", name := "act", desc := "(II)I" } : Jvm.MethodName)) ∈ GW := in_t2 (List.mem_of_getElem? (i := 158) (by decide +kernel)) (by decide +kernel)
theorem tw2_159 : (Jvm.Cond.code ({ cls := "GriefEngine$Rank", name := "act", desc := "(II)I" } : Jvm.MethodName) prog_6_method_9_code (5 : Nat) (Option.some Jvm.ClassFile.FieldType.int)) ∈ GW := in_t2 (List.mem_of_getElem? (i := 159) (by decide +kernel)) (by decide +kernel)
theorem tw2_160 : (Jvm.Cond.methodLink "GriefEngine$Rank" (74 : Nat) ({ cls := "GriefEngine$Rank", name := "has", desc := "(I)Z" } : Jvm.MethodName)) ∈ GW := in_t2 (List.mem_of_getElem? (i := 160) (by decide +kernel)) (by decide +kernel)
theorem tw2_161 : (Jvm.Cond.instanceMethod ({ cls := "GriefEngine$Rank", name := "has", desc := "(I)Z" } : Jvm.MethodName)) ∈ GW := in_t2 (List.mem_of_getElem? (i := 161) (by decide +kernel)) (by decide +kernel)
theorem tw2_162 : (Jvm.Cond.selects "GriefEngine$Rank" ({ cls := "GriefEngine$Rank", name := "has", desc := "(I)Z" } : Jvm.MethodName) ({ cls := "GriefEngine$Rank", name := "has", desc := "(I)Z" } : Jvm.MethodName)) ∈ GW := in_t2 (List.mem_of_getElem? (i := 162) (by decide +kernel)) (by decide +kernel)
theorem tw2_163 : (Jvm.Cond.code ({ cls := "GriefEngine$Rank", name := "has", desc := "(I)Z" } : Jvm.MethodName) prog_6_method_4_code (2 : Nat) (Option.some Jvm.ClassFile.FieldType.boolean)) ∈ GW := in_t2 (List.mem_of_getElem? (i := 163) (by decide +kernel)) (by decide +kernel)
theorem tw2_164 : (Jvm.Cond.methodLink "GriefEngine$Rank" (86 : Nat) ({ cls := "GriefEngine$Rank", name := "kindOf", desc := "(I)LGriefEngine$Plain;" } : Jvm.MethodName)) ∈ GW := in_t2 (List.mem_of_getElem? (i := 164) (by decide +kernel)) (by decide +kernel)
theorem tw2_165 : (Jvm.Cond.instanceMethod ({ cls := "GriefEngine$Rank", name := "kindOf", desc := "(I)LGriefEngine$Plain;" } : Jvm.MethodName)) ∈ GW := in_t2 (List.mem_of_getElem? (i := 165) (by decide +kernel)) (by decide +kernel)
theorem tw2_166 : (Jvm.Cond.selects "GriefEngine$Rank" ({ cls := "GriefEngine$Rank", name := "kindOf", desc := "(I)LGriefEngine$Plain;" } : Jvm.MethodName) ({ cls := "GriefEngine$Rank", name := "kindOf", desc := "(I)LGriefEngine$Plain;" } : Jvm.MethodName)) ∈ GW := in_t2 (List.mem_of_getElem? (i := 166) (by decide +kernel)) (by decide +kernel)
theorem tw2_167 : (Jvm.Cond.code ({ cls := "GriefEngine$Rank", name := "kindOf", desc := "(I)LGriefEngine$Plain;" } : Jvm.MethodName) prog_6_method_6_code (3 : Nat) (Option.some (Jvm.ClassFile.FieldType.object "GriefEngine$Plain"))) ∈ GW := in_t2 (List.mem_of_getElem? (i := 167) (by decide +kernel)) (by decide +kernel)
theorem tw2_169 : (Jvm.Cond.static ({ cls := "GriefEngine", name := "seasonOf", desc := "(I)I" } : Jvm.MethodName)) ∈ GW := in_t2 (List.mem_of_getElem? (i := 169) (by decide +kernel)) (by decide +kernel)
theorem tw2_170 : (Jvm.Cond.code ({ cls := "GriefEngine", name := "seasonOf", desc := "(I)I" } : Jvm.MethodName) prog_1_method_37_code (1 : Nat) (Option.some Jvm.ClassFile.FieldType.int)) ∈ GW := in_t2 (List.mem_of_getElem? (i := 170) (by decide +kernel)) (by decide +kernel)
theorem tw2_171 : (Jvm.Cond.methodLink "GriefEngine$Rank" (94 : Nat) ({ cls := "GriefEngine$Plain", name := "runs", desc := "(II)I" } : Jvm.MethodName)) ∈ GW := in_t2 (List.mem_of_getElem? (i := 171) (by decide +kernel)) (by decide +kernel)
theorem tw2_172 : (Jvm.Cond.instanceMethod ({ cls := "GriefEngine$Plain", name := "runs", desc := "(II)I" } : Jvm.MethodName)) ∈ GW := in_t2 (List.mem_of_getElem? (i := 172) (by decide +kernel)) (by decide +kernel)
theorem tw2_173 : (Jvm.Cond.selects "GriefEngine$Plain" ({ cls := "GriefEngine$Plain", name := "runs", desc := "(II)I" } : Jvm.MethodName) ({ cls := "GriefEngine$Plain", name := "runs", desc := "(II)I" } : Jvm.MethodName)) ∈ GW := in_t2 (List.mem_of_getElem? (i := 173) (by decide +kernel)) (by decide +kernel)
theorem tw2_174 : (Jvm.Cond.sameMethod "GriefEngine$Plain" "GriefEngine$Plain" "runs" "(II)I") ∈ GW := in_t2 (List.mem_of_getElem? (i := 174) (by decide +kernel)) (by decide +kernel)
theorem tw2_175 : (Jvm.Cond.selects "GriefEngine$Keeper" ({ cls := "GriefEngine$Plain", name := "runs", desc := "(II)I" } : Jvm.MethodName) ({ cls := "GriefEngine$Plain", name := "runs", desc := "(II)I" } : Jvm.MethodName)) ∈ GW := in_t2 (List.mem_of_getElem? (i := 175) (by decide +kernel)) (by decide +kernel)
theorem tw2_176 : (Jvm.Cond.selects "GriefEngine$Old" ({ cls := "GriefEngine$Plain", name := "runs", desc := "(II)I" } : Jvm.MethodName) ({ cls := "GriefEngine$Old", name := "runs", desc := "(II)I" } : Jvm.MethodName)) ∈ GW := in_t2 (List.mem_of_getElem? (i := 176) (by decide +kernel)) (by decide +kernel)
theorem tw2_177 : (Jvm.Cond.instanceMethod ({ cls := "GriefEngine$Old", name := "runs", desc := "(II)I" } : Jvm.MethodName)) ∈ GW := in_t2 (List.mem_of_getElem? (i := 177) (by decide +kernel)) (by decide +kernel)
theorem tw2_178 : (Jvm.Cond.code ({ cls := "GriefEngine$Old", name := "runs", desc := "(II)I" } : Jvm.MethodName) prog_3_method_2_code (3 : Nat) (Option.some Jvm.ClassFile.FieldType.int)) ∈ GW := in_t2 (List.mem_of_getElem? (i := 178) (by decide +kernel)) (by decide +kernel)
theorem tw2_179 : (Jvm.Cond.methodLink "GriefEngine$Old" (7 : Nat) ({ cls := "GriefEngine$Spring", name := "runs", desc := "(II)I" } : Jvm.MethodName)) ∈ GW := in_t2 (List.mem_of_getElem? (i := 179) (by decide +kernel)) (by decide +kernel)
theorem tw2_180 : (Jvm.Cond.instanceMethod ({ cls := "GriefEngine$Spring", name := "runs", desc := "(II)I" } : Jvm.MethodName)) ∈ GW := in_t2 (List.mem_of_getElem? (i := 180) (by decide +kernel)) (by decide +kernel)
theorem tw2_181 : (Jvm.Cond.code ({ cls := "GriefEngine$Spring", name := "runs", desc := "(II)I" } : Jvm.MethodName) prog_9_method_2_code (3 : Nat) (Option.some Jvm.ClassFile.FieldType.int)) ∈ GW := in_t2 (List.mem_of_getElem? (i := 181) (by decide +kernel)) (by decide +kernel)
theorem tw2_182 : (Jvm.Cond.methodLink "GriefEngine$Spring" (9 : Nat) ({ cls := "GriefEngine$Plain", name := "runs", desc := "(II)I" } : Jvm.MethodName)) ∈ GW := in_t2 (List.mem_of_getElem? (i := 182) (by decide +kernel)) (by decide +kernel)
theorem tw2_183 : (Jvm.Cond.methodLink "GriefEngine$Old" (11 : Nat) ({ cls := "java/lang/Math", name := "min", desc := "(II)I" } : Jvm.MethodName)) ∈ GW := in_t2 (List.mem_of_getElem? (i := 183) (by decide +kernel)) (by decide +kernel)
theorem tw2_184 : (Jvm.Cond.static ({ cls := "java/lang/Math", name := "min", desc := "(II)I" } : Jvm.MethodName)) ∈ GW := in_t2 (List.mem_of_getElem? (i := 184) (by decide +kernel)) (by decide +kernel)
theorem tw2_185 : (Jvm.Cond.code ({ cls := "java/lang/Math", name := "min", desc := "(II)I" } : Jvm.MethodName) prog_14_method_69_code (2 : Nat) (Option.some Jvm.ClassFile.FieldType.int)) ∈ GW := in_t2 (List.mem_of_getElem? (i := 185) (by decide +kernel)) (by decide +kernel)
theorem tw2_186 : (Jvm.Cond.selects "GriefEngine$Sham" ({ cls := "GriefEngine$Plain", name := "runs", desc := "(II)I" } : Jvm.MethodName) ({ cls := "GriefEngine$Sham", name := "runs", desc := "(II)I" } : Jvm.MethodName)) ∈ GW := in_t2 (List.mem_of_getElem? (i := 186) (by decide +kernel)) (by decide +kernel)
theorem tw2_187 : (Jvm.Cond.instanceMethod ({ cls := "GriefEngine$Sham", name := "runs", desc := "(II)I" } : Jvm.MethodName)) ∈ GW := in_t2 (List.mem_of_getElem? (i := 187) (by decide +kernel)) (by decide +kernel)
theorem tw2_188 : (Jvm.Cond.code ({ cls := "GriefEngine$Sham", name := "runs", desc := "(II)I" } : Jvm.MethodName) prog_8_method_2_code (3 : Nat) (Option.some Jvm.ClassFile.FieldType.int)) ∈ GW := in_t2 (List.mem_of_getElem? (i := 188) (by decide +kernel)) (by decide +kernel)
theorem tw2_189 : (Jvm.Cond.methodLink "GriefEngine$Sham" (7 : Nat) ({ cls := "GriefEngine$Plain", name := "runs", desc := "(II)I" } : Jvm.MethodName)) ∈ GW := in_t2 (List.mem_of_getElem? (i := 189) (by decide +kernel)) (by decide +kernel)
theorem tw2_190 : (Jvm.Cond.selects "GriefEngine$Spring" ({ cls := "GriefEngine$Plain", name := "runs", desc := "(II)I" } : Jvm.MethodName) ({ cls := "GriefEngine$Spring", name := "runs", desc := "(II)I" } : Jvm.MethodName)) ∈ GW := in_t2 (List.mem_of_getElem? (i := 190) (by decide +kernel)) (by decide +kernel)
theorem tw2_191 : (Jvm.Cond.selects "GriefEngine$Teller" ({ cls := "GriefEngine$Plain", name := "runs", desc := "(II)I" } : Jvm.MethodName) ({ cls := "GriefEngine$Plain", name := "runs", desc := "(II)I" } : Jvm.MethodName)) ∈ GW := in_t2 (List.mem_of_getElem? (i := 191) (by decide +kernel)) (by decide +kernel)
theorem tw2_192 : (Jvm.Cond.code ({ cls := "GriefEngine$Plain", name := "runs", desc := "(II)I" } : Jvm.MethodName) prog_5_method_2_code (4 : Nat) (Option.some Jvm.ClassFile.FieldType.int)) ∈ GW := in_t2 (List.mem_of_getElem? (i := 192) (by decide +kernel)) (by decide +kernel)
theorem tw2_193 : (Jvm.Cond.methodLink "GriefEngine$Rank" (97 : Nat) ({ cls := "GriefEngine$Plain", name := "left", desc := "(II)I" } : Jvm.MethodName)) ∈ GW := in_t2 (List.mem_of_getElem? (i := 193) (by decide +kernel)) (by decide +kernel)
theorem tw2_194 : (Jvm.Cond.instanceMethod ({ cls := "GriefEngine$Plain", name := "left", desc := "(II)I" } : Jvm.MethodName)) ∈ GW := in_t2 (List.mem_of_getElem? (i := 194) (by decide +kernel)) (by decide +kernel)
theorem tw2_195 : (Jvm.Cond.selects "GriefEngine$Plain" ({ cls := "GriefEngine$Plain", name := "left", desc := "(II)I" } : Jvm.MethodName) ({ cls := "GriefEngine$Plain", name := "left", desc := "(II)I" } : Jvm.MethodName)) ∈ GW := in_t2 (List.mem_of_getElem? (i := 195) (by decide +kernel)) (by decide +kernel)
theorem tw2_196 : (Jvm.Cond.sameMethod "GriefEngine$Plain" "GriefEngine$Plain" "left" "(II)I") ∈ GW := in_t2 (List.mem_of_getElem? (i := 196) (by decide +kernel)) (by decide +kernel)
theorem tw2_197 : (Jvm.Cond.selects "GriefEngine$Keeper" ({ cls := "GriefEngine$Plain", name := "left", desc := "(II)I" } : Jvm.MethodName) ({ cls := "GriefEngine$Plain", name := "left", desc := "(II)I" } : Jvm.MethodName)) ∈ GW := in_t2 (List.mem_of_getElem? (i := 197) (by decide +kernel)) (by decide +kernel)
theorem tw2_198 : (Jvm.Cond.selects "GriefEngine$Old" ({ cls := "GriefEngine$Plain", name := "left", desc := "(II)I" } : Jvm.MethodName) ({ cls := "GriefEngine$Plain", name := "left", desc := "(II)I" } : Jvm.MethodName)) ∈ GW := in_t2 (List.mem_of_getElem? (i := 198) (by decide +kernel)) (by decide +kernel)
theorem tw2_199 : (Jvm.Cond.selects "GriefEngine$Sham" ({ cls := "GriefEngine$Plain", name := "left", desc := "(II)I" } : Jvm.MethodName) ({ cls := "GriefEngine$Plain", name := "left", desc := "(II)I" } : Jvm.MethodName)) ∈ GW := in_t2 (List.mem_of_getElem? (i := 199) (by decide +kernel)) (by decide +kernel)
theorem tw2_200 : (Jvm.Cond.selects "GriefEngine$Spring" ({ cls := "GriefEngine$Plain", name := "left", desc := "(II)I" } : Jvm.MethodName) ({ cls := "GriefEngine$Plain", name := "left", desc := "(II)I" } : Jvm.MethodName)) ∈ GW := in_t2 (List.mem_of_getElem? (i := 200) (by decide +kernel)) (by decide +kernel)
theorem tw2_201 : (Jvm.Cond.selects "GriefEngine$Teller" ({ cls := "GriefEngine$Plain", name := "left", desc := "(II)I" } : Jvm.MethodName) ({ cls := "GriefEngine$Plain", name := "left", desc := "(II)I" } : Jvm.MethodName)) ∈ GW := in_t2 (List.mem_of_getElem? (i := 201) (by decide +kernel)) (by decide +kernel)
theorem tw2_202 : (Jvm.Cond.code ({ cls := "GriefEngine$Plain", name := "left", desc := "(II)I" } : Jvm.MethodName) prog_5_method_6_code (4 : Nat) (Option.some Jvm.ClassFile.FieldType.int)) ∈ GW := in_t2 (List.mem_of_getElem? (i := 202) (by decide +kernel)) (by decide +kernel)
theorem tw2_203 : (Jvm.Cond.methodLink "GriefEngine$Plain" (9 : Nat) ({ cls := "GriefEngine$Plain", name := "behindDriving", desc := "(I)I" } : Jvm.MethodName)) ∈ GW := in_t2 (List.mem_of_getElem? (i := 203) (by decide +kernel)) (by decide +kernel)
theorem tw2_204 : (Jvm.Cond.instanceMethod ({ cls := "GriefEngine$Plain", name := "behindDriving", desc := "(I)I" } : Jvm.MethodName)) ∈ GW := in_t2 (List.mem_of_getElem? (i := 204) (by decide +kernel)) (by decide +kernel)
theorem tw2_205 : (Jvm.Cond.selects "GriefEngine$Plain" ({ cls := "GriefEngine$Plain", name := "behindDriving", desc := "(I)I" } : Jvm.MethodName) ({ cls := "GriefEngine$Plain", name := "behindDriving", desc := "(I)I" } : Jvm.MethodName)) ∈ GW := in_t2 (List.mem_of_getElem? (i := 205) (by decide +kernel)) (by decide +kernel)
theorem tw2_206 : (Jvm.Cond.sameMethod "GriefEngine$Plain" "GriefEngine$Plain" "behindDriving" "(I)I") ∈ GW := in_t2 (List.mem_of_getElem? (i := 206) (by decide +kernel)) (by decide +kernel)
theorem tw2_207 : (Jvm.Cond.selects "GriefEngine$Keeper" ({ cls := "GriefEngine$Plain", name := "behindDriving", desc := "(I)I" } : Jvm.MethodName) ({ cls := "GriefEngine$Keeper", name := "behindDriving", desc := "(I)I" } : Jvm.MethodName)) ∈ GW := in_t2 (List.mem_of_getElem? (i := 207) (by decide +kernel)) (by decide +kernel)
theorem tw2_208 : (Jvm.Cond.instanceMethod ({ cls := "GriefEngine$Keeper", name := "behindDriving", desc := "(I)I" } : Jvm.MethodName)) ∈ GW := in_t2 (List.mem_of_getElem? (i := 208) (by decide +kernel)) (by decide +kernel)
theorem tw2_209 : (Jvm.Cond.code ({ cls := "GriefEngine$Keeper", name := "behindDriving", desc := "(I)I" } : Jvm.MethodName) prog_2_method_2_code (2 : Nat) (Option.some Jvm.ClassFile.FieldType.int)) ∈ GW := in_t2 (List.mem_of_getElem? (i := 209) (by decide +kernel)) (by decide +kernel)
theorem tw2_210 : (Jvm.Cond.methodLink "GriefEngine$Keeper" (7 : Nat) ({ cls := "GriefEngine$Plain", name := "behindDriving", desc := "(I)I" } : Jvm.MethodName)) ∈ GW := in_t2 (List.mem_of_getElem? (i := 210) (by decide +kernel)) (by decide +kernel)
theorem tw2_211 : (Jvm.Cond.methodLink "GriefEngine$Keeper" (11 : Nat) ({ cls := "java/lang/Math", name := "min", desc := "(II)I" } : Jvm.MethodName)) ∈ GW := in_t2 (List.mem_of_getElem? (i := 211) (by decide +kernel)) (by decide +kernel)
theorem tw2_212 : (Jvm.Cond.selects "GriefEngine$Old" ({ cls := "GriefEngine$Plain", name := "behindDriving", desc := "(I)I" } : Jvm.MethodName) ({ cls := "GriefEngine$Plain", name := "behindDriving", desc := "(I)I" } : Jvm.MethodName)) ∈ GW := in_t2 (List.mem_of_getElem? (i := 212) (by decide +kernel)) (by decide +kernel)
theorem tw2_213 : (Jvm.Cond.selects "GriefEngine$Sham" ({ cls := "GriefEngine$Plain", name := "behindDriving", desc := "(I)I" } : Jvm.MethodName) ({ cls := "GriefEngine$Plain", name := "behindDriving", desc := "(I)I" } : Jvm.MethodName)) ∈ GW := in_t2 (List.mem_of_getElem? (i := 213) (by decide +kernel)) (by decide +kernel)
theorem tw2_214 : (Jvm.Cond.selects "GriefEngine$Spring" ({ cls := "GriefEngine$Plain", name := "behindDriving", desc := "(I)I" } : Jvm.MethodName) ({ cls := "GriefEngine$Plain", name := "behindDriving", desc := "(I)I" } : Jvm.MethodName)) ∈ GW := in_t2 (List.mem_of_getElem? (i := 214) (by decide +kernel)) (by decide +kernel)
theorem tw2_215 : (Jvm.Cond.selects "GriefEngine$Teller" ({ cls := "GriefEngine$Plain", name := "behindDriving", desc := "(I)I" } : Jvm.MethodName) ({ cls := "GriefEngine$Keeper", name := "behindDriving", desc := "(I)I" } : Jvm.MethodName)) ∈ GW := in_t2 (List.mem_of_getElem? (i := 215) (by decide +kernel)) (by decide +kernel)
theorem tw2_216 : (Jvm.Cond.code ({ cls := "GriefEngine$Plain", name := "behindDriving", desc := "(I)I" } : Jvm.MethodName) prog_5_method_3_code (2 : Nat) (Option.some Jvm.ClassFile.FieldType.int)) ∈ GW := in_t2 (List.mem_of_getElem? (i := 216) (by decide +kernel)) (by decide +kernel)
theorem tw2_217 : (Jvm.Cond.methodLink "GriefEngine$Plain" (15 : Nat) ({ cls := "GriefEngine$Plain", name := "behindTelling", desc := "(I)I" } : Jvm.MethodName)) ∈ GW := in_t2 (List.mem_of_getElem? (i := 217) (by decide +kernel)) (by decide +kernel)
theorem tw2_218 : (Jvm.Cond.instanceMethod ({ cls := "GriefEngine$Plain", name := "behindTelling", desc := "(I)I" } : Jvm.MethodName)) ∈ GW := in_t2 (List.mem_of_getElem? (i := 218) (by decide +kernel)) (by decide +kernel)
theorem tw2_219 : (Jvm.Cond.selects "GriefEngine$Plain" ({ cls := "GriefEngine$Plain", name := "behindTelling", desc := "(I)I" } : Jvm.MethodName) ({ cls := "GriefEngine$Plain", name := "behindTelling", desc := "(I)I" } : Jvm.MethodName)) ∈ GW := in_t2 (List.mem_of_getElem? (i := 219) (by decide +kernel)) (by decide +kernel)
theorem tw2_220 : (Jvm.Cond.sameMethod "GriefEngine$Plain" "GriefEngine$Plain" "behindTelling" "(I)I") ∈ GW := in_t2 (List.mem_of_getElem? (i := 220) (by decide +kernel)) (by decide +kernel)
theorem tw2_221 : (Jvm.Cond.selects "GriefEngine$Keeper" ({ cls := "GriefEngine$Plain", name := "behindTelling", desc := "(I)I" } : Jvm.MethodName) ({ cls := "GriefEngine$Plain", name := "behindTelling", desc := "(I)I" } : Jvm.MethodName)) ∈ GW := in_t2 (List.mem_of_getElem? (i := 221) (by decide +kernel)) (by decide +kernel)
theorem tw2_222 : (Jvm.Cond.selects "GriefEngine$Old" ({ cls := "GriefEngine$Plain", name := "behindTelling", desc := "(I)I" } : Jvm.MethodName) ({ cls := "GriefEngine$Plain", name := "behindTelling", desc := "(I)I" } : Jvm.MethodName)) ∈ GW := in_t2 (List.mem_of_getElem? (i := 222) (by decide +kernel)) (by decide +kernel)
theorem tw2_223 : (Jvm.Cond.selects "GriefEngine$Sham" ({ cls := "GriefEngine$Plain", name := "behindTelling", desc := "(I)I" } : Jvm.MethodName) ({ cls := "GriefEngine$Sham", name := "behindTelling", desc := "(I)I" } : Jvm.MethodName)) ∈ GW := in_t2 (List.mem_of_getElem? (i := 223) (by decide +kernel)) (by decide +kernel)
theorem tw2_224 : (Jvm.Cond.instanceMethod ({ cls := "GriefEngine$Sham", name := "behindTelling", desc := "(I)I" } : Jvm.MethodName)) ∈ GW := in_t2 (List.mem_of_getElem? (i := 224) (by decide +kernel)) (by decide +kernel)
theorem tw2_225 : (Jvm.Cond.code ({ cls := "GriefEngine$Sham", name := "behindTelling", desc := "(I)I" } : Jvm.MethodName) prog_8_method_3_code (2 : Nat) (Option.some Jvm.ClassFile.FieldType.int)) ∈ GW := in_t2 (List.mem_of_getElem? (i := 225) (by decide +kernel)) (by decide +kernel)
theorem tw2_226 : (Jvm.Cond.methodLink "GriefEngine$Sham" (11 : Nat) ({ cls := "GriefEngine$Plain", name := "behindTelling", desc := "(I)I" } : Jvm.MethodName)) ∈ GW := in_t2 (List.mem_of_getElem? (i := 226) (by decide +kernel)) (by decide +kernel)
theorem tw2_227 : (Jvm.Cond.selects "GriefEngine$Spring" ({ cls := "GriefEngine$Plain", name := "behindTelling", desc := "(I)I" } : Jvm.MethodName) ({ cls := "GriefEngine$Plain", name := "behindTelling", desc := "(I)I" } : Jvm.MethodName)) ∈ GW := in_t2 (List.mem_of_getElem? (i := 227) (by decide +kernel)) (by decide +kernel)
theorem tw2_228 : (Jvm.Cond.selects "GriefEngine$Teller" ({ cls := "GriefEngine$Plain", name := "behindTelling", desc := "(I)I" } : Jvm.MethodName) ({ cls := "GriefEngine$Teller", name := "behindTelling", desc := "(I)I" } : Jvm.MethodName)) ∈ GW := in_t2 (List.mem_of_getElem? (i := 228) (by decide +kernel)) (by decide +kernel)
theorem tw2_229 : (Jvm.Cond.instanceMethod ({ cls := "GriefEngine$Teller", name := "behindTelling", desc := "(I)I" } : Jvm.MethodName)) ∈ GW := in_t2 (List.mem_of_getElem? (i := 229) (by decide +kernel)) (by decide +kernel)
theorem tw2_230 : (Jvm.Cond.code ({ cls := "GriefEngine$Teller", name := "behindTelling", desc := "(I)I" } : Jvm.MethodName) prog_10_method_2_code (2 : Nat) (Option.some Jvm.ClassFile.FieldType.int)) ∈ GW := in_t2 (List.mem_of_getElem? (i := 230) (by decide +kernel)) (by decide +kernel)
theorem tw2_231 : (Jvm.Cond.methodLink "GriefEngine$Teller" (7 : Nat) ({ cls := "GriefEngine$Keeper", name := "behindTelling", desc := "(I)I" } : Jvm.MethodName)) ∈ GW := in_t2 (List.mem_of_getElem? (i := 231) (by decide +kernel)) (by decide +kernel)
theorem tw2_232 : (Jvm.Cond.sameMethod "GriefEngine$Keeper" "GriefEngine$Plain" "behindTelling" "(I)I") ∈ GW := in_t2 (List.mem_of_getElem? (i := 232) (by decide +kernel)) (by decide +kernel)
theorem tw2_234 : (Jvm.Cond.code ({ cls := "GriefEngine$Plain", name := "behindTelling", desc := "(I)I" } : Jvm.MethodName) prog_5_method_4_code (2 : Nat) (Option.some Jvm.ClassFile.FieldType.int)) ∈ GW := in_t2 (List.mem_of_getElem? (i := 234) (by decide +kernel)) (by decide +kernel)
theorem tw2_235 : (Jvm.Cond.methodLink "GriefEngine$Plain" (18 : Nat) ({ cls := "GriefEngine$Plain", name := "behindResting", desc := "(I)I" } : Jvm.MethodName)) ∈ GW := in_t2 (List.mem_of_getElem? (i := 235) (by decide +kernel)) (by decide +kernel)
theorem tw2_236 : (Jvm.Cond.instanceMethod ({ cls := "GriefEngine$Plain", name := "behindResting", desc := "(I)I" } : Jvm.MethodName)) ∈ GW := in_t2 (List.mem_of_getElem? (i := 236) (by decide +kernel)) (by decide +kernel)
theorem tw2_237 : (Jvm.Cond.selects "GriefEngine$Plain" ({ cls := "GriefEngine$Plain", name := "behindResting", desc := "(I)I" } : Jvm.MethodName) ({ cls := "GriefEngine$Plain", name := "behindResting", desc := "(I)I" } : Jvm.MethodName)) ∈ GW := in_t2 (List.mem_of_getElem? (i := 237) (by decide +kernel)) (by decide +kernel)
theorem tw2_238 : (Jvm.Cond.sameMethod "GriefEngine$Plain" "GriefEngine$Plain" "behindResting" "(I)I") ∈ GW := in_t2 (List.mem_of_getElem? (i := 238) (by decide +kernel)) (by decide +kernel)
theorem tw2_239 : (Jvm.Cond.selects "GriefEngine$Keeper" ({ cls := "GriefEngine$Plain", name := "behindResting", desc := "(I)I" } : Jvm.MethodName) ({ cls := "GriefEngine$Plain", name := "behindResting", desc := "(I)I" } : Jvm.MethodName)) ∈ GW := in_t2 (List.mem_of_getElem? (i := 239) (by decide +kernel)) (by decide +kernel)
theorem tw3_0 : (Jvm.Cond.selects "GriefEngine$Old" ({ cls := "GriefEngine$Plain", name := "behindResting", desc := "(I)I" } : Jvm.MethodName) ({ cls := "GriefEngine$Old", name := "behindResting", desc := "(I)I" } : Jvm.MethodName)) ∈ GW := in_t3 (List.mem_of_getElem? (i := 0) (by decide +kernel)) (by decide +kernel)
theorem tw3_1 : (Jvm.Cond.instanceMethod ({ cls := "GriefEngine$Old", name := "behindResting", desc := "(I)I" } : Jvm.MethodName)) ∈ GW := in_t3 (List.mem_of_getElem? (i := 1) (by decide +kernel)) (by decide +kernel)
theorem tw3_2 : (Jvm.Cond.code ({ cls := "GriefEngine$Old", name := "behindResting", desc := "(I)I" } : Jvm.MethodName) prog_3_method_3_code (2 : Nat) (Option.some Jvm.ClassFile.FieldType.int)) ∈ GW := in_t3 (List.mem_of_getElem? (i := 2) (by decide +kernel)) (by decide +kernel)
theorem tw3_3 : (Jvm.Cond.selects "GriefEngine$Sham" ({ cls := "GriefEngine$Plain", name := "behindResting", desc := "(I)I" } : Jvm.MethodName) ({ cls := "GriefEngine$Plain", name := "behindResting", desc := "(I)I" } : Jvm.MethodName)) ∈ GW := in_t3 (List.mem_of_getElem? (i := 3) (by decide +kernel)) (by decide +kernel)
theorem tw3_4 : (Jvm.Cond.selects "GriefEngine$Spring" ({ cls := "GriefEngine$Plain", name := "behindResting", desc := "(I)I" } : Jvm.MethodName) ({ cls := "GriefEngine$Plain", name := "behindResting", desc := "(I)I" } : Jvm.MethodName)) ∈ GW := in_t3 (List.mem_of_getElem? (i := 4) (by decide +kernel)) (by decide +kernel)
theorem tw3_5 : (Jvm.Cond.selects "GriefEngine$Teller" ({ cls := "GriefEngine$Plain", name := "behindResting", desc := "(I)I" } : Jvm.MethodName) ({ cls := "GriefEngine$Teller", name := "behindResting", desc := "(I)I" } : Jvm.MethodName)) ∈ GW := in_t3 (List.mem_of_getElem? (i := 5) (by decide +kernel)) (by decide +kernel)
theorem tw3_6 : (Jvm.Cond.instanceMethod ({ cls := "GriefEngine$Teller", name := "behindResting", desc := "(I)I" } : Jvm.MethodName)) ∈ GW := in_t3 (List.mem_of_getElem? (i := 6) (by decide +kernel)) (by decide +kernel)
theorem tw3_7 : (Jvm.Cond.code ({ cls := "GriefEngine$Teller", name := "behindResting", desc := "(I)I" } : Jvm.MethodName) prog_10_method_3_code (2 : Nat) (Option.some Jvm.ClassFile.FieldType.int)) ∈ GW := in_t3 (List.mem_of_getElem? (i := 7) (by decide +kernel)) (by decide +kernel)
theorem tw3_8 : (Jvm.Cond.methodLink "GriefEngine$Teller" (11 : Nat) ({ cls := "GriefEngine$Keeper", name := "behindResting", desc := "(I)I" } : Jvm.MethodName)) ∈ GW := in_t3 (List.mem_of_getElem? (i := 8) (by decide +kernel)) (by decide +kernel)
theorem tw3_9 : (Jvm.Cond.sameMethod "GriefEngine$Keeper" "GriefEngine$Plain" "behindResting" "(I)I") ∈ GW := in_t3 (List.mem_of_getElem? (i := 9) (by decide +kernel)) (by decide +kernel)
theorem tw3_11 : (Jvm.Cond.code ({ cls := "GriefEngine$Plain", name := "behindResting", desc := "(I)I" } : Jvm.MethodName) prog_5_method_5_code (2 : Nat) (Option.some Jvm.ClassFile.FieldType.int)) ∈ GW := in_t3 (List.mem_of_getElem? (i := 11) (by decide +kernel)) (by decide +kernel)
theorem tw3_12 : (Jvm.Cond.methodLink "GriefEngine$Plain" (21 : Nat) ({ cls := "java/lang/Math", name := "min", desc := "(II)I" } : Jvm.MethodName)) ∈ GW := in_t3 (List.mem_of_getElem? (i := 12) (by decide +kernel)) (by decide +kernel)
theorem tw3_13 : (Jvm.Cond.methodLink "GriefEngine$Plain" (27 : Nat) ({ cls := "java/lang/Math", name := "max", desc := "(II)I" } : Jvm.MethodName)) ∈ GW := in_t3 (List.mem_of_getElem? (i := 13) (by decide +kernel)) (by decide +kernel)
theorem tw3_14 : (Jvm.Cond.static ({ cls := "java/lang/Math", name := "max", desc := "(II)I" } : Jvm.MethodName)) ∈ GW := in_t3 (List.mem_of_getElem? (i := 14) (by decide +kernel)) (by decide +kernel)
theorem tw3_15 : (Jvm.Cond.code ({ cls := "java/lang/Math", name := "max", desc := "(II)I" } : Jvm.MethodName) prog_14_method_65_code (2 : Nat) (Option.some Jvm.ClassFile.FieldType.int)) ∈ GW := in_t3 (List.mem_of_getElem? (i := 15) (by decide +kernel)) (by decide +kernel)
theorem tw3_16 : (Jvm.Cond.methodLink "GriefEngine" (121 : Nat) ({ cls := "GriefEngine$Rank", name := "copyFrom", desc := "(LGriefEngine$Rank;)V" } : Jvm.MethodName)) ∈ GW := in_t3 (List.mem_of_getElem? (i := 16) (by decide +kernel)) (by decide +kernel)
theorem tw3_17 : (Jvm.Cond.instanceMethod ({ cls := "GriefEngine$Rank", name := "copyFrom", desc := "(LGriefEngine$Rank;)V" } : Jvm.MethodName)) ∈ GW := in_t3 (List.mem_of_getElem? (i := 17) (by decide +kernel)) (by decide +kernel)
theorem tw3_18 : (Jvm.Cond.selects "GriefEngine$Rank" ({ cls := "GriefEngine$Rank", name := "copyFrom", desc := "(LGriefEngine$Rank;)V" } : Jvm.MethodName) ({ cls := "GriefEngine$Rank", name := "copyFrom", desc := "(LGriefEngine$Rank;)V" } : Jvm.MethodName)) ∈ GW := in_t3 (List.mem_of_getElem? (i := 18) (by decide +kernel)) (by decide +kernel)
theorem tw3_19 : (Jvm.Cond.code ({ cls := "GriefEngine$Rank", name := "copyFrom", desc := "(LGriefEngine$Rank;)V" } : Jvm.MethodName) prog_6_method_3_code (2 : Nat) (Option.none : Option Jvm.ClassFile.FieldType)) ∈ GW := in_t3 (List.mem_of_getElem? (i := 19) (by decide +kernel)) (by decide +kernel)
theorem tw3_20 : (Jvm.Cond.methodLink "GriefEngine$Rank" (68 : Nat) ({ cls := "java/lang/System", name := "arraycopy", desc := "(Ljava/lang/Object;ILjava/lang/Object;II)V" } : Jvm.MethodName)) ∈ GW := in_t3 (List.mem_of_getElem? (i := 20) (by decide +kernel)) (by decide +kernel)
theorem tw3_21 : (Jvm.Cond.static ({ cls := "java/lang/System", name := "arraycopy", desc := "(Ljava/lang/Object;ILjava/lang/Object;II)V" } : Jvm.MethodName)) ∈ GW := in_t3 (List.mem_of_getElem? (i := 21) (by decide +kernel)) (by decide +kernel)
theorem tw3_22 : (Jvm.Cond.native ({ cls := "java/lang/System", name := "arraycopy", desc := "(Ljava/lang/Object;ILjava/lang/Object;II)V" } : Jvm.MethodName)) ∈ GW := in_t3 (List.mem_of_getElem? (i := 22) (by decide +kernel)) (by decide +kernel)
theorem tw3_23 : (Jvm.Cond.methodLink "GriefEngineLaw" (36 : Nat) ({ cls := "GriefEngine", name := "days", desc := "(II)I" } : Jvm.MethodName)) ∈ GW := in_t3 (List.mem_of_getElem? (i := 23) (by decide +kernel)) (by decide +kernel)
theorem tw3_24 : (Jvm.Cond.instanceMethod ({ cls := "GriefEngine", name := "days", desc := "(II)I" } : Jvm.MethodName)) ∈ GW := in_t3 (List.mem_of_getElem? (i := 24) (by decide +kernel)) (by decide +kernel)
theorem tw3_25 : (Jvm.Cond.selects "GriefEngine" ({ cls := "GriefEngine", name := "days", desc := "(II)I" } : Jvm.MethodName) ({ cls := "GriefEngine", name := "days", desc := "(II)I" } : Jvm.MethodName)) ∈ GW := in_t3 (List.mem_of_getElem? (i := 25) (by decide +kernel)) (by decide +kernel)
theorem tw3_26 : (Jvm.Cond.code ({ cls := "GriefEngine", name := "days", desc := "(II)I" } : Jvm.MethodName) prog_1_method_7_code (3 : Nat) (Option.some Jvm.ClassFile.FieldType.int)) ∈ GW := in_t3 (List.mem_of_getElem? (i := 26) (by decide +kernel)) (by decide +kernel)
theorem tw3_27 : (Jvm.Cond.methodLink "GriefEngine" (125 : Nat) ({ cls := "GriefEngine", name := "isChoice", desc := "(I)Z" } : Jvm.MethodName)) ∈ GW := in_t3 (List.mem_of_getElem? (i := 27) (by decide +kernel)) (by decide +kernel)
theorem tw3_28 : (Jvm.Cond.static ({ cls := "GriefEngine", name := "isChoice", desc := "(I)Z" } : Jvm.MethodName)) ∈ GW := in_t3 (List.mem_of_getElem? (i := 28) (by decide +kernel)) (by decide +kernel)
theorem tw3_29 : (Jvm.Cond.code ({ cls := "GriefEngine", name := "isChoice", desc := "(I)Z" } : Jvm.MethodName) prog_1_method_36_code (1 : Nat) (Option.some Jvm.ClassFile.FieldType.boolean)) ∈ GW := in_t3 (List.mem_of_getElem? (i := 29) (by decide +kernel)) (by decide +kernel)
theorem tw3_30 : (Jvm.Cond.methodLink "GriefEngine" (129 : Nat) ({ cls := "GriefEngine$Rank", name := "remember", desc := "()V" } : Jvm.MethodName)) ∈ GW := in_t3 (List.mem_of_getElem? (i := 30) (by decide +kernel)) (by decide +kernel)
theorem tw3_31 : (Jvm.Cond.instanceMethod ({ cls := "GriefEngine$Rank", name := "remember", desc := "()V" } : Jvm.MethodName)) ∈ GW := in_t3 (List.mem_of_getElem? (i := 31) (by decide +kernel)) (by decide +kernel)
theorem tw3_32 : (Jvm.Cond.selects "GriefEngine$Rank" ({ cls := "GriefEngine$Rank", name := "remember", desc := "()V" } : Jvm.MethodName) ({ cls := "GriefEngine$Rank", name := "remember", desc := "()V" } : Jvm.MethodName)) ∈ GW := in_t3 (List.mem_of_getElem? (i := 32) (by decide +kernel)) (by decide +kernel)
theorem tw3_33 : (Jvm.Cond.code ({ cls := "GriefEngine$Rank", name := "remember", desc := "()V" } : Jvm.MethodName) prog_6_method_10_code (2 : Nat) (Option.none : Option Jvm.ClassFile.FieldType)) ∈ GW := in_t3 (List.mem_of_getElem? (i := 33) (by decide +kernel)) (by decide +kernel)
theorem tw3_34 : (Jvm.Cond.methodLink "GriefEngineLaw" (40 : Nat) ({ cls := "GriefEngine", name := "day", desc := "(II)I" } : Jvm.MethodName)) ∈ GW := in_t3 (List.mem_of_getElem? (i := 34) (by decide +kernel)) (by decide +kernel)
theorem tw3_35 : (Jvm.Cond.instanceMethod ({ cls := "GriefEngine", name := "day", desc := "(II)I" } : Jvm.MethodName)) ∈ GW := in_t3 (List.mem_of_getElem? (i := 35) (by decide +kernel)) (by decide +kernel)
theorem tw3_36 : (Jvm.Cond.selects "GriefEngine" ({ cls := "GriefEngine", name := "day", desc := "(II)I" } : Jvm.MethodName) ({ cls := "GriefEngine", name := "day", desc := "(II)I" } : Jvm.MethodName)) ∈ GW := in_t3 (List.mem_of_getElem? (i := 36) (by decide +kernel)) (by decide +kernel)
theorem tw3_37 : (Jvm.Cond.code ({ cls := "GriefEngine", name := "day", desc := "(II)I" } : Jvm.MethodName) prog_1_method_8_code (3 : Nat) (Option.some Jvm.ClassFile.FieldType.int)) ∈ GW := in_t3 (List.mem_of_getElem? (i := 37) (by decide +kernel)) (by decide +kernel)
theorem tw3_38 : (Jvm.Cond.methodLink "GriefEngine" (132 : Nat) ({ cls := "GriefEngine$Rank", name := "has", desc := "(I)Z" } : Jvm.MethodName)) ∈ GW := in_t3 (List.mem_of_getElem? (i := 38) (by decide +kernel)) (by decide +kernel)
theorem tw3_39 : (Jvm.Cond.methodLink "GriefEngineLaw" (44 : Nat) ({ cls := "GriefEngine", name := "undo", desc := "()I" } : Jvm.MethodName)) ∈ GW := in_t3 (List.mem_of_getElem? (i := 39) (by decide +kernel)) (by decide +kernel)
theorem tw3_40 : (Jvm.Cond.instanceMethod ({ cls := "GriefEngine", name := "undo", desc := "()I" } : Jvm.MethodName)) ∈ GW := in_t3 (List.mem_of_getElem? (i := 40) (by decide +kernel)) (by decide +kernel)
theorem tw3_41 : (Jvm.Cond.selects "GriefEngine" ({ cls := "GriefEngine", name := "undo", desc := "()I" } : Jvm.MethodName) ({ cls := "GriefEngine", name := "undo", desc := "()I" } : Jvm.MethodName)) ∈ GW := in_t3 (List.mem_of_getElem? (i := 41) (by decide +kernel)) (by decide +kernel)
theorem tw3_42 : (Jvm.Cond.code ({ cls := "GriefEngine", name := "undo", desc := "()I" } : Jvm.MethodName) prog_1_method_9_code (1 : Nat) (Option.some Jvm.ClassFile.FieldType.int)) ∈ GW := in_t3 (List.mem_of_getElem? (i := 42) (by decide +kernel)) (by decide +kernel)
theorem tw3_43 : (Jvm.Cond.methodLink "GriefEngine" (138 : Nat) ({ cls := "GriefEngine$Rank", name := "takeBack", desc := "()V" } : Jvm.MethodName)) ∈ GW := in_t3 (List.mem_of_getElem? (i := 43) (by decide +kernel)) (by decide +kernel)
theorem tw3_44 : (Jvm.Cond.instanceMethod ({ cls := "GriefEngine$Rank", name := "takeBack", desc := "()V" } : Jvm.MethodName)) ∈ GW := in_t3 (List.mem_of_getElem? (i := 44) (by decide +kernel)) (by decide +kernel)
theorem tw3_45 : (Jvm.Cond.selects "GriefEngine$Rank" ({ cls := "GriefEngine$Rank", name := "takeBack", desc := "()V" } : Jvm.MethodName) ({ cls := "GriefEngine$Rank", name := "takeBack", desc := "()V" } : Jvm.MethodName)) ∈ GW := in_t3 (List.mem_of_getElem? (i := 45) (by decide +kernel)) (by decide +kernel)
theorem tw3_46 : (Jvm.Cond.code ({ cls := "GriefEngine$Rank", name := "takeBack", desc := "()V" } : Jvm.MethodName) prog_6_method_11_code (2 : Nat) (Option.none : Option Jvm.ClassFile.FieldType)) ∈ GW := in_t3 (List.mem_of_getElem? (i := 46) (by decide +kernel)) (by decide +kernel)
theorem tw3_47 : (Jvm.Cond.methodLink "GriefEngineLaw" (48 : Nat) ({ cls := "GriefEngine", name := "of", desc := "(II)I" } : Jvm.MethodName)) ∈ GW := in_t3 (List.mem_of_getElem? (i := 47) (by decide +kernel)) (by decide +kernel)
theorem tw3_48 : (Jvm.Cond.instanceMethod ({ cls := "GriefEngine", name := "of", desc := "(II)I" } : Jvm.MethodName)) ∈ GW := in_t3 (List.mem_of_getElem? (i := 48) (by decide +kernel)) (by decide +kernel)
theorem tw3_49 : (Jvm.Cond.selects "GriefEngine" ({ cls := "GriefEngine", name := "of", desc := "(II)I" } : Jvm.MethodName) ({ cls := "GriefEngine", name := "of", desc := "(II)I" } : Jvm.MethodName)) ∈ GW := in_t3 (List.mem_of_getElem? (i := 49) (by decide +kernel)) (by decide +kernel)
theorem tw3_50 : (Jvm.Cond.code ({ cls := "GriefEngine", name := "of", desc := "(II)I" } : Jvm.MethodName) prog_1_method_10_code (3 : Nat) (Option.some Jvm.ClassFile.FieldType.int)) ∈ GW := in_t3 (List.mem_of_getElem? (i := 50) (by decide +kernel)) (by decide +kernel)
theorem tw3_51 : (Jvm.Cond.methodLink "GriefEngineLaw" (52 : Nat) ({ cls := "GriefEngine", name := "today", desc := "(II)I" } : Jvm.MethodName)) ∈ GW := in_t3 (List.mem_of_getElem? (i := 51) (by decide +kernel)) (by decide +kernel)
theorem tw3_52 : (Jvm.Cond.instanceMethod ({ cls := "GriefEngine", name := "today", desc := "(II)I" } : Jvm.MethodName)) ∈ GW := in_t3 (List.mem_of_getElem? (i := 52) (by decide +kernel)) (by decide +kernel)
theorem tw3_53 : (Jvm.Cond.selects "GriefEngine" ({ cls := "GriefEngine", name := "today", desc := "(II)I" } : Jvm.MethodName) ({ cls := "GriefEngine", name := "today", desc := "(II)I" } : Jvm.MethodName)) ∈ GW := in_t3 (List.mem_of_getElem? (i := 53) (by decide +kernel)) (by decide +kernel)
theorem tw3_54 : (Jvm.Cond.code ({ cls := "GriefEngine", name := "today", desc := "(II)I" } : Jvm.MethodName) prog_1_method_11_code (5 : Nat) (Option.some Jvm.ClassFile.FieldType.int)) ∈ GW := in_t3 (List.mem_of_getElem? (i := 54) (by decide +kernel)) (by decide +kernel)
theorem tw3_55 : (Jvm.Cond.methodLink "GriefEngine" (153 : Nat) ({ cls := "GriefEngine$Rank", name := "kindOf", desc := "(I)LGriefEngine$Plain;" } : Jvm.MethodName)) ∈ GW := in_t3 (List.mem_of_getElem? (i := 55) (by decide +kernel)) (by decide +kernel)
theorem tw3_56 : (Jvm.Cond.methodLink "GriefEngine" (157 : Nat) ({ cls := "GriefEngine", name := "seasonOf", desc := "(I)I" } : Jvm.MethodName)) ∈ GW := in_t3 (List.mem_of_getElem? (i := 56) (by decide +kernel)) (by decide +kernel)
theorem tw3_57 : (Jvm.Cond.methodLink "GriefEngine" (160 : Nat) ({ cls := "GriefEngine$Plain", name := "runs", desc := "(II)I" } : Jvm.MethodName)) ∈ GW := in_t3 (List.mem_of_getElem? (i := 57) (by decide +kernel)) (by decide +kernel)
theorem tw3_58 : (Jvm.Cond.methodLink "GriefEngine" (165 : Nat) ({ cls := "GriefEngine$Plain", name := "left", desc := "(II)I" } : Jvm.MethodName)) ∈ GW := in_t3 (List.mem_of_getElem? (i := 58) (by decide +kernel)) (by decide +kernel)
theorem tw3_59 : (Jvm.Cond.methodLink "GriefEngineLaw" (56 : Nat) ({ cls := "GriefEngine", name := "then", desc := "(IIII)I" } : Jvm.MethodName)) ∈ GW := in_t3 (List.mem_of_getElem? (i := 59) (by decide +kernel)) (by decide +kernel)
theorem tw3_60 : (Jvm.Cond.instanceMethod ({ cls := "GriefEngine", name := "then", desc := "(IIII)I" } : Jvm.MethodName)) ∈ GW := in_t3 (List.mem_of_getElem? (i := 60) (by decide +kernel)) (by decide +kernel)
theorem tw3_61 : (Jvm.Cond.selects "GriefEngine" ({ cls := "GriefEngine", name := "then", desc := "(IIII)I" } : Jvm.MethodName) ({ cls := "GriefEngine", name := "then", desc := "(IIII)I" } : Jvm.MethodName)) ∈ GW := in_t3 (List.mem_of_getElem? (i := 61) (by decide +kernel)) (by decide +kernel)
theorem tw3_62 : (Jvm.Cond.code ({ cls := "GriefEngine", name := "then", desc := "(IIII)I" } : Jvm.MethodName) prog_1_method_12_code (9 : Nat) (Option.some Jvm.ClassFile.FieldType.int)) ∈ GW := in_t3 (List.mem_of_getElem? (i := 62) (by decide +kernel)) (by decide +kernel)
theorem tw3_63 : (Jvm.Cond.methodLink "GriefEngineLaw" (61 : Nat) ({ cls := "GriefEngine", name := "over", desc := "(I)I" } : Jvm.MethodName)) ∈ GW := in_t3 (List.mem_of_getElem? (i := 63) (by decide +kernel)) (by decide +kernel)
theorem tw3_64 : (Jvm.Cond.instanceMethod ({ cls := "GriefEngine", name := "over", desc := "(I)I" } : Jvm.MethodName)) ∈ GW := in_t3 (List.mem_of_getElem? (i := 64) (by decide +kernel)) (by decide +kernel)
theorem tw3_65 : (Jvm.Cond.selects "GriefEngine" ({ cls := "GriefEngine", name := "over", desc := "(I)I" } : Jvm.MethodName) ({ cls := "GriefEngine", name := "over", desc := "(I)I" } : Jvm.MethodName)) ∈ GW := in_t3 (List.mem_of_getElem? (i := 65) (by decide +kernel)) (by decide +kernel)
theorem tw3_66 : (Jvm.Cond.code ({ cls := "GriefEngine", name := "over", desc := "(I)I" } : Jvm.MethodName) prog_1_method_13_code (5 : Nat) (Option.some Jvm.ClassFile.FieldType.int)) ∈ GW := in_t3 (List.mem_of_getElem? (i := 66) (by decide +kernel)) (by decide +kernel)
theorem tw3_67 : (Jvm.Cond.methodLink "GriefEngineLaw" (65 : Nat) ({ cls := "GriefEngine", name := "most", desc := "(III)I" } : Jvm.MethodName)) ∈ GW := in_t3 (List.mem_of_getElem? (i := 67) (by decide +kernel)) (by decide +kernel)
theorem tw3_68 : (Jvm.Cond.instanceMethod ({ cls := "GriefEngine", name := "most", desc := "(III)I" } : Jvm.MethodName)) ∈ GW := in_t3 (List.mem_of_getElem? (i := 68) (by decide +kernel)) (by decide +kernel)
theorem tw3_69 : (Jvm.Cond.selects "GriefEngine" ({ cls := "GriefEngine", name := "most", desc := "(III)I" } : Jvm.MethodName) ({ cls := "GriefEngine", name := "most", desc := "(III)I" } : Jvm.MethodName)) ∈ GW := in_t3 (List.mem_of_getElem? (i := 69) (by decide +kernel)) (by decide +kernel)
theorem tw3_70 : (Jvm.Cond.code ({ cls := "GriefEngine", name := "most", desc := "(III)I" } : Jvm.MethodName) prog_1_method_14_code (4 : Nat) (Option.some Jvm.ClassFile.FieldType.int)) ∈ GW := in_t3 (List.mem_of_getElem? (i := 70) (by decide +kernel)) (by decide +kernel)
theorem tw3_71 : (Jvm.Cond.methodLink "GriefEngine" (168 : Nat) ({ cls := "GriefEngine$Rows", name := "reckon", desc := "(LGriefEngine$Rank;II)V" } : Jvm.MethodName)) ∈ GW := in_t3 (List.mem_of_getElem? (i := 71) (by decide +kernel)) (by decide +kernel)
theorem tw3_72 : (Jvm.Cond.instanceMethod ({ cls := "GriefEngine$Rows", name := "reckon", desc := "(LGriefEngine$Rank;II)V" } : Jvm.MethodName)) ∈ GW := in_t3 (List.mem_of_getElem? (i := 72) (by decide +kernel)) (by decide +kernel)
theorem tw3_73 : (Jvm.Cond.selects "GriefEngine$Rows" ({ cls := "GriefEngine$Rows", name := "reckon", desc := "(LGriefEngine$Rank;II)V" } : Jvm.MethodName) ({ cls := "GriefEngine$Rows", name := "reckon", desc := "(LGriefEngine$Rank;II)V" } : Jvm.MethodName)) ∈ GW := in_t3 (List.mem_of_getElem? (i := 73) (by decide +kernel)) (by decide +kernel)
theorem tw3_74 : (Jvm.Cond.code ({ cls := "GriefEngine$Rows", name := "reckon", desc := "(LGriefEngine$Rank;II)V" } : Jvm.MethodName) prog_7_method_2_code (4 : Nat) (Option.none : Option Jvm.ClassFile.FieldType)) ∈ GW := in_t3 (List.mem_of_getElem? (i := 74) (by decide +kernel)) (by decide +kernel)
theorem tw3_75 : (Jvm.Cond.methodLink "GriefEngine$Rows" (26 : Nat) ({ cls := "GriefEngine$Rank", name := "has", desc := "(I)Z" } : Jvm.MethodName)) ∈ GW := in_t3 (List.mem_of_getElem? (i := 75) (by decide +kernel)) (by decide +kernel)
theorem tw3_76 : (Jvm.Cond.methodLink "GriefEngine$Rows" (32 : Nat) ({ cls := "GriefEngine$Rank", name := "kindOf", desc := "(I)LGriefEngine$Plain;" } : Jvm.MethodName)) ∈ GW := in_t3 (List.mem_of_getElem? (i := 76) (by decide +kernel)) (by decide +kernel)
theorem tw3_77 : (Jvm.Cond.methodLink "GriefEngine$Rows" (47 : Nat) ({ cls := "java/lang/Math", name := "min", desc := "(II)I" } : Jvm.MethodName)) ∈ GW := in_t3 (List.mem_of_getElem? (i := 77) (by decide +kernel)) (by decide +kernel)
theorem tw3_78 : (Jvm.Cond.methodLink "GriefEngine$Rows" (53 : Nat) ({ cls := "java/lang/Math", name := "max", desc := "(II)I" } : Jvm.MethodName)) ∈ GW := in_t3 (List.mem_of_getElem? (i := 78) (by decide +kernel)) (by decide +kernel)
theorem tw3_79 : (Jvm.Cond.methodLink "GriefEngine$Rows" (62 : Nat) ({ cls := "GriefEngine$Rows", name := "reckonBefore", desc := "()V" } : Jvm.MethodName)) ∈ GW := in_t3 (List.mem_of_getElem? (i := 79) (by decide +kernel)) (by decide +kernel)
theorem tw3_81 : (Jvm.Cond.instanceMethod ({ cls := "GriefEngine$Rows", name := "reckonBefore", desc := "()V" } : Jvm.MethodName)) ∈ GW := in_t3 (List.mem_of_getElem? (i := 81) (by decide +kernel)) (by decide +kernel)
theorem tw3_82 : (Jvm.Cond.code ({ cls := "GriefEngine$Rows", name := "reckonBefore", desc := "()V" } : Jvm.MethodName) prog_7_method_3_code (3 : Nat) (Option.none : Option Jvm.ClassFile.FieldType)) ∈ GW := in_t3 (List.mem_of_getElem? (i := 82) (by decide +kernel)) (by decide +kernel)
theorem tw3_83 : (Jvm.Cond.methodLink "GriefEngine$Rows" (68 : Nat) ({ cls := "GriefEngine$Rows", name := "spread", desc := "(II)V" } : Jvm.MethodName)) ∈ GW := in_t3 (List.mem_of_getElem? (i := 83) (by decide +kernel)) (by decide +kernel)
theorem tw3_85 : (Jvm.Cond.instanceMethod ({ cls := "GriefEngine$Rows", name := "spread", desc := "(II)V" } : Jvm.MethodName)) ∈ GW := in_t3 (List.mem_of_getElem? (i := 85) (by decide +kernel)) (by decide +kernel)
theorem tw3_86 : (Jvm.Cond.code ({ cls := "GriefEngine$Rows", name := "spread", desc := "(II)V" } : Jvm.MethodName) prog_7_method_4_code (6 : Nat) (Option.none : Option Jvm.ClassFile.FieldType)) ∈ GW := in_t3 (List.mem_of_getElem? (i := 86) (by decide +kernel)) (by decide +kernel)
theorem tw3_87 : (Jvm.Cond.methodLink "GriefEngine$Rows" (72 : Nat) ({ cls := "GriefEngine$Plain", name := "left", desc := "(II)I" } : Jvm.MethodName)) ∈ GW := in_t3 (List.mem_of_getElem? (i := 87) (by decide +kernel)) (by decide +kernel)
theorem tw3_89 : (Jvm.Cond.methodLink "GriefEngine$Rows" (79 : Nat) ({ cls := "GriefEngine$Plain", name := "runs", desc := "(II)I" } : Jvm.MethodName)) ∈ GW := in_t3 (List.mem_of_getElem? (i := 89) (by decide +kernel)) (by decide +kernel)
theorem tw3_90 : (Jvm.Cond.methodLink "GriefEngine$Rows" (65 : Nat) ({ cls := "GriefEngine$Rows", name := "reckonAfter", desc := "()V" } : Jvm.MethodName)) ∈ GW := in_t3 (List.mem_of_getElem? (i := 90) (by decide +kernel)) (by decide +kernel)
theorem tw3_92 : (Jvm.Cond.instanceMethod ({ cls := "GriefEngine$Rows", name := "reckonAfter", desc := "()V" } : Jvm.MethodName)) ∈ GW := in_t3 (List.mem_of_getElem? (i := 92) (by decide +kernel)) (by decide +kernel)
theorem tw3_93 : (Jvm.Cond.code ({ cls := "GriefEngine$Rows", name := "reckonAfter", desc := "()V" } : Jvm.MethodName) prog_7_method_5_code (5 : Nat) (Option.none : Option Jvm.ClassFile.FieldType)) ∈ GW := in_t3 (List.mem_of_getElem? (i := 93) (by decide +kernel)) (by decide +kernel)
theorem tw3_94 : (Jvm.Cond.methodLink "GriefEngine$Rows" (82 : Nat) ({ cls := "GriefEngine$Rows", name := "milesBy", desc := "(III)I" } : Jvm.MethodName)) ∈ GW := in_t3 (List.mem_of_getElem? (i := 94) (by decide +kernel)) (by decide +kernel)
theorem tw3_96 : (Jvm.Cond.instanceMethod ({ cls := "GriefEngine$Rows", name := "milesBy", desc := "(III)I" } : Jvm.MethodName)) ∈ GW := in_t3 (List.mem_of_getElem? (i := 96) (by decide +kernel)) (by decide +kernel)
theorem tw3_97 : (Jvm.Cond.code ({ cls := "GriefEngine$Rows", name := "milesBy", desc := "(III)I" } : Jvm.MethodName) prog_7_method_6_code (5 : Nat) (Option.some Jvm.ClassFile.FieldType.int)) ∈ GW := in_t3 (List.mem_of_getElem? (i := 97) (by decide +kernel)) (by decide +kernel)
theorem tw3_98 : (Jvm.Cond.methodLink "GriefEngine" (172 : Nat) ({ cls := "GriefEngine$Rows", name := "mostMiles", desc := "()I" } : Jvm.MethodName)) ∈ GW := in_t3 (List.mem_of_getElem? (i := 98) (by decide +kernel)) (by decide +kernel)
theorem tw3_99 : (Jvm.Cond.instanceMethod ({ cls := "GriefEngine$Rows", name := "mostMiles", desc := "()I" } : Jvm.MethodName)) ∈ GW := in_t3 (List.mem_of_getElem? (i := 99) (by decide +kernel)) (by decide +kernel)
theorem tw3_100 : (Jvm.Cond.selects "GriefEngine$Rows" ({ cls := "GriefEngine$Rows", name := "mostMiles", desc := "()I" } : Jvm.MethodName) ({ cls := "GriefEngine$Rows", name := "mostMiles", desc := "()I" } : Jvm.MethodName)) ∈ GW := in_t3 (List.mem_of_getElem? (i := 100) (by decide +kernel)) (by decide +kernel)
theorem tw3_101 : (Jvm.Cond.code ({ cls := "GriefEngine$Rows", name := "mostMiles", desc := "()I" } : Jvm.MethodName) prog_7_method_7_code (1 : Nat) (Option.some Jvm.ClassFile.FieldType.int)) ∈ GW := in_t3 (List.mem_of_getElem? (i := 101) (by decide +kernel)) (by decide +kernel)
theorem tw3_102 : (Jvm.Cond.methodLink "GriefEngine" (176 : Nat) ({ cls := "GriefEngine$Rows", name := "choiceOf", desc := "(I)I" } : Jvm.MethodName)) ∈ GW := in_t3 (List.mem_of_getElem? (i := 102) (by decide +kernel)) (by decide +kernel)
theorem tw3_103 : (Jvm.Cond.instanceMethod ({ cls := "GriefEngine$Rows", name := "choiceOf", desc := "(I)I" } : Jvm.MethodName)) ∈ GW := in_t3 (List.mem_of_getElem? (i := 103) (by decide +kernel)) (by decide +kernel)
theorem tw3_104 : (Jvm.Cond.selects "GriefEngine$Rows" ({ cls := "GriefEngine$Rows", name := "choiceOf", desc := "(I)I" } : Jvm.MethodName) ({ cls := "GriefEngine$Rows", name := "choiceOf", desc := "(I)I" } : Jvm.MethodName)) ∈ GW := in_t3 (List.mem_of_getElem? (i := 104) (by decide +kernel)) (by decide +kernel)
theorem tw3_105 : (Jvm.Cond.code ({ cls := "GriefEngine$Rows", name := "choiceOf", desc := "(I)I" } : Jvm.MethodName) prog_7_method_8_code (5 : Nat) (Option.some Jvm.ClassFile.FieldType.int)) ∈ GW := in_t3 (List.mem_of_getElem? (i := 105) (by decide +kernel)) (by decide +kernel)
theorem tw3_106 : (Jvm.Cond.methodLink "GriefEngine$Rows" (86 : Nat) ({ cls := "GriefEngine$Rows", name := "firstBestChoice", desc := "(II)I" } : Jvm.MethodName)) ∈ GW := in_t3 (List.mem_of_getElem? (i := 106) (by decide +kernel)) (by decide +kernel)
theorem tw3_108 : (Jvm.Cond.instanceMethod ({ cls := "GriefEngine$Rows", name := "firstBestChoice", desc := "(II)I" } : Jvm.MethodName)) ∈ GW := in_t3 (List.mem_of_getElem? (i := 108) (by decide +kernel)) (by decide +kernel)
theorem tw3_109 : (Jvm.Cond.code ({ cls := "GriefEngine$Rows", name := "firstBestChoice", desc := "(II)I" } : Jvm.MethodName) prog_7_method_9_code (4 : Nat) (Option.some Jvm.ClassFile.FieldType.int)) ∈ GW := in_t3 (List.mem_of_getElem? (i := 109) (by decide +kernel)) (by decide +kernel)
theorem tw3_110 : (Jvm.Cond.methodLink "GriefEngineLaw" (70 : Nat) ({ cls := "GriefEngine", name := "soonest", desc := "(II)I" } : Jvm.MethodName)) ∈ GW := in_t3 (List.mem_of_getElem? (i := 110) (by decide +kernel)) (by decide +kernel)
theorem tw3_111 : (Jvm.Cond.instanceMethod ({ cls := "GriefEngine", name := "soonest", desc := "(II)I" } : Jvm.MethodName)) ∈ GW := in_t3 (List.mem_of_getElem? (i := 111) (by decide +kernel)) (by decide +kernel)
theorem tw3_112 : (Jvm.Cond.selects "GriefEngine" ({ cls := "GriefEngine", name := "soonest", desc := "(II)I" } : Jvm.MethodName) ({ cls := "GriefEngine", name := "soonest", desc := "(II)I" } : Jvm.MethodName)) ∈ GW := in_t3 (List.mem_of_getElem? (i := 112) (by decide +kernel)) (by decide +kernel)
theorem tw3_113 : (Jvm.Cond.code ({ cls := "GriefEngine", name := "soonest", desc := "(II)I" } : Jvm.MethodName) prog_1_method_15_code (3 : Nat) (Option.some Jvm.ClassFile.FieldType.int)) ∈ GW := in_t3 (List.mem_of_getElem? (i := 113) (by decide +kernel)) (by decide +kernel)
theorem tw3_114 : (Jvm.Cond.methodLink "GriefEngine" (179 : Nat) ({ cls := "GriefEngine$Rows", name := "fewestDaysFor", desc := "(I)I" } : Jvm.MethodName)) ∈ GW := in_t3 (List.mem_of_getElem? (i := 114) (by decide +kernel)) (by decide +kernel)
theorem tw3_115 : (Jvm.Cond.instanceMethod ({ cls := "GriefEngine$Rows", name := "fewestDaysFor", desc := "(I)I" } : Jvm.MethodName)) ∈ GW := in_t3 (List.mem_of_getElem? (i := 115) (by decide +kernel)) (by decide +kernel)
theorem tw3_116 : (Jvm.Cond.selects "GriefEngine$Rows" ({ cls := "GriefEngine$Rows", name := "fewestDaysFor", desc := "(I)I" } : Jvm.MethodName) ({ cls := "GriefEngine$Rows", name := "fewestDaysFor", desc := "(I)I" } : Jvm.MethodName)) ∈ GW := in_t3 (List.mem_of_getElem? (i := 116) (by decide +kernel)) (by decide +kernel)
theorem tw3_117 : (Jvm.Cond.code ({ cls := "GriefEngine$Rows", name := "fewestDaysFor", desc := "(I)I" } : Jvm.MethodName) prog_7_method_10_code (4 : Nat) (Option.some Jvm.ClassFile.FieldType.int)) ∈ GW := in_t3 (List.mem_of_getElem? (i := 117) (by decide +kernel)) (by decide +kernel)
theorem tw3_118 : (Jvm.Cond.methodLink "GriefEngineLaw" (74 : Nat) ({ cls := "GriefEngine", name := "home", desc := "(III)I" } : Jvm.MethodName)) ∈ GW := in_t3 (List.mem_of_getElem? (i := 118) (by decide +kernel)) (by decide +kernel)
theorem tw3_119 : (Jvm.Cond.instanceMethod ({ cls := "GriefEngine", name := "home", desc := "(III)I" } : Jvm.MethodName)) ∈ GW := in_t3 (List.mem_of_getElem? (i := 119) (by decide +kernel)) (by decide +kernel)
theorem tw3_120 : (Jvm.Cond.selects "GriefEngine" ({ cls := "GriefEngine", name := "home", desc := "(III)I" } : Jvm.MethodName) ({ cls := "GriefEngine", name := "home", desc := "(III)I" } : Jvm.MethodName)) ∈ GW := in_t3 (List.mem_of_getElem? (i := 120) (by decide +kernel)) (by decide +kernel)
theorem tw3_121 : (Jvm.Cond.code ({ cls := "GriefEngine", name := "home", desc := "(III)I" } : Jvm.MethodName) prog_1_method_16_code (4 : Nat) (Option.some Jvm.ClassFile.FieldType.int)) ∈ GW := in_t3 (List.mem_of_getElem? (i := 121) (by decide +kernel)) (by decide +kernel)
theorem tw3_122 : (Jvm.Cond.methodLink "GriefEngine" (182 : Nat) ({ cls := "GriefEngine$Rows", name := "farthestTurn", desc := "()I" } : Jvm.MethodName)) ∈ GW := in_t3 (List.mem_of_getElem? (i := 122) (by decide +kernel)) (by decide +kernel)
theorem tw3_123 : (Jvm.Cond.instanceMethod ({ cls := "GriefEngine$Rows", name := "farthestTurn", desc := "()I" } : Jvm.MethodName)) ∈ GW := in_t3 (List.mem_of_getElem? (i := 123) (by decide +kernel)) (by decide +kernel)
theorem tw3_124 : (Jvm.Cond.selects "GriefEngine$Rows" ({ cls := "GriefEngine$Rows", name := "farthestTurn", desc := "()I" } : Jvm.MethodName) ({ cls := "GriefEngine$Rows", name := "farthestTurn", desc := "()I" } : Jvm.MethodName)) ∈ GW := in_t3 (List.mem_of_getElem? (i := 124) (by decide +kernel)) (by decide +kernel)
theorem tw3_125 : (Jvm.Cond.code ({ cls := "GriefEngine$Rows", name := "farthestTurn", desc := "()I" } : Jvm.MethodName) prog_7_method_11_code (3 : Nat) (Option.some Jvm.ClassFile.FieldType.int)) ∈ GW := in_t3 (List.mem_of_getElem? (i := 125) (by decide +kernel)) (by decide +kernel)
theorem tw3_126 : (Jvm.Cond.methodLink "GriefEngine$Rows" (89 : Nat) ({ cls := "GriefEngine$Rows", name := "farthestTurnAt", desc := "(I)I" } : Jvm.MethodName)) ∈ GW := in_t3 (List.mem_of_getElem? (i := 126) (by decide +kernel)) (by decide +kernel)
theorem tw3_128 : (Jvm.Cond.instanceMethod ({ cls := "GriefEngine$Rows", name := "farthestTurnAt", desc := "(I)I" } : Jvm.MethodName)) ∈ GW := in_t3 (List.mem_of_getElem? (i := 128) (by decide +kernel)) (by decide +kernel)
theorem tw3_129 : (Jvm.Cond.code ({ cls := "GriefEngine$Rows", name := "farthestTurnAt", desc := "(I)I" } : Jvm.MethodName) prog_7_method_13_code (4 : Nat) (Option.some Jvm.ClassFile.FieldType.int)) ∈ GW := in_t3 (List.mem_of_getElem? (i := 129) (by decide +kernel)) (by decide +kernel)
theorem tw3_130 : (Jvm.Cond.methodLink "GriefEngine" (185 : Nat) ({ cls := "GriefEngine$Rows", name := "firstTurnAt", desc := "(I)I" } : Jvm.MethodName)) ∈ GW := in_t3 (List.mem_of_getElem? (i := 130) (by decide +kernel)) (by decide +kernel)
theorem tw3_131 : (Jvm.Cond.instanceMethod ({ cls := "GriefEngine$Rows", name := "firstTurnAt", desc := "(I)I" } : Jvm.MethodName)) ∈ GW := in_t3 (List.mem_of_getElem? (i := 131) (by decide +kernel)) (by decide +kernel)
theorem tw3_132 : (Jvm.Cond.selects "GriefEngine$Rows" ({ cls := "GriefEngine$Rows", name := "firstTurnAt", desc := "(I)I" } : Jvm.MethodName) ({ cls := "GriefEngine$Rows", name := "firstTurnAt", desc := "(I)I" } : Jvm.MethodName)) ∈ GW := in_t3 (List.mem_of_getElem? (i := 132) (by decide +kernel)) (by decide +kernel)
theorem tw3_133 : (Jvm.Cond.code ({ cls := "GriefEngine$Rows", name := "firstTurnAt", desc := "(I)I" } : Jvm.MethodName) prog_7_method_12_code (3 : Nat) (Option.some Jvm.ClassFile.FieldType.int)) ∈ GW := in_t3 (List.mem_of_getElem? (i := 133) (by decide +kernel)) (by decide +kernel)
theorem tw3_134 : (Jvm.Cond.methodLink "GriefEngineLaw" (78 : Nat) ({ cls := "GriefEngine", name := "tell", desc := "(I)I" } : Jvm.MethodName)) ∈ GW := in_t3 (List.mem_of_getElem? (i := 134) (by decide +kernel)) (by decide +kernel)
theorem tw3_135 : (Jvm.Cond.instanceMethod ({ cls := "GriefEngine", name := "tell", desc := "(I)I" } : Jvm.MethodName)) ∈ GW := in_t3 (List.mem_of_getElem? (i := 135) (by decide +kernel)) (by decide +kernel)
theorem tw3_136 : (Jvm.Cond.selects "GriefEngine" ({ cls := "GriefEngine", name := "tell", desc := "(I)I" } : Jvm.MethodName) ({ cls := "GriefEngine", name := "tell", desc := "(I)I" } : Jvm.MethodName)) ∈ GW := in_t3 (List.mem_of_getElem? (i := 136) (by decide +kernel)) (by decide +kernel)
theorem tw3_137 : (Jvm.Cond.code ({ cls := "GriefEngine", name := "tell", desc := "(I)I" } : Jvm.MethodName) prog_1_method_17_code (2 : Nat) (Option.some Jvm.ClassFile.FieldType.int)) ∈ GW := in_t3 (List.mem_of_getElem? (i := 137) (by decide +kernel)) (by decide +kernel)
theorem tw3_138 : (Jvm.Cond.methodLink "GriefEngine" (188 : Nat) ({ cls := "GriefEngine$Pairs", name := "reckon", desc := "(LGriefEngine$Rank;)V" } : Jvm.MethodName)) ∈ GW := in_t3 (List.mem_of_getElem? (i := 138) (by decide +kernel)) (by decide +kernel)
theorem tw3_139 : (Jvm.Cond.instanceMethod ({ cls := "GriefEngine$Pairs", name := "reckon", desc := "(LGriefEngine$Rank;)V" } : Jvm.MethodName)) ∈ GW := in_t3 (List.mem_of_getElem? (i := 139) (by decide +kernel)) (by decide +kernel)
theorem tw3_140 : (Jvm.Cond.selects "GriefEngine$Pairs" ({ cls := "GriefEngine$Pairs", name := "reckon", desc := "(LGriefEngine$Rank;)V" } : Jvm.MethodName) ({ cls := "GriefEngine$Pairs", name := "reckon", desc := "(LGriefEngine$Rank;)V" } : Jvm.MethodName)) ∈ GW := in_t3 (List.mem_of_getElem? (i := 140) (by decide +kernel)) (by decide +kernel)
theorem tw3_141 : (Jvm.Cond.code ({ cls := "GriefEngine$Pairs", name := "reckon", desc := "(LGriefEngine$Rank;)V" } : Jvm.MethodName) prog_4_method_2_code (3 : Nat) (Option.none : Option Jvm.ClassFile.FieldType)) ∈ GW := in_t3 (List.mem_of_getElem? (i := 141) (by decide +kernel)) (by decide +kernel)
theorem tw3_142 : (Jvm.Cond.methodLink "GriefEngine$Pairs" (22 : Nat) ({ cls := "GriefEngine$Pairs", name := "tryFrom", desc := "(LGriefEngine$Pairs;LGriefEngine$Rank;II)V" } : Jvm.MethodName)) ∈ GW := in_t3 (List.mem_of_getElem? (i := 142) (by decide +kernel)) (by decide +kernel)
theorem tw3_143 : (Jvm.Cond.static ({ cls := "GriefEngine$Pairs", name := "tryFrom", desc := "(LGriefEngine$Pairs;LGriefEngine$Rank;II)V" } : Jvm.MethodName)) ∈ GW := in_t3 (List.mem_of_getElem? (i := 143) (by decide +kernel)) (by decide +kernel)
theorem tw3_144 : (Jvm.Cond.code ({ cls := "GriefEngine$Pairs", name := "tryFrom", desc := "(LGriefEngine$Pairs;LGriefEngine$Rank;II)V" } : Jvm.MethodName) prog_4_method_3_code (5 : Nat) (Option.none : Option Jvm.ClassFile.FieldType)) ∈ GW := in_t3 (List.mem_of_getElem? (i := 144) (by decide +kernel)) (by decide +kernel)
theorem tw3_145 : (Jvm.Cond.methodLink "GriefEngine$Pairs" (31 : Nat) ({ cls := "GriefEngine$Pairs", name := "keepIfBetter", desc := "(I)V" } : Jvm.MethodName)) ∈ GW := in_t3 (List.mem_of_getElem? (i := 145) (by decide +kernel)) (by decide +kernel)
theorem tw3_147 : (Jvm.Cond.instanceMethod ({ cls := "GriefEngine$Pairs", name := "keepIfBetter", desc := "(I)V" } : Jvm.MethodName)) ∈ GW := in_t3 (List.mem_of_getElem? (i := 147) (by decide +kernel)) (by decide +kernel)
theorem tw3_148 : (Jvm.Cond.code ({ cls := "GriefEngine$Pairs", name := "keepIfBetter", desc := "(I)V" } : Jvm.MethodName) prog_4_method_4_code (2 : Nat) (Option.none : Option Jvm.ClassFile.FieldType)) ∈ GW := in_t3 (List.mem_of_getElem? (i := 148) (by decide +kernel)) (by decide +kernel)
theorem tw3_149 : (Jvm.Cond.methodLink "GriefEngine$Pairs" (39 : Nat) ({ cls := "java/lang/System", name := "arraycopy", desc := "(Ljava/lang/Object;ILjava/lang/Object;II)V" } : Jvm.MethodName)) ∈ GW := in_t3 (List.mem_of_getElem? (i := 149) (by decide +kernel)) (by decide +kernel)
theorem tw3_150 : (Jvm.Cond.methodLink "GriefEngine$Pairs" (35 : Nat) ({ cls := "GriefEngine$Pairs", name := "pairWorth", desc := "(LGriefEngine$Rank;II)I" } : Jvm.MethodName)) ∈ GW := in_t3 (List.mem_of_getElem? (i := 150) (by decide +kernel)) (by decide +kernel)
theorem tw3_151 : (Jvm.Cond.static ({ cls := "GriefEngine$Pairs", name := "pairWorth", desc := "(LGriefEngine$Rank;II)I" } : Jvm.MethodName)) ∈ GW := in_t3 (List.mem_of_getElem? (i := 151) (by decide +kernel)) (by decide +kernel)
theorem tw3_152 : (Jvm.Cond.code ({ cls := "GriefEngine$Pairs", name := "pairWorth", desc := "(LGriefEngine$Rank;II)I" } : Jvm.MethodName) prog_4_method_5_code (4 : Nat) (Option.some Jvm.ClassFile.FieldType.int)) ∈ GW := in_t3 (List.mem_of_getElem? (i := 152) (by decide +kernel)) (by decide +kernel)
theorem tw3_153 : (Jvm.Cond.methodLink "GriefEngine$Pairs" (48 : Nat) ({ cls := "java/lang/Math", name := "min", desc := "(II)I" } : Jvm.MethodName)) ∈ GW := in_t3 (List.mem_of_getElem? (i := 153) (by decide +kernel)) (by decide +kernel)
theorem tw3_154 : (Jvm.Cond.methodLink "GriefEngineLaw" (82 : Nat) ({ cls := "GriefEngine", name := "note", desc := "(IIIIII)I" } : Jvm.MethodName)) ∈ GW := in_t3 (List.mem_of_getElem? (i := 154) (by decide +kernel)) (by decide +kernel)
theorem tw3_155 : (Jvm.Cond.instanceMethod ({ cls := "GriefEngine", name := "note", desc := "(IIIIII)I" } : Jvm.MethodName)) ∈ GW := in_t3 (List.mem_of_getElem? (i := 155) (by decide +kernel)) (by decide +kernel)
theorem tw3_156 : (Jvm.Cond.selects "GriefEngine" ({ cls := "GriefEngine", name := "note", desc := "(IIIIII)I" } : Jvm.MethodName) ({ cls := "GriefEngine", name := "note", desc := "(IIIIII)I" } : Jvm.MethodName)) ∈ GW := in_t3 (List.mem_of_getElem? (i := 156) (by decide +kernel)) (by decide +kernel)
theorem tw3_157 : (Jvm.Cond.code ({ cls := "GriefEngine", name := "note", desc := "(IIIIII)I" } : Jvm.MethodName) prog_1_method_18_code (8 : Nat) (Option.some Jvm.ClassFile.FieldType.int)) ∈ GW := in_t3 (List.mem_of_getElem? (i := 157) (by decide +kernel)) (by decide +kernel)
theorem tw3_158 : (Jvm.Cond.methodLink "GriefEngine" (196 : Nat) ({ cls := "GriefEngine$Rank", name := "addNote", desc := "(IIIIII)I" } : Jvm.MethodName)) ∈ GW := in_t3 (List.mem_of_getElem? (i := 158) (by decide +kernel)) (by decide +kernel)
theorem tw3_159 : (Jvm.Cond.instanceMethod ({ cls := "GriefEngine$Rank", name := "addNote", desc := "(IIIIII)I" } : Jvm.MethodName)) ∈ GW := in_t3 (List.mem_of_getElem? (i := 159) (by decide +kernel)) (by decide +kernel)
theorem tw3_160 : (Jvm.Cond.selects "GriefEngine$Rank" ({ cls := "GriefEngine$Rank", name := "addNote", desc := "(IIIIII)I" } : Jvm.MethodName) ({ cls := "GriefEngine$Rank", name := "addNote", desc := "(IIIIII)I" } : Jvm.MethodName)) ∈ GW := in_t3 (List.mem_of_getElem? (i := 160) (by decide +kernel)) (by decide +kernel)
theorem tw3_161 : (Jvm.Cond.code ({ cls := "GriefEngine$Rank", name := "addNote", desc := "(IIIIII)I" } : Jvm.MethodName) prog_6_method_13_code (8 : Nat) (Option.some Jvm.ClassFile.FieldType.int)) ∈ GW := in_t3 (List.mem_of_getElem? (i := 161) (by decide +kernel)) (by decide +kernel)
theorem tw3_162 : (Jvm.Cond.methodLink "GriefEngineLaw" (87 : Nat) ({ cls := "GriefEngine", name := "gone", desc := "(III)I" } : Jvm.MethodName)) ∈ GW := in_t3 (List.mem_of_getElem? (i := 162) (by decide +kernel)) (by decide +kernel)
theorem tw3_163 : (Jvm.Cond.instanceMethod ({ cls := "GriefEngine", name := "gone", desc := "(III)I" } : Jvm.MethodName)) ∈ GW := in_t3 (List.mem_of_getElem? (i := 163) (by decide +kernel)) (by decide +kernel)
theorem tw3_164 : (Jvm.Cond.selects "GriefEngine" ({ cls := "GriefEngine", name := "gone", desc := "(III)I" } : Jvm.MethodName) ({ cls := "GriefEngine", name := "gone", desc := "(III)I" } : Jvm.MethodName)) ∈ GW := in_t3 (List.mem_of_getElem? (i := 164) (by decide +kernel)) (by decide +kernel)
theorem tw3_165 : (Jvm.Cond.code ({ cls := "GriefEngine", name := "gone", desc := "(III)I" } : Jvm.MethodName) prog_1_method_19_code (4 : Nat) (Option.some Jvm.ClassFile.FieldType.int)) ∈ GW := in_t3 (List.mem_of_getElem? (i := 165) (by decide +kernel)) (by decide +kernel)
theorem tw3_166 : (Jvm.Cond.methodLink "GriefEngine" (200 : Nat) ({ cls := "GriefEngine$Rank", name := "addTrip", desc := "(III)I" } : Jvm.MethodName)) ∈ GW := in_t3 (List.mem_of_getElem? (i := 166) (by decide +kernel)) (by decide +kernel)
theorem tw3_167 : (Jvm.Cond.instanceMethod ({ cls := "GriefEngine$Rank", name := "addTrip", desc := "(III)I" } : Jvm.MethodName)) ∈ GW := in_t3 (List.mem_of_getElem? (i := 167) (by decide +kernel)) (by decide +kernel)
theorem tw3_168 : (Jvm.Cond.selects "GriefEngine$Rank" ({ cls := "GriefEngine$Rank", name := "addTrip", desc := "(III)I" } : Jvm.MethodName) ({ cls := "GriefEngine$Rank", name := "addTrip", desc := "(III)I" } : Jvm.MethodName)) ∈ GW := in_t3 (List.mem_of_getElem? (i := 168) (by decide +kernel)) (by decide +kernel)
theorem tw3_169 : (Jvm.Cond.code ({ cls := "GriefEngine$Rank", name := "addTrip", desc := "(III)I" } : Jvm.MethodName) prog_6_method_15_code (5 : Nat) (Option.some Jvm.ClassFile.FieldType.int)) ∈ GW := in_t3 (List.mem_of_getElem? (i := 169) (by decide +kernel)) (by decide +kernel)
theorem tw3_170 : (Jvm.Cond.methodLink "GriefEngineLaw" (91 : Nat) ({ cls := "GriefEngine", name := "forget", desc := "(I)I" } : Jvm.MethodName)) ∈ GW := in_t3 (List.mem_of_getElem? (i := 170) (by decide +kernel)) (by decide +kernel)
theorem tw3_171 : (Jvm.Cond.instanceMethod ({ cls := "GriefEngine", name := "forget", desc := "(I)I" } : Jvm.MethodName)) ∈ GW := in_t3 (List.mem_of_getElem? (i := 171) (by decide +kernel)) (by decide +kernel)
theorem tw3_172 : (Jvm.Cond.selects "GriefEngine" ({ cls := "GriefEngine", name := "forget", desc := "(I)I" } : Jvm.MethodName) ({ cls := "GriefEngine", name := "forget", desc := "(I)I" } : Jvm.MethodName)) ∈ GW := in_t3 (List.mem_of_getElem? (i := 172) (by decide +kernel)) (by decide +kernel)
theorem tw3_173 : (Jvm.Cond.code ({ cls := "GriefEngine", name := "forget", desc := "(I)I" } : Jvm.MethodName) prog_1_method_20_code (3 : Nat) (Option.some Jvm.ClassFile.FieldType.int)) ∈ GW := in_t3 (List.mem_of_getElem? (i := 173) (by decide +kernel)) (by decide +kernel)
theorem tw3_174 : (Jvm.Cond.methodLink "GriefEngineLaw" (95 : Nat) ({ cls := "GriefEngine", name := "is", desc := "(I)I" } : Jvm.MethodName)) ∈ GW := in_t3 (List.mem_of_getElem? (i := 174) (by decide +kernel)) (by decide +kernel)
theorem tw3_175 : (Jvm.Cond.instanceMethod ({ cls := "GriefEngine", name := "is", desc := "(I)I" } : Jvm.MethodName)) ∈ GW := in_t3 (List.mem_of_getElem? (i := 175) (by decide +kernel)) (by decide +kernel)
theorem tw3_176 : (Jvm.Cond.selects "GriefEngine" ({ cls := "GriefEngine", name := "is", desc := "(I)I" } : Jvm.MethodName) ({ cls := "GriefEngine", name := "is", desc := "(I)I" } : Jvm.MethodName)) ∈ GW := in_t3 (List.mem_of_getElem? (i := 176) (by decide +kernel)) (by decide +kernel)
theorem tw3_177 : (Jvm.Cond.code ({ cls := "GriefEngine", name := "is", desc := "(I)I" } : Jvm.MethodName) prog_1_method_21_code (2 : Nat) (Option.some Jvm.ClassFile.FieldType.int)) ∈ GW := in_t3 (List.mem_of_getElem? (i := 177) (by decide +kernel)) (by decide +kernel)
theorem tw3_178 : (Jvm.Cond.methodLink "GriefEngine" (209 : Nat) ({ cls := "GriefEngine", name := "kindsThatFit", desc := "(I)I" } : Jvm.MethodName)) ∈ GW := in_t3 (List.mem_of_getElem? (i := 178) (by decide +kernel)) (by decide +kernel)
theorem tw3_180 : (Jvm.Cond.instanceMethod ({ cls := "GriefEngine", name := "kindsThatFit", desc := "(I)I" } : Jvm.MethodName)) ∈ GW := in_t3 (List.mem_of_getElem? (i := 180) (by decide +kernel)) (by decide +kernel)
theorem tw3_181 : (Jvm.Cond.code ({ cls := "GriefEngine", name := "kindsThatFit", desc := "(I)I" } : Jvm.MethodName) prog_1_method_38_code (4 : Nat) (Option.some Jvm.ClassFile.FieldType.int)) ∈ GW := in_t3 (List.mem_of_getElem? (i := 181) (by decide +kernel)) (by decide +kernel)
theorem tw3_182 : (Jvm.Cond.methodLink "GriefEngine" (270 : Nat) ({ cls := "GriefEngine$Rank", name := "notesFit", desc := "(ILGriefEngine$Plain;)Z" } : Jvm.MethodName)) ∈ GW := in_t3 (List.mem_of_getElem? (i := 182) (by decide +kernel)) (by decide +kernel)
theorem tw3_183 : (Jvm.Cond.instanceMethod ({ cls := "GriefEngine$Rank", name := "notesFit", desc := "(ILGriefEngine$Plain;)Z" } : Jvm.MethodName)) ∈ GW := in_t3 (List.mem_of_getElem? (i := 183) (by decide +kernel)) (by decide +kernel)
theorem tw3_184 : (Jvm.Cond.selects "GriefEngine$Rank" ({ cls := "GriefEngine$Rank", name := "notesFit", desc := "(ILGriefEngine$Plain;)Z" } : Jvm.MethodName) ({ cls := "GriefEngine$Rank", name := "notesFit", desc := "(ILGriefEngine$Plain;)Z" } : Jvm.MethodName)) ∈ GW := in_t3 (List.mem_of_getElem? (i := 184) (by decide +kernel)) (by decide +kernel)
theorem tw3_185 : (Jvm.Cond.code ({ cls := "GriefEngine$Rank", name := "notesFit", desc := "(ILGriefEngine$Plain;)Z" } : Jvm.MethodName) prog_6_method_14_code (7 : Nat) (Option.some Jvm.ClassFile.FieldType.boolean)) ∈ GW := in_t3 (List.mem_of_getElem? (i := 185) (by decide +kernel)) (by decide +kernel)
theorem tw3_186 : (Jvm.Cond.methodLink "GriefEngineLaw" (99 : Nat) ({ cls := "GriefEngine", name := "look", desc := "(I)I" } : Jvm.MethodName)) ∈ GW := in_t3 (List.mem_of_getElem? (i := 186) (by decide +kernel)) (by decide +kernel)
theorem tw3_187 : (Jvm.Cond.instanceMethod ({ cls := "GriefEngine", name := "look", desc := "(I)I" } : Jvm.MethodName)) ∈ GW := in_t3 (List.mem_of_getElem? (i := 187) (by decide +kernel)) (by decide +kernel)
theorem tw3_188 : (Jvm.Cond.selects "GriefEngine" ({ cls := "GriefEngine", name := "look", desc := "(I)I" } : Jvm.MethodName) ({ cls := "GriefEngine", name := "look", desc := "(I)I" } : Jvm.MethodName)) ∈ GW := in_t3 (List.mem_of_getElem? (i := 188) (by decide +kernel)) (by decide +kernel)
theorem tw3_189 : (Jvm.Cond.code ({ cls := "GriefEngine", name := "look", desc := "(I)I" } : Jvm.MethodName) prog_1_method_22_code (3 : Nat) (Option.some Jvm.ClassFile.FieldType.int)) ∈ GW := in_t3 (List.mem_of_getElem? (i := 189) (by decide +kernel)) (by decide +kernel)
theorem tw3_190 : (Jvm.Cond.methodLink "GriefEngine" (212 : Nat) ({ cls := "GriefEngine", name := "bestMorning", desc := "(II)I" } : Jvm.MethodName)) ∈ GW := in_t3 (List.mem_of_getElem? (i := 190) (by decide +kernel)) (by decide +kernel)
theorem tw3_192 : (Jvm.Cond.instanceMethod ({ cls := "GriefEngine", name := "bestMorning", desc := "(II)I" } : Jvm.MethodName)) ∈ GW := in_t3 (List.mem_of_getElem? (i := 192) (by decide +kernel)) (by decide +kernel)
theorem tw3_193 : (Jvm.Cond.code ({ cls := "GriefEngine", name := "bestMorning", desc := "(II)I" } : Jvm.MethodName) prog_1_method_39_code (8 : Nat) (Option.some Jvm.ClassFile.FieldType.int)) ∈ GW := in_t3 (List.mem_of_getElem? (i := 193) (by decide +kernel)) (by decide +kernel)
theorem tw3_194 : (Jvm.Cond.methodLink "GriefEngine" (274 : Nat) ({ cls := "GriefEngine", name := "mostAlike", desc := "(IIII)I" } : Jvm.MethodName)) ∈ GW := in_t3 (List.mem_of_getElem? (i := 194) (by decide +kernel)) (by decide +kernel)
theorem tw3_196 : (Jvm.Cond.instanceMethod ({ cls := "GriefEngine", name := "mostAlike", desc := "(IIII)I" } : Jvm.MethodName)) ∈ GW := in_t3 (List.mem_of_getElem? (i := 196) (by decide +kernel)) (by decide +kernel)
theorem tw3_197 : (Jvm.Cond.code ({ cls := "GriefEngine", name := "mostAlike", desc := "(IIII)I" } : Jvm.MethodName) prog_1_method_40_code (9 : Nat) (Option.some Jvm.ClassFile.FieldType.int)) ∈ GW := in_t3 (List.mem_of_getElem? (i := 197) (by decide +kernel)) (by decide +kernel)
theorem tw3_198 : (Jvm.Cond.methodLink "GriefEngine" (278 : Nat) ({ cls := "java/lang/Math", name := "max", desc := "(II)I" } : Jvm.MethodName)) ∈ GW := in_t3 (List.mem_of_getElem? (i := 198) (by decide +kernel)) (by decide +kernel)
theorem tw3_199 : (Jvm.Cond.methodLink "GriefEngineLaw" (103 : Nat) ({ cls := "GriefEngine", name := "had", desc := "(II)I" } : Jvm.MethodName)) ∈ GW := in_t3 (List.mem_of_getElem? (i := 199) (by decide +kernel)) (by decide +kernel)
theorem tw3_200 : (Jvm.Cond.instanceMethod ({ cls := "GriefEngine", name := "had", desc := "(II)I" } : Jvm.MethodName)) ∈ GW := in_t3 (List.mem_of_getElem? (i := 200) (by decide +kernel)) (by decide +kernel)
theorem tw3_201 : (Jvm.Cond.selects "GriefEngine" ({ cls := "GriefEngine", name := "had", desc := "(II)I" } : Jvm.MethodName) ({ cls := "GriefEngine", name := "had", desc := "(II)I" } : Jvm.MethodName)) ∈ GW := in_t3 (List.mem_of_getElem? (i := 201) (by decide +kernel)) (by decide +kernel)
theorem tw3_202 : (Jvm.Cond.code ({ cls := "GriefEngine", name := "had", desc := "(II)I" } : Jvm.MethodName) prog_1_method_23_code (6 : Nat) (Option.some Jvm.ClassFile.FieldType.int)) ∈ GW := in_t3 (List.mem_of_getElem? (i := 202) (by decide +kernel)) (by decide +kernel)
theorem tw3_203 : (Jvm.Cond.methodLink "GriefEngine" (215 : Nat) ({ cls := "GriefEngine$Rank", name := "tripsFit", desc := "(II)Z" } : Jvm.MethodName)) ∈ GW := in_t3 (List.mem_of_getElem? (i := 203) (by decide +kernel)) (by decide +kernel)
theorem tw3_204 : (Jvm.Cond.instanceMethod ({ cls := "GriefEngine$Rank", name := "tripsFit", desc := "(II)Z" } : Jvm.MethodName)) ∈ GW := in_t3 (List.mem_of_getElem? (i := 204) (by decide +kernel)) (by decide +kernel)
theorem tw3_205 : (Jvm.Cond.selects "GriefEngine$Rank" ({ cls := "GriefEngine$Rank", name := "tripsFit", desc := "(II)Z" } : Jvm.MethodName) ({ cls := "GriefEngine$Rank", name := "tripsFit", desc := "(II)Z" } : Jvm.MethodName)) ∈ GW := in_t3 (List.mem_of_getElem? (i := 205) (by decide +kernel)) (by decide +kernel)
theorem tw3_206 : (Jvm.Cond.code ({ cls := "GriefEngine$Rank", name := "tripsFit", desc := "(II)Z" } : Jvm.MethodName) prog_6_method_16_code (6 : Nat) (Option.some Jvm.ClassFile.FieldType.boolean)) ∈ GW := in_t3 (List.mem_of_getElem? (i := 206) (by decide +kernel)) (by decide +kernel)
theorem tw3_207 : (Jvm.Cond.methodLink "GriefEngine$Rank" (100 : Nat) ({ cls := "GriefEngine$Plain", name := "milesFromFirstDay", desc := "(II)I" } : Jvm.MethodName)) ∈ GW := in_t3 (List.mem_of_getElem? (i := 207) (by decide +kernel)) (by decide +kernel)
theorem tw3_208 : (Jvm.Cond.instanceMethod ({ cls := "GriefEngine$Plain", name := "milesFromFirstDay", desc := "(II)I" } : Jvm.MethodName)) ∈ GW := in_t3 (List.mem_of_getElem? (i := 208) (by decide +kernel)) (by decide +kernel)
theorem tw3_209 : (Jvm.Cond.selects "GriefEngine$Plain" ({ cls := "GriefEngine$Plain", name := "milesFromFirstDay", desc := "(II)I" } : Jvm.MethodName) ({ cls := "GriefEngine$Plain", name := "milesFromFirstDay", desc := "(II)I" } : Jvm.MethodName)) ∈ GW := in_t3 (List.mem_of_getElem? (i := 209) (by decide +kernel)) (by decide +kernel)
theorem tw3_210 : (Jvm.Cond.sameMethod "GriefEngine$Plain" "GriefEngine$Plain" "milesFromFirstDay" "(II)I") ∈ GW := in_t3 (List.mem_of_getElem? (i := 210) (by decide +kernel)) (by decide +kernel)
theorem tw3_211 : (Jvm.Cond.selects "GriefEngine$Keeper" ({ cls := "GriefEngine$Plain", name := "milesFromFirstDay", desc := "(II)I" } : Jvm.MethodName) ({ cls := "GriefEngine$Plain", name := "milesFromFirstDay", desc := "(II)I" } : Jvm.MethodName)) ∈ GW := in_t3 (List.mem_of_getElem? (i := 211) (by decide +kernel)) (by decide +kernel)
theorem tw3_212 : (Jvm.Cond.selects "GriefEngine$Old" ({ cls := "GriefEngine$Plain", name := "milesFromFirstDay", desc := "(II)I" } : Jvm.MethodName) ({ cls := "GriefEngine$Plain", name := "milesFromFirstDay", desc := "(II)I" } : Jvm.MethodName)) ∈ GW := in_t3 (List.mem_of_getElem? (i := 212) (by decide +kernel)) (by decide +kernel)
theorem tw3_213 : (Jvm.Cond.selects "GriefEngine$Sham" ({ cls := "GriefEngine$Plain", name := "milesFromFirstDay", desc := "(II)I" } : Jvm.MethodName) ({ cls := "GriefEngine$Plain", name := "milesFromFirstDay", desc := "(II)I" } : Jvm.MethodName)) ∈ GW := in_t3 (List.mem_of_getElem? (i := 213) (by decide +kernel)) (by decide +kernel)
theorem tw3_214 : (Jvm.Cond.selects "GriefEngine$Spring" ({ cls := "GriefEngine$Plain", name := "milesFromFirstDay", desc := "(II)I" } : Jvm.MethodName) ({ cls := "GriefEngine$Plain", name := "milesFromFirstDay", desc := "(II)I" } : Jvm.MethodName)) ∈ GW := in_t3 (List.mem_of_getElem? (i := 214) (by decide +kernel)) (by decide +kernel)
theorem tw3_215 : (Jvm.Cond.selects "GriefEngine$Teller" ({ cls := "GriefEngine$Plain", name := "milesFromFirstDay", desc := "(II)I" } : Jvm.MethodName) ({ cls := "GriefEngine$Plain", name := "milesFromFirstDay", desc := "(II)I" } : Jvm.MethodName)) ∈ GW := in_t3 (List.mem_of_getElem? (i := 215) (by decide +kernel)) (by decide +kernel)
theorem tw3_216 : (Jvm.Cond.code ({ cls := "GriefEngine$Plain", name := "milesFromFirstDay", desc := "(II)I" } : Jvm.MethodName) prog_5_method_7_code (6 : Nat) (Option.some Jvm.ClassFile.FieldType.int)) ∈ GW := in_t3 (List.mem_of_getElem? (i := 216) (by decide +kernel)) (by decide +kernel)
theorem tw3_218 : (Jvm.Cond.methodLink "GriefEngine$Plain" (33 : Nat) ({ cls := "GriefEngine$Plain", name := "runs", desc := "(II)I" } : Jvm.MethodName)) ∈ GW := in_t3 (List.mem_of_getElem? (i := 218) (by decide +kernel)) (by decide +kernel)
theorem tw3_219 : (Jvm.Cond.methodLink "GriefEngine$Plain" (36 : Nat) ({ cls := "GriefEngine$Plain", name := "left", desc := "(II)I" } : Jvm.MethodName)) ∈ GW := in_t3 (List.mem_of_getElem? (i := 219) (by decide +kernel)) (by decide +kernel)
theorem tw3_220 : (Jvm.Cond.methodLink "GriefEngineLaw" (107 : Nat) ({ cls := "GriefEngine", name := "fares", desc := "(II)I" } : Jvm.MethodName)) ∈ GW := in_t3 (List.mem_of_getElem? (i := 220) (by decide +kernel)) (by decide +kernel)
theorem tw3_221 : (Jvm.Cond.instanceMethod ({ cls := "GriefEngine", name := "fares", desc := "(II)I" } : Jvm.MethodName)) ∈ GW := in_t3 (List.mem_of_getElem? (i := 221) (by decide +kernel)) (by decide +kernel)
theorem tw3_222 : (Jvm.Cond.selects "GriefEngine" ({ cls := "GriefEngine", name := "fares", desc := "(II)I" } : Jvm.MethodName) ({ cls := "GriefEngine", name := "fares", desc := "(II)I" } : Jvm.MethodName)) ∈ GW := in_t3 (List.mem_of_getElem? (i := 222) (by decide +kernel)) (by decide +kernel)
theorem tw3_223 : (Jvm.Cond.code ({ cls := "GriefEngine", name := "fares", desc := "(II)I" } : Jvm.MethodName) prog_1_method_24_code (7 : Nat) (Option.some Jvm.ClassFile.FieldType.int)) ∈ GW := in_t3 (List.mem_of_getElem? (i := 223) (by decide +kernel)) (by decide +kernel)
theorem tw3_224 : (Jvm.Cond.methodLink "GriefEngine" (219 : Nat) ({ cls := "GriefEngine", name := "isContent", desc := "(IZZ)Z" } : Jvm.MethodName)) ∈ GW := in_t3 (List.mem_of_getElem? (i := 224) (by decide +kernel)) (by decide +kernel)
theorem tw3_226 : (Jvm.Cond.instanceMethod ({ cls := "GriefEngine", name := "isContent", desc := "(IZZ)Z" } : Jvm.MethodName)) ∈ GW := in_t3 (List.mem_of_getElem? (i := 226) (by decide +kernel)) (by decide +kernel)
theorem tw3_227 : (Jvm.Cond.code ({ cls := "GriefEngine", name := "isContent", desc := "(IZZ)Z" } : Jvm.MethodName) prog_1_method_41_code (4 : Nat) (Option.some Jvm.ClassFile.FieldType.boolean)) ∈ GW := in_t3 (List.mem_of_getElem? (i := 227) (by decide +kernel)) (by decide +kernel)
theorem tw3_228 : (Jvm.Cond.methodLink "GriefEngine" (283 : Nat) ({ cls := "GriefEngine", name := "worthToday", desc := "(IZZ)I" } : Jvm.MethodName)) ∈ GW := in_t3 (List.mem_of_getElem? (i := 228) (by decide +kernel)) (by decide +kernel)
theorem tw3_230 : (Jvm.Cond.instanceMethod ({ cls := "GriefEngine", name := "worthToday", desc := "(IZZ)I" } : Jvm.MethodName)) ∈ GW := in_t3 (List.mem_of_getElem? (i := 230) (by decide +kernel)) (by decide +kernel)
theorem tw3_231 : (Jvm.Cond.code ({ cls := "GriefEngine", name := "worthToday", desc := "(IZZ)I" } : Jvm.MethodName) prog_1_method_42_code (7 : Nat) (Option.some Jvm.ClassFile.FieldType.int)) ∈ GW := in_t3 (List.mem_of_getElem? (i := 231) (by decide +kernel)) (by decide +kernel)
theorem tw3_232 : (Jvm.Cond.methodLink "GriefEngineLaw" (111 : Nat) ({ cls := "GriefEngine", name := "starts", desc := "(III)I" } : Jvm.MethodName)) ∈ GW := in_t3 (List.mem_of_getElem? (i := 232) (by decide +kernel)) (by decide +kernel)
theorem tw3_233 : (Jvm.Cond.instanceMethod ({ cls := "GriefEngine", name := "starts", desc := "(III)I" } : Jvm.MethodName)) ∈ GW := in_t3 (List.mem_of_getElem? (i := 233) (by decide +kernel)) (by decide +kernel)
theorem tw3_234 : (Jvm.Cond.selects "GriefEngine" ({ cls := "GriefEngine", name := "starts", desc := "(III)I" } : Jvm.MethodName) ({ cls := "GriefEngine", name := "starts", desc := "(III)I" } : Jvm.MethodName)) ∈ GW := in_t3 (List.mem_of_getElem? (i := 234) (by decide +kernel)) (by decide +kernel)
theorem tw3_235 : (Jvm.Cond.code ({ cls := "GriefEngine", name := "starts", desc := "(III)I" } : Jvm.MethodName) prog_1_method_25_code (6 : Nat) (Option.some Jvm.ClassFile.FieldType.int)) ∈ GW := in_t3 (List.mem_of_getElem? (i := 235) (by decide +kernel)) (by decide +kernel)
theorem tw3_236 : (Jvm.Cond.methodLink "GriefEngine" (223 : Nat) ({ cls := "GriefEngine", name := "tenfoldMean", desc := "(LGriefEngine$Plain;IIII)J" } : Jvm.MethodName)) ∈ GW := in_t3 (List.mem_of_getElem? (i := 236) (by decide +kernel)) (by decide +kernel)
theorem tw3_237 : (Jvm.Cond.static ({ cls := "GriefEngine", name := "tenfoldMean", desc := "(LGriefEngine$Plain;IIII)J" } : Jvm.MethodName)) ∈ GW := in_t3 (List.mem_of_getElem? (i := 237) (by decide +kernel)) (by decide +kernel)
theorem tw3_238 : (Jvm.Cond.code ({ cls := "GriefEngine", name := "tenfoldMean", desc := "(LGriefEngine$Plain;IIII)J" } : Jvm.MethodName) prog_1_method_43_code (11 : Nat) (Option.some Jvm.ClassFile.FieldType.long)) ∈ GW := in_t3 (List.mem_of_getElem? (i := 238) (by decide +kernel)) (by decide +kernel)
theorem tw3_239 : (Jvm.Cond.methodLink "GriefEngine" (227 : Nat) ({ cls := "GriefEngine", name := "tenTo", desc := "(I)J" } : Jvm.MethodName)) ∈ GW := in_t3 (List.mem_of_getElem? (i := 239) (by decide +kernel)) (by decide +kernel)
theorem tw4_0 : (Jvm.Cond.static ({ cls := "GriefEngine", name := "tenTo", desc := "(I)J" } : Jvm.MethodName)) ∈ GW := in_t4 (List.mem_of_getElem? (i := 0) (by decide +kernel)) (by decide +kernel)
theorem tw4_1 : (Jvm.Cond.code ({ cls := "GriefEngine", name := "tenTo", desc := "(I)J" } : Jvm.MethodName) prog_1_method_44_code (4 : Nat) (Option.some Jvm.ClassFile.FieldType.long)) ∈ GW := in_t4 (List.mem_of_getElem? (i := 1) (by decide +kernel)) (by decide +kernel)
theorem tw4_2 : (Jvm.Cond.constantLong "GriefEngine" (287 : Nat) (10 : Int64)) ∈ GW := in_t4 (List.mem_of_getElem? (i := 2) (by decide +kernel)) (by decide +kernel)
theorem tw4_3 : (Jvm.Cond.methodLink "GriefEngine" (231 : Nat) ({ cls := "GriefEngine", name := "setFraction", desc := "(JJ)V" } : Jvm.MethodName)) ∈ GW := in_t4 (List.mem_of_getElem? (i := 3) (by decide +kernel)) (by decide +kernel)
theorem tw4_5 : (Jvm.Cond.instanceMethod ({ cls := "GriefEngine", name := "setFraction", desc := "(JJ)V" } : Jvm.MethodName)) ∈ GW := in_t4 (List.mem_of_getElem? (i := 5) (by decide +kernel)) (by decide +kernel)
theorem tw4_6 : (Jvm.Cond.code ({ cls := "GriefEngine", name := "setFraction", desc := "(JJ)V" } : Jvm.MethodName) prog_1_method_45_code (7 : Nat) (Option.none : Option Jvm.ClassFile.FieldType)) ∈ GW := in_t4 (List.mem_of_getElem? (i := 6) (by decide +kernel)) (by decide +kernel)
theorem tw4_7 : (Jvm.Cond.methodLink "GriefEngine" (289 : Nat) ({ cls := "GriefEngine", name := "commonDivisor", desc := "(JJ)J" } : Jvm.MethodName)) ∈ GW := in_t4 (List.mem_of_getElem? (i := 7) (by decide +kernel)) (by decide +kernel)
theorem tw4_8 : (Jvm.Cond.static ({ cls := "GriefEngine", name := "commonDivisor", desc := "(JJ)J" } : Jvm.MethodName)) ∈ GW := in_t4 (List.mem_of_getElem? (i := 8) (by decide +kernel)) (by decide +kernel)
theorem tw4_9 : (Jvm.Cond.code ({ cls := "GriefEngine", name := "commonDivisor", desc := "(JJ)J" } : Jvm.MethodName) prog_1_method_46_code (7 : Nat) (Option.some Jvm.ClassFile.FieldType.long)) ∈ GW := in_t4 (List.mem_of_getElem? (i := 9) (by decide +kernel)) (by decide +kernel)
theorem tw4_10 : (Jvm.Cond.methodLink "GriefEngineLaw" (115 : Nat) ({ cls := "GriefEngine", name := "years", desc := "(II)I" } : Jvm.MethodName)) ∈ GW := in_t4 (List.mem_of_getElem? (i := 10) (by decide +kernel)) (by decide +kernel)
theorem tw4_11 : (Jvm.Cond.instanceMethod ({ cls := "GriefEngine", name := "years", desc := "(II)I" } : Jvm.MethodName)) ∈ GW := in_t4 (List.mem_of_getElem? (i := 11) (by decide +kernel)) (by decide +kernel)
theorem tw4_12 : (Jvm.Cond.selects "GriefEngine" ({ cls := "GriefEngine", name := "years", desc := "(II)I" } : Jvm.MethodName) ({ cls := "GriefEngine", name := "years", desc := "(II)I" } : Jvm.MethodName)) ∈ GW := in_t4 (List.mem_of_getElem? (i := 12) (by decide +kernel)) (by decide +kernel)
theorem tw4_13 : (Jvm.Cond.code ({ cls := "GriefEngine", name := "years", desc := "(II)I" } : Jvm.MethodName) prog_1_method_26_code (8 : Nat) (Option.some Jvm.ClassFile.FieldType.int)) ∈ GW := in_t4 (List.mem_of_getElem? (i := 13) (by decide +kernel)) (by decide +kernel)
theorem tw4_14 : (Jvm.Cond.constant "GriefEngine" (235 : Nat) (999999 : Int32)) ∈ GW := in_t4 (List.mem_of_getElem? (i := 14) (by decide +kernel)) (by decide +kernel)
theorem tw4_15 : (Jvm.Cond.constantLong "GriefEngine" (236 : Nat) (1103515245 : Int64)) ∈ GW := in_t4 (List.mem_of_getElem? (i := 15) (by decide +kernel)) (by decide +kernel)
theorem tw4_16 : (Jvm.Cond.constantLong "GriefEngine" (238 : Nat) (12345 : Int64)) ∈ GW := in_t4 (List.mem_of_getElem? (i := 16) (by decide +kernel)) (by decide +kernel)
theorem tw4_17 : (Jvm.Cond.constantLong "GriefEngine" (240 : Nat) (2147483648 : Int64)) ∈ GW := in_t4 (List.mem_of_getElem? (i := 17) (by decide +kernel)) (by decide +kernel)
theorem tw4_18 : (Jvm.Cond.constantLong "GriefEngine" (242 : Nat) (65536 : Int64)) ∈ GW := in_t4 (List.mem_of_getElem? (i := 18) (by decide +kernel)) (by decide +kernel)
theorem tw4_19 : (Jvm.Cond.constantLong "GriefEngine" (244 : Nat) (3 : Int64)) ∈ GW := in_t4 (List.mem_of_getElem? (i := 19) (by decide +kernel)) (by decide +kernel)
theorem tw4_20 : (Jvm.Cond.methodLink "GriefEngine" (246 : Nat) ({ cls := "GriefEngine$Rank", name := "act", desc := "(II)I" } : Jvm.MethodName)) ∈ GW := in_t4 (List.mem_of_getElem? (i := 20) (by decide +kernel)) (by decide +kernel)
theorem tw4_21 : (Jvm.Cond.methodLink "GriefEngineLaw" (119 : Nat) ({ cls := "GriefEngine", name := "part", desc := "(I)J" } : Jvm.MethodName)) ∈ GW := in_t4 (List.mem_of_getElem? (i := 21) (by decide +kernel)) (by decide +kernel)
theorem tw4_22 : (Jvm.Cond.instanceMethod ({ cls := "GriefEngine", name := "part", desc := "(I)J" } : Jvm.MethodName)) ∈ GW := in_t4 (List.mem_of_getElem? (i := 22) (by decide +kernel)) (by decide +kernel)
theorem tw4_23 : (Jvm.Cond.selects "GriefEngine" ({ cls := "GriefEngine", name := "part", desc := "(I)J" } : Jvm.MethodName) ({ cls := "GriefEngine", name := "part", desc := "(I)J" } : Jvm.MethodName)) ∈ GW := in_t4 (List.mem_of_getElem? (i := 23) (by decide +kernel)) (by decide +kernel)
theorem tw4_24 : (Jvm.Cond.code ({ cls := "GriefEngine", name := "part", desc := "(I)J" } : Jvm.MethodName) prog_1_method_27_code (2 : Nat) (Option.some Jvm.ClassFile.FieldType.long)) ∈ GW := in_t4 (List.mem_of_getElem? (i := 24) (by decide +kernel)) (by decide +kernel)
theorem tw4_25 : (Jvm.Cond.methodLink "GriefEngineLaw" (124 : Nat) ({ cls := "GriefEngine", name := "image", desc := "(I)I" } : Jvm.MethodName)) ∈ GW := in_t4 (List.mem_of_getElem? (i := 25) (by decide +kernel)) (by decide +kernel)
theorem tw4_26 : (Jvm.Cond.instanceMethod ({ cls := "GriefEngine", name := "image", desc := "(I)I" } : Jvm.MethodName)) ∈ GW := in_t4 (List.mem_of_getElem? (i := 26) (by decide +kernel)) (by decide +kernel)
theorem tw4_27 : (Jvm.Cond.selects "GriefEngine" ({ cls := "GriefEngine", name := "image", desc := "(I)I" } : Jvm.MethodName) ({ cls := "GriefEngine", name := "image", desc := "(I)I" } : Jvm.MethodName)) ∈ GW := in_t4 (List.mem_of_getElem? (i := 27) (by decide +kernel)) (by decide +kernel)
theorem tw4_28 : (Jvm.Cond.code ({ cls := "GriefEngine", name := "image", desc := "(I)I" } : Jvm.MethodName) prog_1_method_28_code (2 : Nat) (Option.some Jvm.ClassFile.FieldType.int)) ∈ GW := in_t4 (List.mem_of_getElem? (i := 28) (by decide +kernel)) (by decide +kernel)
theorem tw4_29 : (Jvm.Cond.methodLink "GriefEngineLaw" (128 : Nat) ({ cls := "GriefEngine", name := "from", desc := "(I)I" } : Jvm.MethodName)) ∈ GW := in_t4 (List.mem_of_getElem? (i := 29) (by decide +kernel)) (by decide +kernel)
theorem tw4_30 : (Jvm.Cond.instanceMethod ({ cls := "GriefEngine", name := "from", desc := "(I)I" } : Jvm.MethodName)) ∈ GW := in_t4 (List.mem_of_getElem? (i := 30) (by decide +kernel)) (by decide +kernel)
theorem tw4_31 : (Jvm.Cond.selects "GriefEngine" ({ cls := "GriefEngine", name := "from", desc := "(I)I" } : Jvm.MethodName) ({ cls := "GriefEngine", name := "from", desc := "(I)I" } : Jvm.MethodName)) ∈ GW := in_t4 (List.mem_of_getElem? (i := 31) (by decide +kernel)) (by decide +kernel)
theorem tw4_32 : (Jvm.Cond.code ({ cls := "GriefEngine", name := "from", desc := "(I)I" } : Jvm.MethodName) prog_1_method_29_code (2 : Nat) (Option.some Jvm.ClassFile.FieldType.int)) ∈ GW := in_t4 (List.mem_of_getElem? (i := 32) (by decide +kernel)) (by decide +kernel)
theorem tw4_33 : (Jvm.Cond.methodLink "GriefEngineLaw" (132 : Nat) ({ cls := "GriefEngine", name := "status", desc := "(I)I" } : Jvm.MethodName)) ∈ GW := in_t4 (List.mem_of_getElem? (i := 33) (by decide +kernel)) (by decide +kernel)
theorem tw4_34 : (Jvm.Cond.instanceMethod ({ cls := "GriefEngine", name := "status", desc := "(I)I" } : Jvm.MethodName)) ∈ GW := in_t4 (List.mem_of_getElem? (i := 34) (by decide +kernel)) (by decide +kernel)
theorem tw4_35 : (Jvm.Cond.selects "GriefEngine" ({ cls := "GriefEngine", name := "status", desc := "(I)I" } : Jvm.MethodName) ({ cls := "GriefEngine", name := "status", desc := "(I)I" } : Jvm.MethodName)) ∈ GW := in_t4 (List.mem_of_getElem? (i := 35) (by decide +kernel)) (by decide +kernel)
theorem tw4_36 : (Jvm.Cond.code ({ cls := "GriefEngine", name := "status", desc := "(I)I" } : Jvm.MethodName) prog_1_method_30_code (2 : Nat) (Option.some Jvm.ClassFile.FieldType.int)) ∈ GW := in_t4 (List.mem_of_getElem? (i := 36) (by decide +kernel)) (by decide +kernel)
theorem tw4_37 : (Jvm.Cond.methodLink "GriefEngineLaw" (136 : Nat) ({ cls := "GriefEngine", name := "count", desc := "(I)I" } : Jvm.MethodName)) ∈ GW := in_t4 (List.mem_of_getElem? (i := 37) (by decide +kernel)) (by decide +kernel)
theorem tw4_38 : (Jvm.Cond.instanceMethod ({ cls := "GriefEngine", name := "count", desc := "(I)I" } : Jvm.MethodName)) ∈ GW := in_t4 (List.mem_of_getElem? (i := 38) (by decide +kernel)) (by decide +kernel)
theorem tw4_39 : (Jvm.Cond.selects "GriefEngine" ({ cls := "GriefEngine", name := "count", desc := "(I)I" } : Jvm.MethodName) ({ cls := "GriefEngine", name := "count", desc := "(I)I" } : Jvm.MethodName)) ∈ GW := in_t4 (List.mem_of_getElem? (i := 39) (by decide +kernel)) (by decide +kernel)
theorem tw4_40 : (Jvm.Cond.code ({ cls := "GriefEngine", name := "count", desc := "(I)I" } : Jvm.MethodName) prog_1_method_31_code (2 : Nat) (Option.some Jvm.ClassFile.FieldType.int)) ∈ GW := in_t4 (List.mem_of_getElem? (i := 40) (by decide +kernel)) (by decide +kernel)
theorem tw4_41 : (Jvm.Cond.methodLink "GriefEngine" (249 : Nat) ({ cls := "GriefEngine$Rank", name := "sumOf", desc := "([I)I" } : Jvm.MethodName)) ∈ GW := in_t4 (List.mem_of_getElem? (i := 41) (by decide +kernel)) (by decide +kernel)
theorem tw4_42 : (Jvm.Cond.instanceMethod ({ cls := "GriefEngine$Rank", name := "sumOf", desc := "([I)I" } : Jvm.MethodName)) ∈ GW := in_t4 (List.mem_of_getElem? (i := 42) (by decide +kernel)) (by decide +kernel)
theorem tw4_43 : (Jvm.Cond.selects "GriefEngine$Rank" ({ cls := "GriefEngine$Rank", name := "sumOf", desc := "([I)I" } : Jvm.MethodName) ({ cls := "GriefEngine$Rank", name := "sumOf", desc := "([I)I" } : Jvm.MethodName)) ∈ GW := in_t4 (List.mem_of_getElem? (i := 43) (by decide +kernel)) (by decide +kernel)
theorem tw4_44 : (Jvm.Cond.code ({ cls := "GriefEngine$Rank", name := "sumOf", desc := "([I)I" } : Jvm.MethodName) prog_6_method_12_code (4 : Nat) (Option.some Jvm.ClassFile.FieldType.int)) ∈ GW := in_t4 (List.mem_of_getElem? (i := 44) (by decide +kernel)) (by decide +kernel)
theorem tw4_45 : (Jvm.Cond.methodLink "GriefEngineLaw" (140 : Nat) ({ cls := "GriefEngine", name := "digest", desc := "()J" } : Jvm.MethodName)) ∈ GW := in_t4 (List.mem_of_getElem? (i := 45) (by decide +kernel)) (by decide +kernel)
theorem tw4_46 : (Jvm.Cond.instanceMethod ({ cls := "GriefEngine", name := "digest", desc := "()J" } : Jvm.MethodName)) ∈ GW := in_t4 (List.mem_of_getElem? (i := 46) (by decide +kernel)) (by decide +kernel)
theorem tw4_47 : (Jvm.Cond.selects "GriefEngine" ({ cls := "GriefEngine", name := "digest", desc := "()J" } : Jvm.MethodName) ({ cls := "GriefEngine", name := "digest", desc := "()J" } : Jvm.MethodName)) ∈ GW := in_t4 (List.mem_of_getElem? (i := 47) (by decide +kernel)) (by decide +kernel)
theorem tw4_48 : (Jvm.Cond.code ({ cls := "GriefEngine", name := "digest", desc := "()J" } : Jvm.MethodName) prog_1_method_32_code (4 : Nat) (Option.some Jvm.ClassFile.FieldType.long)) ∈ GW := in_t4 (List.mem_of_getElem? (i := 48) (by decide +kernel)) (by decide +kernel)
theorem tw4_49 : (Jvm.Cond.constantLong "GriefEngine" (253 : Nat) (1433 : Int64)) ∈ GW := in_t4 (List.mem_of_getElem? (i := 49) (by decide +kernel)) (by decide +kernel)
theorem tw4_50 : (Jvm.Cond.constantLong "GriefEngine" (255 : Nat) (31 : Int64)) ∈ GW := in_t4 (List.mem_of_getElem? (i := 50) (by decide +kernel)) (by decide +kernel)
theorem tw4_51 : (Jvm.Cond.methodLink "GriefEngine" (257 : Nat) ({ cls := "GriefEngine", name := "count", desc := "(I)I" } : Jvm.MethodName)) ∈ GW := in_t4 (List.mem_of_getElem? (i := 51) (by decide +kernel)) (by decide +kernel)
theorem tw4_52 : (Jvm.Cond.classLink "GriefEngineLaw" (10 : Nat) "GriefEngineModel") ∈ GW := in_t4 (List.mem_of_getElem? (i := 52) (by decide +kernel)) (by decide +kernel)
theorem tw4_53 : (Jvm.Cond.instantiable "GriefEngineModel" (20 : Nat)) ∈ GW := in_t4 (List.mem_of_getElem? (i := 53) (by decide +kernel)) (by decide +kernel)
theorem tw4_54 : (Jvm.Cond.methodLink "GriefEngineLaw" (12 : Nat) ({ cls := "GriefEngineModel", name := "<init>", desc := "()V" } : Jvm.MethodName)) ∈ GW := in_t4 (List.mem_of_getElem? (i := 54) (by decide +kernel)) (by decide +kernel)
theorem tw4_55 : (Jvm.Cond.instanceMethod ({ cls := "GriefEngineModel", name := "<init>", desc := "()V" } : Jvm.MethodName)) ∈ GW := in_t4 (List.mem_of_getElem? (i := 55) (by decide +kernel)) (by decide +kernel)
theorem tw4_56 : (Jvm.Cond.code ({ cls := "GriefEngineModel", name := "<init>", desc := "()V" } : Jvm.MethodName) prog_13_method_1_code (1 : Nat) (Option.none : Option Jvm.ClassFile.FieldType)) ∈ GW := in_t4 (List.mem_of_getElem? (i := 56) (by decide +kernel)) (by decide +kernel)
theorem tw4_57 : (Jvm.Cond.methodLink "GriefEngineModel" (1 : Nat) ({ cls := "java/lang/Object", name := "<init>", desc := "()V" } : Jvm.MethodName)) ∈ GW := in_t4 (List.mem_of_getElem? (i := 57) (by decide +kernel)) (by decide +kernel)
theorem tw4_58 : (Jvm.Cond.methodLink "GriefEngineModel" (45 : Nat) ({ cls := "GriefEngineModel", name := "begin", desc := "([I)V" } : Jvm.MethodName)) ∈ GW := in_t4 (List.mem_of_getElem? (i := 58) (by decide +kernel)) (by decide +kernel)
theorem tw4_59 : (Jvm.Cond.static ({ cls := "GriefEngineModel", name := "begin", desc := "([I)V" } : Jvm.MethodName)) ∈ GW := in_t4 (List.mem_of_getElem? (i := 59) (by decide +kernel)) (by decide +kernel)
theorem tw4_60 : (Jvm.Cond.code ({ cls := "GriefEngineModel", name := "begin", desc := "([I)V" } : Jvm.MethodName) prog_13_method_9_code (2 : Nat) (Option.none : Option Jvm.ClassFile.FieldType)) ∈ GW := in_t4 (List.mem_of_getElem? (i := 60) (by decide +kernel)) (by decide +kernel)
theorem tw4_61 : (Jvm.Cond.fieldLink "GriefEngineModel" (7 : Nat) "GriefEngineModel" "told" "[I") ∈ GW := in_t4 (List.mem_of_getElem? (i := 61) (by decide +kernel)) (by decide +kernel)
theorem tw4_62 : (Jvm.Cond.fieldLink "GriefEngineModel" (13 : Nat) "GriefEngineModel" "kept" "[I") ∈ GW := in_t4 (List.mem_of_getElem? (i := 62) (by decide +kernel)) (by decide +kernel)
theorem tw4_63 : (Jvm.Cond.fieldLink "GriefEngineModel" (16 : Nat) "GriefEngineModel" "isKept" "[Z") ∈ GW := in_t4 (List.mem_of_getElem? (i := 63) (by decide +kernel)) (by decide +kernel)
theorem tw4_64 : (Jvm.Cond.fieldLink "GriefEngineModel" (20 : Nat) "GriefEngineModel" "refused" "[I") ∈ GW := in_t4 (List.mem_of_getElem? (i := 64) (by decide +kernel)) (by decide +kernel)
theorem tw4_65 : (Jvm.Cond.fieldLink "GriefEngineModel" (181 : Nat) "GriefEngineModel" "above" "J") ∈ GW := in_t4 (List.mem_of_getElem? (i := 65) (by decide +kernel)) (by decide +kernel)
theorem tw4_66 : (Jvm.Cond.fieldLink "GriefEngineModel" (23 : Nat) "GriefEngineModel" "below" "J") ∈ GW := in_t4 (List.mem_of_getElem? (i := 66) (by decide +kernel)) (by decide +kernel)
theorem tw4_67 : (Jvm.Cond.fieldLink "GriefEngineModel" (88 : Nat) "GriefEngineModel" "grief" "I") ∈ GW := in_t4 (List.mem_of_getElem? (i := 67) (by decide +kernel)) (by decide +kernel)
theorem tw4_68 : (Jvm.Cond.fieldLink "GriefEngineModel" (84 : Nat) "GriefEngineModel" "ran" "I") ∈ GW := in_t4 (List.mem_of_getElem? (i := 68) (by decide +kernel)) (by decide +kernel)
theorem tw4_69 : (Jvm.Cond.fieldLink "GriefEngineModel" (138 : Nat) "GriefEngineModel" "bestCode" "I") ∈ GW := in_t4 (List.mem_of_getElem? (i := 69) (by decide +kernel)) (by decide +kernel)
theorem tw4_70 : (Jvm.Cond.fieldLink "GriefEngineModel" (27 : Nat) "GriefEngineModel" "partners" "[I") ∈ GW := in_t4 (List.mem_of_getElem? (i := 70) (by decide +kernel)) (by decide +kernel)
theorem tw4_71 : (Jvm.Cond.fieldLink "GriefEngineModel" (30 : Nat) "GriefEngineModel" "bestPartners" "[I") ∈ GW := in_t4 (List.mem_of_getElem? (i := 71) (by decide +kernel)) (by decide +kernel)
theorem tw4_72 : (Jvm.Cond.fieldLink "GriefEngineModel" (33 : Nat) "GriefEngineModel" "griefs" "[I") ∈ GW := in_t4 (List.mem_of_getElem? (i := 72) (by decide +kernel)) (by decide +kernel)
theorem tw4_73 : (Jvm.Cond.fieldLink "GriefEngineModel" (36 : Nat) "GriefEngineModel" "bytes" "[I") ∈ GW := in_t4 (List.mem_of_getElem? (i := 73) (by decide +kernel)) (by decide +kernel)
theorem tw4_74 : (Jvm.Cond.fieldLink "GriefEngineModel" (206 : Nat) "GriefEngineModel" "bytesLong" "I") ∈ GW := in_t4 (List.mem_of_getElem? (i := 74) (by decide +kernel)) (by decide +kernel)
theorem tw4_75 : (Jvm.Cond.fieldLink "GriefEngineModel" (217 : Nat) "GriefEngineModel" "tokenAt" "I") ∈ GW := in_t4 (List.mem_of_getElem? (i := 75) (by decide +kernel)) (by decide +kernel)
theorem tw4_76 : (Jvm.Cond.fieldLink "GriefEngineModel" (220 : Nat) "GriefEngineModel" "tokenLong" "I") ∈ GW := in_t4 (List.mem_of_getElem? (i := 76) (by decide +kernel)) (by decide +kernel)
theorem tw4_77 : (Jvm.Cond.fieldLink "GriefEngineModel" (223 : Nat) "GriefEngineModel" "token" "I") ∈ GW := in_t4 (List.mem_of_getElem? (i := 77) (by decide +kernel)) (by decide +kernel)
theorem tw4_78 : (Jvm.Cond.fieldLink "GriefEngineModel" (226 : Nat) "GriefEngineModel" "value" "I") ∈ GW := in_t4 (List.mem_of_getElem? (i := 78) (by decide +kernel)) (by decide +kernel)
theorem tw4_79 : (Jvm.Cond.fieldLink "GriefEngineModel" (39 : Nat) "GriefEngineModel" "anew" "[I") ∈ GW := in_t4 (List.mem_of_getElem? (i := 79) (by decide +kernel)) (by decide +kernel)
theorem tw4_80 : (Jvm.Cond.fieldLink "GriefEngineModel" (42 : Nat) "GriefEngineModel" "values" "[I") ∈ GW := in_t4 (List.mem_of_getElem? (i := 80) (by decide +kernel)) (by decide +kernel)
theorem tw4_81 : (Jvm.Cond.laysFinal "GriefEngineModel" "GriefEngineModel" "told" "[I") ∈ GW := in_t4 (List.mem_of_getElem? (i := 81) (by decide +kernel)) (by decide +kernel)
theorem tw4_83 : (Jvm.Cond.laysFinal "GriefEngineModel" "GriefEngineModel" "kept" "[I") ∈ GW := in_t4 (List.mem_of_getElem? (i := 83) (by decide +kernel)) (by decide +kernel)
theorem tw4_85 : (Jvm.Cond.laysFinal "GriefEngineModel" "GriefEngineModel" "isKept" "[Z") ∈ GW := in_t4 (List.mem_of_getElem? (i := 85) (by decide +kernel)) (by decide +kernel)
theorem tw4_87 : (Jvm.Cond.laysFinal "GriefEngineModel" "GriefEngineModel" "refused" "[I") ∈ GW := in_t4 (List.mem_of_getElem? (i := 87) (by decide +kernel)) (by decide +kernel)
theorem tw4_89 : (Jvm.Cond.lays "GriefEngineModel" "GriefEngineModel" "above" "J") ∈ GW := in_t4 (List.mem_of_getElem? (i := 89) (by decide +kernel)) (by decide +kernel)
theorem tw4_91 : (Jvm.Cond.lays "GriefEngineModel" "GriefEngineModel" "below" "J") ∈ GW := in_t4 (List.mem_of_getElem? (i := 91) (by decide +kernel)) (by decide +kernel)
theorem tw4_93 : (Jvm.Cond.lays "GriefEngineModel" "GriefEngineModel" "grief" "I") ∈ GW := in_t4 (List.mem_of_getElem? (i := 93) (by decide +kernel)) (by decide +kernel)
theorem tw4_95 : (Jvm.Cond.lays "GriefEngineModel" "GriefEngineModel" "ran" "I") ∈ GW := in_t4 (List.mem_of_getElem? (i := 95) (by decide +kernel)) (by decide +kernel)
theorem tw4_97 : (Jvm.Cond.lays "GriefEngineModel" "GriefEngineModel" "bestCode" "I") ∈ GW := in_t4 (List.mem_of_getElem? (i := 97) (by decide +kernel)) (by decide +kernel)
theorem tw4_99 : (Jvm.Cond.laysFinal "GriefEngineModel" "GriefEngineModel" "partners" "[I") ∈ GW := in_t4 (List.mem_of_getElem? (i := 99) (by decide +kernel)) (by decide +kernel)
theorem tw4_101 : (Jvm.Cond.laysFinal "GriefEngineModel" "GriefEngineModel" "bestPartners" "[I") ∈ GW := in_t4 (List.mem_of_getElem? (i := 101) (by decide +kernel)) (by decide +kernel)
theorem tw4_103 : (Jvm.Cond.laysFinal "GriefEngineModel" "GriefEngineModel" "griefs" "[I") ∈ GW := in_t4 (List.mem_of_getElem? (i := 103) (by decide +kernel)) (by decide +kernel)
theorem tw4_105 : (Jvm.Cond.laysFinal "GriefEngineModel" "GriefEngineModel" "bytes" "[I") ∈ GW := in_t4 (List.mem_of_getElem? (i := 105) (by decide +kernel)) (by decide +kernel)
theorem tw4_107 : (Jvm.Cond.lays "GriefEngineModel" "GriefEngineModel" "bytesLong" "I") ∈ GW := in_t4 (List.mem_of_getElem? (i := 107) (by decide +kernel)) (by decide +kernel)
theorem tw4_109 : (Jvm.Cond.lays "GriefEngineModel" "GriefEngineModel" "tokenAt" "I") ∈ GW := in_t4 (List.mem_of_getElem? (i := 109) (by decide +kernel)) (by decide +kernel)
theorem tw4_111 : (Jvm.Cond.lays "GriefEngineModel" "GriefEngineModel" "tokenLong" "I") ∈ GW := in_t4 (List.mem_of_getElem? (i := 111) (by decide +kernel)) (by decide +kernel)
theorem tw4_113 : (Jvm.Cond.lays "GriefEngineModel" "GriefEngineModel" "token" "I") ∈ GW := in_t4 (List.mem_of_getElem? (i := 113) (by decide +kernel)) (by decide +kernel)
theorem tw4_115 : (Jvm.Cond.lays "GriefEngineModel" "GriefEngineModel" "value" "I") ∈ GW := in_t4 (List.mem_of_getElem? (i := 115) (by decide +kernel)) (by decide +kernel)
theorem tw4_117 : (Jvm.Cond.laysFinal "GriefEngineModel" "GriefEngineModel" "anew" "[I") ∈ GW := in_t4 (List.mem_of_getElem? (i := 117) (by decide +kernel)) (by decide +kernel)
theorem tw4_119 : (Jvm.Cond.laysFinal "GriefEngineModel" "GriefEngineModel" "values" "[I") ∈ GW := in_t4 (List.mem_of_getElem? (i := 119) (by decide +kernel)) (by decide +kernel)
theorem tw4_121 : (Jvm.Cond.superclass "GriefEngineModel" "java/lang/Object") ∈ GW := in_t4 (List.mem_of_getElem? (i := 121) (by decide +kernel)) (by decide +kernel)
theorem tw4_122 : (Jvm.Cond.methodLink "GriefEngineLaw" (17 : Nat) ({ cls := "GriefEngineModel", name := "rank", desc := "()I" } : Jvm.MethodName)) ∈ GW := in_t4 (List.mem_of_getElem? (i := 122) (by decide +kernel)) (by decide +kernel)
theorem tw4_123 : (Jvm.Cond.instanceMethod ({ cls := "GriefEngineModel", name := "rank", desc := "()I" } : Jvm.MethodName)) ∈ GW := in_t4 (List.mem_of_getElem? (i := 123) (by decide +kernel)) (by decide +kernel)
theorem tw4_124 : (Jvm.Cond.selects "GriefEngineModel" ({ cls := "GriefEngineModel", name := "rank", desc := "()I" } : Jvm.MethodName) ({ cls := "GriefEngineModel", name := "rank", desc := "()I" } : Jvm.MethodName)) ∈ GW := in_t4 (List.mem_of_getElem? (i := 124) (by decide +kernel)) (by decide +kernel)
theorem tw4_125 : (Jvm.Cond.code ({ cls := "GriefEngineModel", name := "rank", desc := "()I" } : Jvm.MethodName) prog_13_method_13_code (2 : Nat) (Option.some Jvm.ClassFile.FieldType.int)) ∈ GW := in_t4 (List.mem_of_getElem? (i := 125) (by decide +kernel)) (by decide +kernel)
theorem tw4_126 : (Jvm.Cond.methodLink "GriefEngineModel" (49 : Nat) ({ cls := "GriefEngineModel", name := "many", desc := "()I" } : Jvm.MethodName)) ∈ GW := in_t4 (List.mem_of_getElem? (i := 126) (by decide +kernel)) (by decide +kernel)
theorem tw4_128 : (Jvm.Cond.instanceMethod ({ cls := "GriefEngineModel", name := "many", desc := "()I" } : Jvm.MethodName)) ∈ GW := in_t4 (List.mem_of_getElem? (i := 128) (by decide +kernel)) (by decide +kernel)
theorem tw4_129 : (Jvm.Cond.code ({ cls := "GriefEngineModel", name := "many", desc := "()I" } : Jvm.MethodName) prog_13_method_10_code (1 : Nat) (Option.some Jvm.ClassFile.FieldType.int)) ∈ GW := in_t4 (List.mem_of_getElem? (i := 129) (by decide +kernel)) (by decide +kernel)
theorem tw4_130 : (Jvm.Cond.methodLink "GriefEngineLaw" (22 : Nat) ({ cls := "GriefEngineModel", name := "driver", desc := "(II)I" } : Jvm.MethodName)) ∈ GW := in_t4 (List.mem_of_getElem? (i := 130) (by decide +kernel)) (by decide +kernel)
theorem tw4_131 : (Jvm.Cond.instanceMethod ({ cls := "GriefEngineModel", name := "driver", desc := "(II)I" } : Jvm.MethodName)) ∈ GW := in_t4 (List.mem_of_getElem? (i := 131) (by decide +kernel)) (by decide +kernel)
theorem tw4_132 : (Jvm.Cond.selects "GriefEngineModel" ({ cls := "GriefEngineModel", name := "driver", desc := "(II)I" } : Jvm.MethodName) ({ cls := "GriefEngineModel", name := "driver", desc := "(II)I" } : Jvm.MethodName)) ∈ GW := in_t4 (List.mem_of_getElem? (i := 132) (by decide +kernel)) (by decide +kernel)
theorem tw4_133 : (Jvm.Cond.code ({ cls := "GriefEngineModel", name := "driver", desc := "(II)I" } : Jvm.MethodName) prog_13_method_15_code (3 : Nat) (Option.some Jvm.ClassFile.FieldType.int)) ∈ GW := in_t4 (List.mem_of_getElem? (i := 133) (by decide +kernel)) (by decide +kernel)
theorem tw4_134 : (Jvm.Cond.constantLong "GriefEngineModel" (59 : Nat) (5 : Int64)) ∈ GW := in_t4 (List.mem_of_getElem? (i := 134) (by decide +kernel)) (by decide +kernel)
theorem tw4_135 : (Jvm.Cond.methodLink "GriefEngineModel" (53 : Nat) ({ cls := "GriefEngineModel", name := "in", desc := "(JJJ)Z" } : Jvm.MethodName)) ∈ GW := in_t4 (List.mem_of_getElem? (i := 135) (by decide +kernel)) (by decide +kernel)
theorem tw4_136 : (Jvm.Cond.static ({ cls := "GriefEngineModel", name := "in", desc := "(JJJ)Z" } : Jvm.MethodName)) ∈ GW := in_t4 (List.mem_of_getElem? (i := 136) (by decide +kernel)) (by decide +kernel)
theorem tw4_137 : (Jvm.Cond.code ({ cls := "GriefEngineModel", name := "in", desc := "(JJJ)Z" } : Jvm.MethodName) prog_13_method_3_code (6 : Nat) (Option.some Jvm.ClassFile.FieldType.boolean)) ∈ GW := in_t4 (List.mem_of_getElem? (i := 137) (by decide +kernel)) (by decide +kernel)
theorem tw4_138 : (Jvm.Cond.constantLong "GriefEngineModel" (61 : Nat) (99 : Int64)) ∈ GW := in_t4 (List.mem_of_getElem? (i := 138) (by decide +kernel)) (by decide +kernel)
theorem tw4_139 : (Jvm.Cond.methodLink "GriefEngineModel" (63 : Nat) ({ cls := "GriefEngineModel", name := "bad", desc := "(I)I" } : Jvm.MethodName)) ∈ GW := in_t4 (List.mem_of_getElem? (i := 139) (by decide +kernel)) (by decide +kernel)
theorem tw4_141 : (Jvm.Cond.instanceMethod ({ cls := "GriefEngineModel", name := "bad", desc := "(I)I" } : Jvm.MethodName)) ∈ GW := in_t4 (List.mem_of_getElem? (i := 141) (by decide +kernel)) (by decide +kernel)
theorem tw4_142 : (Jvm.Cond.code ({ cls := "GriefEngineModel", name := "bad", desc := "(I)I" } : Jvm.MethodName) prog_13_method_4_code (2 : Nat) (Option.some Jvm.ClassFile.FieldType.int)) ∈ GW := in_t4 (List.mem_of_getElem? (i := 142) (by decide +kernel)) (by decide +kernel)
theorem tw4_143 : (Jvm.Cond.methodLink "GriefEngineModel" (67 : Nat) ({ cls := "GriefEngineModel", name := "full", desc := "()I" } : Jvm.MethodName)) ∈ GW := in_t4 (List.mem_of_getElem? (i := 143) (by decide +kernel)) (by decide +kernel)
theorem tw4_145 : (Jvm.Cond.instanceMethod ({ cls := "GriefEngineModel", name := "full", desc := "()I" } : Jvm.MethodName)) ∈ GW := in_t4 (List.mem_of_getElem? (i := 145) (by decide +kernel)) (by decide +kernel)
theorem tw4_146 : (Jvm.Cond.code ({ cls := "GriefEngineModel", name := "full", desc := "()I" } : Jvm.MethodName) prog_13_method_6_code (1 : Nat) (Option.some Jvm.ClassFile.FieldType.int)) ∈ GW := in_t4 (List.mem_of_getElem? (i := 146) (by decide +kernel)) (by decide +kernel)
theorem tw4_147 : (Jvm.Cond.methodLink "GriefEngineModel" (70 : Nat) ({ cls := "GriefEngineModel", name := "layDriver", desc := "([III)V" } : Jvm.MethodName)) ∈ GW := in_t4 (List.mem_of_getElem? (i := 147) (by decide +kernel)) (by decide +kernel)
theorem tw4_148 : (Jvm.Cond.static ({ cls := "GriefEngineModel", name := "layDriver", desc := "([III)V" } : Jvm.MethodName)) ∈ GW := in_t4 (List.mem_of_getElem? (i := 148) (by decide +kernel)) (by decide +kernel)
theorem tw4_149 : (Jvm.Cond.code ({ cls := "GriefEngineModel", name := "layDriver", desc := "([III)V" } : Jvm.MethodName) prog_13_method_14_code (4 : Nat) (Option.none : Option Jvm.ClassFile.FieldType)) ∈ GW := in_t4 (List.mem_of_getElem? (i := 149) (by decide +kernel)) (by decide +kernel)
theorem tw4_150 : (Jvm.Cond.methodLink "GriefEngineLaw" (39 : Nat) ({ cls := "GriefEngineModel", name := "days", desc := "(II)I" } : Jvm.MethodName)) ∈ GW := in_t4 (List.mem_of_getElem? (i := 150) (by decide +kernel)) (by decide +kernel)
theorem tw4_151 : (Jvm.Cond.instanceMethod ({ cls := "GriefEngineModel", name := "days", desc := "(II)I" } : Jvm.MethodName)) ∈ GW := in_t4 (List.mem_of_getElem? (i := 151) (by decide +kernel)) (by decide +kernel)
theorem tw4_152 : (Jvm.Cond.selects "GriefEngineModel" ({ cls := "GriefEngineModel", name := "days", desc := "(II)I" } : Jvm.MethodName) ({ cls := "GriefEngineModel", name := "days", desc := "(II)I" } : Jvm.MethodName)) ∈ GW := in_t4 (List.mem_of_getElem? (i := 152) (by decide +kernel)) (by decide +kernel)
theorem tw4_153 : (Jvm.Cond.code ({ cls := "GriefEngineModel", name := "days", desc := "(II)I" } : Jvm.MethodName) prog_13_method_27_code (5 : Nat) (Option.some Jvm.ClassFile.FieldType.int)) ∈ GW := in_t4 (List.mem_of_getElem? (i := 153) (by decide +kernel)) (by decide +kernel)
theorem tw4_154 : (Jvm.Cond.methodLink "GriefEngineModel" (105 : Nat) ({ cls := "GriefEngineModel", name := "isChoice", desc := "(I)Z" } : Jvm.MethodName)) ∈ GW := in_t4 (List.mem_of_getElem? (i := 154) (by decide +kernel)) (by decide +kernel)
theorem tw4_155 : (Jvm.Cond.static ({ cls := "GriefEngineModel", name := "isChoice", desc := "(I)Z" } : Jvm.MethodName)) ∈ GW := in_t4 (List.mem_of_getElem? (i := 155) (by decide +kernel)) (by decide +kernel)
theorem tw4_156 : (Jvm.Cond.code ({ cls := "GriefEngineModel", name := "isChoice", desc := "(I)Z" } : Jvm.MethodName) prog_13_method_12_code (1 : Nat) (Option.some Jvm.ClassFile.FieldType.boolean)) ∈ GW := in_t4 (List.mem_of_getElem? (i := 156) (by decide +kernel)) (by decide +kernel)
theorem tw4_157 : (Jvm.Cond.constantLong "GriefEngineModel" (57 : Nat) (2 : Int64)) ∈ GW := in_t4 (List.mem_of_getElem? (i := 157) (by decide +kernel)) (by decide +kernel)
theorem tw4_158 : (Jvm.Cond.methodLink "GriefEngineModel" (109 : Nat) ({ cls := "GriefEngineModel", name := "keep", desc := "()V" } : Jvm.MethodName)) ∈ GW := in_t4 (List.mem_of_getElem? (i := 158) (by decide +kernel)) (by decide +kernel)
theorem tw4_160 : (Jvm.Cond.instanceMethod ({ cls := "GriefEngineModel", name := "keep", desc := "()V" } : Jvm.MethodName)) ∈ GW := in_t4 (List.mem_of_getElem? (i := 160) (by decide +kernel)) (by decide +kernel)
theorem tw4_161 : (Jvm.Cond.code ({ cls := "GriefEngineModel", name := "keep", desc := "()V" } : Jvm.MethodName) prog_13_method_25_code (2 : Nat) (Option.none : Option Jvm.ClassFile.FieldType)) ∈ GW := in_t4 (List.mem_of_getElem? (i := 161) (by decide +kernel)) (by decide +kernel)
theorem tw4_162 : (Jvm.Cond.methodLink "GriefEngineModel" (112 : Nat) ({ cls := "GriefEngineModel", name := "passDay", desc := "([III)I" } : Jvm.MethodName)) ∈ GW := in_t4 (List.mem_of_getElem? (i := 162) (by decide +kernel)) (by decide +kernel)
theorem tw4_164 : (Jvm.Cond.instanceMethod ({ cls := "GriefEngineModel", name := "passDay", desc := "([III)I" } : Jvm.MethodName)) ∈ GW := in_t4 (List.mem_of_getElem? (i := 164) (by decide +kernel)) (by decide +kernel)
theorem tw4_165 : (Jvm.Cond.code ({ cls := "GriefEngineModel", name := "passDay", desc := "([III)I" } : Jvm.MethodName) prog_13_method_26_code (6 : Nat) (Option.some Jvm.ClassFile.FieldType.int)) ∈ GW := in_t4 (List.mem_of_getElem? (i := 165) (by decide +kernel)) (by decide +kernel)
theorem tw4_166 : (Jvm.Cond.methodLink "GriefEngineModel" (101 : Nat) ({ cls := "GriefEngineModel", name := "goDay", desc := "(III)V" } : Jvm.MethodName)) ∈ GW := in_t4 (List.mem_of_getElem? (i := 166) (by decide +kernel)) (by decide +kernel)
theorem tw4_168 : (Jvm.Cond.instanceMethod ({ cls := "GriefEngineModel", name := "goDay", desc := "(III)V" } : Jvm.MethodName)) ∈ GW := in_t4 (List.mem_of_getElem? (i := 168) (by decide +kernel)) (by decide +kernel)
theorem tw4_169 : (Jvm.Cond.code ({ cls := "GriefEngineModel", name := "goDay", desc := "(III)V" } : Jvm.MethodName) prog_13_method_23_code (4 : Nat) (Option.none : Option Jvm.ClassFile.FieldType)) ∈ GW := in_t4 (List.mem_of_getElem? (i := 169) (by decide +kernel)) (by decide +kernel)
theorem tw4_170 : (Jvm.Cond.methodLink "GriefEngineModel" (91 : Nat) ({ cls := "GriefEngineModel", name := "seasonOf", desc := "(I)I" } : Jvm.MethodName)) ∈ GW := in_t4 (List.mem_of_getElem? (i := 170) (by decide +kernel)) (by decide +kernel)
theorem tw4_171 : (Jvm.Cond.static ({ cls := "GriefEngineModel", name := "seasonOf", desc := "(I)I" } : Jvm.MethodName)) ∈ GW := in_t4 (List.mem_of_getElem? (i := 171) (by decide +kernel)) (by decide +kernel)
theorem tw4_172 : (Jvm.Cond.code ({ cls := "GriefEngineModel", name := "seasonOf", desc := "(I)I" } : Jvm.MethodName) prog_13_method_16_code (1 : Nat) (Option.some Jvm.ClassFile.FieldType.int)) ∈ GW := in_t4 (List.mem_of_getElem? (i := 172) (by decide +kernel)) (by decide +kernel)
theorem tw4_173 : (Jvm.Cond.methodLink "GriefEngineModel" (94 : Nat) ({ cls := "GriefEngineModel", name := "runsAs", desc := "(III)I" } : Jvm.MethodName)) ∈ GW := in_t4 (List.mem_of_getElem? (i := 173) (by decide +kernel)) (by decide +kernel)
theorem tw4_174 : (Jvm.Cond.static ({ cls := "GriefEngineModel", name := "runsAs", desc := "(III)I" } : Jvm.MethodName)) ∈ GW := in_t4 (List.mem_of_getElem? (i := 174) (by decide +kernel)) (by decide +kernel)
theorem tw4_175 : (Jvm.Cond.code ({ cls := "GriefEngineModel", name := "runsAs", desc := "(III)I" } : Jvm.MethodName) prog_13_method_17_code (5 : Nat) (Option.some Jvm.ClassFile.FieldType.int)) ∈ GW := in_t4 (List.mem_of_getElem? (i := 175) (by decide +kernel)) (by decide +kernel)
theorem tw4_176 : (Jvm.Cond.methodLink "GriefEngineModel" (98 : Nat) ({ cls := "GriefEngineModel", name := "leftAs", desc := "(III)I" } : Jvm.MethodName)) ∈ GW := in_t4 (List.mem_of_getElem? (i := 176) (by decide +kernel)) (by decide +kernel)
theorem tw4_177 : (Jvm.Cond.static ({ cls := "GriefEngineModel", name := "leftAs", desc := "(III)I" } : Jvm.MethodName)) ∈ GW := in_t4 (List.mem_of_getElem? (i := 177) (by decide +kernel)) (by decide +kernel)
theorem tw4_178 : (Jvm.Cond.code ({ cls := "GriefEngineModel", name := "leftAs", desc := "(III)I" } : Jvm.MethodName) prog_13_method_21_code (4 : Nat) (Option.some Jvm.ClassFile.FieldType.int)) ∈ GW := in_t4 (List.mem_of_getElem? (i := 178) (by decide +kernel)) (by decide +kernel)
theorem tw4_179 : (Jvm.Cond.methodLink "GriefEngineModel" (74 : Nat) ({ cls := "GriefEngineModel", name := "droveAs", desc := "(II)I" } : Jvm.MethodName)) ∈ GW := in_t4 (List.mem_of_getElem? (i := 179) (by decide +kernel)) (by decide +kernel)
theorem tw4_180 : (Jvm.Cond.static ({ cls := "GriefEngineModel", name := "droveAs", desc := "(II)I" } : Jvm.MethodName)) ∈ GW := in_t4 (List.mem_of_getElem? (i := 180) (by decide +kernel)) (by decide +kernel)
theorem tw4_181 : (Jvm.Cond.code ({ cls := "GriefEngineModel", name := "droveAs", desc := "(II)I" } : Jvm.MethodName) prog_13_method_18_code (4 : Nat) (Option.some Jvm.ClassFile.FieldType.int)) ∈ GW := in_t4 (List.mem_of_getElem? (i := 181) (by decide +kernel)) (by decide +kernel)
theorem tw4_182 : (Jvm.Cond.methodLink "GriefEngineModel" (78 : Nat) ({ cls := "GriefEngineModel", name := "toldAs", desc := "(II)I" } : Jvm.MethodName)) ∈ GW := in_t4 (List.mem_of_getElem? (i := 182) (by decide +kernel)) (by decide +kernel)
theorem tw4_183 : (Jvm.Cond.static ({ cls := "GriefEngineModel", name := "toldAs", desc := "(II)I" } : Jvm.MethodName)) ∈ GW := in_t4 (List.mem_of_getElem? (i := 183) (by decide +kernel)) (by decide +kernel)
theorem tw4_184 : (Jvm.Cond.code ({ cls := "GriefEngineModel", name := "toldAs", desc := "(II)I" } : Jvm.MethodName) prog_13_method_19_code (3 : Nat) (Option.some Jvm.ClassFile.FieldType.int)) ∈ GW := in_t4 (List.mem_of_getElem? (i := 184) (by decide +kernel)) (by decide +kernel)
theorem tw4_185 : (Jvm.Cond.methodLink "GriefEngineModel" (81 : Nat) ({ cls := "GriefEngineModel", name := "restedAs", desc := "(II)I" } : Jvm.MethodName)) ∈ GW := in_t4 (List.mem_of_getElem? (i := 185) (by decide +kernel)) (by decide +kernel)
theorem tw4_186 : (Jvm.Cond.static ({ cls := "GriefEngineModel", name := "restedAs", desc := "(II)I" } : Jvm.MethodName)) ∈ GW := in_t4 (List.mem_of_getElem? (i := 186) (by decide +kernel)) (by decide +kernel)
theorem tw4_187 : (Jvm.Cond.code ({ cls := "GriefEngineModel", name := "restedAs", desc := "(II)I" } : Jvm.MethodName) prog_13_method_20_code (3 : Nat) (Option.some Jvm.ClassFile.FieldType.int)) ∈ GW := in_t4 (List.mem_of_getElem? (i := 187) (by decide +kernel)) (by decide +kernel)
theorem tw4_188 : (Jvm.Cond.methodLink "GriefEngineLaw" (43 : Nat) ({ cls := "GriefEngineModel", name := "day", desc := "(II)I" } : Jvm.MethodName)) ∈ GW := in_t4 (List.mem_of_getElem? (i := 188) (by decide +kernel)) (by decide +kernel)
theorem tw4_189 : (Jvm.Cond.instanceMethod ({ cls := "GriefEngineModel", name := "day", desc := "(II)I" } : Jvm.MethodName)) ∈ GW := in_t4 (List.mem_of_getElem? (i := 189) (by decide +kernel)) (by decide +kernel)
theorem tw4_190 : (Jvm.Cond.selects "GriefEngineModel" ({ cls := "GriefEngineModel", name := "day", desc := "(II)I" } : Jvm.MethodName) ({ cls := "GriefEngineModel", name := "day", desc := "(II)I" } : Jvm.MethodName)) ∈ GW := in_t4 (List.mem_of_getElem? (i := 190) (by decide +kernel)) (by decide +kernel)
theorem tw4_191 : (Jvm.Cond.code ({ cls := "GriefEngineModel", name := "day", desc := "(II)I" } : Jvm.MethodName) prog_13_method_28_code (3 : Nat) (Option.some Jvm.ClassFile.FieldType.int)) ∈ GW := in_t4 (List.mem_of_getElem? (i := 191) (by decide +kernel)) (by decide +kernel)
theorem tw4_192 : (Jvm.Cond.methodLink "GriefEngineModel" (116 : Nat) ({ cls := "GriefEngineModel", name := "isDriver", desc := "(I)Z" } : Jvm.MethodName)) ∈ GW := in_t4 (List.mem_of_getElem? (i := 192) (by decide +kernel)) (by decide +kernel)
theorem tw4_194 : (Jvm.Cond.instanceMethod ({ cls := "GriefEngineModel", name := "isDriver", desc := "(I)Z" } : Jvm.MethodName)) ∈ GW := in_t4 (List.mem_of_getElem? (i := 194) (by decide +kernel)) (by decide +kernel)
theorem tw4_195 : (Jvm.Cond.code ({ cls := "GriefEngineModel", name := "isDriver", desc := "(I)Z" } : Jvm.MethodName) prog_13_method_11_code (2 : Nat) (Option.some Jvm.ClassFile.FieldType.boolean)) ∈ GW := in_t4 (List.mem_of_getElem? (i := 195) (by decide +kernel)) (by decide +kernel)
theorem tw4_196 : (Jvm.Cond.methodLink "GriefEngineLaw" (47 : Nat) ({ cls := "GriefEngineModel", name := "undo", desc := "()I" } : Jvm.MethodName)) ∈ GW := in_t4 (List.mem_of_getElem? (i := 196) (by decide +kernel)) (by decide +kernel)
theorem tw4_197 : (Jvm.Cond.instanceMethod ({ cls := "GriefEngineModel", name := "undo", desc := "()I" } : Jvm.MethodName)) ∈ GW := in_t4 (List.mem_of_getElem? (i := 197) (by decide +kernel)) (by decide +kernel)
theorem tw4_198 : (Jvm.Cond.selects "GriefEngineModel" ({ cls := "GriefEngineModel", name := "undo", desc := "()I" } : Jvm.MethodName) ({ cls := "GriefEngineModel", name := "undo", desc := "()I" } : Jvm.MethodName)) ∈ GW := in_t4 (List.mem_of_getElem? (i := 198) (by decide +kernel)) (by decide +kernel)
theorem tw4_199 : (Jvm.Cond.code ({ cls := "GriefEngineModel", name := "undo", desc := "()I" } : Jvm.MethodName) prog_13_method_29_code (2 : Nat) (Option.some Jvm.ClassFile.FieldType.int)) ∈ GW := in_t4 (List.mem_of_getElem? (i := 199) (by decide +kernel)) (by decide +kernel)
theorem tw4_200 : (Jvm.Cond.methodLink "GriefEngineModel" (119 : Nat) ({ cls := "GriefEngineModel", name := "no", desc := "()I" } : Jvm.MethodName)) ∈ GW := in_t4 (List.mem_of_getElem? (i := 200) (by decide +kernel)) (by decide +kernel)
theorem tw4_202 : (Jvm.Cond.instanceMethod ({ cls := "GriefEngineModel", name := "no", desc := "()I" } : Jvm.MethodName)) ∈ GW := in_t4 (List.mem_of_getElem? (i := 202) (by decide +kernel)) (by decide +kernel)
theorem tw4_203 : (Jvm.Cond.code ({ cls := "GriefEngineModel", name := "no", desc := "()I" } : Jvm.MethodName) prog_13_method_5_code (1 : Nat) (Option.some Jvm.ClassFile.FieldType.int)) ∈ GW := in_t4 (List.mem_of_getElem? (i := 203) (by decide +kernel)) (by decide +kernel)
theorem tw4_204 : (Jvm.Cond.methodLink "GriefEngineLaw" (51 : Nat) ({ cls := "GriefEngineModel", name := "of", desc := "(II)I" } : Jvm.MethodName)) ∈ GW := in_t4 (List.mem_of_getElem? (i := 204) (by decide +kernel)) (by decide +kernel)
theorem tw4_205 : (Jvm.Cond.instanceMethod ({ cls := "GriefEngineModel", name := "of", desc := "(II)I" } : Jvm.MethodName)) ∈ GW := in_t4 (List.mem_of_getElem? (i := 205) (by decide +kernel)) (by decide +kernel)
theorem tw4_206 : (Jvm.Cond.selects "GriefEngineModel" ({ cls := "GriefEngineModel", name := "of", desc := "(II)I" } : Jvm.MethodName) ({ cls := "GriefEngineModel", name := "of", desc := "(II)I" } : Jvm.MethodName)) ∈ GW := in_t4 (List.mem_of_getElem? (i := 206) (by decide +kernel)) (by decide +kernel)
theorem tw4_207 : (Jvm.Cond.code ({ cls := "GriefEngineModel", name := "of", desc := "(II)I" } : Jvm.MethodName) prog_13_method_30_code (3 : Nat) (Option.some Jvm.ClassFile.FieldType.int)) ∈ GW := in_t4 (List.mem_of_getElem? (i := 207) (by decide +kernel)) (by decide +kernel)
theorem tw4_208 : (Jvm.Cond.methodLink "GriefEngineLaw" (55 : Nat) ({ cls := "GriefEngineModel", name := "today", desc := "(II)I" } : Jvm.MethodName)) ∈ GW := in_t4 (List.mem_of_getElem? (i := 208) (by decide +kernel)) (by decide +kernel)
theorem tw4_209 : (Jvm.Cond.instanceMethod ({ cls := "GriefEngineModel", name := "today", desc := "(II)I" } : Jvm.MethodName)) ∈ GW := in_t4 (List.mem_of_getElem? (i := 209) (by decide +kernel)) (by decide +kernel)
theorem tw4_210 : (Jvm.Cond.selects "GriefEngineModel" ({ cls := "GriefEngineModel", name := "today", desc := "(II)I" } : Jvm.MethodName) ({ cls := "GriefEngineModel", name := "today", desc := "(II)I" } : Jvm.MethodName)) ∈ GW := in_t4 (List.mem_of_getElem? (i := 210) (by decide +kernel)) (by decide +kernel)
theorem tw4_211 : (Jvm.Cond.code ({ cls := "GriefEngineModel", name := "today", desc := "(II)I" } : Jvm.MethodName) prog_13_method_31_code (4 : Nat) (Option.some Jvm.ClassFile.FieldType.int)) ∈ GW := in_t4 (List.mem_of_getElem? (i := 211) (by decide +kernel)) (by decide +kernel)
theorem tw4_212 : (Jvm.Cond.constantLong "GriefEngineModel" (122 : Nat) (-1 : Int64)) ∈ GW := in_t4 (List.mem_of_getElem? (i := 212) (by decide +kernel)) (by decide +kernel)
theorem tw4_213 : (Jvm.Cond.methodLink "GriefEngineModel" (124 : Nat) ({ cls := "GriefEngineModel", name := "kindOf", desc := "(I)I" } : Jvm.MethodName)) ∈ GW := in_t4 (List.mem_of_getElem? (i := 213) (by decide +kernel)) (by decide +kernel)
theorem tw4_215 : (Jvm.Cond.instanceMethod ({ cls := "GriefEngineModel", name := "kindOf", desc := "(I)I" } : Jvm.MethodName)) ∈ GW := in_t4 (List.mem_of_getElem? (i := 215) (by decide +kernel)) (by decide +kernel)
theorem tw4_216 : (Jvm.Cond.code ({ cls := "GriefEngineModel", name := "kindOf", desc := "(I)I" } : Jvm.MethodName) prog_13_method_22_code (2 : Nat) (Option.some Jvm.ClassFile.FieldType.int)) ∈ GW := in_t4 (List.mem_of_getElem? (i := 216) (by decide +kernel)) (by decide +kernel)
theorem tw4_217 : (Jvm.Cond.methodLink "GriefEngineLaw" (60 : Nat) ({ cls := "GriefEngineModel", name := "then", desc := "(IIII)I" } : Jvm.MethodName)) ∈ GW := in_t4 (List.mem_of_getElem? (i := 217) (by decide +kernel)) (by decide +kernel)
theorem tw4_218 : (Jvm.Cond.instanceMethod ({ cls := "GriefEngineModel", name := "then", desc := "(IIII)I" } : Jvm.MethodName)) ∈ GW := in_t4 (List.mem_of_getElem? (i := 218) (by decide +kernel)) (by decide +kernel)
theorem tw4_219 : (Jvm.Cond.selects "GriefEngineModel" ({ cls := "GriefEngineModel", name := "then", desc := "(IIII)I" } : Jvm.MethodName) ({ cls := "GriefEngineModel", name := "then", desc := "(IIII)I" } : Jvm.MethodName)) ∈ GW := in_t4 (List.mem_of_getElem? (i := 219) (by decide +kernel)) (by decide +kernel)
theorem tw4_220 : (Jvm.Cond.code ({ cls := "GriefEngineModel", name := "then", desc := "(IIII)I" } : Jvm.MethodName) prog_13_method_32_code (6 : Nat) (Option.some Jvm.ClassFile.FieldType.int)) ∈ GW := in_t4 (List.mem_of_getElem? (i := 220) (by decide +kernel)) (by decide +kernel)
theorem tw4_221 : (Jvm.Cond.methodLink "GriefEngineModel" (127 : Nat) ({ cls := "GriefEngineModel", name := "layOne", desc := "(I)V" } : Jvm.MethodName)) ∈ GW := in_t4 (List.mem_of_getElem? (i := 221) (by decide +kernel)) (by decide +kernel)
theorem tw4_223 : (Jvm.Cond.instanceMethod ({ cls := "GriefEngineModel", name := "layOne", desc := "(I)V" } : Jvm.MethodName)) ∈ GW := in_t4 (List.mem_of_getElem? (i := 223) (by decide +kernel)) (by decide +kernel)
theorem tw4_224 : (Jvm.Cond.code ({ cls := "GriefEngineModel", name := "layOne", desc := "(I)V" } : Jvm.MethodName) prog_13_method_24_code (2 : Nat) (Option.none : Option Jvm.ClassFile.FieldType)) ∈ GW := in_t4 (List.mem_of_getElem? (i := 224) (by decide +kernel)) (by decide +kernel)
theorem tw4_225 : (Jvm.Cond.methodLink "GriefEngineLaw" (64 : Nat) ({ cls := "GriefEngineModel", name := "over", desc := "(I)I" } : Jvm.MethodName)) ∈ GW := in_t4 (List.mem_of_getElem? (i := 225) (by decide +kernel)) (by decide +kernel)
theorem tw4_226 : (Jvm.Cond.instanceMethod ({ cls := "GriefEngineModel", name := "over", desc := "(I)I" } : Jvm.MethodName)) ∈ GW := in_t4 (List.mem_of_getElem? (i := 226) (by decide +kernel)) (by decide +kernel)
theorem tw4_227 : (Jvm.Cond.selects "GriefEngineModel" ({ cls := "GriefEngineModel", name := "over", desc := "(I)I" } : Jvm.MethodName) ({ cls := "GriefEngineModel", name := "over", desc := "(I)I" } : Jvm.MethodName)) ∈ GW := in_t4 (List.mem_of_getElem? (i := 227) (by decide +kernel)) (by decide +kernel)
theorem tw4_228 : (Jvm.Cond.code ({ cls := "GriefEngineModel", name := "over", desc := "(I)I" } : Jvm.MethodName) prog_13_method_33_code (3 : Nat) (Option.some Jvm.ClassFile.FieldType.int)) ∈ GW := in_t4 (List.mem_of_getElem? (i := 228) (by decide +kernel)) (by decide +kernel)
theorem tw4_229 : (Jvm.Cond.methodLink "GriefEngineLaw" (69 : Nat) ({ cls := "GriefEngineModel", name := "most", desc := "(III)I" } : Jvm.MethodName)) ∈ GW := in_t4 (List.mem_of_getElem? (i := 229) (by decide +kernel)) (by decide +kernel)
theorem tw4_230 : (Jvm.Cond.instanceMethod ({ cls := "GriefEngineModel", name := "most", desc := "(III)I" } : Jvm.MethodName)) ∈ GW := in_t4 (List.mem_of_getElem? (i := 230) (by decide +kernel)) (by decide +kernel)
theorem tw4_231 : (Jvm.Cond.selects "GriefEngineModel" ({ cls := "GriefEngineModel", name := "most", desc := "(III)I" } : Jvm.MethodName) ({ cls := "GriefEngineModel", name := "most", desc := "(III)I" } : Jvm.MethodName)) ∈ GW := in_t4 (List.mem_of_getElem? (i := 231) (by decide +kernel)) (by decide +kernel)
theorem tw4_232 : (Jvm.Cond.code ({ cls := "GriefEngineModel", name := "most", desc := "(III)I" } : Jvm.MethodName) prog_13_method_37_code (5 : Nat) (Option.some Jvm.ClassFile.FieldType.int)) ∈ GW := in_t4 (List.mem_of_getElem? (i := 232) (by decide +kernel)) (by decide +kernel)
theorem tw4_233 : (Jvm.Cond.constantLong "GriefEngineModel" (141 : Nat) (7 : Int64)) ∈ GW := in_t4 (List.mem_of_getElem? (i := 233) (by decide +kernel)) (by decide +kernel)
theorem tw4_234 : (Jvm.Cond.methodLink "GriefEngineModel" (143 : Nat) ({ cls := "GriefEngineModel", name := "mostIn", desc := "(II)I" } : Jvm.MethodName)) ∈ GW := in_t4 (List.mem_of_getElem? (i := 234) (by decide +kernel)) (by decide +kernel)
theorem tw4_236 : (Jvm.Cond.instanceMethod ({ cls := "GriefEngineModel", name := "mostIn", desc := "(II)I" } : Jvm.MethodName)) ∈ GW := in_t4 (List.mem_of_getElem? (i := 236) (by decide +kernel)) (by decide +kernel)
theorem tw4_237 : (Jvm.Cond.code ({ cls := "GriefEngineModel", name := "mostIn", desc := "(II)I" } : Jvm.MethodName) prog_13_method_36_code (6 : Nat) (Option.some Jvm.ClassFile.FieldType.int)) ∈ GW := in_t4 (List.mem_of_getElem? (i := 237) (by decide +kernel)) (by decide +kernel)
theorem tw4_238 : (Jvm.Cond.methodLink "GriefEngineModel" (131 : Nat) ({ cls := "GriefEngineModel", name := "powerOfThree", desc := "(I)I" } : Jvm.MethodName)) ∈ GW := in_t4 (List.mem_of_getElem? (i := 238) (by decide +kernel)) (by decide +kernel)
theorem tw4_239 : (Jvm.Cond.static ({ cls := "GriefEngineModel", name := "powerOfThree", desc := "(I)I" } : Jvm.MethodName)) ∈ GW := in_t4 (List.mem_of_getElem? (i := 239) (by decide +kernel)) (by decide +kernel)
theorem tw5_0 : (Jvm.Cond.code ({ cls := "GriefEngineModel", name := "powerOfThree", desc := "(I)I" } : Jvm.MethodName) prog_13_method_34_code (3 : Nat) (Option.some Jvm.ClassFile.FieldType.int)) ∈ GW := in_t5 (List.mem_of_getElem? (i := 0) (by decide +kernel)) (by decide +kernel)
theorem tw5_1 : (Jvm.Cond.methodLink "GriefEngineModel" (134 : Nat) ({ cls := "GriefEngineModel", name := "milesBy", desc := "(IIIII)I" } : Jvm.MethodName)) ∈ GW := in_t5 (List.mem_of_getElem? (i := 1) (by decide +kernel)) (by decide +kernel)
theorem tw5_3 : (Jvm.Cond.instanceMethod ({ cls := "GriefEngineModel", name := "milesBy", desc := "(IIIII)I" } : Jvm.MethodName)) ∈ GW := in_t5 (List.mem_of_getElem? (i := 3) (by decide +kernel)) (by decide +kernel)
theorem tw5_4 : (Jvm.Cond.code ({ cls := "GriefEngineModel", name := "milesBy", desc := "(IIIII)I" } : Jvm.MethodName) prog_13_method_35_code (8 : Nat) (Option.some Jvm.ClassFile.FieldType.int)) ∈ GW := in_t5 (List.mem_of_getElem? (i := 4) (by decide +kernel)) (by decide +kernel)
theorem tw5_5 : (Jvm.Cond.methodLink "GriefEngineLaw" (73 : Nat) ({ cls := "GriefEngineModel", name := "soonest", desc := "(II)I" } : Jvm.MethodName)) ∈ GW := in_t5 (List.mem_of_getElem? (i := 5) (by decide +kernel)) (by decide +kernel)
theorem tw5_6 : (Jvm.Cond.instanceMethod ({ cls := "GriefEngineModel", name := "soonest", desc := "(II)I" } : Jvm.MethodName)) ∈ GW := in_t5 (List.mem_of_getElem? (i := 6) (by decide +kernel)) (by decide +kernel)
theorem tw5_7 : (Jvm.Cond.selects "GriefEngineModel" ({ cls := "GriefEngineModel", name := "soonest", desc := "(II)I" } : Jvm.MethodName) ({ cls := "GriefEngineModel", name := "soonest", desc := "(II)I" } : Jvm.MethodName)) ∈ GW := in_t5 (List.mem_of_getElem? (i := 7) (by decide +kernel)) (by decide +kernel)
theorem tw5_8 : (Jvm.Cond.code ({ cls := "GriefEngineModel", name := "soonest", desc := "(II)I" } : Jvm.MethodName) prog_13_method_38_code (4 : Nat) (Option.some Jvm.ClassFile.FieldType.int)) ∈ GW := in_t5 (List.mem_of_getElem? (i := 8) (by decide +kernel)) (by decide +kernel)
theorem tw5_9 : (Jvm.Cond.constantLong "GriefEngineModel" (146 : Nat) (999 : Int64)) ∈ GW := in_t5 (List.mem_of_getElem? (i := 9) (by decide +kernel)) (by decide +kernel)
theorem tw5_10 : (Jvm.Cond.methodLink "GriefEngineLaw" (77 : Nat) ({ cls := "GriefEngineModel", name := "home", desc := "(III)I" } : Jvm.MethodName)) ∈ GW := in_t5 (List.mem_of_getElem? (i := 10) (by decide +kernel)) (by decide +kernel)
theorem tw5_11 : (Jvm.Cond.instanceMethod ({ cls := "GriefEngineModel", name := "home", desc := "(III)I" } : Jvm.MethodName)) ∈ GW := in_t5 (List.mem_of_getElem? (i := 11) (by decide +kernel)) (by decide +kernel)
theorem tw5_12 : (Jvm.Cond.selects "GriefEngineModel" ({ cls := "GriefEngineModel", name := "home", desc := "(III)I" } : Jvm.MethodName) ({ cls := "GriefEngineModel", name := "home", desc := "(III)I" } : Jvm.MethodName)) ∈ GW := in_t5 (List.mem_of_getElem? (i := 12) (by decide +kernel)) (by decide +kernel)
theorem tw5_13 : (Jvm.Cond.code ({ cls := "GriefEngineModel", name := "home", desc := "(III)I" } : Jvm.MethodName) prog_13_method_39_code (11 : Nat) (Option.some Jvm.ClassFile.FieldType.int)) ∈ GW := in_t5 (List.mem_of_getElem? (i := 13) (by decide +kernel)) (by decide +kernel)
theorem tw5_14 : (Jvm.Cond.methodLink "GriefEngineLaw" (81 : Nat) ({ cls := "GriefEngineModel", name := "tell", desc := "(I)I" } : Jvm.MethodName)) ∈ GW := in_t5 (List.mem_of_getElem? (i := 14) (by decide +kernel)) (by decide +kernel)
theorem tw5_15 : (Jvm.Cond.instanceMethod ({ cls := "GriefEngineModel", name := "tell", desc := "(I)I" } : Jvm.MethodName)) ∈ GW := in_t5 (List.mem_of_getElem? (i := 15) (by decide +kernel)) (by decide +kernel)
theorem tw5_16 : (Jvm.Cond.selects "GriefEngineModel" ({ cls := "GriefEngineModel", name := "tell", desc := "(I)I" } : Jvm.MethodName) ({ cls := "GriefEngineModel", name := "tell", desc := "(I)I" } : Jvm.MethodName)) ∈ GW := in_t5 (List.mem_of_getElem? (i := 16) (by decide +kernel)) (by decide +kernel)
theorem tw5_17 : (Jvm.Cond.code ({ cls := "GriefEngineModel", name := "tell", desc := "(I)I" } : Jvm.MethodName) prog_13_method_42_code (7 : Nat) (Option.some Jvm.ClassFile.FieldType.int)) ∈ GW := in_t5 (List.mem_of_getElem? (i := 17) (by decide +kernel)) (by decide +kernel)
theorem tw5_18 : (Jvm.Cond.methodLink "GriefEngineModel" (151 : Nat) ({ cls := "GriefEngineModel", name := "pairsBy", desc := "(II)I" } : Jvm.MethodName)) ∈ GW := in_t5 (List.mem_of_getElem? (i := 18) (by decide +kernel)) (by decide +kernel)
theorem tw5_20 : (Jvm.Cond.instanceMethod ({ cls := "GriefEngineModel", name := "pairsBy", desc := "(II)I" } : Jvm.MethodName)) ∈ GW := in_t5 (List.mem_of_getElem? (i := 20) (by decide +kernel)) (by decide +kernel)
theorem tw5_21 : (Jvm.Cond.code ({ cls := "GriefEngineModel", name := "pairsBy", desc := "(II)I" } : Jvm.MethodName) prog_13_method_41_code (10 : Nat) (Option.some Jvm.ClassFile.FieldType.int)) ∈ GW := in_t5 (List.mem_of_getElem? (i := 21) (by decide +kernel)) (by decide +kernel)
theorem tw5_22 : (Jvm.Cond.methodLink "GriefEngineModel" (148 : Nat) ({ cls := "GriefEngineModel", name := "worthOf", desc := "(II)I" } : Jvm.MethodName)) ∈ GW := in_t5 (List.mem_of_getElem? (i := 22) (by decide +kernel)) (by decide +kernel)
theorem tw5_24 : (Jvm.Cond.instanceMethod ({ cls := "GriefEngineModel", name := "worthOf", desc := "(II)I" } : Jvm.MethodName)) ∈ GW := in_t5 (List.mem_of_getElem? (i := 24) (by decide +kernel)) (by decide +kernel)
theorem tw5_25 : (Jvm.Cond.code ({ cls := "GriefEngineModel", name := "worthOf", desc := "(II)I" } : Jvm.MethodName) prog_13_method_40_code (4 : Nat) (Option.some Jvm.ClassFile.FieldType.int)) ∈ GW := in_t5 (List.mem_of_getElem? (i := 25) (by decide +kernel)) (by decide +kernel)
theorem tw5_26 : (Jvm.Cond.methodLink "GriefEngineLaw" (86 : Nat) ({ cls := "GriefEngineModel", name := "note", desc := "(IIIIII)I" } : Jvm.MethodName)) ∈ GW := in_t5 (List.mem_of_getElem? (i := 26) (by decide +kernel)) (by decide +kernel)
theorem tw5_27 : (Jvm.Cond.instanceMethod ({ cls := "GriefEngineModel", name := "note", desc := "(IIIIII)I" } : Jvm.MethodName)) ∈ GW := in_t5 (List.mem_of_getElem? (i := 27) (by decide +kernel)) (by decide +kernel)
theorem tw5_28 : (Jvm.Cond.selects "GriefEngineModel" ({ cls := "GriefEngineModel", name := "note", desc := "(IIIIII)I" } : Jvm.MethodName) ({ cls := "GriefEngineModel", name := "note", desc := "(IIIIII)I" } : Jvm.MethodName)) ∈ GW := in_t5 (List.mem_of_getElem? (i := 28) (by decide +kernel)) (by decide +kernel)
theorem tw5_29 : (Jvm.Cond.code ({ cls := "GriefEngineModel", name := "note", desc := "(IIIIII)I" } : Jvm.MethodName) prog_13_method_43_code (8 : Nat) (Option.some Jvm.ClassFile.FieldType.int)) ∈ GW := in_t5 (List.mem_of_getElem? (i := 29) (by decide +kernel)) (by decide +kernel)
theorem tw5_30 : (Jvm.Cond.constantLong "GriefEngineModel" (154 : Nat) (3 : Int64)) ∈ GW := in_t5 (List.mem_of_getElem? (i := 30) (by decide +kernel)) (by decide +kernel)
theorem tw5_31 : (Jvm.Cond.constantLong "GriefEngineModel" (156 : Nat) (200 : Int64)) ∈ GW := in_t5 (List.mem_of_getElem? (i := 31) (by decide +kernel)) (by decide +kernel)
theorem tw5_32 : (Jvm.Cond.methodLink "GriefEngineLaw" (90 : Nat) ({ cls := "GriefEngineModel", name := "gone", desc := "(III)I" } : Jvm.MethodName)) ∈ GW := in_t5 (List.mem_of_getElem? (i := 32) (by decide +kernel)) (by decide +kernel)
theorem tw5_33 : (Jvm.Cond.instanceMethod ({ cls := "GriefEngineModel", name := "gone", desc := "(III)I" } : Jvm.MethodName)) ∈ GW := in_t5 (List.mem_of_getElem? (i := 33) (by decide +kernel)) (by decide +kernel)
theorem tw5_34 : (Jvm.Cond.selects "GriefEngineModel" ({ cls := "GriefEngineModel", name := "gone", desc := "(III)I" } : Jvm.MethodName) ({ cls := "GriefEngineModel", name := "gone", desc := "(III)I" } : Jvm.MethodName)) ∈ GW := in_t5 (List.mem_of_getElem? (i := 34) (by decide +kernel)) (by decide +kernel)
theorem tw5_35 : (Jvm.Cond.code ({ cls := "GriefEngineModel", name := "gone", desc := "(III)I" } : Jvm.MethodName) prog_13_method_44_code (5 : Nat) (Option.some Jvm.ClassFile.FieldType.int)) ∈ GW := in_t5 (List.mem_of_getElem? (i := 35) (by decide +kernel)) (by decide +kernel)
theorem tw5_36 : (Jvm.Cond.constantLong "GriefEngineModel" (158 : Nat) (30 : Int64)) ∈ GW := in_t5 (List.mem_of_getElem? (i := 36) (by decide +kernel)) (by decide +kernel)
theorem tw5_37 : (Jvm.Cond.constantLong "GriefEngineModel" (160 : Nat) (6000 : Int64)) ∈ GW := in_t5 (List.mem_of_getElem? (i := 37) (by decide +kernel)) (by decide +kernel)
theorem tw5_38 : (Jvm.Cond.methodLink "GriefEngineLaw" (94 : Nat) ({ cls := "GriefEngineModel", name := "forget", desc := "(I)I" } : Jvm.MethodName)) ∈ GW := in_t5 (List.mem_of_getElem? (i := 38) (by decide +kernel)) (by decide +kernel)
theorem tw5_39 : (Jvm.Cond.instanceMethod ({ cls := "GriefEngineModel", name := "forget", desc := "(I)I" } : Jvm.MethodName)) ∈ GW := in_t5 (List.mem_of_getElem? (i := 39) (by decide +kernel)) (by decide +kernel)
theorem tw5_40 : (Jvm.Cond.selects "GriefEngineModel" ({ cls := "GriefEngineModel", name := "forget", desc := "(I)I" } : Jvm.MethodName) ({ cls := "GriefEngineModel", name := "forget", desc := "(I)I" } : Jvm.MethodName)) ∈ GW := in_t5 (List.mem_of_getElem? (i := 40) (by decide +kernel)) (by decide +kernel)
theorem tw5_41 : (Jvm.Cond.code ({ cls := "GriefEngineModel", name := "forget", desc := "(I)I" } : Jvm.MethodName) prog_13_method_45_code (3 : Nat) (Option.some Jvm.ClassFile.FieldType.int)) ∈ GW := in_t5 (List.mem_of_getElem? (i := 41) (by decide +kernel)) (by decide +kernel)
theorem tw5_42 : (Jvm.Cond.methodLink "GriefEngineLaw" (98 : Nat) ({ cls := "GriefEngineModel", name := "is", desc := "(I)I" } : Jvm.MethodName)) ∈ GW := in_t5 (List.mem_of_getElem? (i := 42) (by decide +kernel)) (by decide +kernel)
theorem tw5_43 : (Jvm.Cond.instanceMethod ({ cls := "GriefEngineModel", name := "is", desc := "(I)I" } : Jvm.MethodName)) ∈ GW := in_t5 (List.mem_of_getElem? (i := 43) (by decide +kernel)) (by decide +kernel)
theorem tw5_44 : (Jvm.Cond.selects "GriefEngineModel" ({ cls := "GriefEngineModel", name := "is", desc := "(I)I" } : Jvm.MethodName) ({ cls := "GriefEngineModel", name := "is", desc := "(I)I" } : Jvm.MethodName)) ∈ GW := in_t5 (List.mem_of_getElem? (i := 44) (by decide +kernel)) (by decide +kernel)
theorem tw5_45 : (Jvm.Cond.code ({ cls := "GriefEngineModel", name := "is", desc := "(I)I" } : Jvm.MethodName) prog_13_method_47_code (2 : Nat) (Option.some Jvm.ClassFile.FieldType.int)) ∈ GW := in_t5 (List.mem_of_getElem? (i := 45) (by decide +kernel)) (by decide +kernel)
theorem tw5_46 : (Jvm.Cond.methodLink "GriefEngineModel" (162 : Nat) ({ cls := "GriefEngineModel", name := "kindsOf", desc := "(I)I" } : Jvm.MethodName)) ∈ GW := in_t5 (List.mem_of_getElem? (i := 46) (by decide +kernel)) (by decide +kernel)
theorem tw5_48 : (Jvm.Cond.instanceMethod ({ cls := "GriefEngineModel", name := "kindsOf", desc := "(I)I" } : Jvm.MethodName)) ∈ GW := in_t5 (List.mem_of_getElem? (i := 48) (by decide +kernel)) (by decide +kernel)
theorem tw5_49 : (Jvm.Cond.code ({ cls := "GriefEngineModel", name := "kindsOf", desc := "(I)I" } : Jvm.MethodName) prog_13_method_46_code (8 : Nat) (Option.some Jvm.ClassFile.FieldType.int)) ∈ GW := in_t5 (List.mem_of_getElem? (i := 49) (by decide +kernel)) (by decide +kernel)
theorem tw5_50 : (Jvm.Cond.methodLink "GriefEngineLaw" (102 : Nat) ({ cls := "GriefEngineModel", name := "look", desc := "(I)I" } : Jvm.MethodName)) ∈ GW := in_t5 (List.mem_of_getElem? (i := 50) (by decide +kernel)) (by decide +kernel)
theorem tw5_51 : (Jvm.Cond.instanceMethod ({ cls := "GriefEngineModel", name := "look", desc := "(I)I" } : Jvm.MethodName)) ∈ GW := in_t5 (List.mem_of_getElem? (i := 51) (by decide +kernel)) (by decide +kernel)
theorem tw5_52 : (Jvm.Cond.selects "GriefEngineModel" ({ cls := "GriefEngineModel", name := "look", desc := "(I)I" } : Jvm.MethodName) ({ cls := "GriefEngineModel", name := "look", desc := "(I)I" } : Jvm.MethodName)) ∈ GW := in_t5 (List.mem_of_getElem? (i := 52) (by decide +kernel)) (by decide +kernel)
theorem tw5_53 : (Jvm.Cond.code ({ cls := "GriefEngineModel", name := "look", desc := "(I)I" } : Jvm.MethodName) prog_13_method_49_code (10 : Nat) (Option.some Jvm.ClassFile.FieldType.int)) ∈ GW := in_t5 (List.mem_of_getElem? (i := 53) (by decide +kernel)) (by decide +kernel)
theorem tw5_54 : (Jvm.Cond.constant "GriefEngineModel" (165 : Nat) (1000000 : Int32)) ∈ GW := in_t5 (List.mem_of_getElem? (i := 54) (by decide +kernel)) (by decide +kernel)
theorem tw5_55 : (Jvm.Cond.methodLink "GriefEngineModel" (166 : Nat) ({ cls := "GriefEngineModel", name := "has", desc := "(II)Z" } : Jvm.MethodName)) ∈ GW := in_t5 (List.mem_of_getElem? (i := 55) (by decide +kernel)) (by decide +kernel)
theorem tw5_56 : (Jvm.Cond.static ({ cls := "GriefEngineModel", name := "has", desc := "(II)Z" } : Jvm.MethodName)) ∈ GW := in_t5 (List.mem_of_getElem? (i := 56) (by decide +kernel)) (by decide +kernel)
theorem tw5_57 : (Jvm.Cond.code ({ cls := "GriefEngineModel", name := "has", desc := "(II)Z" } : Jvm.MethodName) prog_13_method_8_code (2 : Nat) (Option.some Jvm.ClassFile.FieldType.boolean)) ∈ GW := in_t5 (List.mem_of_getElem? (i := 57) (by decide +kernel)) (by decide +kernel)
theorem tw5_58 : (Jvm.Cond.methodLink "GriefEngineModel" (170 : Nat) ({ cls := "GriefEngineModel", name := "areAlike", desc := "(IIIII)Z" } : Jvm.MethodName)) ∈ GW := in_t5 (List.mem_of_getElem? (i := 58) (by decide +kernel)) (by decide +kernel)
theorem tw5_59 : (Jvm.Cond.static ({ cls := "GriefEngineModel", name := "areAlike", desc := "(IIIII)Z" } : Jvm.MethodName)) ∈ GW := in_t5 (List.mem_of_getElem? (i := 59) (by decide +kernel)) (by decide +kernel)
theorem tw5_60 : (Jvm.Cond.code ({ cls := "GriefEngineModel", name := "areAlike", desc := "(IIIII)Z" } : Jvm.MethodName) prog_13_method_48_code (5 : Nat) (Option.some Jvm.ClassFile.FieldType.boolean)) ∈ GW := in_t5 (List.mem_of_getElem? (i := 60) (by decide +kernel)) (by decide +kernel)
theorem tw5_61 : (Jvm.Cond.methodLink "GriefEngineLaw" (106 : Nat) ({ cls := "GriefEngineModel", name := "had", desc := "(II)I" } : Jvm.MethodName)) ∈ GW := in_t5 (List.mem_of_getElem? (i := 61) (by decide +kernel)) (by decide +kernel)
theorem tw5_62 : (Jvm.Cond.instanceMethod ({ cls := "GriefEngineModel", name := "had", desc := "(II)I" } : Jvm.MethodName)) ∈ GW := in_t5 (List.mem_of_getElem? (i := 62) (by decide +kernel)) (by decide +kernel)
theorem tw5_63 : (Jvm.Cond.selects "GriefEngineModel" ({ cls := "GriefEngineModel", name := "had", desc := "(II)I" } : Jvm.MethodName) ({ cls := "GriefEngineModel", name := "had", desc := "(II)I" } : Jvm.MethodName)) ∈ GW := in_t5 (List.mem_of_getElem? (i := 63) (by decide +kernel)) (by decide +kernel)
theorem tw5_64 : (Jvm.Cond.code ({ cls := "GriefEngineModel", name := "had", desc := "(II)I" } : Jvm.MethodName) prog_13_method_51_code (6 : Nat) (Option.some Jvm.ClassFile.FieldType.int)) ∈ GW := in_t5 (List.mem_of_getElem? (i := 64) (by decide +kernel)) (by decide +kernel)
theorem tw5_65 : (Jvm.Cond.methodLink "GriefEngineModel" (174 : Nat) ({ cls := "GriefEngineModel", name := "fits", desc := "(II)Z" } : Jvm.MethodName)) ∈ GW := in_t5 (List.mem_of_getElem? (i := 65) (by decide +kernel)) (by decide +kernel)
theorem tw5_67 : (Jvm.Cond.instanceMethod ({ cls := "GriefEngineModel", name := "fits", desc := "(II)Z" } : Jvm.MethodName)) ∈ GW := in_t5 (List.mem_of_getElem? (i := 67) (by decide +kernel)) (by decide +kernel)
theorem tw5_68 : (Jvm.Cond.code ({ cls := "GriefEngineModel", name := "fits", desc := "(II)Z" } : Jvm.MethodName) prog_13_method_50_code (7 : Nat) (Option.some Jvm.ClassFile.FieldType.boolean)) ∈ GW := in_t5 (List.mem_of_getElem? (i := 68) (by decide +kernel)) (by decide +kernel)
theorem tw5_69 : (Jvm.Cond.methodLink "GriefEngineLaw" (110 : Nat) ({ cls := "GriefEngineModel", name := "fares", desc := "(II)I" } : Jvm.MethodName)) ∈ GW := in_t5 (List.mem_of_getElem? (i := 69) (by decide +kernel)) (by decide +kernel)
theorem tw5_70 : (Jvm.Cond.instanceMethod ({ cls := "GriefEngineModel", name := "fares", desc := "(II)I" } : Jvm.MethodName)) ∈ GW := in_t5 (List.mem_of_getElem? (i := 70) (by decide +kernel)) (by decide +kernel)
theorem tw5_71 : (Jvm.Cond.selects "GriefEngineModel" ({ cls := "GriefEngineModel", name := "fares", desc := "(II)I" } : Jvm.MethodName) ({ cls := "GriefEngineModel", name := "fares", desc := "(II)I" } : Jvm.MethodName)) ∈ GW := in_t5 (List.mem_of_getElem? (i := 71) (by decide +kernel)) (by decide +kernel)
theorem tw5_72 : (Jvm.Cond.code ({ cls := "GriefEngineModel", name := "fares", desc := "(II)I" } : Jvm.MethodName) prog_13_method_53_code (8 : Nat) (Option.some Jvm.ClassFile.FieldType.int)) ∈ GW := in_t5 (List.mem_of_getElem? (i := 72) (by decide +kernel)) (by decide +kernel)
theorem tw5_73 : (Jvm.Cond.methodLink "GriefEngineModel" (177 : Nat) ({ cls := "GriefEngineModel", name := "getsBy", desc := "(IZZ)I" } : Jvm.MethodName)) ∈ GW := in_t5 (List.mem_of_getElem? (i := 73) (by decide +kernel)) (by decide +kernel)
theorem tw5_75 : (Jvm.Cond.instanceMethod ({ cls := "GriefEngineModel", name := "getsBy", desc := "(IZZ)I" } : Jvm.MethodName)) ∈ GW := in_t5 (List.mem_of_getElem? (i := 75) (by decide +kernel)) (by decide +kernel)
theorem tw5_76 : (Jvm.Cond.code ({ cls := "GriefEngineModel", name := "getsBy", desc := "(IZZ)I" } : Jvm.MethodName) prog_13_method_52_code (6 : Nat) (Option.some Jvm.ClassFile.FieldType.int)) ∈ GW := in_t5 (List.mem_of_getElem? (i := 76) (by decide +kernel)) (by decide +kernel)
theorem tw5_77 : (Jvm.Cond.methodLink "GriefEngineLaw" (114 : Nat) ({ cls := "GriefEngineModel", name := "starts", desc := "(III)I" } : Jvm.MethodName)) ∈ GW := in_t5 (List.mem_of_getElem? (i := 77) (by decide +kernel)) (by decide +kernel)
theorem tw5_78 : (Jvm.Cond.instanceMethod ({ cls := "GriefEngineModel", name := "starts", desc := "(III)I" } : Jvm.MethodName)) ∈ GW := in_t5 (List.mem_of_getElem? (i := 78) (by decide +kernel)) (by decide +kernel)
theorem tw5_79 : (Jvm.Cond.selects "GriefEngineModel" ({ cls := "GriefEngineModel", name := "starts", desc := "(III)I" } : Jvm.MethodName) ({ cls := "GriefEngineModel", name := "starts", desc := "(III)I" } : Jvm.MethodName)) ∈ GW := in_t5 (List.mem_of_getElem? (i := 79) (by decide +kernel)) (by decide +kernel)
theorem tw5_80 : (Jvm.Cond.code ({ cls := "GriefEngineModel", name := "starts", desc := "(III)I" } : Jvm.MethodName) prog_13_method_55_code (12 : Nat) (Option.some Jvm.ClassFile.FieldType.int)) ∈ GW := in_t5 (List.mem_of_getElem? (i := 80) (by decide +kernel)) (by decide +kernel)
theorem tw5_81 : (Jvm.Cond.constantLong "GriefEngineModel" (184 : Nat) (6 : Int64)) ∈ GW := in_t5 (List.mem_of_getElem? (i := 81) (by decide +kernel)) (by decide +kernel)
theorem tw5_82 : (Jvm.Cond.constantLong "GriefEngineModel" (186 : Nat) (10 : Int64)) ∈ GW := in_t5 (List.mem_of_getElem? (i := 82) (by decide +kernel)) (by decide +kernel)
theorem tw5_83 : (Jvm.Cond.methodLink "GriefEngineModel" (188 : Nat) ({ cls := "GriefEngineModel", name := "fraction", desc := "(JJ)V" } : Jvm.MethodName)) ∈ GW := in_t5 (List.mem_of_getElem? (i := 83) (by decide +kernel)) (by decide +kernel)
theorem tw5_85 : (Jvm.Cond.instanceMethod ({ cls := "GriefEngineModel", name := "fraction", desc := "(JJ)V" } : Jvm.MethodName)) ∈ GW := in_t5 (List.mem_of_getElem? (i := 85) (by decide +kernel)) (by decide +kernel)
theorem tw5_86 : (Jvm.Cond.code ({ cls := "GriefEngineModel", name := "fraction", desc := "(JJ)V" } : Jvm.MethodName) prog_13_method_54_code (11 : Nat) (Option.none : Option Jvm.ClassFile.FieldType)) ∈ GW := in_t5 (List.mem_of_getElem? (i := 86) (by decide +kernel)) (by decide +kernel)
theorem tw5_87 : (Jvm.Cond.methodLink "GriefEngineLaw" (118 : Nat) ({ cls := "GriefEngineModel", name := "years", desc := "(II)I" } : Jvm.MethodName)) ∈ GW := in_t5 (List.mem_of_getElem? (i := 87) (by decide +kernel)) (by decide +kernel)
theorem tw5_88 : (Jvm.Cond.instanceMethod ({ cls := "GriefEngineModel", name := "years", desc := "(II)I" } : Jvm.MethodName)) ∈ GW := in_t5 (List.mem_of_getElem? (i := 88) (by decide +kernel)) (by decide +kernel)
theorem tw5_89 : (Jvm.Cond.selects "GriefEngineModel" ({ cls := "GriefEngineModel", name := "years", desc := "(II)I" } : Jvm.MethodName) ({ cls := "GriefEngineModel", name := "years", desc := "(II)I" } : Jvm.MethodName)) ∈ GW := in_t5 (List.mem_of_getElem? (i := 89) (by decide +kernel)) (by decide +kernel)
theorem tw5_90 : (Jvm.Cond.code ({ cls := "GriefEngineModel", name := "years", desc := "(II)I" } : Jvm.MethodName) prog_13_method_56_code (8 : Nat) (Option.some Jvm.ClassFile.FieldType.int)) ∈ GW := in_t5 (List.mem_of_getElem? (i := 90) (by decide +kernel)) (by decide +kernel)
theorem tw5_91 : (Jvm.Cond.constantLong "GriefEngineModel" (192 : Nat) (999999 : Int64)) ∈ GW := in_t5 (List.mem_of_getElem? (i := 91) (by decide +kernel)) (by decide +kernel)
theorem tw5_92 : (Jvm.Cond.constantLong "GriefEngineModel" (194 : Nat) (60 : Int64)) ∈ GW := in_t5 (List.mem_of_getElem? (i := 92) (by decide +kernel)) (by decide +kernel)
theorem tw5_93 : (Jvm.Cond.constantLong "GriefEngineModel" (196 : Nat) (1103515245 : Int64)) ∈ GW := in_t5 (List.mem_of_getElem? (i := 93) (by decide +kernel)) (by decide +kernel)
theorem tw5_94 : (Jvm.Cond.constantLong "GriefEngineModel" (198 : Nat) (12345 : Int64)) ∈ GW := in_t5 (List.mem_of_getElem? (i := 94) (by decide +kernel)) (by decide +kernel)
theorem tw5_95 : (Jvm.Cond.constantLong "GriefEngineModel" (200 : Nat) (2147483648 : Int64)) ∈ GW := in_t5 (List.mem_of_getElem? (i := 95) (by decide +kernel)) (by decide +kernel)
theorem tw5_96 : (Jvm.Cond.constantLong "GriefEngineModel" (202 : Nat) (65536 : Int64)) ∈ GW := in_t5 (List.mem_of_getElem? (i := 96) (by decide +kernel)) (by decide +kernel)
theorem tw5_97 : (Jvm.Cond.methodLink "GriefEngineLaw" (27 : Nat) ({ cls := "GriefEngineModel", name := "type", desc := "(I)I" } : Jvm.MethodName)) ∈ GW := in_t5 (List.mem_of_getElem? (i := 97) (by decide +kernel)) (by decide +kernel)
theorem tw5_98 : (Jvm.Cond.instanceMethod ({ cls := "GriefEngineModel", name := "type", desc := "(I)I" } : Jvm.MethodName)) ∈ GW := in_t5 (List.mem_of_getElem? (i := 98) (by decide +kernel)) (by decide +kernel)
theorem tw5_99 : (Jvm.Cond.selects "GriefEngineModel" ({ cls := "GriefEngineModel", name := "type", desc := "(I)I" } : Jvm.MethodName) ({ cls := "GriefEngineModel", name := "type", desc := "(I)I" } : Jvm.MethodName)) ∈ GW := in_t5 (List.mem_of_getElem? (i := 99) (by decide +kernel)) (by decide +kernel)
theorem tw5_100 : (Jvm.Cond.code ({ cls := "GriefEngineModel", name := "type", desc := "(I)I" } : Jvm.MethodName) prog_13_method_57_code (2 : Nat) (Option.some Jvm.ClassFile.FieldType.int)) ∈ GW := in_t5 (List.mem_of_getElem? (i := 100) (by decide +kernel)) (by decide +kernel)
theorem tw5_101 : (Jvm.Cond.constantLong "GriefEngineModel" (204 : Nat) (127 : Int64)) ∈ GW := in_t5 (List.mem_of_getElem? (i := 101) (by decide +kernel)) (by decide +kernel)
theorem tw5_102 : (Jvm.Cond.methodLink "GriefEngineLaw" (31 : Nat) ({ cls := "GriefEngineModel", name := "clear", desc := "()I" } : Jvm.MethodName)) ∈ GW := in_t5 (List.mem_of_getElem? (i := 102) (by decide +kernel)) (by decide +kernel)
theorem tw5_103 : (Jvm.Cond.instanceMethod ({ cls := "GriefEngineModel", name := "clear", desc := "()I" } : Jvm.MethodName)) ∈ GW := in_t5 (List.mem_of_getElem? (i := 103) (by decide +kernel)) (by decide +kernel)
theorem tw5_104 : (Jvm.Cond.selects "GriefEngineModel" ({ cls := "GriefEngineModel", name := "clear", desc := "()I" } : Jvm.MethodName) ({ cls := "GriefEngineModel", name := "clear", desc := "()I" } : Jvm.MethodName)) ∈ GW := in_t5 (List.mem_of_getElem? (i := 104) (by decide +kernel)) (by decide +kernel)
theorem tw5_105 : (Jvm.Cond.code ({ cls := "GriefEngineModel", name := "clear", desc := "()I" } : Jvm.MethodName) prog_13_method_58_code (2 : Nat) (Option.some Jvm.ClassFile.FieldType.int)) ∈ GW := in_t5 (List.mem_of_getElem? (i := 105) (by decide +kernel)) (by decide +kernel)
theorem tw5_106 : (Jvm.Cond.methodLink "GriefEngineLaw" (35 : Nat) ({ cls := "GriefEngineModel", name := "read", desc := "()I" } : Jvm.MethodName)) ∈ GW := in_t5 (List.mem_of_getElem? (i := 106) (by decide +kernel)) (by decide +kernel)
theorem tw5_107 : (Jvm.Cond.instanceMethod ({ cls := "GriefEngineModel", name := "read", desc := "()I" } : Jvm.MethodName)) ∈ GW := in_t5 (List.mem_of_getElem? (i := 107) (by decide +kernel)) (by decide +kernel)
theorem tw5_108 : (Jvm.Cond.selects "GriefEngineModel" ({ cls := "GriefEngineModel", name := "read", desc := "()I" } : Jvm.MethodName) ({ cls := "GriefEngineModel", name := "read", desc := "()I" } : Jvm.MethodName)) ∈ GW := in_t5 (List.mem_of_getElem? (i := 108) (by decide +kernel)) (by decide +kernel)
theorem tw5_109 : (Jvm.Cond.code ({ cls := "GriefEngineModel", name := "read", desc := "()I" } : Jvm.MethodName) prog_13_method_68_code (3 : Nat) (Option.some Jvm.ClassFile.FieldType.int)) ∈ GW := in_t5 (List.mem_of_getElem? (i := 109) (by decide +kernel)) (by decide +kernel)
theorem tw5_110 : (Jvm.Cond.methodLink "GriefEngineModel" (235 : Nat) ({ cls := "GriefEngineModel", name := "lookAt", desc := "(I)V" } : Jvm.MethodName)) ∈ GW := in_t5 (List.mem_of_getElem? (i := 110) (by decide +kernel)) (by decide +kernel)
theorem tw5_112 : (Jvm.Cond.instanceMethod ({ cls := "GriefEngineModel", name := "lookAt", desc := "(I)V" } : Jvm.MethodName)) ∈ GW := in_t5 (List.mem_of_getElem? (i := 112) (by decide +kernel)) (by decide +kernel)
theorem tw5_113 : (Jvm.Cond.code ({ cls := "GriefEngineModel", name := "lookAt", desc := "(I)V" } : Jvm.MethodName) prog_13_method_61_code (5 : Nat) (Option.none : Option Jvm.ClassFile.FieldType)) ∈ GW := in_t5 (List.mem_of_getElem? (i := 113) (by decide +kernel)) (by decide +kernel)
theorem tw5_114 : (Jvm.Cond.methodLink "GriefEngineModel" (229 : Nat) ({ cls := "GriefEngineModel", name := "isSmall", desc := "(I)Z" } : Jvm.MethodName)) ∈ GW := in_t5 (List.mem_of_getElem? (i := 114) (by decide +kernel)) (by decide +kernel)
theorem tw5_115 : (Jvm.Cond.static ({ cls := "GriefEngineModel", name := "isSmall", desc := "(I)Z" } : Jvm.MethodName)) ∈ GW := in_t5 (List.mem_of_getElem? (i := 115) (by decide +kernel)) (by decide +kernel)
theorem tw5_116 : (Jvm.Cond.code ({ cls := "GriefEngineModel", name := "isSmall", desc := "(I)Z" } : Jvm.MethodName) prog_13_method_59_code (1 : Nat) (Option.some Jvm.ClassFile.FieldType.boolean)) ∈ GW := in_t5 (List.mem_of_getElem? (i := 116) (by decide +kernel)) (by decide +kernel)
theorem tw5_117 : (Jvm.Cond.constantLong "GriefEngineModel" (209 : Nat) (97 : Int64)) ∈ GW := in_t5 (List.mem_of_getElem? (i := 117) (by decide +kernel)) (by decide +kernel)
theorem tw5_118 : (Jvm.Cond.constantLong "GriefEngineModel" (211 : Nat) (122 : Int64)) ∈ GW := in_t5 (List.mem_of_getElem? (i := 118) (by decide +kernel)) (by decide +kernel)
theorem tw5_119 : (Jvm.Cond.methodLink "GriefEngineModel" (232 : Nat) ({ cls := "GriefEngineModel", name := "isFigure", desc := "(I)Z" } : Jvm.MethodName)) ∈ GW := in_t5 (List.mem_of_getElem? (i := 119) (by decide +kernel)) (by decide +kernel)
theorem tw5_120 : (Jvm.Cond.static ({ cls := "GriefEngineModel", name := "isFigure", desc := "(I)Z" } : Jvm.MethodName)) ∈ GW := in_t5 (List.mem_of_getElem? (i := 120) (by decide +kernel)) (by decide +kernel)
theorem tw5_121 : (Jvm.Cond.code ({ cls := "GriefEngineModel", name := "isFigure", desc := "(I)Z" } : Jvm.MethodName) prog_13_method_60_code (1 : Nat) (Option.some Jvm.ClassFile.FieldType.boolean)) ∈ GW := in_t5 (List.mem_of_getElem? (i := 121) (by decide +kernel)) (by decide +kernel)
theorem tw5_122 : (Jvm.Cond.constantLong "GriefEngineModel" (213 : Nat) (48 : Int64)) ∈ GW := in_t5 (List.mem_of_getElem? (i := 122) (by decide +kernel)) (by decide +kernel)
theorem tw5_123 : (Jvm.Cond.constantLong "GriefEngineModel" (215 : Nat) (57 : Int64)) ∈ GW := in_t5 (List.mem_of_getElem? (i := 123) (by decide +kernel)) (by decide +kernel)
theorem tw5_124 : (Jvm.Cond.methodLink "GriefEngineModel" (245 : Nat) ({ cls := "GriefEngineModel", name := "spells", desc := "(IIIIIII)Z" } : Jvm.MethodName)) ∈ GW := in_t5 (List.mem_of_getElem? (i := 124) (by decide +kernel)) (by decide +kernel)
theorem tw5_126 : (Jvm.Cond.instanceMethod ({ cls := "GriefEngineModel", name := "spells", desc := "(IIIIIII)Z" } : Jvm.MethodName)) ∈ GW := in_t5 (List.mem_of_getElem? (i := 126) (by decide +kernel)) (by decide +kernel)
theorem tw5_127 : (Jvm.Cond.code ({ cls := "GriefEngineModel", name := "spells", desc := "(IIIIIII)Z" } : Jvm.MethodName) prog_13_method_63_code (10 : Nat) (Option.some Jvm.ClassFile.FieldType.boolean)) ∈ GW := in_t5 (List.mem_of_getElem? (i := 127) (by decide +kernel)) (by decide +kernel)
theorem tw5_128 : (Jvm.Cond.methodLink "GriefEngineModel" (238 : Nat) ({ cls := "GriefEngineModel", name := "goBehind", desc := "()V" } : Jvm.MethodName)) ∈ GW := in_t5 (List.mem_of_getElem? (i := 128) (by decide +kernel)) (by decide +kernel)
theorem tw5_130 : (Jvm.Cond.instanceMethod ({ cls := "GriefEngineModel", name := "goBehind", desc := "()V" } : Jvm.MethodName)) ∈ GW := in_t5 (List.mem_of_getElem? (i := 130) (by decide +kernel)) (by decide +kernel)
theorem tw5_131 : (Jvm.Cond.code ({ cls := "GriefEngineModel", name := "goBehind", desc := "()V" } : Jvm.MethodName) prog_13_method_62_code (1 : Nat) (Option.none : Option Jvm.ClassFile.FieldType)) ∈ GW := in_t5 (List.mem_of_getElem? (i := 131) (by decide +kernel)) (by decide +kernel)
theorem tw5_132 : (Jvm.Cond.methodLink "GriefEngineModel" (256 : Nat) ({ cls := "GriefEngineModel", name := "takesItem", desc := "()Z" } : Jvm.MethodName)) ∈ GW := in_t5 (List.mem_of_getElem? (i := 132) (by decide +kernel)) (by decide +kernel)
theorem tw5_134 : (Jvm.Cond.instanceMethod ({ cls := "GriefEngineModel", name := "takesItem", desc := "()Z" } : Jvm.MethodName)) ∈ GW := in_t5 (List.mem_of_getElem? (i := 134) (by decide +kernel)) (by decide +kernel)
theorem tw5_135 : (Jvm.Cond.code ({ cls := "GriefEngineModel", name := "takesItem", desc := "()Z" } : Jvm.MethodName) prog_13_method_67_code (1 : Nat) (Option.some Jvm.ClassFile.FieldType.boolean)) ∈ GW := in_t5 (List.mem_of_getElem? (i := 135) (by decide +kernel)) (by decide +kernel)
theorem tw5_136 : (Jvm.Cond.methodLink "GriefEngineModel" (249 : Nat) ({ cls := "GriefEngineModel", name := "takesDriver", desc := "()Z" } : Jvm.MethodName)) ∈ GW := in_t5 (List.mem_of_getElem? (i := 136) (by decide +kernel)) (by decide +kernel)
theorem tw5_138 : (Jvm.Cond.instanceMethod ({ cls := "GriefEngineModel", name := "takesDriver", desc := "()Z" } : Jvm.MethodName)) ∈ GW := in_t5 (List.mem_of_getElem? (i := 138) (by decide +kernel)) (by decide +kernel)
theorem tw5_139 : (Jvm.Cond.code ({ cls := "GriefEngineModel", name := "takesDriver", desc := "()Z" } : Jvm.MethodName) prog_13_method_65_code (1 : Nat) (Option.some Jvm.ClassFile.FieldType.boolean)) ∈ GW := in_t5 (List.mem_of_getElem? (i := 139) (by decide +kernel)) (by decide +kernel)
theorem tw5_140 : (Jvm.Cond.methodLink "GriefEngineModel" (241 : Nat) ({ cls := "GriefEngineModel", name := "takes", desc := "(III)Z" } : Jvm.MethodName)) ∈ GW := in_t5 (List.mem_of_getElem? (i := 140) (by decide +kernel)) (by decide +kernel)
theorem tw5_142 : (Jvm.Cond.instanceMethod ({ cls := "GriefEngineModel", name := "takes", desc := "(III)Z" } : Jvm.MethodName)) ∈ GW := in_t5 (List.mem_of_getElem? (i := 142) (by decide +kernel)) (by decide +kernel)
theorem tw5_143 : (Jvm.Cond.code ({ cls := "GriefEngineModel", name := "takes", desc := "(III)Z" } : Jvm.MethodName) prog_13_method_64_code (4 : Nat) (Option.some Jvm.ClassFile.FieldType.boolean)) ∈ GW := in_t5 (List.mem_of_getElem? (i := 143) (by decide +kernel)) (by decide +kernel)
theorem tw5_144 : (Jvm.Cond.methodLink "GriefEngineModel" (253 : Nat) ({ cls := "GriefEngineModel", name := "takesDays", desc := "()Z" } : Jvm.MethodName)) ∈ GW := in_t5 (List.mem_of_getElem? (i := 144) (by decide +kernel)) (by decide +kernel)
theorem tw5_146 : (Jvm.Cond.instanceMethod ({ cls := "GriefEngineModel", name := "takesDays", desc := "()Z" } : Jvm.MethodName)) ∈ GW := in_t5 (List.mem_of_getElem? (i := 146) (by decide +kernel)) (by decide +kernel)
theorem tw5_147 : (Jvm.Cond.code ({ cls := "GriefEngineModel", name := "takesDays", desc := "()Z" } : Jvm.MethodName) prog_13_method_66_code (3 : Nat) (Option.some Jvm.ClassFile.FieldType.boolean)) ∈ GW := in_t5 (List.mem_of_getElem? (i := 147) (by decide +kernel)) (by decide +kernel)
theorem tw5_148 : (Jvm.Cond.methodLink "GriefEngineLaw" (123 : Nat) ({ cls := "GriefEngineModel", name := "part", desc := "(I)J" } : Jvm.MethodName)) ∈ GW := in_t5 (List.mem_of_getElem? (i := 148) (by decide +kernel)) (by decide +kernel)
theorem tw5_149 : (Jvm.Cond.instanceMethod ({ cls := "GriefEngineModel", name := "part", desc := "(I)J" } : Jvm.MethodName)) ∈ GW := in_t5 (List.mem_of_getElem? (i := 149) (by decide +kernel)) (by decide +kernel)
theorem tw5_150 : (Jvm.Cond.selects "GriefEngineModel" ({ cls := "GriefEngineModel", name := "part", desc := "(I)J" } : Jvm.MethodName) ({ cls := "GriefEngineModel", name := "part", desc := "(I)J" } : Jvm.MethodName)) ∈ GW := in_t5 (List.mem_of_getElem? (i := 150) (by decide +kernel)) (by decide +kernel)
theorem tw5_151 : (Jvm.Cond.code ({ cls := "GriefEngineModel", name := "part", desc := "(I)J" } : Jvm.MethodName) prog_13_method_69_code (2 : Nat) (Option.some Jvm.ClassFile.FieldType.long)) ∈ GW := in_t5 (List.mem_of_getElem? (i := 151) (by decide +kernel)) (by decide +kernel)
theorem tw5_152 : (Jvm.Cond.methodLink "GriefEngineLaw" (127 : Nat) ({ cls := "GriefEngineModel", name := "image", desc := "(I)I" } : Jvm.MethodName)) ∈ GW := in_t5 (List.mem_of_getElem? (i := 152) (by decide +kernel)) (by decide +kernel)
theorem tw5_153 : (Jvm.Cond.instanceMethod ({ cls := "GriefEngineModel", name := "image", desc := "(I)I" } : Jvm.MethodName)) ∈ GW := in_t5 (List.mem_of_getElem? (i := 153) (by decide +kernel)) (by decide +kernel)
theorem tw5_154 : (Jvm.Cond.selects "GriefEngineModel" ({ cls := "GriefEngineModel", name := "image", desc := "(I)I" } : Jvm.MethodName) ({ cls := "GriefEngineModel", name := "image", desc := "(I)I" } : Jvm.MethodName)) ∈ GW := in_t5 (List.mem_of_getElem? (i := 154) (by decide +kernel)) (by decide +kernel)
theorem tw5_155 : (Jvm.Cond.code ({ cls := "GriefEngineModel", name := "image", desc := "(I)I" } : Jvm.MethodName) prog_13_method_70_code (3 : Nat) (Option.some Jvm.ClassFile.FieldType.int)) ∈ GW := in_t5 (List.mem_of_getElem? (i := 155) (by decide +kernel)) (by decide +kernel)
theorem tw5_156 : (Jvm.Cond.methodLink "GriefEngineLaw" (131 : Nat) ({ cls := "GriefEngineModel", name := "from", desc := "(I)I" } : Jvm.MethodName)) ∈ GW := in_t5 (List.mem_of_getElem? (i := 156) (by decide +kernel)) (by decide +kernel)
theorem tw5_157 : (Jvm.Cond.instanceMethod ({ cls := "GriefEngineModel", name := "from", desc := "(I)I" } : Jvm.MethodName)) ∈ GW := in_t5 (List.mem_of_getElem? (i := 157) (by decide +kernel)) (by decide +kernel)
theorem tw5_158 : (Jvm.Cond.selects "GriefEngineModel" ({ cls := "GriefEngineModel", name := "from", desc := "(I)I" } : Jvm.MethodName) ({ cls := "GriefEngineModel", name := "from", desc := "(I)I" } : Jvm.MethodName)) ∈ GW := in_t5 (List.mem_of_getElem? (i := 158) (by decide +kernel)) (by decide +kernel)
theorem tw5_159 : (Jvm.Cond.code ({ cls := "GriefEngineModel", name := "from", desc := "(I)I" } : Jvm.MethodName) prog_13_method_71_code (3 : Nat) (Option.some Jvm.ClassFile.FieldType.int)) ∈ GW := in_t5 (List.mem_of_getElem? (i := 159) (by decide +kernel)) (by decide +kernel)
theorem tw5_160 : (Jvm.Cond.methodLink "GriefEngineLaw" (135 : Nat) ({ cls := "GriefEngineModel", name := "status", desc := "(I)I" } : Jvm.MethodName)) ∈ GW := in_t5 (List.mem_of_getElem? (i := 160) (by decide +kernel)) (by decide +kernel)
theorem tw5_161 : (Jvm.Cond.instanceMethod ({ cls := "GriefEngineModel", name := "status", desc := "(I)I" } : Jvm.MethodName)) ∈ GW := in_t5 (List.mem_of_getElem? (i := 161) (by decide +kernel)) (by decide +kernel)
theorem tw5_162 : (Jvm.Cond.selects "GriefEngineModel" ({ cls := "GriefEngineModel", name := "status", desc := "(I)I" } : Jvm.MethodName) ({ cls := "GriefEngineModel", name := "status", desc := "(I)I" } : Jvm.MethodName)) ∈ GW := in_t5 (List.mem_of_getElem? (i := 162) (by decide +kernel)) (by decide +kernel)
theorem tw5_163 : (Jvm.Cond.code ({ cls := "GriefEngineModel", name := "status", desc := "(I)I" } : Jvm.MethodName) prog_13_method_72_code (2 : Nat) (Option.some Jvm.ClassFile.FieldType.int)) ∈ GW := in_t5 (List.mem_of_getElem? (i := 163) (by decide +kernel)) (by decide +kernel)
theorem tw5_164 : (Jvm.Cond.methodLink "GriefEngineLaw" (139 : Nat) ({ cls := "GriefEngineModel", name := "count", desc := "(I)I" } : Jvm.MethodName)) ∈ GW := in_t5 (List.mem_of_getElem? (i := 164) (by decide +kernel)) (by decide +kernel)
theorem tw5_165 : (Jvm.Cond.instanceMethod ({ cls := "GriefEngineModel", name := "count", desc := "(I)I" } : Jvm.MethodName)) ∈ GW := in_t5 (List.mem_of_getElem? (i := 165) (by decide +kernel)) (by decide +kernel)
theorem tw5_166 : (Jvm.Cond.selects "GriefEngineModel" ({ cls := "GriefEngineModel", name := "count", desc := "(I)I" } : Jvm.MethodName) ({ cls := "GriefEngineModel", name := "count", desc := "(I)I" } : Jvm.MethodName)) ∈ GW := in_t5 (List.mem_of_getElem? (i := 166) (by decide +kernel)) (by decide +kernel)
theorem tw5_167 : (Jvm.Cond.code ({ cls := "GriefEngineModel", name := "count", desc := "(I)I" } : Jvm.MethodName) prog_13_method_75_code (2 : Nat) (Option.some Jvm.ClassFile.FieldType.int)) ∈ GW := in_t5 (List.mem_of_getElem? (i := 167) (by decide +kernel)) (by decide +kernel)
theorem tw5_168 : (Jvm.Cond.methodLink "GriefEngineModel" (262 : Nat) ({ cls := "GriefEngineModel", name := "counted", desc := "(I)I" } : Jvm.MethodName)) ∈ GW := in_t5 (List.mem_of_getElem? (i := 168) (by decide +kernel)) (by decide +kernel)
theorem tw5_170 : (Jvm.Cond.instanceMethod ({ cls := "GriefEngineModel", name := "counted", desc := "(I)I" } : Jvm.MethodName)) ∈ GW := in_t5 (List.mem_of_getElem? (i := 170) (by decide +kernel)) (by decide +kernel)
theorem tw5_171 : (Jvm.Cond.code ({ cls := "GriefEngineModel", name := "counted", desc := "(I)I" } : Jvm.MethodName) prog_13_method_74_code (2 : Nat) (Option.some Jvm.ClassFile.FieldType.int)) ∈ GW := in_t5 (List.mem_of_getElem? (i := 171) (by decide +kernel)) (by decide +kernel)
theorem tw5_172 : (Jvm.Cond.methodLink "GriefEngineModel" (259 : Nat) ({ cls := "GriefEngineModel", name := "allOf", desc := "(I)I" } : Jvm.MethodName)) ∈ GW := in_t5 (List.mem_of_getElem? (i := 172) (by decide +kernel)) (by decide +kernel)
theorem tw5_174 : (Jvm.Cond.instanceMethod ({ cls := "GriefEngineModel", name := "allOf", desc := "(I)I" } : Jvm.MethodName)) ∈ GW := in_t5 (List.mem_of_getElem? (i := 174) (by decide +kernel)) (by decide +kernel)
theorem tw5_175 : (Jvm.Cond.code ({ cls := "GriefEngineModel", name := "allOf", desc := "(I)I" } : Jvm.MethodName) prog_13_method_73_code (4 : Nat) (Option.some Jvm.ClassFile.FieldType.int)) ∈ GW := in_t5 (List.mem_of_getElem? (i := 175) (by decide +kernel)) (by decide +kernel)
theorem tw5_176 : (Jvm.Cond.methodLink "GriefEngineLaw" (144 : Nat) ({ cls := "GriefEngineModel", name := "digest", desc := "()J" } : Jvm.MethodName)) ∈ GW := in_t5 (List.mem_of_getElem? (i := 176) (by decide +kernel)) (by decide +kernel)
theorem tw5_177 : (Jvm.Cond.instanceMethod ({ cls := "GriefEngineModel", name := "digest", desc := "()J" } : Jvm.MethodName)) ∈ GW := in_t5 (List.mem_of_getElem? (i := 177) (by decide +kernel)) (by decide +kernel)
theorem tw5_178 : (Jvm.Cond.selects "GriefEngineModel" ({ cls := "GriefEngineModel", name := "digest", desc := "()J" } : Jvm.MethodName) ({ cls := "GriefEngineModel", name := "digest", desc := "()J" } : Jvm.MethodName)) ∈ GW := in_t5 (List.mem_of_getElem? (i := 178) (by decide +kernel)) (by decide +kernel)
theorem tw5_179 : (Jvm.Cond.code ({ cls := "GriefEngineModel", name := "digest", desc := "()J" } : Jvm.MethodName) prog_13_method_77_code (4 : Nat) (Option.some Jvm.ClassFile.FieldType.long)) ∈ GW := in_t5 (List.mem_of_getElem? (i := 179) (by decide +kernel)) (by decide +kernel)
theorem tw5_180 : (Jvm.Cond.constantLong "GriefEngineModel" (267 : Nat) (1433 : Int64)) ∈ GW := in_t5 (List.mem_of_getElem? (i := 180) (by decide +kernel)) (by decide +kernel)
theorem tw5_181 : (Jvm.Cond.constantLong "GriefEngineModel" (265 : Nat) (31 : Int64)) ∈ GW := in_t5 (List.mem_of_getElem? (i := 181) (by decide +kernel)) (by decide +kernel)
theorem tw5_182 : (Jvm.Cond.methodLink "GriefEngineModel" (269 : Nat) ({ cls := "GriefEngineModel", name := "sums", desc := "(JII)J" } : Jvm.MethodName)) ∈ GW := in_t5 (List.mem_of_getElem? (i := 182) (by decide +kernel)) (by decide +kernel)
theorem tw5_184 : (Jvm.Cond.instanceMethod ({ cls := "GriefEngineModel", name := "sums", desc := "(JII)J" } : Jvm.MethodName)) ∈ GW := in_t5 (List.mem_of_getElem? (i := 184) (by decide +kernel)) (by decide +kernel)
theorem tw5_185 : (Jvm.Cond.code ({ cls := "GriefEngineModel", name := "sums", desc := "(JII)J" } : Jvm.MethodName) prog_13_method_76_code (8 : Nat) (Option.some Jvm.ClassFile.FieldType.long)) ∈ GW := in_t5 (List.mem_of_getElem? (i := 185) (by decide +kernel)) (by decide +kernel)
theorem tw5_186 : (Jvm.Cond.sameMethod "GriefEngine$Spring" "GriefEngine$Spring" "runs" "(II)I") ∈ GW := in_t5 (List.mem_of_getElem? (i := 186) (by decide +kernel)) (by decide +kernel)
theorem tw5_192 : (Jvm.Cond.fieldLink "java/lang/String" (9 : Nat) "java/lang/String" "value" "[B") ∈ GW := in_t5 (List.mem_of_getElem? (i := 192) (by decide +kernel)) (by decide +kernel)
theorem tw5_193 : (Jvm.Cond.fieldLink "java/lang/String" (15 : Nat) "java/lang/String" "coder" "B") ∈ GW := in_t5 (List.mem_of_getElem? (i := 193) (by decide +kernel)) (by decide +kernel)
theorem ts_0 : (Cond.selects "GriefEngine" ({ cls := "GriefEngine", name := "refuse", desc := "(I)I" } : Jvm.MethodName) ({ cls := "GriefEngine", name := "refuse", desc := "(I)I" } : Jvm.MethodName)) ∈ GW := List.mem_filter.mpr ⟨List.mem_append_left _ (List.mem_of_getElem? (i := 0) (by decide +kernel)), by decide +kernel⟩
theorem ts_1 : (Cond.selects "GriefEngine" ({ cls := "GriefEngine", name := "refuseIfFull", desc := "(I)I" } : Jvm.MethodName) ({ cls := "GriefEngine", name := "refuseIfFull", desc := "(I)I" } : Jvm.MethodName)) ∈ GW := List.mem_filter.mpr ⟨List.mem_append_left _ (List.mem_of_getElem? (i := 1) (by decide +kernel)), by decide +kernel⟩
theorem ts_2 : (Cond.selects "GriefEngine$Text" ({ cls := "GriefEngine$Text", name := "advance", desc := "()V" } : Jvm.MethodName) ({ cls := "GriefEngine$Text", name := "advance", desc := "()V" } : Jvm.MethodName)) ∈ GW := List.mem_filter.mpr ⟨List.mem_append_left _ (List.mem_of_getElem? (i := 2) (by decide +kernel)), by decide +kernel⟩
theorem ts_3 : (Cond.selects "GriefEngine$Text" ({ cls := "GriefEngine$Text", name := "runEnd", desc := "(ICC)I" } : Jvm.MethodName) ({ cls := "GriefEngine$Text", name := "runEnd", desc := "(ICC)I" } : Jvm.MethodName)) ∈ GW := List.mem_filter.mpr ⟨List.mem_append_left _ (List.mem_of_getElem? (i := 3) (by decide +kernel)), by decide +kernel⟩
theorem ts_4 : (Cond.selects "GriefEngine$Text" ({ cls := "GriefEngine$Text", name := "isBetween", desc := "(ICC)Z" } : Jvm.MethodName) ({ cls := "GriefEngine$Text", name := "isBetween", desc := "(ICC)Z" } : Jvm.MethodName)) ∈ GW := List.mem_filter.mpr ⟨List.mem_append_left _ (List.mem_of_getElem? (i := 4) (by decide +kernel)), by decide +kernel⟩
theorem ts_5 : (Cond.selects "GriefEngine$Text" ({ cls := "GriefEngine$Text", name := "valueOfRun", desc := "()I" } : Jvm.MethodName) ({ cls := "GriefEngine$Text", name := "valueOfRun", desc := "()I" } : Jvm.MethodName)) ∈ GW := List.mem_filter.mpr ⟨List.mem_append_left _ (List.mem_of_getElem? (i := 5) (by decide +kernel)), by decide +kernel⟩
theorem ts_6 : (Cond.selects "GriefEngine$Text" ({ cls := "GriefEngine$Text", name := "isWord", desc := "(Ljava/lang/String;)Z" } : Jvm.MethodName) ({ cls := "GriefEngine$Text", name := "isWord", desc := "(Ljava/lang/String;)Z" } : Jvm.MethodName)) ∈ GW := List.mem_filter.mpr ⟨List.mem_append_left _ (List.mem_of_getElem? (i := 6) (by decide +kernel)), by decide +kernel⟩
theorem ts_7 : (Cond.selects "GriefEngine$Text" ({ cls := "GriefEngine$Text", name := "takesStop", desc := "()Z" } : Jvm.MethodName) ({ cls := "GriefEngine$Text", name := "takesStop", desc := "()Z" } : Jvm.MethodName)) ∈ GW := List.mem_filter.mpr ⟨List.mem_append_left _ (List.mem_of_getElem? (i := 7) (by decide +kernel)), by decide +kernel⟩
theorem ts_8 : (Cond.selects "GriefEngine$Text" ({ cls := "GriefEngine$Text", name := "takesNumber", desc := "(II)Z" } : Jvm.MethodName) ({ cls := "GriefEngine$Text", name := "takesNumber", desc := "(II)Z" } : Jvm.MethodName)) ∈ GW := List.mem_filter.mpr ⟨List.mem_append_left _ (List.mem_of_getElem? (i := 8) (by decide +kernel)), by decide +kernel⟩
theorem ts_9 : (Cond.selects "GriefEngine$Rows" ({ cls := "GriefEngine$Rows", name := "reckonBefore", desc := "()V" } : Jvm.MethodName) ({ cls := "GriefEngine$Rows", name := "reckonBefore", desc := "()V" } : Jvm.MethodName)) ∈ GW := List.mem_filter.mpr ⟨List.mem_append_left _ (List.mem_of_getElem? (i := 9) (by decide +kernel)), by decide +kernel⟩
theorem ts_10 : (Cond.selects "GriefEngine$Rows" ({ cls := "GriefEngine$Rows", name := "spread", desc := "(II)V" } : Jvm.MethodName) ({ cls := "GriefEngine$Rows", name := "spread", desc := "(II)V" } : Jvm.MethodName)) ∈ GW := List.mem_filter.mpr ⟨List.mem_append_left _ (List.mem_of_getElem? (i := 10) (by decide +kernel)), by decide +kernel⟩
theorem ts_11 : (Cond.selects "GriefEngine$Rows" ({ cls := "GriefEngine$Rows", name := "reckonAfter", desc := "()V" } : Jvm.MethodName) ({ cls := "GriefEngine$Rows", name := "reckonAfter", desc := "()V" } : Jvm.MethodName)) ∈ GW := List.mem_filter.mpr ⟨List.mem_append_left _ (List.mem_of_getElem? (i := 11) (by decide +kernel)), by decide +kernel⟩
theorem ts_12 : (Cond.selects "GriefEngine$Rows" ({ cls := "GriefEngine$Rows", name := "milesBy", desc := "(III)I" } : Jvm.MethodName) ({ cls := "GriefEngine$Rows", name := "milesBy", desc := "(III)I" } : Jvm.MethodName)) ∈ GW := List.mem_filter.mpr ⟨List.mem_append_left _ (List.mem_of_getElem? (i := 12) (by decide +kernel)), by decide +kernel⟩
theorem ts_13 : (Cond.selects "GriefEngine$Rows" ({ cls := "GriefEngine$Rows", name := "firstBestChoice", desc := "(II)I" } : Jvm.MethodName) ({ cls := "GriefEngine$Rows", name := "firstBestChoice", desc := "(II)I" } : Jvm.MethodName)) ∈ GW := List.mem_filter.mpr ⟨List.mem_append_left _ (List.mem_of_getElem? (i := 13) (by decide +kernel)), by decide +kernel⟩
theorem ts_14 : (Cond.selects "GriefEngine$Rows" ({ cls := "GriefEngine$Rows", name := "farthestTurnAt", desc := "(I)I" } : Jvm.MethodName) ({ cls := "GriefEngine$Rows", name := "farthestTurnAt", desc := "(I)I" } : Jvm.MethodName)) ∈ GW := List.mem_filter.mpr ⟨List.mem_append_left _ (List.mem_of_getElem? (i := 14) (by decide +kernel)), by decide +kernel⟩
theorem ts_15 : (Cond.selects "GriefEngine$Pairs" ({ cls := "GriefEngine$Pairs", name := "keepIfBetter", desc := "(I)V" } : Jvm.MethodName) ({ cls := "GriefEngine$Pairs", name := "keepIfBetter", desc := "(I)V" } : Jvm.MethodName)) ∈ GW := List.mem_filter.mpr ⟨List.mem_append_left _ (List.mem_of_getElem? (i := 15) (by decide +kernel)), by decide +kernel⟩
theorem ts_16 : (Cond.selects "GriefEngine" ({ cls := "GriefEngine", name := "kindsThatFit", desc := "(I)I" } : Jvm.MethodName) ({ cls := "GriefEngine", name := "kindsThatFit", desc := "(I)I" } : Jvm.MethodName)) ∈ GW := List.mem_filter.mpr ⟨List.mem_append_left _ (List.mem_of_getElem? (i := 16) (by decide +kernel)), by decide +kernel⟩
theorem ts_17 : (Cond.selects "GriefEngine" ({ cls := "GriefEngine", name := "bestMorning", desc := "(II)I" } : Jvm.MethodName) ({ cls := "GriefEngine", name := "bestMorning", desc := "(II)I" } : Jvm.MethodName)) ∈ GW := List.mem_filter.mpr ⟨List.mem_append_left _ (List.mem_of_getElem? (i := 17) (by decide +kernel)), by decide +kernel⟩
theorem ts_18 : (Cond.selects "GriefEngine" ({ cls := "GriefEngine", name := "mostAlike", desc := "(IIII)I" } : Jvm.MethodName) ({ cls := "GriefEngine", name := "mostAlike", desc := "(IIII)I" } : Jvm.MethodName)) ∈ GW := List.mem_filter.mpr ⟨List.mem_append_left _ (List.mem_of_getElem? (i := 18) (by decide +kernel)), by decide +kernel⟩
theorem ts_19 : (Cond.selects "GriefEngine" ({ cls := "GriefEngine", name := "isContent", desc := "(IZZ)Z" } : Jvm.MethodName) ({ cls := "GriefEngine", name := "isContent", desc := "(IZZ)Z" } : Jvm.MethodName)) ∈ GW := List.mem_filter.mpr ⟨List.mem_append_left _ (List.mem_of_getElem? (i := 19) (by decide +kernel)), by decide +kernel⟩
theorem ts_20 : (Cond.selects "GriefEngine" ({ cls := "GriefEngine", name := "worthToday", desc := "(IZZ)I" } : Jvm.MethodName) ({ cls := "GriefEngine", name := "worthToday", desc := "(IZZ)I" } : Jvm.MethodName)) ∈ GW := List.mem_filter.mpr ⟨List.mem_append_left _ (List.mem_of_getElem? (i := 20) (by decide +kernel)), by decide +kernel⟩
theorem ts_21 : (Cond.selects "GriefEngine" ({ cls := "GriefEngine", name := "setFraction", desc := "(JJ)V" } : Jvm.MethodName) ({ cls := "GriefEngine", name := "setFraction", desc := "(JJ)V" } : Jvm.MethodName)) ∈ GW := List.mem_filter.mpr ⟨List.mem_append_left _ (List.mem_of_getElem? (i := 21) (by decide +kernel)), by decide +kernel⟩
theorem ts_22 : (Cond.selects "GriefEngineModel" ({ cls := "GriefEngineModel", name := "many", desc := "()I" } : Jvm.MethodName) ({ cls := "GriefEngineModel", name := "many", desc := "()I" } : Jvm.MethodName)) ∈ GW := List.mem_filter.mpr ⟨List.mem_append_left _ (List.mem_of_getElem? (i := 22) (by decide +kernel)), by decide +kernel⟩
theorem ts_23 : (Cond.selects "GriefEngineModel" ({ cls := "GriefEngineModel", name := "bad", desc := "(I)I" } : Jvm.MethodName) ({ cls := "GriefEngineModel", name := "bad", desc := "(I)I" } : Jvm.MethodName)) ∈ GW := List.mem_filter.mpr ⟨List.mem_append_left _ (List.mem_of_getElem? (i := 23) (by decide +kernel)), by decide +kernel⟩
theorem ts_24 : (Cond.selects "GriefEngineModel" ({ cls := "GriefEngineModel", name := "full", desc := "()I" } : Jvm.MethodName) ({ cls := "GriefEngineModel", name := "full", desc := "()I" } : Jvm.MethodName)) ∈ GW := List.mem_filter.mpr ⟨List.mem_append_left _ (List.mem_of_getElem? (i := 24) (by decide +kernel)), by decide +kernel⟩
theorem ts_25 : (Cond.selects "GriefEngineModel" ({ cls := "GriefEngineModel", name := "keep", desc := "()V" } : Jvm.MethodName) ({ cls := "GriefEngineModel", name := "keep", desc := "()V" } : Jvm.MethodName)) ∈ GW := List.mem_filter.mpr ⟨List.mem_append_left _ (List.mem_of_getElem? (i := 25) (by decide +kernel)), by decide +kernel⟩
theorem ts_26 : (Cond.selects "GriefEngineModel" ({ cls := "GriefEngineModel", name := "passDay", desc := "([III)I" } : Jvm.MethodName) ({ cls := "GriefEngineModel", name := "passDay", desc := "([III)I" } : Jvm.MethodName)) ∈ GW := List.mem_filter.mpr ⟨List.mem_append_left _ (List.mem_of_getElem? (i := 26) (by decide +kernel)), by decide +kernel⟩
theorem ts_27 : (Cond.selects "GriefEngineModel" ({ cls := "GriefEngineModel", name := "goDay", desc := "(III)V" } : Jvm.MethodName) ({ cls := "GriefEngineModel", name := "goDay", desc := "(III)V" } : Jvm.MethodName)) ∈ GW := List.mem_filter.mpr ⟨List.mem_append_left _ (List.mem_of_getElem? (i := 27) (by decide +kernel)), by decide +kernel⟩
theorem ts_28 : (Cond.selects "GriefEngineModel" ({ cls := "GriefEngineModel", name := "isDriver", desc := "(I)Z" } : Jvm.MethodName) ({ cls := "GriefEngineModel", name := "isDriver", desc := "(I)Z" } : Jvm.MethodName)) ∈ GW := List.mem_filter.mpr ⟨List.mem_append_left _ (List.mem_of_getElem? (i := 28) (by decide +kernel)), by decide +kernel⟩
theorem ts_29 : (Cond.selects "GriefEngineModel" ({ cls := "GriefEngineModel", name := "no", desc := "()I" } : Jvm.MethodName) ({ cls := "GriefEngineModel", name := "no", desc := "()I" } : Jvm.MethodName)) ∈ GW := List.mem_filter.mpr ⟨List.mem_append_left _ (List.mem_of_getElem? (i := 29) (by decide +kernel)), by decide +kernel⟩
theorem ts_30 : (Cond.selects "GriefEngineModel" ({ cls := "GriefEngineModel", name := "kindOf", desc := "(I)I" } : Jvm.MethodName) ({ cls := "GriefEngineModel", name := "kindOf", desc := "(I)I" } : Jvm.MethodName)) ∈ GW := List.mem_filter.mpr ⟨List.mem_append_left _ (List.mem_of_getElem? (i := 30) (by decide +kernel)), by decide +kernel⟩
theorem ts_31 : (Cond.selects "GriefEngineModel" ({ cls := "GriefEngineModel", name := "layOne", desc := "(I)V" } : Jvm.MethodName) ({ cls := "GriefEngineModel", name := "layOne", desc := "(I)V" } : Jvm.MethodName)) ∈ GW := List.mem_filter.mpr ⟨List.mem_append_left _ (List.mem_of_getElem? (i := 31) (by decide +kernel)), by decide +kernel⟩
theorem ts_32 : (Cond.selects "GriefEngineModel" ({ cls := "GriefEngineModel", name := "mostIn", desc := "(II)I" } : Jvm.MethodName) ({ cls := "GriefEngineModel", name := "mostIn", desc := "(II)I" } : Jvm.MethodName)) ∈ GW := List.mem_filter.mpr ⟨List.mem_append_left _ (List.mem_of_getElem? (i := 32) (by decide +kernel)), by decide +kernel⟩
theorem ts_33 : (Cond.selects "GriefEngineModel" ({ cls := "GriefEngineModel", name := "milesBy", desc := "(IIIII)I" } : Jvm.MethodName) ({ cls := "GriefEngineModel", name := "milesBy", desc := "(IIIII)I" } : Jvm.MethodName)) ∈ GW := List.mem_filter.mpr ⟨List.mem_append_left _ (List.mem_of_getElem? (i := 33) (by decide +kernel)), by decide +kernel⟩
theorem ts_34 : (Cond.selects "GriefEngineModel" ({ cls := "GriefEngineModel", name := "pairsBy", desc := "(II)I" } : Jvm.MethodName) ({ cls := "GriefEngineModel", name := "pairsBy", desc := "(II)I" } : Jvm.MethodName)) ∈ GW := List.mem_filter.mpr ⟨List.mem_append_left _ (List.mem_of_getElem? (i := 34) (by decide +kernel)), by decide +kernel⟩
theorem ts_35 : (Cond.selects "GriefEngineModel" ({ cls := "GriefEngineModel", name := "worthOf", desc := "(II)I" } : Jvm.MethodName) ({ cls := "GriefEngineModel", name := "worthOf", desc := "(II)I" } : Jvm.MethodName)) ∈ GW := List.mem_filter.mpr ⟨List.mem_append_left _ (List.mem_of_getElem? (i := 35) (by decide +kernel)), by decide +kernel⟩
theorem ts_36 : (Cond.selects "GriefEngineModel" ({ cls := "GriefEngineModel", name := "kindsOf", desc := "(I)I" } : Jvm.MethodName) ({ cls := "GriefEngineModel", name := "kindsOf", desc := "(I)I" } : Jvm.MethodName)) ∈ GW := List.mem_filter.mpr ⟨List.mem_append_left _ (List.mem_of_getElem? (i := 36) (by decide +kernel)), by decide +kernel⟩
theorem ts_37 : (Cond.selects "GriefEngineModel" ({ cls := "GriefEngineModel", name := "fits", desc := "(II)Z" } : Jvm.MethodName) ({ cls := "GriefEngineModel", name := "fits", desc := "(II)Z" } : Jvm.MethodName)) ∈ GW := List.mem_filter.mpr ⟨List.mem_append_left _ (List.mem_of_getElem? (i := 37) (by decide +kernel)), by decide +kernel⟩
theorem ts_38 : (Cond.selects "GriefEngineModel" ({ cls := "GriefEngineModel", name := "getsBy", desc := "(IZZ)I" } : Jvm.MethodName) ({ cls := "GriefEngineModel", name := "getsBy", desc := "(IZZ)I" } : Jvm.MethodName)) ∈ GW := List.mem_filter.mpr ⟨List.mem_append_left _ (List.mem_of_getElem? (i := 38) (by decide +kernel)), by decide +kernel⟩
theorem ts_39 : (Cond.selects "GriefEngineModel" ({ cls := "GriefEngineModel", name := "fraction", desc := "(JJ)V" } : Jvm.MethodName) ({ cls := "GriefEngineModel", name := "fraction", desc := "(JJ)V" } : Jvm.MethodName)) ∈ GW := List.mem_filter.mpr ⟨List.mem_append_left _ (List.mem_of_getElem? (i := 39) (by decide +kernel)), by decide +kernel⟩
theorem ts_40 : (Cond.selects "GriefEngineModel" ({ cls := "GriefEngineModel", name := "lookAt", desc := "(I)V" } : Jvm.MethodName) ({ cls := "GriefEngineModel", name := "lookAt", desc := "(I)V" } : Jvm.MethodName)) ∈ GW := List.mem_filter.mpr ⟨List.mem_append_left _ (List.mem_of_getElem? (i := 40) (by decide +kernel)), by decide +kernel⟩
theorem ts_41 : (Cond.selects "GriefEngineModel" ({ cls := "GriefEngineModel", name := "spells", desc := "(IIIIIII)Z" } : Jvm.MethodName) ({ cls := "GriefEngineModel", name := "spells", desc := "(IIIIIII)Z" } : Jvm.MethodName)) ∈ GW := List.mem_filter.mpr ⟨List.mem_append_left _ (List.mem_of_getElem? (i := 41) (by decide +kernel)), by decide +kernel⟩
theorem ts_42 : (Cond.selects "GriefEngineModel" ({ cls := "GriefEngineModel", name := "goBehind", desc := "()V" } : Jvm.MethodName) ({ cls := "GriefEngineModel", name := "goBehind", desc := "()V" } : Jvm.MethodName)) ∈ GW := List.mem_filter.mpr ⟨List.mem_append_left _ (List.mem_of_getElem? (i := 42) (by decide +kernel)), by decide +kernel⟩
theorem ts_43 : (Cond.selects "GriefEngineModel" ({ cls := "GriefEngineModel", name := "takesItem", desc := "()Z" } : Jvm.MethodName) ({ cls := "GriefEngineModel", name := "takesItem", desc := "()Z" } : Jvm.MethodName)) ∈ GW := List.mem_filter.mpr ⟨List.mem_append_left _ (List.mem_of_getElem? (i := 43) (by decide +kernel)), by decide +kernel⟩
theorem ts_44 : (Cond.selects "GriefEngineModel" ({ cls := "GriefEngineModel", name := "takesDriver", desc := "()Z" } : Jvm.MethodName) ({ cls := "GriefEngineModel", name := "takesDriver", desc := "()Z" } : Jvm.MethodName)) ∈ GW := List.mem_filter.mpr ⟨List.mem_append_left _ (List.mem_of_getElem? (i := 44) (by decide +kernel)), by decide +kernel⟩
theorem ts_45 : (Cond.selects "GriefEngineModel" ({ cls := "GriefEngineModel", name := "takes", desc := "(III)Z" } : Jvm.MethodName) ({ cls := "GriefEngineModel", name := "takes", desc := "(III)Z" } : Jvm.MethodName)) ∈ GW := List.mem_filter.mpr ⟨List.mem_append_left _ (List.mem_of_getElem? (i := 45) (by decide +kernel)), by decide +kernel⟩
theorem ts_46 : (Cond.selects "GriefEngineModel" ({ cls := "GriefEngineModel", name := "takesDays", desc := "()Z" } : Jvm.MethodName) ({ cls := "GriefEngineModel", name := "takesDays", desc := "()Z" } : Jvm.MethodName)) ∈ GW := List.mem_filter.mpr ⟨List.mem_append_left _ (List.mem_of_getElem? (i := 46) (by decide +kernel)), by decide +kernel⟩
theorem ts_47 : (Cond.selects "GriefEngineModel" ({ cls := "GriefEngineModel", name := "counted", desc := "(I)I" } : Jvm.MethodName) ({ cls := "GriefEngineModel", name := "counted", desc := "(I)I" } : Jvm.MethodName)) ∈ GW := List.mem_filter.mpr ⟨List.mem_append_left _ (List.mem_of_getElem? (i := 47) (by decide +kernel)), by decide +kernel⟩
theorem ts_48 : (Cond.selects "GriefEngineModel" ({ cls := "GriefEngineModel", name := "allOf", desc := "(I)I" } : Jvm.MethodName) ({ cls := "GriefEngineModel", name := "allOf", desc := "(I)I" } : Jvm.MethodName)) ∈ GW := List.mem_filter.mpr ⟨List.mem_append_left _ (List.mem_of_getElem? (i := 48) (by decide +kernel)), by decide +kernel⟩
theorem ts_49 : (Cond.selects "GriefEngineModel" ({ cls := "GriefEngineModel", name := "sums", desc := "(JII)J" } : Jvm.MethodName) ({ cls := "GriefEngineModel", name := "sums", desc := "(JII)J" } : Jvm.MethodName)) ∈ GW := List.mem_filter.mpr ⟨List.mem_append_left _ (List.mem_of_getElem? (i := 49) (by decide +kernel)), by decide +kernel⟩
theorem inGX10 : ∀ w ∈ wsX100, w ∈ GW := fun w h => by
  obtain ⟨k, hk, rfl⟩ := List.mem_map.mp h
  have hk := List.mem_range.mp hk
  match k, hk with
  | 0, _ => exact tw1_234
  | 1, _ => exact tw1_236
  | 2, _ => exact tw1_238
  | 3, _ => exact tw2_0
  | 4, _ => exact tw2_2
  | 5, _ => exact tw2_4
  | 6, _ => exact tw2_6
  | 7, _ => exact tw2_8
  | 8, _ => exact tw2_10
  | 9, _ => exact tw2_12
  | 10, _ => exact tw2_14
  | k + 11, hk => exact absurd hk (by omega)
theorem inGX11 : ∀ w ∈ wsX110, w ∈ GW := fun w h => by
  obtain ⟨k, hk, rfl⟩ := List.mem_map.mp h
  have hk := List.mem_range.mp hk
  match k, hk with
  | 0, _ => exact tw4_81
  | 1, _ => exact tw4_83
  | 2, _ => exact tw4_85
  | 3, _ => exact tw4_87
  | 4, _ => exact tw4_89
  | 5, _ => exact tw4_91
  | 6, _ => exact tw4_93
  | 7, _ => exact tw4_95
  | 8, _ => exact tw4_97
  | 9, _ => exact tw4_99
  | 10, _ => exact tw4_101
  | 11, _ => exact tw4_103
  | 12, _ => exact tw4_105
  | 13, _ => exact tw4_107
  | 14, _ => exact tw4_109
  | 15, _ => exact tw4_111
  | 16, _ => exact tw4_113
  | 17, _ => exact tw4_115
  | 18, _ => exact tw4_117
  | 19, _ => exact tw4_119
  | k + 20, hk => exact absurd hk (by omega)
theorem inGX4 : ∀ w ∈ wsX40, w ∈ GW := fun w h => by
  obtain ⟨k, hk, rfl⟩ := List.mem_map.mp h
  have hk := List.mem_range.mp hk
  match k, hk with
  | 0, _ => exact tw1_104
  | 1, _ => exact tw1_106
  | 2, _ => exact tw1_108
  | 3, _ => exact tw1_110
  | 4, _ => exact tw1_112
  | 5, _ => exact tw1_114
  | 6, _ => exact tw1_116
  | 7, _ => exact tw1_118
  | 8, _ => exact tw1_120
  | 9, _ => exact tw1_122
  | 10, _ => exact tw1_124
  | 11, _ => exact tw1_126
  | k + 12, hk => exact absurd hk (by omega)
theorem inGX9 : ∀ w ∈ wsX90, w ∈ GW := fun w h => by
  obtain ⟨k, hk, rfl⟩ := List.mem_map.mp h
  have hk := List.mem_range.mp hk
  match k, hk with
  | 0, _ => exact tw1_153
  | 1, _ => exact tw1_155
  | 2, _ => exact tw1_157
  | 3, _ => exact tw1_159
  | 4, _ => exact tw1_161
  | 5, _ => exact tw1_163
  | 6, _ => exact tw1_165
  | 7, _ => exact tw1_167
  | 8, _ => exact tw1_169
  | 9, _ => exact tw1_171
  | k + 10, hk => exact absurd hk (by omega)
theorem inGX5 : ∀ w ∈ wsX50, w ∈ GW := fun w h => by
  obtain ⟨k, hk, rfl⟩ := List.mem_map.mp h
  have hk := List.mem_range.mp hk
  match k, hk with
  | 0, _ => exact tw1_192
  | 1, _ => exact tw1_194
  | 2, _ => exact tw1_196
  | 3, _ => exact tw1_198
  | 4, _ => exact tw1_200
  | 5, _ => exact tw1_202
  | k + 6, hk => exact absurd hk (by omega)
theorem inGX2 : ∀ w ∈ wsX20, w ∈ GW := fun w h => by
  obtain ⟨k, hk, rfl⟩ := List.mem_map.mp h
  have hk := List.mem_range.mp hk
  match k, hk with
  | 0, _ => exact tw1_216
  | 1, _ => exact tw1_218
  | 2, _ => exact tw1_220
  | k + 3, hk => exact absurd hk (by omega)
theorem inGX3 : ∀ w ∈ wsX30, w ∈ GW := fun w h => by cases h
theorem inGX0 : ∀ w ∈ wsX00, w ∈ GW := fun w h => by cases h
theorem inGX6 : ∀ w ∈ wsX60, w ∈ GW := fun w h => by cases h
theorem inGX7 : ∀ w ∈ wsX70, w ∈ GW := fun w h => by cases h
theorem inGX8 : ∀ w ∈ wsX80, w ∈ GW := fun w h => by cases h
theorem inGX1 : ∀ w ∈ wsX10, w ∈ GW := fun w h => by cases h
end
section
/-! THE WORLD, by groups and fields: a cell is (g, f). g = 0 live, 1 draft, 2 and 3 images (ranks: f = 0 the object, 1 kinds, 2 kind, 3 grief, 4 miles, 5 notes, 6 trips, 7 past, 8 to 13 the six kinds); 4 the engine (0, 1 images, 2 kept, 3 signs, 4 refused); 5 the text (0, 1 bytes); 6 rows (0, 1 before, 2 after, 3 its own plain kind); 7 pairs (0, 1 best, 2 partner); 8, 9 the rows of before, after (f = t + 1); 10 the reference. -/
/-- where each cell lies, the classes, the fields' slots, the array classes, the heap at the law's start -/
abbrev KB : Type := (Nat → Nat → Nat) × (Nat → ClassId) × (Nat → Nat → Nat) × (Nat → ClassId) × Heap
/-- all that changes: arrays of ints, int fields by slot, long fields by slot, a field that holds a kind -/
abbrev TT : Type := (Nat → Nat → Nat → Int32) × (Nat → Nat → Int32) × (Nat → Nat → Int64) × (Nat → Nat × Nat)
abbrev inb (i : Int32) (n : Nat) : Prop := ¬ (i < 0 ∨ n ≤ i.toNatClampNeg)
def sA (T : TT) (g f j : Nat) (x : Int32) : TT := (fun a => if a = g then (fun b => if b = f then (fun i => if i = j then x else T.1 g f i) else T.1 g b) else T.1 a, T.2)
def sI (T : TT) (g k : Nat) (x : Int32) : TT := (T.1, fun a => if a = g then (fun b => if b = k then x else T.2.1 g b) else T.2.1 a, T.2.2)
def sL (T : TT) (g k : Nat) (x : Int64) : TT := (T.1, T.2.1, fun a => if a = g then (fun b => if b = k then x else T.2.2.1 g b) else T.2.2.1 a, T.2.2.2)
def sR (T : TT) (g : Nat) (x : Nat × Nat) : TT := (T.1, T.2.1, T.2.2.1, fun a => if a = g then x else T.2.2.2 a)
def cpA (T : TT) (g0 f0 sp g f dp n : Nat) : TT := (fun a => if a = g then (fun b => if b = f then va_cpy (T.1 g0 f0) (T.1 g f) sp dp n else T.1 g b) else T.1 a, T.2)
def kn (g f : Nat) : Nat := if g = 6 then 0 else f - 8
def ciK (k : Nat) : Nat := match k with
  | 0 => 3
  | 1 => 0
  | 2 => 6
  | 3 => 7
  | 4 => 8
  | _ => 1
def kok (g f : Nat) : Prop := (g = 6 ∧ f = 3) ∨ (g < 4 ∧ 8 ≤ f ∧ f < 14)
def wIA (B : KB) (n : Nat) (a : Nat → Int32) : va_E := .inl (B.2.2.2.1 0, n, .inl a)
def wBA (B : KB) (n : Nat) (a : Nat → Int32) : va_E := .inl (B.2.2.2.1 1, n, .inl a)
def wZA (B : KB) (n : Nat) (a : Nat → Int32) : va_E := .inl (B.2.2.2.1 2, n, .inl a)
def wRA (B : KB) (t n : Nat) (f : Nat → Option Nat) : va_E := .inl (B.2.2.2.1 t, n, .inr (.inr (.inr (.inr f))))
def warr (B : KB) (g f : Nat) (a : Nat → Int32) : va_E :=
  if g < 4 then (if f = 1 then wRA B 3 6 (fun k => some (B.1 g (8 + k))) else if f < 5 then wIA B 6 a else if f = 5 then wIA B 36 a else if f = 6 then wIA B 12 a else if f = 7 then wIA B 104 a else .inr (ciK (f - 8), []))
  else match g, f with
  | 4, 1 => wRA B 4 2 (fun k => some (B.1 (2 + k) 0))
  | 4, 2 => wZA B 2 a
  | 4, 3 => wIA B 6 a
  | 4, _ => wIA B 3 a
  | 5, _ => wBA B 150 a
  | 6, 1 => wRA B 5 8 (fun k => some (B.1 8 (k + 1)))
  | 6, 2 => wRA B 5 8 (fun k => some (B.1 9 (k + 1)))
  | 6, _ => .inr (3, [])
  | 7, _ => wIA B 6 a
  | 8, _ => wIA B 100 a
  | 9, _ => wIA B 100 a
  | _, 1 => wIA B 175 a
  | _, 2 => wIA B 350 a
  | _, 3 => wZA B 2 a
  | _, 4 => wIA B 3 a
  | _, 5 => wIA B 6 a
  | _, 6 => wIA B 6 a
  | _, 7 => wIA B 6 a
  | _, 8 => wIA B 150 a
  | _, 9 => wIA B 71 a
  | _, _ => wIA B 2 a
def wobj (B : KB) (g : Nat) (iv : Nat → Int32) (jv : Nat → Int64) (rv : Nat × Nat) : va_E :=
  if g < 4 then .inr (4, [.ref (B.1 g 1), .ref (B.1 g 2), .ref (B.1 g 3), .ref (B.1 g 4), .ref (B.1 g 5), .ref (B.1 g 6), .ref (B.1 g 7), .int (iv 7), .int (iv 8), .int (iv 9), .int (iv 10), .int (iv 11)])
  else match g with
  | 4 => .inr (10, [.ref (B.1 0 0), .ref (B.1 1 0), .ref (B.1 4 1), .ref (B.1 4 2), .ref (B.1 5 0), .ref (B.1 6 0), .ref (B.1 7 0), .ref (B.1 4 3), .ref (B.1 4 4), .long (jv 9), .long (jv 10)])
  | 5 => .inr (9, [.ref (B.1 5 1), .int (iv 1), .int (iv 2), .int (iv 3), .int (iv 4), .int (iv 5), .int (iv 6), .int (iv 7), .int (iv 8), .int (iv 9)])
  | 6 => .inr (5, [.ref (B.1 6 1), .ref (B.1 6 2), .ref (B.1 rv.1 rv.2), .int (iv 3), .int (iv 4), .int (iv 5)])
  | 7 => .inr (2, [.ref (B.1 7 1), .int (iv 1), .ref (B.1 7 2)])
  | _ => .inr (11, [.ref (B.1 10 1), .ref (B.1 10 2), .ref (B.1 10 3), .ref (B.1 10 4), .long (jv 4), .long (jv 5), .int (iv 6), .int (iv 7), .int (iv 8), .ref (B.1 10 5), .ref (B.1 10 6), .ref (B.1 10 7), .ref (B.1 10 8), .int (iv 13), .int (iv 14), .int (iv 15), .int (iv 16), .int (iv 17), .ref (B.1 10 9), .ref (B.1 10 10)])
def wc (B : KB) (T : TT) (g f : Nat) : va_E := if f = 0 then wobj B g (T.2.1 g) (T.2.2.1 g) (T.2.2.2 g) else warr B g f (T.1 g f)
def okx (g f : Nat) : Bool := match g with
  | 0 => decide (f < 14)
  | 1 => decide (f < 14)
  | 2 => decide (f < 14)
  | 3 => decide (f < 14)
  | 4 => decide (f < 5)
  | 5 => decide (f < 2)
  | 6 => decide (f < 4)
  | 7 => decide (f < 3)
  | 8 => decide (0 < f ∧ f < 9)
  | 9 => decide (0 < f ∧ f < 9)
  | 10 => decide (f < 11)
  | _ => false
def IX : List (Nat × Nat) := ((List.range 11).flatMap fun g => (List.range 14).map fun f => (g, f)).filter (fun x => okx x.1 x.2)
theorem ix_len : IX.length = 97 := by decide +kernel
theorem ix_u : ∀ i, i < 97 → ∀ j, j < 97 → IX[i]? = IX[j]? → i = j := by decide +kernel
theorem ix_in {g f : Nat} (hg : g < 11) (hf : f < 14) (h : okx g f = true) : (g, f) ∈ IX := by
  unfold IX
  rw [List.mem_filter]
  refine ⟨?_, h⟩
  rw [List.mem_flatMap]
  exact ⟨g, List.mem_range.mpr hg, List.mem_map.mpr ⟨f, List.mem_range.mpr hf, rfl⟩⟩
theorem okx_rank {g f : Nat} (hg : g < 4) (hf : f < 14) : okx g f = true := by
  rcases (show g = 0 ∨ g = 1 ∨ g = 2 ∨ g = 3 by omega) with rfl | rfl | rfl | rfl <;> simp [okx, hf]
theorem ix_rank {g f : Nat} (hg : g < 4) (hf : f < 14) : (g, f) ∈ IX := ix_in (by omega) hf (okx_rank hg hf)
def wl (B : KB) (T : TT) : va_W := IX.map fun x => (B.1 x.1 x.2, wc B T x.1 x.2)
theorem wl_at (B : KB) (T : TT) {g f : Nat} (h : (g, f) ∈ IX) : ∃ q0 : Nat, (wl B T)[q0]? = some (B.1 g f, wc B T g f) ∧ ∀ T' : TT, (∀ g' f' : Nat, ¬ (g' = g ∧ f' = f) → wc B T' g' f' = wc B T g' f') → (wl B T).set q0 (B.1 g f, wc B T' g f) = wl B T' := by
  obtain ⟨q0, hq⟩ := List.getElem?_of_mem h
  refine ⟨q0, by unfold wl; rw [List.getElem?_map, hq]; rfl, fun T' hT => ?_⟩
  have hlt : q0 < IX.length := (List.getElem?_eq_some_iff.mp hq).1
  apply List.ext_getElem?
  intro i
  by_cases hi : i = q0
  · subst hi
    unfold wl
    rw [List.getElem?_set_self (by rw [List.length_map]; exact hlt), List.getElem?_map, hq]
    rfl
  · unfold wl
    rw [List.getElem?_set_ne (Ne.symm hi), List.getElem?_map, List.getElem?_map]
    cases hx : IX[i]? with
    | none => rfl
    | some x =>
      have hne : ¬ (x.1 = g ∧ x.2 = f) := fun e => by
        have e2 : x = (g, f) := Prod.ext e.1 e.2
        rw [e2] at hx
        have h1 : i < IX.length := (List.getElem?_eq_some_iff.mp hx).1
        have h2 : q0 < IX.length := (List.getElem?_eq_some_iff.mp hq).1
        rw [ix_len] at h1 h2
        exact hi (ix_u i h1 q0 h2 (hx.trans hq.symm))
      show some (B.1 x.1 x.2, wc B T x.1 x.2) = some (B.1 x.1 x.2, wc B T' x.1 x.2)
      rw [hT x.1 x.2 hne]
/-- what the heap holds -/
def Hh (B : KB) (T : TT) (H : Heap) : Prop := va_P (B.2.1, B.2.2.1) vwCl (wl B T) H ∧ va_D (fun q : Nat => B.2.2.2.2.size ≤ q) (wl B T) ∧ (B.2.2.2.2.size ≤ H.size ∧ ∀ q : Nat, q < B.2.2.2.2.size → H[q]? = B.2.2.2.2[q]?) ∧ kok (T.2.2.2 6).1 (T.2.2.2 6).2
abbrev ktys (B : KB) : List (ClassId × FieldType) := [(B.2.2.2.1 0, .int), (B.2.2.2.1 1, .byte), (B.2.2.2.1 2, .boolean), (B.2.2.2.1 3, .object "GriefEngine$Plain"), (B.2.2.2.1 4, .object "GriefEngine$Rank"), (B.2.2.2.1 5, .array .int)]
abbrev nwX3 : Cond := .methodLinkNest RX3 30 yX10_seasonOf "GriefEngine"
abbrev nwX4 : Cond := .methodLinkNest RX4 90 yX10_seasonOf "GriefEngine"
abbrev nwX5 : Cond := .methodLinkNest RX5 75 yX10_seasonOf "GriefEngine"
/-- what the tables hold -/
def KK (B : KB) (U : State) : Prop := va_K (B.2.1, B.2.2.1) vwCl (ktys B) U ∧ va_Nw nwX3 U ∧ va_Nw nwX4 U ∧ va_Nw nwX5 U
theorem KK.warm {B : KB} {s U : State} (hW : s.WarmedH U.vm) (h : KK B s) : KK B U := ⟨va_K.moved hW.alike h.1, va_Nw.warmM hW h.2.1, va_Nw.warmM hW h.2.2.1, va_Nw.warmM hW h.2.2.2⟩
theorem KK.same {B : KB} {s U : State} (hW : s.vm = U.vm) (h : KK B s) : KK B U := ⟨va_K.moved (by rw [hW]; exact Vm.Alike.refl _) h.1, va_Nw.same rfl hW h.2.1, va_Nw.same rfl hW h.2.2.1, va_Nw.same rfl hW h.2.2.2⟩
abbrev KE := Program × Launch × Env × Room × State × MethodId × Array Value × List Frame × Method × Code × Nat × Nat × (State → Prop)
/-- from here the machine comes to its end -/
def Wk (B : KB) (X : KE) (nL : Nat) (T : TT) (pc : Nat) (lv : List (Nat × Value)) (st : List Value) : Prop :=
  ∀ (H : Heap) (locs : List Loc) (ls : Array Slot), Hh B T H → (∀ q ∈ locs, B.2.2.2.2.size ≤ q.base) → lv_has ls nL lv →
    W X.1 X.2.1 X.2.2.1 X.2.2.2.1 X.2.2.2.2.1 X.2.2.2.2.2.1 X.2.2.2.2.2.2.1 X.2.2.2.2.2.2.2.1 X.2.2.2.2.2.2.2.2.1 X.2.2.2.2.2.2.2.2.2.1 H locs X.2.2.2.2.2.2.2.2.2.2.1 X.2.2.2.2.2.2.2.2.2.2.2.1 X.2.2.2.2.2.2.2.2.2.2.2.2 (F0 X.2.2.2.2.2.1 pc ls st)
/-- what holds all through a method -/
def Cx (B : KB) (X : KE) (own : String) (cc : ByteArray) (nL d : Nat) : Prop :=
  X.1.tables.exec = Jvm.exec ∧ X.2.2.2.2.2.2.2.2.2.1.code = cc ∧ X.2.2.2.2.2.2.2.2.2.1.maxLocals = nL ∧ X.2.2.2.2.1.vm.findClass own = some X.2.2.2.2.2.1.cls ∧ (∀ w ∈ GW, w.before X.2.2.2.2.2.2.1 X.2.2.2.2.1 = true) ∧ KK B X.2.2.2.2.1 ∧ (d ≤ X.2.2.2.1.frames ∧ 64 * d ≤ X.2.2.2.1.locals ∧ X.2.2.2.2.2.2.2.2.2.2.1 ≤ X.2.2.2.1.cells ∧ X.2.2.2.2.2.2.2.2.2.2.2.1 ≤ X.2.2.2.1.slots)
/-- how a method ends: it answers r, the heap holds T1 -/
def Cr (B : KB) (X : KE) (ret : Option FieldType) (r : Option Value) (T1 : TT) : Prop :=
  X.2.2.2.2.2.2.2.2.1.sig.returnType = ret ∧ X.2.2.2.2.2.2.2.2.1.locks = false ∧ X.2.2.2.2.2.2.2.2.2.2.2.2 = MQ X.2.2.2.2.2.2.2.1 (fun _ _ oc t => oc = .returned r ∧ Hh B T1 t.heap) X.2.2.2.2.2.2.1 X.2.2.2.2.1 X.2.2.2.2.2.2.2.2.2.2.1 X.2.2.2.2.2.2.2.2.2.2.2.1 (fun q : Nat => B.2.2.2.2.size ≤ q)
abbrev Rm (d : Nat) : Room := { frames := d, cells := 0, slots := 0, locals := 64 * d }
/-- a method's contract: from T, with the arguments as, it answers r and leaves T1 -/
def Kt (B : KB) (l : Launch) (d : Nat) (y : MethodName) (cc : ByteArray) (maxL : Nat) (ret : Option FieldType) (T : TT) (as : List Value) (r : Option Value) (T1 : TT) : Prop :=
  Met l y (Cond.code y cc maxL ret :: GW) (Rm d) (va_Pc as (fun U => Hh B T U.heap ∧ KK B U)) (fun _ _ oc t => oc = .returned r ∧ Hh B T1 t.heap) 0 0 (fun q : Nat => B.2.2.2.2.size ≤ q)
theorem Kt.of {B : KB} {l : Launch} {d : Nat} {y : MethodName} {cc : ByteArray} {maxL : Nat} {ret : Option FieldType} {T : TT} {as : List Value} {r : Option Value} {T1 : TT} (hy : plainName y.cls = true) (ha : (lg_sl as).length ≤ maxL)
    (body : ∀ X : KE, X.2.1 = l → Cx B X y.cls cc maxL d → Cr B X ret r T1 → Wk B X maxL T 0 (lv_args 0 as) []) : Kt B l d y cc maxL ret T as r T1 := by
  refine Met.ofW (cc := cc) (maxL := maxL) (ret := ret) hy rfl ?_
  intro p e s m args below meth c s₁ Bd hml hv
  obtain ⟨rfl, hH, hK⟩ := hv
  have hts := atoms_spec (ws := Cond.code y cc maxL ret :: GW) Bd.pre
  have hown : s.vm.findClass y.cls = some m.cls := findClass_of_methodNamed Bd.named
  have hl := lv_entry as (n := maxL) ha
  rw [lg_entry_eq]
  exact body (p, l, e, _, s, m, as.toArray, below, meth, c, 0, 0, _) rfl ⟨Bd.exec, Bd.bytes, hml, hown, fun w hw => hts w (List.mem_cons_of_mem _ hw), hK, Nat.le_refl _, Nat.le_refl _, Nat.zero_le _, Nat.zero_le _⟩ ⟨Bd.returns, Bd.notSynchronized, rfl⟩ s.heap [] _ hH (fun q hq => by cases hq) hl
end
section
section KR
variable {B : KB} {X : KE} {own : String} {cc : ByteArray} {nL d : Nat} {T : TT} {pc : Nat} {lv : List (Nat × Value)} {st : List Value} {R : Type} {res : R} {a b : Option R}
theorem k_iadd (C : Cx B X own cc nL d) {x y : Int32} (hd : decode cc pc = .ok (.iadd, 1))  (k : Wk B X nL T (pc + 1) lv (.int (x + y) :: st)) : Wk B X nL T pc lv (.int y :: .int x :: st) := fun H locs ls hH hL hl => lv_iadd C.1 C.2.1 hd  (k H locs ls hH hL hl)
theorem k_isub (C : Cx B X own cc nL d) {x y : Int32} (hd : decode cc pc = .ok (.isub, 1))  (k : Wk B X nL T (pc + 1) lv (.int (x - y) :: st)) : Wk B X nL T pc lv (.int y :: .int x :: st) := fun H locs ls hH hL hl => lv_isub C.1 C.2.1 hd  (k H locs ls hH hL hl)
theorem k_imul (C : Cx B X own cc nL d) {x y : Int32} (hd : decode cc pc = .ok (.imul, 1))  (k : Wk B X nL T (pc + 1) lv (.int (x * y) :: st)) : Wk B X nL T pc lv (.int y :: .int x :: st) := fun H locs ls hH hL hl => lv_imul C.1 C.2.1 hd  (k H locs ls hH hL hl)
theorem k_iand (C : Cx B X own cc nL d) {x y : Int32} (hd : decode cc pc = .ok (.iand, 1))  (k : Wk B X nL T (pc + 1) lv (.int (x &&& y) :: st)) : Wk B X nL T pc lv (.int y :: .int x :: st) := fun H locs ls hH hL hl => lv_iand C.1 C.2.1 hd  (k H locs ls hH hL hl)
theorem k_ior (C : Cx B X own cc nL d) {x y : Int32} (hd : decode cc pc = .ok (.ior, 1))  (k : Wk B X nL T (pc + 1) lv (.int (x ||| y) :: st)) : Wk B X nL T pc lv (.int y :: .int x :: st) := fun H locs ls hH hL hl => lv_ior C.1 C.2.1 hd  (k H locs ls hH hL hl)
theorem k_ishl (C : Cx B X own cc nL d) {x y : Int32} (hd : decode cc pc = .ok (.ishl, 1))  (k : Wk B X nL T (pc + 1) lv (.int (x <<< (y &&& 31)) :: st)) : Wk B X nL T pc lv (.int y :: .int x :: st) := fun H locs ls hH hL hl => lv_ishl C.1 C.2.1 hd  (k H locs ls hH hL hl)
theorem k_ishr (C : Cx B X own cc nL d) {x y : Int32} (hd : decode cc pc = .ok (.ishr, 1))  (k : Wk B X nL T (pc + 1) lv (.int (x >>> (y &&& 31)) :: st)) : Wk B X nL T pc lv (.int y :: .int x :: st) := fun H locs ls hH hL hl => lv_ishr C.1 C.2.1 hd  (k H locs ls hH hL hl)
theorem k_ladd (C : Cx B X own cc nL d) {x y : Int64} (hd : decode cc pc = .ok (.ladd, 1))  (k : Wk B X nL T (pc + 1) lv (.long (x + y) :: st)) : Wk B X nL T pc lv (.long y :: .long x :: st) := fun H locs ls hH hL hl => lv_ladd C.1 C.2.1 hd  (k H locs ls hH hL hl)
theorem k_lsub (C : Cx B X own cc nL d) {x y : Int64} (hd : decode cc pc = .ok (.lsub, 1))  (k : Wk B X nL T (pc + 1) lv (.long (x - y) :: st)) : Wk B X nL T pc lv (.long y :: .long x :: st) := fun H locs ls hH hL hl => lv_lsub C.1 C.2.1 hd  (k H locs ls hH hL hl)
theorem k_lmul (C : Cx B X own cc nL d) {x y : Int64} (hd : decode cc pc = .ok (.lmul, 1))  (k : Wk B X nL T (pc + 1) lv (.long (x * y) :: st)) : Wk B X nL T pc lv (.long y :: .long x :: st) := fun H locs ls hH hL hl => lv_lmul C.1 C.2.1 hd  (k H locs ls hH hL hl)
theorem k_idiv (C : Cx B X own cc nL d) {x y : Int32} (hd : decode cc pc = .ok (.idiv, 1)) (h : (if y = 0 then none else a) = some res) (k : a = some res → Wk B X nL T (pc + 1) lv (.int (x / y) :: st)) : Wk B X nL T pc lv (.int y :: .int x :: st) := fun H locs ls hH hL hl => by
  by_cases c : y = 0
  · rw [if_pos c] at h; cases h
  · rw [if_neg c] at h; exact lv_idiv C.1 C.2.1 hd c (k h H locs ls hH hL hl)
theorem k_idivc (C : Cx B X own cc nL d) {x y : Int32} (hd : decode cc pc = .ok (.idiv, 1)) (c : ¬ y = 0) (k : Wk B X nL T (pc + 1) lv (.int (x / y) :: st)) : Wk B X nL T pc lv (.int y :: .int x :: st) := fun H locs ls hH hL hl => lv_idiv C.1 C.2.1 hd c (k H locs ls hH hL hl)
theorem k_irem (C : Cx B X own cc nL d) {x y : Int32} (hd : decode cc pc = .ok (.irem, 1)) (h : (if y = 0 then none else a) = some res) (k : a = some res → Wk B X nL T (pc + 1) lv (.int (x - x / y * y) :: st)) : Wk B X nL T pc lv (.int y :: .int x :: st) := fun H locs ls hH hL hl => by
  by_cases c : y = 0
  · rw [if_pos c] at h; cases h
  · rw [if_neg c] at h; exact lv_irem C.1 C.2.1 hd c (k h H locs ls hH hL hl)
theorem k_iremc (C : Cx B X own cc nL d) {x y : Int32} (hd : decode cc pc = .ok (.irem, 1)) (c : ¬ y = 0) (k : Wk B X nL T (pc + 1) lv (.int (x - x / y * y) :: st)) : Wk B X nL T pc lv (.int y :: .int x :: st) := fun H locs ls hH hL hl => lv_irem C.1 C.2.1 hd c (k H locs ls hH hL hl)
theorem k_ldiv (C : Cx B X own cc nL d) {x y : Int64} (hd : decode cc pc = .ok (.ldiv, 1)) (h : (if y = 0 then none else a) = some res) (k : a = some res → Wk B X nL T (pc + 1) lv (.long (x / y) :: st)) : Wk B X nL T pc lv (.long y :: .long x :: st) := fun H locs ls hH hL hl => by
  by_cases c : y = 0
  · rw [if_pos c] at h; cases h
  · rw [if_neg c] at h; exact lv_ldiv C.1 C.2.1 hd c (k h H locs ls hH hL hl)
theorem k_ldivc (C : Cx B X own cc nL d) {x y : Int64} (hd : decode cc pc = .ok (.ldiv, 1)) (c : ¬ y = 0) (k : Wk B X nL T (pc + 1) lv (.long (x / y) :: st)) : Wk B X nL T pc lv (.long y :: .long x :: st) := fun H locs ls hH hL hl => lv_ldiv C.1 C.2.1 hd c (k H locs ls hH hL hl)
theorem k_lrem (C : Cx B X own cc nL d) {x y : Int64} (hd : decode cc pc = .ok (.lrem, 1)) (h : (if y = 0 then none else a) = some res) (k : a = some res → Wk B X nL T (pc + 1) lv (.long (x - x / y * y) :: st)) : Wk B X nL T pc lv (.long y :: .long x :: st) := fun H locs ls hH hL hl => by
  by_cases c : y = 0
  · rw [if_pos c] at h; cases h
  · rw [if_neg c] at h; exact lv_lrem C.1 C.2.1 hd c (k h H locs ls hH hL hl)
theorem k_lremc (C : Cx B X own cc nL d) {x y : Int64} (hd : decode cc pc = .ok (.lrem, 1)) (c : ¬ y = 0) (k : Wk B X nL T (pc + 1) lv (.long (x - x / y * y) :: st)) : Wk B X nL T pc lv (.long y :: .long x :: st) := fun H locs ls hH hL hl => lv_lrem C.1 C.2.1 hd c (k H locs ls hH hL hl)
theorem k_iconst (C : Cx B X own cc nL d) {n : Int} {v : Int32} (hd : decode cc pc = .ok (.iconst n, 1)) (hv : Int32.ofInt n = v) (k : Wk B X nL T (pc + 1) lv (.int v :: st)) : Wk B X nL T pc lv (st) := fun H locs ls hH hL hl => lv_iconst C.1 C.2.1 hd hv (k H locs ls hH hL hl)
theorem k_bipush (C : Cx B X own cc nL d) {n : Int} {v : Int32} (hd : decode cc pc = .ok (.bipush n, 2)) (hv : (Int8.ofInt n).toInt32 = v) (k : Wk B X nL T (pc + 2) lv (.int v :: st)) : Wk B X nL T pc lv (st) := fun H locs ls hH hL hl => lv_bipush C.1 C.2.1 hd hv (k H locs ls hH hL hl)
theorem k_sipush (C : Cx B X own cc nL d) {n : Int} {v : Int32} (hd : decode cc pc = .ok (.sipush n, 3)) (hv : (Int16.ofInt n).toInt32 = v) (k : Wk B X nL T (pc + 3) lv (.int v :: st)) : Wk B X nL T pc lv (st) := fun H locs ls hH hL hl => lv_sipush C.1 C.2.1 hd hv (k H locs ls hH hL hl)
theorem k_lconst (C : Cx B X own cc nL d) {n : Fin 2} {v : Int64} (hd : decode cc pc = .ok (.lconst n, 1)) (hv : Int64.ofNat (n : Nat) = v) (k : Wk B X nL T (pc + 1) lv (.long v :: st)) : Wk B X nL T pc lv (st) := fun H locs ls hH hL hl => lv_lconst C.1 C.2.1 hd hv (k H locs ls hH hL hl)
theorem k_ldc (C : Cx B X own cc nL d) {i : Nat} {v : Int32} (hd : decode cc pc = .ok (.ldc i, 2)) (hw : Cond.constant own i v ∈ GW) (k : Wk B X nL T (pc + 2) lv (.int v :: st)) : Wk B X nL T pc lv st := fun H locs ls hH hL hl => lv_ldc C.1 C.2.1 C.2.2.2.1 (C.2.2.2.2.1 _ hw) hd (k H locs ls hH hL hl)
theorem k_ldc2_w (C : Cx B X own cc nL d) {i : Nat} {v : Int64} (hd : decode cc pc = .ok (.ldc2_w i, 3)) (hw : Cond.constantLong own i v ∈ GW) (k : Wk B X nL T (pc + 3) lv (.long v :: st)) : Wk B X nL T pc lv st := fun H locs ls hH hL hl => lv_ldc2 C.1 C.2.1 C.2.2.2.1 (C.2.2.2.2.1 _ hw) hd (k H locs ls hH hL hl)
theorem k_iload_n (C : Cx B X own cc nL d) {kf : Fin 4} {x : Int32} (hd : decode cc pc = .ok (.iload_n kf, 1)) (j : Nat) (hj : lv[j]? = some ((kf : Nat), .int x)) (k : Wk B X nL T (pc + 1) lv (.int x :: st)) : Wk B X nL T pc lv st := fun H locs ls hH hL hl => lv_iload_n C.1 C.2.1 hd rfl (lv_at hl j hj) (k H locs ls hH hL hl)
theorem k_iload (C : Cx B X own cc nL d) {i : Nat} {x : Int32} (hd : decode cc pc = .ok (.iload i, 2)) (j : Nat) (hj : lv[j]? = some (i, .int x)) (k : Wk B X nL T (pc + 2) lv (.int x :: st)) : Wk B X nL T pc lv st := fun H locs ls hH hL hl => lv_iload C.1 C.2.1 hd (lv_at hl j hj) (k H locs ls hH hL hl)
theorem k_lload_n (C : Cx B X own cc nL d) {kf : Fin 4} {x : Int64} (hd : decode cc pc = .ok (.lload_n kf, 1)) (j : Nat) (hj : lv[j]? = some ((kf : Nat), .long x)) (k : Wk B X nL T (pc + 1) lv (.long x :: st)) : Wk B X nL T pc lv st := fun H locs ls hH hL hl => lv_lload_n C.1 C.2.1 hd rfl (lv_at hl j hj) (k H locs ls hH hL hl)
theorem k_lload (C : Cx B X own cc nL d) {i : Nat} {x : Int64} (hd : decode cc pc = .ok (.lload i, 2)) (j : Nat) (hj : lv[j]? = some (i, .long x)) (k : Wk B X nL T (pc + 2) lv (.long x :: st)) : Wk B X nL T pc lv st := fun H locs ls hH hL hl => lv_lload C.1 C.2.1 hd (lv_at hl j hj) (k H locs ls hH hL hl)
theorem k_aload_n (C : Cx B X own cc nL d) {kf : Fin 4} {x : Nat} (hd : decode cc pc = .ok (.aload_n kf, 1)) (j : Nat) (hj : lv[j]? = some ((kf : Nat), .ref x)) (k : Wk B X nL T (pc + 1) lv (.ref x :: st)) : Wk B X nL T pc lv st := fun H locs ls hH hL hl => lv_aload_n C.1 C.2.1 hd rfl (lv_at hl j hj) (k H locs ls hH hL hl)
theorem k_aload (C : Cx B X own cc nL d) {i : Nat} {x : Nat} (hd : decode cc pc = .ok (.aload i, 2)) (j : Nat) (hj : lv[j]? = some (i, .ref x)) (k : Wk B X nL T (pc + 2) lv (.ref x :: st)) : Wk B X nL T pc lv st := fun H locs ls hH hL hl => lv_aload C.1 C.2.1 hd (lv_at hl j hj) (k H locs ls hH hL hl)
theorem k_istore_n (C : Cx B X own cc nL d) {kf : Fin 4} {x : Int32} (lv' : List (Nat × Value)) (hd : decode cc pc = .ok (.istore_n kf, 1)) (hn : (kf : Nat) < nL) (hf : ((kf : Nat), Value.int x) :: lv.filter (fun q => !(q.1 == (kf : Nat)) && !(q.1 + 1 == (kf : Nat) && q.2.category == 2)) = lv') (k : Wk B X nL T (pc + 1) lv' st) : Wk B X nL T pc lv (.int x :: st) := fun H locs ls hH hL hl => lv_istore_n C.1 C.2.1 hd rfl hl hn hf (fun ls' hl' => k H locs ls' hH hL hl')
theorem k_istore (C : Cx B X own cc nL d) {i : Nat} {x : Int32} (lv' : List (Nat × Value)) (hd : decode cc pc = .ok (.istore i, 2)) (hn : i < nL) (hf : (i, Value.int x) :: lv.filter (fun q => !(q.1 == i) && !(q.1 + 1 == i && q.2.category == 2)) = lv') (k : Wk B X nL T (pc + 2) lv' st) : Wk B X nL T pc lv (.int x :: st) := fun H locs ls hH hL hl => lv_istore C.1 C.2.1 hd hl hn hf (fun ls' hl' => k H locs ls' hH hL hl')
theorem k_lstore_n (C : Cx B X own cc nL d) {kf : Fin 4} {x : Int64} (lv' : List (Nat × Value)) (hd : decode cc pc = .ok (.lstore_n kf, 1)) (hn : (kf : Nat) + 1 < nL) (hf : ((kf : Nat), Value.long x) :: lv.filter (fun q => !(q.1 == (kf : Nat)) && (!(q.1 == (kf : Nat) + 1) && !(q.1 + 1 == (kf : Nat) && q.2.category == 2))) = lv') (k : Wk B X nL T (pc + 1) lv' st) : Wk B X nL T pc lv (.long x :: st) := fun H locs ls hH hL hl => lv_lstore_n C.1 C.2.1 hd rfl hl hn hf (fun ls' hl' => k H locs ls' hH hL hl')
theorem k_lstore (C : Cx B X own cc nL d) {i : Nat} {x : Int64} (lv' : List (Nat × Value)) (hd : decode cc pc = .ok (.lstore i, 2)) (hn : i + 1 < nL) (hf : (i, Value.long x) :: lv.filter (fun q => !(q.1 == i) && (!(q.1 == i + 1) && !(q.1 + 1 == i && q.2.category == 2))) = lv') (k : Wk B X nL T (pc + 2) lv' st) : Wk B X nL T pc lv (.long x :: st) := fun H locs ls hH hL hl => lv_lstore C.1 C.2.1 hd hl hn hf (fun ls' hl' => k H locs ls' hH hL hl')
theorem k_astore_n (C : Cx B X own cc nL d) {kf : Fin 4} {x : Nat} (lv' : List (Nat × Value)) (hd : decode cc pc = .ok (.astore_n kf, 1)) (hn : (kf : Nat) < nL) (hf : ((kf : Nat), Value.ref x) :: lv.filter (fun q => !(q.1 == (kf : Nat)) && !(q.1 + 1 == (kf : Nat) && q.2.category == 2)) = lv') (k : Wk B X nL T (pc + 1) lv' st) : Wk B X nL T pc lv (.ref x :: st) := fun H locs ls hH hL hl => lv_astore_n C.1 C.2.1 hd rfl hl hn hf (fun ls' hl' => k H locs ls' hH hL hl')
theorem k_astore (C : Cx B X own cc nL d) {i : Nat} {x : Nat} (lv' : List (Nat × Value)) (hd : decode cc pc = .ok (.astore i, 2)) (hn : i < nL) (hf : (i, Value.ref x) :: lv.filter (fun q => !(q.1 == i) && !(q.1 + 1 == i && q.2.category == 2)) = lv') (k : Wk B X nL T (pc + 2) lv' st) : Wk B X nL T pc lv (.ref x :: st) := fun H locs ls hH hL hl => lv_astore C.1 C.2.1 hd hl hn hf (fun ls' hl' => k H locs ls' hH hL hl')
theorem k_iinc (C : Cx B X own cc nL d) {i : Nat} {n : Int} {x : Int32} (v : Int32) (lv' : List (Nat × Value)) (hd : decode cc pc = .ok (.iinc i n, 3)) (j : Nat) (hj : lv[j]? = some (i, .int x)) (hv : x + Int32.ofInt n = v) (hn : i < nL) (hf : (i, Value.int v) :: lv.filter (fun q => !(q.1 == i) && !(q.1 + 1 == i && q.2.category == 2)) = lv') (k : Wk B X nL T (pc + 3) lv' st) : Wk B X nL T pc lv st := fun H locs ls hH hL hl => lv_iinc C.1 C.2.1 hd hl hj hv hn hf (fun ls' hl' => k H locs ls' hH hL hl')
theorem k_sub {lv' : List (Nat × Value)} (ps : List Nat) (hp : lv_pick lv ps = lv') (k : Wk B X nL T pc lv' st) : Wk B X nL T pc lv st := fun H locs ls hH hL hl => k H locs ls hH hL (lv_sub hl ps hp)
theorem k_i2l (C : Cx B X own cc nL d) {x : Int32} (hd : decode cc pc = .ok (.i2l, 1)) (k : Wk B X nL T (pc + 1) lv (.long (x.toInt64) :: st)) : Wk B X nL T pc lv (.int x :: st) := fun H locs ls hH hL hl => lv_i2l C.1 C.2.1 hd rfl (k H locs ls hH hL hl)
theorem k_l2i (C : Cx B X own cc nL d) {x : Int64} (hd : decode cc pc = .ok (.l2i, 1)) (k : Wk B X nL T (pc + 1) lv (.int (x.toInt32) :: st)) : Wk B X nL T pc lv (.long x :: st) := fun H locs ls hH hL hl => lv_l2i C.1 C.2.1 hd rfl (k H locs ls hH hL hl)
theorem k_i2b (C : Cx B X own cc nL d) {x : Int32} (hd : decode cc pc = .ok (.i2b, 1)) (k : Wk B X nL T (pc + 1) lv (.int (x.toInt8.toInt32) :: st)) : Wk B X nL T pc lv (.int x :: st) := fun H locs ls hH hL hl => lv_i2b C.1 C.2.1 hd rfl (k H locs ls hH hL hl)
theorem k_i2c (C : Cx B X own cc nL d) {x : Int32} (hd : decode cc pc = .ok (.i2c, 1)) (k : Wk B X nL T (pc + 1) lv (.int ((x.toUInt32 % 65536).toInt32) :: st)) : Wk B X nL T pc lv (.int x :: st) := fun H locs ls hH hL hl => lv_i2c C.1 C.2.1 hd rfl (k H locs ls hH hL hl)
theorem k_lcmp (C : Cx B X own cc nL d) {x y : Int64} (hd : decode cc pc = .ok (.lcmp, 1)) (k : Wk B X nL T (pc + 1) lv (.int (lg_cmp x y) :: st)) : Wk B X nL T pc lv (.long y :: .long x :: st) := fun H locs ls hH hL hl => W.lcmp C.1 C.2.1 hd (k H locs ls hH hL hl)
theorem k_dup (C : Cx B X own cc nL d) {va : Value} (hd : decode cc pc = .ok (.dup, 1)) (hv : va.category = 1) (k : Wk B X nL T (pc + 1) lv (va :: va :: st)) : Wk B X nL T pc lv (va :: st) := fun H locs ls hH hL hl => lv_dup C.1 C.2.1 hd hv (k H locs ls hH hL hl)
theorem k_pop (C : Cx B X own cc nL d) {va : Value} (hd : decode cc pc = .ok (.pop, 1)) (hv : va.category = 1) (k : Wk B X nL T (pc + 1) lv (st)) : Wk B X nL T pc lv (va :: st) := fun H locs ls hH hL hl => lv_pop C.1 C.2.1 hd hv (k H locs ls hH hL hl)
theorem k_dup2 (C : Cx B X own cc nL d) {va vb : Value} (hd : decode cc pc = .ok (.dup2, 1)) (hv : va.category = 1) (hw : vb.category = 1) (k : Wk B X nL T (pc + 1) lv (va :: vb :: va :: vb :: st)) : Wk B X nL T pc lv (va :: vb :: st) := fun H locs ls hH hL hl => lv_dup2_11 C.1 C.2.1 hd hv hw (k H locs ls hH hL hl)
theorem k_dup2w (C : Cx B X own cc nL d) {va : Value} (hd : decode cc pc = .ok (.dup2, 1)) (hv : va.category = 2) (k : Wk B X nL T (pc + 1) lv (va :: va :: st)) : Wk B X nL T pc lv (va :: st) := fun H locs ls hH hL hl => lv_dup2_2 C.1 C.2.1 hd hv (k H locs ls hH hL hl)
theorem k_goto (C : Cx B X own cc nL d) {off : Int} (tgt : Nat) (hd : decode cc pc = .ok (.goto off, 3)) (ht : (pc : Int) + off = (tgt : Int)) (k : Wk B X nL T tgt lv st) : Wk B X nL T pc lv st := fun H locs ls hH hL hl => lv_goto C.1 C.2.1 hd ht (k H locs ls hH hL hl)
theorem k_if_eq (C : Cx B X own cc nL d) {x : Int32} {off : Int} (tgt : Nat) (hd : decode cc pc = .ok (.ifCond .eq off, 3)) (ht : (pc : Int) + off = (tgt : Int)) (h : (if x = 0 then a else b) = some res) (kt : x = 0 → a = some res → Wk B X nL T tgt lv st) (kf : ¬ x = 0 → b = some res → Wk B X nL T (pc + 3) lv st) : Wk B X nL T pc lv (.int x :: st) := fun H locs ls hH hL hl => lv_if_eq C.1 C.2.1 hd ht (fun c => kt c (by rw [if_pos c] at h; exact h) H locs ls hH hL hl) (fun c => kf c (by rw [if_neg c] at h; exact h) H locs ls hH hL hl)
theorem k_icmp_eq (C : Cx B X own cc nL d) {x y : Int32} {off : Int} (tgt : Nat) (hd : decode cc pc = .ok (.if_icmp .eq off, 3)) (ht : (pc : Int) + off = (tgt : Int)) (h : (if x = y then a else b) = some res) (kt : x = y → a = some res → Wk B X nL T tgt lv st) (kf : ¬ x = y → b = some res → Wk B X nL T (pc + 3) lv st) : Wk B X nL T pc lv (.int y :: .int x :: st) := fun H locs ls hH hL hl => lv_icmp_eq C.1 C.2.1 hd ht (fun c => kt c (by rw [if_pos c] at h; exact h) H locs ls hH hL hl) (fun c => kf c (by rw [if_neg c] at h; exact h) H locs ls hH hL hl)
theorem k_if_ne (C : Cx B X own cc nL d) {x : Int32} {off : Int} (tgt : Nat) (hd : decode cc pc = .ok (.ifCond .ne off, 3)) (ht : (pc : Int) + off = (tgt : Int)) (h : (if x = 0 then b else a) = some res) (kt : ¬ x = 0 → a = some res → Wk B X nL T tgt lv st) (kf : x = 0 → b = some res → Wk B X nL T (pc + 3) lv st) : Wk B X nL T pc lv (.int x :: st) := fun H locs ls hH hL hl => lv_if_ne C.1 C.2.1 hd ht (fun c => kt c (by rw [if_neg c] at h; exact h) H locs ls hH hL hl) (fun c => kf c (by rw [if_pos c] at h; exact h) H locs ls hH hL hl)
theorem k_icmp_ne (C : Cx B X own cc nL d) {x y : Int32} {off : Int} (tgt : Nat) (hd : decode cc pc = .ok (.if_icmp .ne off, 3)) (ht : (pc : Int) + off = (tgt : Int)) (h : (if x = y then b else a) = some res) (kt : ¬ x = y → a = some res → Wk B X nL T tgt lv st) (kf : x = y → b = some res → Wk B X nL T (pc + 3) lv st) : Wk B X nL T pc lv (.int y :: .int x :: st) := fun H locs ls hH hL hl => lv_icmp_ne C.1 C.2.1 hd ht (fun c => kt c (by rw [if_neg c] at h; exact h) H locs ls hH hL hl) (fun c => kf c (by rw [if_pos c] at h; exact h) H locs ls hH hL hl)
theorem k_if_lt (C : Cx B X own cc nL d) {x : Int32} {off : Int} (tgt : Nat) (hd : decode cc pc = .ok (.ifCond .lt off, 3)) (ht : (pc : Int) + off = (tgt : Int)) (h : (if x < 0 then a else b) = some res) (kt : x < 0 → a = some res → Wk B X nL T tgt lv st) (kf : ¬ x < 0 → b = some res → Wk B X nL T (pc + 3) lv st) : Wk B X nL T pc lv (.int x :: st) := fun H locs ls hH hL hl => lv_if_lt C.1 C.2.1 hd ht (fun c => kt c (by rw [if_pos c] at h; exact h) H locs ls hH hL hl) (fun c => kf c (by rw [if_neg c] at h; exact h) H locs ls hH hL hl)
theorem k_icmp_lt (C : Cx B X own cc nL d) {x y : Int32} {off : Int} (tgt : Nat) (hd : decode cc pc = .ok (.if_icmp .lt off, 3)) (ht : (pc : Int) + off = (tgt : Int)) (h : (if x < y then a else b) = some res) (kt : x < y → a = some res → Wk B X nL T tgt lv st) (kf : ¬ x < y → b = some res → Wk B X nL T (pc + 3) lv st) : Wk B X nL T pc lv (.int y :: .int x :: st) := fun H locs ls hH hL hl => lv_icmp_lt C.1 C.2.1 hd ht (fun c => kt c (by rw [if_pos c] at h; exact h) H locs ls hH hL hl) (fun c => kf c (by rw [if_neg c] at h; exact h) H locs ls hH hL hl)
theorem k_if_ge (C : Cx B X own cc nL d) {x : Int32} {off : Int} (tgt : Nat) (hd : decode cc pc = .ok (.ifCond .ge off, 3)) (ht : (pc : Int) + off = (tgt : Int)) (h : (if 0 ≤ x then a else b) = some res) (kt : 0 ≤ x → a = some res → Wk B X nL T tgt lv st) (kf : ¬ 0 ≤ x → b = some res → Wk B X nL T (pc + 3) lv st) : Wk B X nL T pc lv (.int x :: st) := fun H locs ls hH hL hl => lv_if_ge C.1 C.2.1 hd ht (fun c => kt c (by rw [if_pos c] at h; exact h) H locs ls hH hL hl) (fun c => kf c (by rw [if_neg c] at h; exact h) H locs ls hH hL hl)
theorem k_icmp_ge (C : Cx B X own cc nL d) {x y : Int32} {off : Int} (tgt : Nat) (hd : decode cc pc = .ok (.if_icmp .ge off, 3)) (ht : (pc : Int) + off = (tgt : Int)) (h : (if y ≤ x then a else b) = some res) (kt : y ≤ x → a = some res → Wk B X nL T tgt lv st) (kf : ¬ y ≤ x → b = some res → Wk B X nL T (pc + 3) lv st) : Wk B X nL T pc lv (.int y :: .int x :: st) := fun H locs ls hH hL hl => lv_icmp_ge C.1 C.2.1 hd ht (fun c => kt c (by rw [if_pos c] at h; exact h) H locs ls hH hL hl) (fun c => kf c (by rw [if_neg c] at h; exact h) H locs ls hH hL hl)
theorem k_if_gt (C : Cx B X own cc nL d) {x : Int32} {off : Int} (tgt : Nat) (hd : decode cc pc = .ok (.ifCond .gt off, 3)) (ht : (pc : Int) + off = (tgt : Int)) (h : (if 0 < x then a else b) = some res) (kt : 0 < x → a = some res → Wk B X nL T tgt lv st) (kf : ¬ 0 < x → b = some res → Wk B X nL T (pc + 3) lv st) : Wk B X nL T pc lv (.int x :: st) := fun H locs ls hH hL hl => lv_if_gt C.1 C.2.1 hd ht (fun c => kt c (by rw [if_pos c] at h; exact h) H locs ls hH hL hl) (fun c => kf c (by rw [if_neg c] at h; exact h) H locs ls hH hL hl)
theorem k_icmp_gt (C : Cx B X own cc nL d) {x y : Int32} {off : Int} (tgt : Nat) (hd : decode cc pc = .ok (.if_icmp .gt off, 3)) (ht : (pc : Int) + off = (tgt : Int)) (h : (if y < x then a else b) = some res) (kt : y < x → a = some res → Wk B X nL T tgt lv st) (kf : ¬ y < x → b = some res → Wk B X nL T (pc + 3) lv st) : Wk B X nL T pc lv (.int y :: .int x :: st) := fun H locs ls hH hL hl => lv_icmp_gt C.1 C.2.1 hd ht (fun c => kt c (by rw [if_pos c] at h; exact h) H locs ls hH hL hl) (fun c => kf c (by rw [if_neg c] at h; exact h) H locs ls hH hL hl)
theorem k_if_le (C : Cx B X own cc nL d) {x : Int32} {off : Int} (tgt : Nat) (hd : decode cc pc = .ok (.ifCond .le off, 3)) (ht : (pc : Int) + off = (tgt : Int)) (h : (if x ≤ 0 then a else b) = some res) (kt : x ≤ 0 → a = some res → Wk B X nL T tgt lv st) (kf : ¬ x ≤ 0 → b = some res → Wk B X nL T (pc + 3) lv st) : Wk B X nL T pc lv (.int x :: st) := fun H locs ls hH hL hl => lv_if_le C.1 C.2.1 hd ht (fun c => kt c (by rw [if_pos c] at h; exact h) H locs ls hH hL hl) (fun c => kf c (by rw [if_neg c] at h; exact h) H locs ls hH hL hl)
theorem k_icmp_le (C : Cx B X own cc nL d) {x y : Int32} {off : Int} (tgt : Nat) (hd : decode cc pc = .ok (.if_icmp .le off, 3)) (ht : (pc : Int) + off = (tgt : Int)) (h : (if x ≤ y then a else b) = some res) (kt : x ≤ y → a = some res → Wk B X nL T tgt lv st) (kf : ¬ x ≤ y → b = some res → Wk B X nL T (pc + 3) lv st) : Wk B X nL T pc lv (.int y :: .int x :: st) := fun H locs ls hH hL hl => lv_icmp_le C.1 C.2.1 hd ht (fun c => kt c (by rw [if_pos c] at h; exact h) H locs ls hH hL hl) (fun c => kf c (by rw [if_neg c] at h; exact h) H locs ls hH hL hl)
theorem k_tabIn (C : Cx B X own cc nL d) {dflt lo hi : Int} {offs : Array Int} {len : Nat} {x : Int32} {off : Int} (tgt : Nat) (v : Int32) (hd : decode cc pc = .ok (.tableswitch dflt lo hi offs, len)) (e : x = v) (h1 : ¬ v.toInt < lo) (h2 : ¬ hi < v.toInt) (ho : offs[(v.toInt - lo).toNat]? = some off) (ht : (pc : Int) + off = (tgt : Int)) (k : Wk B X nL T tgt lv st) : Wk B X nL T pc lv (.int x :: st) := fun H locs ls hH hL hl => by
  subst e
  exact lv_tableIn C.1 C.2.1 hd h1 h2 ho ht (k H locs ls hH hL hl)
theorem k_tabOut (C : Cx B X own cc nL d) {dflt lo hi : Int} {offs : Array Int} {len : Nat} {x : Int32} (tgt : Nat) (hd : decode cc pc = .ok (.tableswitch dflt lo hi offs, len)) (h1 : x.toInt < lo ∨ hi < x.toInt) (ht : (pc : Int) + dflt = (tgt : Int)) (k : Wk B X nL T tgt lv st) : Wk B X nL T pc lv (.int x :: st) := fun H locs ls hH hL hl => lv_tableOut C.1 C.2.1 hd h1 ht (k H locs ls hH hL hl)
/-- an array of ints, bytes, booleans of n cells; an array of references -/
def isI (B : KB) (g f n : Nat) : Prop := (g, f) ∈ IX ∧ f ≠ 0 ∧ ∀ z, warr B g f z = wIA B n z
def isB (B : KB) (g f n : Nat) : Prop := (g, f) ∈ IX ∧ f ≠ 0 ∧ ∀ z, warr B g f z = wBA B n z
def isZ (B : KB) (g f n : Nat) : Prop := (g, f) ∈ IX ∧ f ≠ 0 ∧ ∀ z, warr B g f z = wZA B n z
def isQ (B : KB) (g f t n : Nat) (w : Nat → Nat) : Prop := (g, f) ∈ IX ∧ f ≠ 0 ∧ ∀ z, warr B g f z = wRA B t n (fun k => some (w k))
theorem wc_arr {g f : Nat} (hf : f ≠ 0) : wc B T g f = warr B g f (T.1 g f) := if_neg hf
theorem wc_sA {g f j : Nat} {x : Int32} (hf : f ≠ 0) : ∀ g' f' : Nat, ¬ (g' = g ∧ f' = f) → wc B (sA T g f j x) g' f' = wc B T g' f' := by
  intro g' f' hn
  by_cases h0 : f' = 0
  · subst h0
    simp only [wc, sA, if_true]
  · rw [wc_arr h0, wc_arr h0]
    have e : (sA T g f j x).1 g' f' = T.1 g' f' := by
      by_cases hg : g' = g
      · subst hg
        have hf' : ¬ f' = f := fun e => hn ⟨rfl, e⟩
        simp [sA, hf']
      · simp [sA, hg]
    rw [e]
theorem sA_at {g f j : Nat} {x : Int32} : (sA T g f j x).1 g f = upd (T.1 g f) j x := by
  funext i
  simp [sA, upd]
theorem wc_cpA {g0 f0 sp g f dp n : Nat} (hf : f ≠ 0) : ∀ g' f' : Nat, ¬ (g' = g ∧ f' = f) → wc B (cpA T g0 f0 sp g f dp n) g' f' = wc B T g' f' := by
  intro g' f' hn
  by_cases h0 : f' = 0
  · subst h0
    simp only [wc, cpA, if_true]
  · rw [wc_arr h0, wc_arr h0]
    have e : (cpA T g0 f0 sp g f dp n).1 g' f' = T.1 g' f' := by
      by_cases hg : g' = g
      · subst hg
        have hf' : ¬ f' = f := fun e => hn ⟨rfl, e⟩
        simp [cpA, hf']
      · simp [cpA, hg]
    rw [e]
theorem cpA_at {g0 f0 sp g f dp n : Nat} : (cpA T g0 f0 sp g f dp n).1 g f = va_cpy (T.1 g0 f0) (T.1 g f) sp dp n := by simp [cpA]
theorem Hh.S {H : Heap} {locs : List Loc} (hH : Hh B T H) (hL : ∀ q ∈ locs, B.2.2.2.2.size ≤ q.base) : va_S (fun q : Nat => B.2.2.2.2.size ≤ q) B.2.2.2.2 H locs := ⟨hH.2.2.1.1, fun q h _ => hH.2.2.1.2 q h, hL⟩
theorem Hh.back {T' : TT} {H1 : Heap} {locs1 : List Loc} {q0 g f : Nat} {e : va_E} (hset : (wl B T).set q0 (B.1 g f, wc B T' g f) = wl B T') (he : wc B T' g f = e) (hk : kok (T'.2.2.2 6).1 (T'.2.2.2 6).2) (hP : va_P (B.2.1, B.2.2.1) vwCl ((wl B T).set q0 (B.1 g f, e)) H1) (hD : va_D (fun q : Nat => B.2.2.2.2.size ≤ q) ((wl B T).set q0 (B.1 g f, e))) (hS : va_S (fun q : Nat => B.2.2.2.2.size ≤ q) B.2.2.2.2 H1 locs1) : Hh B T' H1 ∧ ∀ q ∈ locs1, B.2.2.2.2.size ≤ q.base := by
  subst he
  rw [hset] at hP hD
  exact ⟨⟨hP, hD, ⟨hS.1, fun q h => hS.2.1 q h (Nat.not_le.mpr h)⟩, hk⟩, hS.2.2⟩
theorem k_ialdr (C : Cx B X own cc nL d) {g f n : Nat} (hI : isI B g f n) {i : Int32} (hd : decode cc pc = .ok (.iaload, 1)) (hin : inb i n) (k : Wk B X nL T (pc + 1) lv (.int (T.1 g f i.toNatClampNeg) :: st)) : Wk B X nL T pc lv (.int i :: .ref (B.1 g f) :: st) := fun H locs ls hH hL hl => by
  obtain ⟨q0, hq, -⟩ := wl_at B T hI.1
  rw [wc_arr hI.2.1, hI.2.2] at hq
  exact va_iald C.1 C.2.1 C.2.2.2.2.2.1.1 hH.1 q0 0 hq rfl hin hd (k H locs ls hH hL hl)
theorem k_iald (C : Cx B X own cc nL d) {g f n : Nat} (hI : isI B g f n) {i : Int32} (hd : decode cc pc = .ok (.iaload, 1)) (h : (if inb i n then a else none) = some res) (k : a = some res → Wk B X nL T (pc + 1) lv (.int (T.1 g f i.toNatClampNeg) :: st)) : Wk B X nL T pc lv (.int i :: .ref (B.1 g f) :: st) := by
  by_cases c : inb i n
  · rw [if_pos c] at h
    exact k_ialdr C hI hd c (k h)
  · rw [if_neg c] at h
    cases h
theorem k_ialdc (C : Cx B X own cc nL d) {g f n : Nat} (hI : isI B g f n) {i : Int32} (j : Nat) (hd : decode cc pc = .ok (.iaload, 1)) (hj : i.toNatClampNeg = j) (c : inb i n) (k : Wk B X nL T (pc + 1) lv (.int (T.1 g f j) :: st)) : Wk B X nL T pc lv (.int i :: .ref (B.1 g f) :: st) := by
  subst hj
  exact k_ialdr C hI hd c k
theorem k_iastr (C : Cx B X own cc nL d) {g f n : Nat} (hI : isI B g f n) {i x : Int32} (hd : decode cc pc = .ok (.iastore, 1)) (hin : inb i n) (k : Wk B X nL (sA T g f i.toNatClampNeg x) (pc + 1) lv st) : Wk B X nL T pc lv (.int x :: .int i :: .ref (B.1 g f) :: st) := fun H locs ls hH hL hl => by
  obtain ⟨q0, hq, hset⟩ := wl_at B T hI.1
  rw [wc_arr hI.2.1, hI.2.2] at hq
  refine va_iast C.1 C.2.1 C.2.2.2.2.2.1.1 hH.1 hH.2.1 (hH.S hL) q0 0 hq rfl hin hd (fun H1 locs1 hP hD hS => ?_)
  have h9 := Hh.back (T' := sA T g f i.toNatClampNeg x) (hset _ (wc_sA hI.2.1)) (by rw [wc_arr hI.2.1, hI.2.2, sA_at]; rfl) hH.2.2.2 hP hD hS
  exact k H1 locs1 ls h9.1 h9.2 hl
theorem k_iast (C : Cx B X own cc nL d) {g f n : Nat} (hI : isI B g f n) {i x : Int32} (hd : decode cc pc = .ok (.iastore, 1)) (h : (if inb i n then a else none) = some res) (k : a = some res → Wk B X nL (sA T g f i.toNatClampNeg x) (pc + 1) lv st) : Wk B X nL T pc lv (.int x :: .int i :: .ref (B.1 g f) :: st) := by
  by_cases c : inb i n
  · rw [if_pos c] at h
    exact k_iastr C hI hd c (k h)
  · rw [if_neg c] at h
    cases h
theorem k_iastc (C : Cx B X own cc nL d) {g f n : Nat} (hI : isI B g f n) {i x : Int32} (j : Nat) (hd : decode cc pc = .ok (.iastore, 1)) (hj : i.toNatClampNeg = j) (c : inb i n) (k : Wk B X nL (sA T g f j x) (pc + 1) lv st) : Wk B X nL T pc lv (.int x :: .int i :: .ref (B.1 g f) :: st) := by
  subst hj
  exact k_iastr C hI hd c k
theorem k_ilen (C : Cx B X own cc nL d) {g f n : Nat} (hI : isI B g f n) (v : Int32) (hd : decode cc pc = .ok (.arraylength, 1)) (hv : Int32.ofNat n = v) (k : Wk B X nL T (pc + 1) lv (.int v :: st)) : Wk B X nL T pc lv (.ref (B.1 g f) :: st) := fun H locs ls hH hL hl => by
  obtain ⟨q0, hq, -⟩ := wl_at B T hI.1
  rw [wc_arr hI.2.1, hI.2.2] at hq
  exact va_alen C.1 C.2.1 C.2.2.2.2.2.1.1 hH.1 q0 0 hq rfl hv hd (k H locs ls hH hL hl)
theorem k_baldr (C : Cx B X own cc nL d) {g f n : Nat} (hI : isB B g f n) {i : Int32} (hd : decode cc pc = .ok (.baload, 1)) (hin : inb i n) (k : Wk B X nL T (pc + 1) lv (.int (T.1 g f i.toNatClampNeg) :: st)) : Wk B X nL T pc lv (.int i :: .ref (B.1 g f) :: st) := fun H locs ls hH hL hl => by
  obtain ⟨q0, hq, -⟩ := wl_at B T hI.1
  rw [wc_arr hI.2.1, hI.2.2] at hq
  exact va_bald C.1 C.2.1 C.2.2.2.2.2.1.1 hH.1 q0 1 hq rfl hin hd (k H locs ls hH hL hl)
theorem k_bald (C : Cx B X own cc nL d) {g f n : Nat} (hI : isB B g f n) {i : Int32} (hd : decode cc pc = .ok (.baload, 1)) (h : (if inb i n then a else none) = some res) (k : a = some res → Wk B X nL T (pc + 1) lv (.int (T.1 g f i.toNatClampNeg) :: st)) : Wk B X nL T pc lv (.int i :: .ref (B.1 g f) :: st) := by
  by_cases c : inb i n
  · rw [if_pos c] at h
    exact k_baldr C hI hd c (k h)
  · rw [if_neg c] at h
    cases h
theorem k_baldc (C : Cx B X own cc nL d) {g f n : Nat} (hI : isB B g f n) {i : Int32} (j : Nat) (hd : decode cc pc = .ok (.baload, 1)) (hj : i.toNatClampNeg = j) (c : inb i n) (k : Wk B X nL T (pc + 1) lv (.int (T.1 g f j) :: st)) : Wk B X nL T pc lv (.int i :: .ref (B.1 g f) :: st) := by
  subst hj
  exact k_baldr C hI hd c k
theorem k_bastr (C : Cx B X own cc nL d) {g f n : Nat} (hI : isB B g f n) {i x : Int32} (hd : decode cc pc = .ok (.bastore, 1)) (hin : inb i n) (k : Wk B X nL (sA T g f i.toNatClampNeg (vp_nar .byte x)) (pc + 1) lv st) : Wk B X nL T pc lv (.int x :: .int i :: .ref (B.1 g f) :: st) := fun H locs ls hH hL hl => by
  obtain ⟨q0, hq, hset⟩ := wl_at B T hI.1
  rw [wc_arr hI.2.1, hI.2.2] at hq
  refine va_bast C.1 C.2.1 C.2.2.2.2.2.1.1 hH.1 hH.2.1 (hH.S hL) q0 1 hq rfl hin hd (fun H1 locs1 hP hD hS => ?_)
  have h9 := Hh.back (T' := sA T g f i.toNatClampNeg (vp_nar .byte x)) (hset _ (wc_sA hI.2.1)) (by rw [wc_arr hI.2.1, hI.2.2, sA_at]; rfl) hH.2.2.2 hP hD hS
  exact k H1 locs1 ls h9.1 h9.2 hl
theorem k_bast (C : Cx B X own cc nL d) {g f n : Nat} (hI : isB B g f n) {i x : Int32} (hd : decode cc pc = .ok (.bastore, 1)) (h : (if inb i n then a else none) = some res) (k : a = some res → Wk B X nL (sA T g f i.toNatClampNeg (vp_nar .byte x)) (pc + 1) lv st) : Wk B X nL T pc lv (.int x :: .int i :: .ref (B.1 g f) :: st) := by
  by_cases c : inb i n
  · rw [if_pos c] at h
    exact k_bastr C hI hd c (k h)
  · rw [if_neg c] at h
    cases h
theorem k_bastc (C : Cx B X own cc nL d) {g f n : Nat} (hI : isB B g f n) {i x : Int32} (j : Nat) (hd : decode cc pc = .ok (.bastore, 1)) (hj : i.toNatClampNeg = j) (c : inb i n) (k : Wk B X nL (sA T g f j (vp_nar .byte x)) (pc + 1) lv st) : Wk B X nL T pc lv (.int x :: .int i :: .ref (B.1 g f) :: st) := by
  subst hj
  exact k_bastr C hI hd c k
theorem k_blen (C : Cx B X own cc nL d) {g f n : Nat} (hI : isB B g f n) (v : Int32) (hd : decode cc pc = .ok (.arraylength, 1)) (hv : Int32.ofNat n = v) (k : Wk B X nL T (pc + 1) lv (.int v :: st)) : Wk B X nL T pc lv (.ref (B.1 g f) :: st) := fun H locs ls hH hL hl => by
  obtain ⟨q0, hq, -⟩ := wl_at B T hI.1
  rw [wc_arr hI.2.1, hI.2.2] at hq
  exact va_alen C.1 C.2.1 C.2.2.2.2.2.1.1 hH.1 q0 1 hq rfl hv hd (k H locs ls hH hL hl)
theorem k_zaldr (C : Cx B X own cc nL d) {g f n : Nat} (hI : isZ B g f n) {i : Int32} (hd : decode cc pc = .ok (.baload, 1)) (hin : inb i n) (k : Wk B X nL T (pc + 1) lv (.int (T.1 g f i.toNatClampNeg) :: st)) : Wk B X nL T pc lv (.int i :: .ref (B.1 g f) :: st) := fun H locs ls hH hL hl => by
  obtain ⟨q0, hq, -⟩ := wl_at B T hI.1
  rw [wc_arr hI.2.1, hI.2.2] at hq
  exact va_zald C.1 C.2.1 C.2.2.2.2.2.1.1 hH.1 q0 2 hq rfl hin hd (k H locs ls hH hL hl)
theorem k_zald (C : Cx B X own cc nL d) {g f n : Nat} (hI : isZ B g f n) {i : Int32} (hd : decode cc pc = .ok (.baload, 1)) (h : (if inb i n then a else none) = some res) (k : a = some res → Wk B X nL T (pc + 1) lv (.int (T.1 g f i.toNatClampNeg) :: st)) : Wk B X nL T pc lv (.int i :: .ref (B.1 g f) :: st) := by
  by_cases c : inb i n
  · rw [if_pos c] at h
    exact k_zaldr C hI hd c (k h)
  · rw [if_neg c] at h
    cases h
theorem k_zaldc (C : Cx B X own cc nL d) {g f n : Nat} (hI : isZ B g f n) {i : Int32} (j : Nat) (hd : decode cc pc = .ok (.baload, 1)) (hj : i.toNatClampNeg = j) (c : inb i n) (k : Wk B X nL T (pc + 1) lv (.int (T.1 g f j) :: st)) : Wk B X nL T pc lv (.int i :: .ref (B.1 g f) :: st) := by
  subst hj
  exact k_zaldr C hI hd c k
theorem k_zastr (C : Cx B X own cc nL d) {g f n : Nat} (hI : isZ B g f n) {i x : Int32} (hd : decode cc pc = .ok (.bastore, 1)) (hin : inb i n) (k : Wk B X nL (sA T g f i.toNatClampNeg (vp_nar .boolean x)) (pc + 1) lv st) : Wk B X nL T pc lv (.int x :: .int i :: .ref (B.1 g f) :: st) := fun H locs ls hH hL hl => by
  obtain ⟨q0, hq, hset⟩ := wl_at B T hI.1
  rw [wc_arr hI.2.1, hI.2.2] at hq
  refine va_zast C.1 C.2.1 C.2.2.2.2.2.1.1 hH.1 hH.2.1 (hH.S hL) q0 2 hq rfl hin hd (fun H1 locs1 hP hD hS => ?_)
  have h9 := Hh.back (T' := sA T g f i.toNatClampNeg (vp_nar .boolean x)) (hset _ (wc_sA hI.2.1)) (by rw [wc_arr hI.2.1, hI.2.2, sA_at]; rfl) hH.2.2.2 hP hD hS
  exact k H1 locs1 ls h9.1 h9.2 hl
theorem k_zast (C : Cx B X own cc nL d) {g f n : Nat} (hI : isZ B g f n) {i x : Int32} (hd : decode cc pc = .ok (.bastore, 1)) (h : (if inb i n then a else none) = some res) (k : a = some res → Wk B X nL (sA T g f i.toNatClampNeg (vp_nar .boolean x)) (pc + 1) lv st) : Wk B X nL T pc lv (.int x :: .int i :: .ref (B.1 g f) :: st) := by
  by_cases c : inb i n
  · rw [if_pos c] at h
    exact k_zastr C hI hd c (k h)
  · rw [if_neg c] at h
    cases h
theorem k_zastc (C : Cx B X own cc nL d) {g f n : Nat} (hI : isZ B g f n) {i x : Int32} (j : Nat) (hd : decode cc pc = .ok (.bastore, 1)) (hj : i.toNatClampNeg = j) (c : inb i n) (k : Wk B X nL (sA T g f j (vp_nar .boolean x)) (pc + 1) lv st) : Wk B X nL T pc lv (.int x :: .int i :: .ref (B.1 g f) :: st) := by
  subst hj
  exact k_zastr C hI hd c k
theorem k_zlen (C : Cx B X own cc nL d) {g f n : Nat} (hI : isZ B g f n) (v : Int32) (hd : decode cc pc = .ok (.arraylength, 1)) (hv : Int32.ofNat n = v) (k : Wk B X nL T (pc + 1) lv (.int v :: st)) : Wk B X nL T pc lv (.ref (B.1 g f) :: st) := fun H locs ls hH hL hl => by
  obtain ⟨q0, hq, -⟩ := wl_at B T hI.1
  rw [wc_arr hI.2.1, hI.2.2] at hq
  exact va_alen C.1 C.2.1 C.2.2.2.2.2.1.1 hH.1 q0 2 hq rfl hv hd (k H locs ls hH hL hl)
theorem k_qaldr (C : Cx B X own cc nL d) {g f t n : Nat} {w : Nat → Nat} (hI : isQ B g f t n w) {ty : FieldType} (ht : (ktys B)[t]? = some (B.2.2.2.1 t, ty)) (hty : ty.isReference = true) {i : Int32} (hd : decode cc pc = .ok (.aaload, 1)) (hin : inb i n) (k : Wk B X nL T (pc + 1) lv (.ref (w i.toNatClampNeg) :: st)) : Wk B X nL T pc lv (.int i :: .ref (B.1 g f) :: st) := fun H locs ls hH hL hl => by
  obtain ⟨q0, hq, -⟩ := wl_at B T hI.1
  rw [wc_arr hI.2.1, hI.2.2] at hq
  have hlt : i.toNatClampNeg < n := Nat.not_le.mp fun q => hin (Or.inr q)
  exact W.aald (v := va_rf (some (w i.toNatClampNeg))) (ty := ty) C.1 C.2.1 (hH.1 q0 _ hq) ((C.2.2.2.2.2.1.1.2 t _ ht).1 n (fun j => va_rf (some (w j)))) hty (fun q => by cases q) (by show ¬ (i < 0 ∨ (arrV _ _ _).slots.size ≤ _); rw [arrV_size]; exact hin) (by show (arrV _ _ _).slots[_]? = _; rw [arrV_read _ _ hlt]) rfl rfl hd (k H locs ls hH hL hl)
theorem k_qald (C : Cx B X own cc nL d) {g f t n : Nat} {w : Nat → Nat} (hI : isQ B g f t n w) {ty : FieldType} (ht : (ktys B)[t]? = some (B.2.2.2.1 t, ty)) (hty : ty.isReference = true) {i : Int32} (hd : decode cc pc = .ok (.aaload, 1)) (h : (if inb i n then a else none) = some res) (k : inb i n → a = some res → Wk B X nL T (pc + 1) lv (.ref (w i.toNatClampNeg) :: st)) : Wk B X nL T pc lv (.int i :: .ref (B.1 g f) :: st) := by
  by_cases c : inb i n
  · rw [if_pos c] at h
    exact k_qaldr C hI ht hty hd c (k c h)
  · rw [if_neg c] at h
    cases h
theorem k_qlen (C : Cx B X own cc nL d) {g f t n : Nat} {w : Nat → Nat} (hI : isQ B g f t n w) {ty : FieldType} (ht : (ktys B)[t]? = some (B.2.2.2.1 t, ty)) (v : Int32) (hd : decode cc pc = .ok (.arraylength, 1)) (hv : Int32.ofNat n = v) (k : Wk B X nL T (pc + 1) lv (.int v :: st)) : Wk B X nL T pc lv (.ref (B.1 g f) :: st) := fun H locs ls hH hL hl => by
  obtain ⟨q0, hq, -⟩ := wl_at B T hI.1
  rw [wc_arr hI.2.1, hI.2.2] at hq
  exact va_alen C.1 C.2.1 C.2.2.2.2.2.1.1 hH.1 q0 t hq ht hv hd (k H locs ls hH hL hl)
theorem k_copy (C : Cx B X own cc nL d) (hdp : 1 ≤ d) {g0 f0 n0 g f n1 idx : Nat} (h0 : isI B g0 f0 n0) (h1 : isI B g f n1) {sp dp n : Int32} (hlink : Cond.methodLink own idx arraycopyName ∈ GW) (hnat : Cond.native arraycopyName ∈ GW) (hstat : Cond.static arraycopyName ∈ GW) (hini : Cond.initialized "java/lang/System" ∈ GW) (hst : (st.map fun v => v.category).sum ≤ 8) (hd : decode cc pc = .ok (.invokestatic idx, 3))
    (h : (if ¬ sp < 0 ∧ ¬ dp < 0 ∧ ¬ n < 0 ∧ sp.toNatClampNeg + n.toNatClampNeg ≤ n0 ∧ dp.toNatClampNeg + n.toNatClampNeg ≤ n1 then a else none) = some res) (k : a = some res → Wk B X nL (cpA T g0 f0 sp.toNatClampNeg g f dp.toNatClampNeg n.toNatClampNeg) (pc + 3) lv st) : Wk B X nL T pc lv (.int n :: .int dp :: .ref (B.1 g f) :: .int sp :: .ref (B.1 g0 f0) :: st) := fun H locs ls hH hL hl => by
  by_cases c : ¬ sp < 0 ∧ ¬ dp < 0 ∧ ¬ n < 0 ∧ sp.toNatClampNeg + n.toNatClampNeg ≤ n0 ∧ dp.toNatClampNeg + n.toNatClampNeg ≤ n1
  · rw [if_pos c] at h
    obtain ⟨q0, hq0, -⟩ := wl_at B T h0.1
    obtain ⟨q1, hq, hset⟩ := wl_at B T h1.1
    rw [wc_arr h0.2.1, h0.2.2] at hq0
    rw [wc_arr h1.2.1, h1.2.2] at hq
    have hts := C.2.2.2.2.1
    refine va_copyi C.1 C.2.1 (by rw [C.2.2.1]; exact hl.1.symm) C.2.2.2.1 (hts _ hlink) (hts _ hnat) (hts _ hstat) (hts _ hini) C.2.2.2.2.2.1.1 hH.1 hH.2.1 (hH.S hL) q0 q1 0 0 (ty := .int) hq0 hq rfl rfl rfl c.1 c.2.1 c.2.2.1 c.2.2.2.1 c.2.2.2.2 (fun _ _ => rfl) (Nat.le_trans hdp C.2.2.2.2.2.2.1) ?_ hd (fun H1 locs1 hP hD hS => ?_)
    · have e : nativeFrameWords "java/lang/System" "arraycopy" 5 + 11 ≤ 56 := by decide
      have e2 := C.2.2.2.2.2.2.2.1
      omega
    · have h9 := Hh.back (T' := cpA T g0 f0 sp.toNatClampNeg g f dp.toNatClampNeg n.toNatClampNeg) (hset _ (wc_cpA h1.2.1)) (by rw [wc_arr h1.2.1, h1.2.2, cpA_at]; rfl) hH.2.2.2 hP hD hS
      exact k h H1 locs1 ls h9.1 h9.2 hl
  · rw [if_neg c] at h
    cases h
theorem k_mmax (C : Cx B X own cc nL d) (hdp : 1 ≤ d) {idx : Nat} {x y : Int32} (hlink : Cond.methodLink own idx Lib.Math.max.name ∈ GW) (hstat : Cond.static Lib.Math.max.name ∈ GW) (hini : Cond.initialized "java/lang/Math" ∈ GW) (hcode : Cond.code Lib.Math.max.name Lib.Math.max.code 2 (some .int) ∈ GW) (hst : (st.map fun v => v.category).sum ≤ 8) (hd : decode cc pc = .ok (.invokestatic idx, 3)) (k : Wk B X nL T (pc + 3) lv (.int (if x < y then y else x) :: st)) : Wk B X nL T pc lv (.int y :: .int x :: st) := fun H locs ls hH hL hl => by
  have hts := C.2.2.2.2.1
  refine va_mmax C.1 C.2.1 (by rw [C.2.2.1]; exact hl.1.symm) C.2.2.2.1 (hts _ hlink) (hts _ hstat) (hts _ hini) (hts _ hcode) (Nat.le_trans hdp C.2.2.2.2.2.2.1) ?_ C.2.2.2.2.2.2.2.2.1 C.2.2.2.2.2.2.2.2.2 hd (k H locs ls hH hL hl)
  have e2 := C.2.2.2.2.2.2.2.1
  omega
theorem k_mmin (C : Cx B X own cc nL d) (hdp : 1 ≤ d) {idx : Nat} {x y : Int32} (hlink : Cond.methodLink own idx Lib.Math.min.name ∈ GW) (hstat : Cond.static Lib.Math.min.name ∈ GW) (hini : Cond.initialized "java/lang/Math" ∈ GW) (hcode : Cond.code Lib.Math.min.name Lib.Math.min.code 2 (some .int) ∈ GW) (hst : (st.map fun v => v.category).sum ≤ 8) (hd : decode cc pc = .ok (.invokestatic idx, 3)) (k : Wk B X nL T (pc + 3) lv (.int (if y < x then y else x) :: st)) : Wk B X nL T pc lv (.int y :: .int x :: st) := fun H locs ls hH hL hl => by
  have hts := C.2.2.2.2.1
  refine va_mmin C.1 C.2.1 (by rw [C.2.2.1]; exact hl.1.symm) C.2.2.2.1 (hts _ hlink) (hts _ hstat) (hts _ hini) (hts _ hcode) (Nat.le_trans hdp C.2.2.2.2.2.2.1) ?_ C.2.2.2.2.2.2.2.2.1 C.2.2.2.2.2.2.2.2.2 hd (k H locs ls hH hL hl)
  have e2 := C.2.2.2.2.2.2.2.1
  omega
theorem k_iret (C : Cx B X own cc nL d) {v r : Int32} {T1 : TT} (E : Cr B X (some .int) (some (.int r)) T1) (hr : v = r) (hT : T = T1) (hd : decode cc pc = .ok (.ireturn, 1)) : Wk B X nL T pc lv [.int v] := fun H locs ls hH hL hl => by
  subst hr; subst hT
  rw [E.2.2]
  exact W.iret C.1 C.2.1 E.1 (fun t ht _ => ⟨rfl, by rw [ht]; exact hH⟩) hL hd E.2.1
theorem k_zret (C : Cx B X own cc nL d) {v r : Int32} {T1 : TT} {ty : FieldType} (E : Cr B X (some ty) (some (.int r)) T1) (hn : narrow ty (.int v) = .int v) (hr : v = r) (hT : T = T1) (hd : decode cc pc = .ok (.ireturn, 1)) : Wk B X nL T pc lv [.int v] := fun H locs ls hH hL hl => by
  subst hr; subst hT
  rw [E.2.2]
  exact W.zret C.1 C.2.1 E.1 hn (fun t ht _ => ⟨rfl, by rw [ht]; exact hH⟩) hL hd E.2.1
theorem k_lret (C : Cx B X own cc nL d) {v r : Int64} {T1 : TT} (E : Cr B X (some .long) (some (.long r)) T1) (hr : v = r) (hT : T = T1) (hd : decode cc pc = .ok (.lreturn, 1)) : Wk B X nL T pc lv [.long v] := fun H locs ls hH hL hl => by
  subst hr; subst hT
  rw [E.2.2]
  exact W.lret C.1 C.2.1 E.1 (fun t ht _ => ⟨rfl, by rw [ht]; exact hH⟩) hL hd E.2.1
theorem k_vret (C : Cx B X own cc nL d) {T1 : TT} (E : Cr B X none none T1) (hT : T = T1) (hd : decode cc pc = .ok (.return_, 1)) : Wk B X nL T pc lv [] := fun H locs ls hH hL hl => by
  subst hT
  rw [E.2.2]
  exact W.vret C.1 C.2.1 E.1 (fun t ht _ => ⟨rfl, by rw [ht]; exact hH⟩) hL hd E.2.1
theorem k_aret (C : Cx B X own cc nL d) {v r : Nat} {T1 : TT} {nm : String} (E : Cr B X (some (.object nm)) (some (.ref r)) T1) (hr : v = r) (hT : T = T1) (hd : decode cc pc = .ok (.areturn, 1)) : Wk B X nL T pc lv [.ref v] := fun H locs ls hH hL hl => by
  subst hr; subst hT
  rw [E.2.2]
  exact W.aret C.1 C.2.1 E.1 (Or.inl ⟨_, rfl⟩) (Or.inr ⟨_, rfl⟩) (fun t ht _ => ⟨rfl, by rw [ht]; exact hH⟩) hL hd E.2.1
theorem k_get (C : Cx B X own cc nL d) {g ci k idx N : Nat} {Cn ref : String} {Tb : u_T} {fs : List Value} {v : Value} (hx : (g, 0) ∈ IX) (hw : wc B T g 0 = .inr (ci, fs)) (hc : vwCl[ci]? = some (Cn, Tb, N)) (hin : ∀ w ∈ u_ws Cn Tb N, w ∈ GW) (hk : k < N) (href : (Tb k).1 = ref) (hlink : Cond.fieldLink own idx ref (Tb k).2.1 (Tb k).2.2.1 ∈ GW) (hv : fs[k]? = some v) (hd : decode cc pc = .ok (.getfield idx, 3)) (kk : Wk B X nL T (pc + 3) lv (v :: st)) : Wk B X nL T pc lv (.ref (B.1 g 0) :: st) := fun H locs ls hH hL hl => by
  subst href
  obtain ⟨q0, hq, -⟩ := wl_at B T hx
  rw [hw] at hq
  exact va_get C.1 C.2.1 C.2.2.2.2.1 hin C.2.2.2.1 C.2.2.2.2.2.1.1 hH.1 q0 hq hc k hk (C.2.2.2.2.1 _ hlink) (fun _ h => h) hv hd (kk H locs ls hH hL hl)
theorem k_put (C : Cx B X own cc nL d) {T' : TT} {g ci k idx N : Nat} {Cn ref : String} {Tb : u_T} {fs : List Value} {v : Value} {ty0 : Nat → FieldType} {ty : FieldType} (hx : (g, 0) ∈ IX) (hw : wc B T g 0 = .inr (ci, fs)) (hc : vwCl[ci]? = some (Cn, Tb, N)) (hin : ∀ w ∈ u_ws Cn Tb N, w ∈ GW) (hty : ∀ k, k < N → parseFieldDescriptor (Tb k).2.2.1 = some (ty0 k)) (hnm : ∀ a, a < N → ∀ b, b < N → a ≠ b → (Tb a).2.1 ≠ (Tb b).2.1) (hk : k < N) (href : (Tb k).1 = ref) (hlink : Cond.fieldLink own idx ref (Tb k).2.1 (Tb k).2.2.1 ∈ GW) (hfin : (Tb k).2.2.2 = false) (hpd : parseFieldDescriptor (Tb k).2.2.1 = some ty) (hn : narrow ty v = v) (hfit : fits ty v = true) (hl9 : k < fs.length)
    (hw' : wc B T' g 0 = .inr (ci, fs.set k v)) (ho : ∀ g' f' : Nat, ¬ (g' = g ∧ f' = 0) → wc B T' g' f' = wc B T g' f') (hkk : kok (T.2.2.2 6).1 (T.2.2.2 6).2 → kok (T'.2.2.2 6).1 (T'.2.2.2 6).2) (hd : decode cc pc = .ok (.putfield idx, 3)) (kk : Wk B X nL T' (pc + 3) lv st) : Wk B X nL T pc lv (v :: .ref (B.1 g 0) :: st) := fun H locs ls hH hL hl => by
  subst href
  obtain ⟨q0, hq, hset⟩ := wl_at B T hx
  rw [hw] at hq
  refine va_put C.1 C.2.1 C.2.2.2.2.1 hin ty0 hty hnm C.2.2.2.1 C.2.2.2.2.2.1.1 hH.1 hH.2.1 (hH.S hL) q0 hq hc k hk (C.2.2.2.2.1 _ hlink) (fun _ h => h) hfin hpd hn hfit hl9 hd (fun H1 locs1 hP hD hS => ?_)
  have h9 := Hh.back (T' := T') (hset _ ho) hw' (hkk hH.2.2.2) hP hD hS
  exact kk H1 locs1 ls h9.1 h9.2 hl
end KR
end
section
/-! CALLS over Wk -/
theorem gG : GoodIn GW GW := fun w hw => ⟨hw, good_of_word (List.mem_filter.mp hw).2⟩
theorem gG_in {L : List Cond} (h : ∀ w ∈ L, w ∈ GW) : GoodIn GW L := fun w hw => gG w (h w hw)
theorem gG_code {y : MethodName} {cc : ByteArray} {maxL : Nat} {ret : Option FieldType} {L : List Cond} (hL : ∀ w ∈ L, w ∈ GW) (hc : Cond.code y cc maxL ret ∈ GW) : GoodIn GW (L ++ (Cond.code y cc maxL ret :: GW)) := gG_in (fun w hw => by
  rcases List.mem_append.mp hw with h | h
  · exact hL w h
  · rcases List.mem_cons.mp h with h | h
    · rw [h]; exact hc
    · exact h)
section KC
variable {B : KB} {X : KE} {own : String} {cc : ByteArray} {nL d : Nat} {T : TT} {pc : Nat} {lv : List (Nat × Value)} {st : List Value}
theorem k_blind {as : List Value} : FrameBlind (va_Pc as (fun U => Hh B T U.heap ∧ KK B U)) := fun a U g mk q => by
  obtain ⟨q0, qH, qK⟩ := q
  exact ⟨q0, qH, KK.same rfl qK⟩
theorem k_run {H : Heap} {locs : List Loc} {ls : Array Slot} {st0 rest : List Value} {r : Option Value} {T1 : TT} (hL : ∀ q ∈ locs, B.2.2.2.2.size ≤ q.base)
    (hr : va_Run X.1 X.2.1 X.2.2.1 X.2.2.2.1 X.2.2.2.2.1 X.2.2.2.2.2.1 X.2.2.2.2.2.2.1 X.2.2.2.2.2.2.2.1 X.2.2.2.2.2.2.2.2.1 X.2.2.2.2.2.2.2.2.2.1 H locs X.2.2.2.2.2.2.2.2.2.2.1 X.2.2.2.2.2.2.2.2.2.2.2.1 0 0 (F0 X.2.2.2.2.2.1 pc ls st0) rest (fun _ oc t => oc = .returned r ∧ Hh B T1 t.heap) (fun q : Nat => B.2.2.2.2.size ≤ q))
    (hl : lv_has ls nL lv) (kk : Wk B X nL T1 (pc + 3) lv (r.toList ++ rest)) :
    W X.1 X.2.1 X.2.2.1 X.2.2.2.1 X.2.2.2.2.1 X.2.2.2.2.2.1 X.2.2.2.2.2.2.1 X.2.2.2.2.2.2.2.1 X.2.2.2.2.2.2.2.2.1 X.2.2.2.2.2.2.2.2.2.1 H locs X.2.2.2.2.2.2.2.2.2.2.1 X.2.2.2.2.2.2.2.2.2.2.2.1 X.2.2.2.2.2.2.2.2.2.2.2.2 (F0 X.2.2.2.2.2.1 pc ls st0) := by
  intro T9 hT9 X9
  obtain ⟨v, st₀, t, T', L, h0, X', hL', e1, e2, ⟨hv, hH1⟩, stp⟩ := hr T9 hT9 X9
  cases hv
  obtain ⟨t2, a1, b1⟩ := kk T'.heap (locs ++ L) ls (by rw [e1]; exact hH1) (fun q hq => by
    rcases List.mem_append.mp hq with h | h
    · exact hL q h
    · exact hL' q h) hl T' rfl X'
  exact ⟨t2, stp t2 a1, b1⟩
/-- what the tables say of a static call's method -/
def LkS (own : String) (idx : Nat) (y : MethodName) (c2 : ByteArray) (maxL : Nat) (ret : Option FieldType) (n : Nat) : Prop :=
  (Cond.methodLink own idx y ∈ GW ∧ Cond.static y ∈ GW ∧ Cond.initialized y.cls ∈ GW ∧ Cond.code y c2 maxL ret ∈ GW) ∧ (y.cls ≠ "java/lang/invoke/MethodHandle" ∧ y.cls ≠ "java/lang/invoke/VarHandle" ∧ (parseMethodDescriptor y.desc).map (fun d => d.parameters.length) = some n) ∧ maxL ≤ 45
theorem room_of {d d' maxL : Nat} {R : Room} (h : d' < d) (hm : maxL ≤ 45) (h1 : d ≤ R.frames) (h2 : 64 * d ≤ R.locals) : (Rm d').frames + 1 ≤ R.frames ∧ 8 + (maxL + 11) + (Rm d').locals ≤ R.locals := by
  constructor
  · show d' + 1 ≤ R.frames
    omega
  · show 8 + (maxL + 11) + 64 * d' ≤ R.locals
    omega
theorem k_calls {idx : Nat} {y : MethodName} {c2 : ByteArray} {maxL n d' : Nat} {ret : Option FieldType} {as rest : List Value} {r : Option Value} {T1 : TT} (C : Cx B X own cc nL d) (lk : LkS own idx y c2 maxL ret n) (hdd : d' < d) (hk : Kt B X.2.1 d' y c2 maxL ret T as r T1) (hd : decode cc pc = .ok (.invokestatic idx, 3)) (hn : as.length = n) (hs : st = as.reverse ++ rest) (hW : (rest.map fun v => v.category).sum ≤ 8) (kk : Wk B X nL T1 (pc + 3) lv (r.toList ++ rest)) : Wk B X nL T pc lv st := fun H locs ls hH hL hl => by
  obtain ⟨hx, hb, hml, ho, hts, hK, hf, hlo, hce, hsl⟩ := C
  obtain ⟨⟨l1, l2, l3, l4⟩, l5, l6⟩ := lk
  refine k_run hL (va_runS (Ts := GW) ⟨hx, hb, hml, ho, hts⟩ hk (va_cwS n hts (gG_code (L := [.methodLink own idx y, .static y, .initialized y.cls]) ?_ l4) rfl rfl rfl l5 (room_of hdd l6 hf hlo)) ⟨k_blind, fun U hU hW => ⟨rfl, by rw [hU]; exact hH, KK.warm hW hK⟩⟩ rfl hn hl.1 hs ?_ hd ⟨hce, hsl⟩) hl kk
  · intro w hw
    simp only [List.mem_cons, List.not_mem_nil, or_false] at hw
    rcases hw with rfl | rfl | rfl
    · exact l1
    · exact l2
    · exact l3
  · show 2 * 0 + _ ≤ 8
    omega
/-- .. of an instance method's own class -/
def LkV (own : String) (idx : Nat) (y : MethodName) (c2 : ByteArray) (maxL : Nat) (ret : Option FieldType) (n : Nat) : Prop :=
  (Cond.methodLink own idx y ∈ GW ∧ Cond.instanceMethod y ∈ GW ∧ Cond.selects y.cls y y ∈ GW ∧ Cond.initialized y.cls ∈ GW ∧ Cond.code y c2 maxL ret ∈ GW) ∧ (y.cls ≠ "java/lang/invoke/MethodHandle" ∧ y.cls ≠ "java/lang/invoke/VarHandle" ∧ (parseMethodDescriptor y.desc).map (fun d => d.parameters.length) = some n) ∧ maxL ≤ 45
theorem k_callv {idx : Nat} {y : MethodName} {c2 : ByteArray} {maxL n d' g f ci : Nat} {q : vw_C} {fs : List Value} {ret : Option FieldType} {as rest : List Value} {r : Option Value} {T1 : TT} (C : Cx B X own cc nL d) (lk : LkV own idx y c2 maxL ret n) (hdd : d' < d) (hx0 : (g, f) ∈ IX) (hw0 : wc B T g f = .inr (ci, fs)) (hc0 : vwCl[ci]? = some q) (hq0 : q.1 = y.cls) (hk : Kt B X.2.1 d' y c2 maxL ret T (.ref (B.1 g f) :: as) r T1) (hd : decode cc pc = .ok (.invokevirtual idx, 3)) (hn : as.length = n) (hs : st = as.reverse ++ .ref (B.1 g f) :: rest) (hW : (rest.map fun v => v.category).sum ≤ 8) (kk : Wk B X nL T1 (pc + 3) lv (r.toList ++ rest)) : Wk B X nL T pc lv st := fun H locs ls hH hL hl => by
  obtain ⟨hx, hb, hml, ho, hts, hK, hf, hlo, hce, hsl⟩ := C
  obtain ⟨⟨l1, l2, l3, l3', l4⟩, l5, l6⟩ := lk
  obtain ⟨p0, hp0, -⟩ := wl_at B T hx0
  rw [hw0] at hp0
  have hrv := va_recv hK.1 hH.1 hc0 hp0
  rw [hq0] at hrv
  refine k_run hL (va_runV (Ts := GW) ⟨hx, hb, hml, ho, hts⟩ hk (cwV (C := y.cls) n hts (gG_code (L := [.methodLink own idx y, .instanceMethod y, .selects y.cls y y, .initialized y.cls]) ?_ l4) rfl rfl rfl ⟨rfl, l5⟩ (room_of hdd l6 hf hlo)) ⟨k_blind, hrv, fun U hU hW => ⟨rfl, by rw [hU]; exact hH, KK.warm hW hK⟩⟩ rfl hn hl.1 hs ?_ hd ⟨hce, hsl⟩) hl kk
  · intro w hw
    simp only [List.mem_cons, List.not_mem_nil, or_false] at hw
    rcases hw with rfl | rfl | rfl | rfl
    · exact l1
    · exact l2
    · exact l3
    · exact l3'
  · show 2 * 0 + _ ≤ 8
    omega
/-- a static method of a nest mate -/
theorem k_callsn {idx : Nat} {y : MethodName} {c2 : ByteArray} {maxL n d' : Nat} {ret : Option FieldType} {as rest : List Value} {r : Option Value} {T1 : TT} {host : String} (C : Cx B X own cc nL d) (hnw : va_Nw (.methodLinkNest own idx y host) X.2.2.2.2.1) (l2 : Cond.static y ∈ GW) (l3 : Cond.initialized y.cls ∈ GW) (l4 : Cond.code y c2 maxL ret ∈ GW) (l5 : y.cls ≠ "java/lang/invoke/MethodHandle" ∧ y.cls ≠ "java/lang/invoke/VarHandle" ∧ (parseMethodDescriptor y.desc).map (fun d => d.parameters.length) = some n) (l6 : maxL ≤ 45) (hdd : d' < d) (hk : Kt B X.2.1 d' y c2 maxL ret T as r T1) (hd : decode cc pc = .ok (.invokestatic idx, 3)) (hn : as.length = n) (hs : st = as.reverse ++ rest) (hW : (rest.map fun v => v.category).sum ≤ 8) (kk : Wk B X nL T1 (pc + 3) lv (r.toList ++ rest)) : Wk B X nL T pc lv st := fun H locs ls hH hL hl => by
  obtain ⟨hx, hb, hml, ho, hts, hK, hf, hlo, hce, hsl⟩ := C
  refine k_run hL (va_runSN (Ts := GW) ⟨hx, hb, hml, ho, hts⟩ hk ⟨va_cnB n hts (gG_code (L := []) (fun w hw => by cases hw) l4) rfl rfl rfl hnw (hts _ l3) l5 (room_of hdd l6 hf hlo), hts _ l2, trivial⟩ ⟨k_blind, fun U hU hW => ⟨rfl, by rw [hU]; exact hH, KK.warm hW hK⟩⟩ rfl hn hl.1 hs ?_ hd ⟨hce, hsl⟩) hl kk
  show 2 * 0 + _ ≤ 8
  omega
/-- .. of a method that a class over it, or a class under it, has -/
def LkU (own : String) (idx : Nat) (Cn : String) (x y : MethodName) (c2 : ByteArray) (maxL : Nat) (ret : Option FieldType) (n : Nat) : Prop :=
  (Cond.methodLink own idx x ∈ GW ∧ Cond.sameMethod x.cls x.cls x.name x.desc ∈ GW ∧ Cond.instanceMethod x ∈ GW ∧ Cond.selects Cn x y ∈ GW ∧ Cond.instanceMethod y ∈ GW ∧ Cond.initialized y.cls ∈ GW ∧ Cond.code y c2 maxL ret ∈ GW) ∧ (x.cls ≠ "java/lang/invoke/MethodHandle" ∧ x.cls ≠ "java/lang/invoke/VarHandle" ∧ (parseMethodDescriptor x.desc).map (fun d => d.parameters.length) = some n) ∧ maxL ≤ 45 ∧ ∃ (b0 : ByteArray) (m0 : Nat) (r0 : Option FieldType), Cond.code x b0 m0 r0 ∈ GW
theorem k_callu {idx : Nat} {Cn : String} {x y : MethodName} {c2 : ByteArray} {maxL n d' g f ci : Nat} {q : vw_C} {fs : List Value} {ret : Option FieldType} {as rest : List Value} {r : Option Value} {T1 : TT} (C : Cx B X own cc nL d) (lk : LkU own idx Cn x y c2 maxL ret n) (hdd : d' < d) (hx0 : (g, f) ∈ IX) (hw0 : wc B T g f = .inr (ci, fs)) (hc0 : vwCl[ci]? = some q) (hq0 : q.1 = Cn) (hk : Kt B X.2.1 d' y c2 maxL ret T (.ref (B.1 g f) :: as) r T1) (hd : decode cc pc = .ok (.invokevirtual idx, 3)) (hn : as.length = n) (hs : st = as.reverse ++ .ref (B.1 g f) :: rest) (hW : (rest.map fun v => v.category).sum ≤ 8) (kk : Wk B X nL T1 (pc + 3) lv (r.toList ++ rest)) : Wk B X nL T pc lv st := fun H locs ls hH hL hl => by
  obtain ⟨hx, hb, hml, ho, hts, hK, hf, hlo, hce, hsl⟩ := C
  obtain ⟨⟨l1, l2, l3, l4, l5, l6, l7⟩, l8, l9, b0, m0, r0, l10⟩ := lk
  obtain ⟨p0, hp0, -⟩ := wl_at B T hx0
  rw [hw0] at hp0
  have hrv := va_recv hK.1 hH.1 hc0 hp0
  rw [hq0] at hrv
  refine k_run hL (va_runU (Ts := GW) ⟨hx, hb, hml, ho, hts⟩ hk (va_cwO (C := Cn) (owner := x.cls) n hts (gG_code (L := [.methodLink own idx x, .sameMethod x.cls x.cls x.name x.desc, .instanceMethod ⟨x.cls, x.name, x.desc⟩, .selects Cn x y, .instanceMethod y, .initialized y.cls]) ?_ l7) rfl rfl rfl l10 l8 (room_of hdd l9 hf hlo)) ⟨k_blind, hrv, fun U hU hW => ⟨rfl, by rw [hU]; exact hH, KK.warm hW hK⟩⟩ rfl hn hl.1 hs ?_ hd ⟨hce, hsl⟩) hl kk
  · intro w hw
    simp only [List.mem_cons, List.not_mem_nil, or_false] at hw
    rcases hw with rfl | rfl | rfl | rfl | rfl | rfl
    · exact l1
    · exact l2
    · exact l3
    · exact l4
    · exact l5
    · exact l6
  · show 2 * 0 + _ ≤ 8
    omega
/-- super.y(..) -/
def LkP (own : String) (idx : Nat) (y : MethodName) (c2 : ByteArray) (maxL : Nat) (ret : Option FieldType) (n : Nat) : Prop :=
  (Cond.methodLink own idx y ∈ GW ∧ Cond.sameMethod y.cls y.cls y.name y.desc ∈ GW ∧ Cond.superclass own y.cls ∈ GW ∧ Cond.instanceMethod y ∈ GW ∧ Cond.initialized y.cls ∈ GW ∧ Cond.code y c2 maxL ret ∈ GW) ∧ (y.name ≠ "<init>" ∧ (parseMethodDescriptor y.desc).map (fun d => d.parameters.length) = some n) ∧ maxL ≤ 45
theorem k_callp {idx : Nat} {y : MethodName} {c2 : ByteArray} {maxL n d' g f ci : Nat} {q : vw_C} {fs : List Value} {ret : Option FieldType} {as rest : List Value} {r : Option Value} {T1 : TT} (C : Cx B X own cc nL d) (lk : LkP own idx y c2 maxL ret n) (hdd : d' < d) (hx0 : (g, f) ∈ IX) (hw0 : wc B T g f = .inr (ci, fs)) (hc0 : vwCl[ci]? = some q) (hk : Kt B X.2.1 d' y c2 maxL ret T (.ref (B.1 g f) :: as) r T1) (hd : decode cc pc = .ok (.invokespecial idx, 3)) (hn : as.length = n) (hs : st = as.reverse ++ .ref (B.1 g f) :: rest) (hW : (rest.map fun v => v.category).sum ≤ 8) (kk : Wk B X nL T1 (pc + 3) lv (r.toList ++ rest)) : Wk B X nL T pc lv st := fun H locs ls hH hL hl => by
  obtain ⟨hx, hb, hml, ho, hts, hK, hf, hlo, hce, hsl⟩ := C
  obtain ⟨⟨l1, l2, l3, l4, l5, l6⟩, l7, l8⟩ := lk
  obtain ⟨p0, hp0, -⟩ := wl_at B T hx0
  rw [hw0] at hp0
  have hrv := va_recv hK.1 hH.1 hc0 hp0
  refine k_run hL (va_runSU (Ts := GW) (hK.1.1 ci q hc0).2 ⟨hx, hb, hml, ho, hts⟩ hk (va_cwSU n hts (gG_code (L := [.methodLink own idx y, .sameMethod y.cls y.cls y.name y.desc, .superclass own y.cls, .instanceMethod y, .initialized y.cls]) ?_ l6) rfl rfl rfl l7 (room_of hdd l8 hf hlo)) ⟨k_blind, hrv, fun U hU hW => ⟨rfl, by rw [hU]; exact hH, KK.warm hW hK⟩⟩ rfl hn hl.1 hs ?_ hd ⟨hce, hsl⟩) hl kk
  · intro w hw
    simp only [List.mem_cons, List.not_mem_nil, or_false] at hw
    rcases hw with rfl | rfl | rfl | rfl | rfl
    · exact l1
    · exact l2
    · exact l3
    · exact l4
    · exact l5
  · show 2 * 0 + _ ≤ 8
    omega
end KC
end
section
section KF
variable {B : KB} {X : KE} {own : String} {cc : ByteArray} {nL d : Nat} {T : TT} {pc : Nat} {lv : List (Nat × Value)} {st : List Value} {g : Nat} {R : Type} {res : R} {a : Option R}
theorem ia_R2 (hg : g < 4) : isI B g 2 6 := ⟨ix_rank hg (by decide), by decide, fun z => by simp [warr, hg]⟩
theorem ia_R3 (hg : g < 4) : isI B g 3 6 := ⟨ix_rank hg (by decide), by decide, fun z => by simp [warr, hg]⟩
theorem ia_R4 (hg : g < 4) : isI B g 4 6 := ⟨ix_rank hg (by decide), by decide, fun z => by simp [warr, hg]⟩
theorem ia_R5 (hg : g < 4) : isI B g 5 36 := ⟨ix_rank hg (by decide), by decide, fun z => by simp [warr, hg]⟩
theorem ia_R6 (hg : g < 4) : isI B g 6 12 := ⟨ix_rank hg (by decide), by decide, fun z => by simp [warr, hg]⟩
theorem ia_R7 (hg : g < 4) : isI B g 7 104 := ⟨ix_rank hg (by decide), by decide, fun z => by simp [warr, hg]⟩
theorem iq_R (hg : g < 4) : isQ B g 1 3 6 (fun k => B.1 g (8 + k)) := ⟨ix_rank hg (by decide), by decide, fun z => by simp [warr, hg]⟩
theorem ia_4_2 : isZ B 4 2 2 := ⟨by decide +kernel, by decide, fun z => rfl⟩
theorem ia_4_3 : isI B 4 3 6 := ⟨by decide +kernel, by decide, fun z => rfl⟩
theorem ia_4_4 : isI B 4 4 3 := ⟨by decide +kernel, by decide, fun z => rfl⟩
theorem ia_5_1 : isB B 5 1 150 := ⟨by decide +kernel, by decide, fun z => rfl⟩
theorem ia_7_1 : isI B 7 1 6 := ⟨by decide +kernel, by decide, fun z => rfl⟩
theorem ia_7_2 : isI B 7 2 6 := ⟨by decide +kernel, by decide, fun z => rfl⟩
theorem ia_10_1 : isI B 10 1 175 := ⟨by decide +kernel, by decide, fun z => rfl⟩
theorem ia_10_2 : isI B 10 2 350 := ⟨by decide +kernel, by decide, fun z => rfl⟩
theorem ia_10_3 : isZ B 10 3 2 := ⟨by decide +kernel, by decide, fun z => rfl⟩
theorem ia_10_4 : isI B 10 4 3 := ⟨by decide +kernel, by decide, fun z => rfl⟩
theorem ia_10_5 : isI B 10 5 6 := ⟨by decide +kernel, by decide, fun z => rfl⟩
theorem ia_10_6 : isI B 10 6 6 := ⟨by decide +kernel, by decide, fun z => rfl⟩
theorem ia_10_7 : isI B 10 7 6 := ⟨by decide +kernel, by decide, fun z => rfl⟩
theorem ia_10_8 : isI B 10 8 150 := ⟨by decide +kernel, by decide, fun z => rfl⟩
theorem ia_10_9 : isI B 10 9 71 := ⟨by decide +kernel, by decide, fun z => rfl⟩
theorem ia_10_10 : isI B 10 10 2 := ⟨by decide +kernel, by decide, fun z => rfl⟩
theorem iq_img : isQ B 4 1 4 2 (fun k => B.1 (2 + k) 0) := ⟨by decide +kernel, by decide, fun z => rfl⟩
theorem iq_bef : isQ B 6 1 5 8 (fun k => B.1 8 (k + 1)) := ⟨by decide +kernel, by decide, fun z => rfl⟩
theorem iq_aft : isQ B 6 2 5 8 (fun k => B.1 9 (k + 1)) := ⟨by decide +kernel, by decide, fun z => rfl⟩
theorem ia_8 {t : Nat} (ht : t < 8) : isI B 8 (t + 1) 100 := ⟨ix_in (by decide) (by omega) (by simp [okx]; omega), by omega, fun z => by rcases (show t = 0 ∨ t = 1 ∨ t = 2 ∨ t = 3 ∨ t = 4 ∨ t = 5 ∨ t = 6 ∨ t = 7 by omega) with rfl | rfl | rfl | rfl | rfl | rfl | rfl | rfl <;> rfl⟩
theorem ia_9 {t : Nat} (ht : t < 8) : isI B 9 (t + 1) 100 := ⟨ix_in (by decide) (by omega) (by simp [okx]; omega), by omega, fun z => by rcases (show t = 0 ∨ t = 1 ∨ t = 2 ∨ t = 3 ∨ t = 4 ∨ t = 5 ∨ t = 6 ∨ t = 7 by omega) with rfl | rfl | rfl | rfl | rfl | rfl | rfl | rfl <;> rfl⟩
theorem inb_lt {i : Int32} {n : Nat} (h : inb i n) : i.toNatClampNeg < n := Nat.not_le.mp fun q => h (Or.inr q)
theorem wo_X4 (hg : g < 4) : wc B T g 0 = .inr (4, [.ref (B.1 g 1), .ref (B.1 g 2), .ref (B.1 g 3), .ref (B.1 g 4), .ref (B.1 g 5), .ref (B.1 g 6), .ref (B.1 g 7), .int (T.2.1 g 7), .int (T.2.1 g 8), .int (T.2.1 g 9), .int (T.2.1 g 10), .int (T.2.1 g 11)]) := by simp [wc, wobj, hg]
theorem ix_X4 (hg : g < 4) : (g, 0) ∈ IX := ix_rank hg (by decide)
theorem wo_X10 : wc B T 4 0 = .inr (10, [.ref (B.1 0 0), .ref (B.1 1 0), .ref (B.1 4 1), .ref (B.1 4 2), .ref (B.1 5 0), .ref (B.1 6 0), .ref (B.1 7 0), .ref (B.1 4 3), .ref (B.1 4 4), .long (T.2.2.1 4 9), .long (T.2.2.1 4 10)]) := by simp [wc, wobj]
theorem ix_X10 : (4, 0) ∈ IX := by decide +kernel
theorem wo_X9 : wc B T 5 0 = .inr (9, [.ref (B.1 5 1), .int (T.2.1 5 1), .int (T.2.1 5 2), .int (T.2.1 5 3), .int (T.2.1 5 4), .int (T.2.1 5 5), .int (T.2.1 5 6), .int (T.2.1 5 7), .int (T.2.1 5 8), .int (T.2.1 5 9)]) := by simp [wc, wobj]
theorem ix_X9 : (5, 0) ∈ IX := by decide +kernel
theorem wo_X5 : wc B T 6 0 = .inr (5, [.ref (B.1 6 1), .ref (B.1 6 2), .ref (B.1 (T.2.2.2 6).1 (T.2.2.2 6).2), .int (T.2.1 6 3), .int (T.2.1 6 4), .int (T.2.1 6 5)]) := by simp [wc, wobj]
theorem ix_X5 : (6, 0) ∈ IX := by decide +kernel
theorem wo_X2 : wc B T 7 0 = .inr (2, [.ref (B.1 7 1), .int (T.2.1 7 1), .ref (B.1 7 2)]) := by simp [wc, wobj]
theorem ix_X2 : (7, 0) ∈ IX := by decide +kernel
theorem wo_X11 : wc B T 10 0 = .inr (11, [.ref (B.1 10 1), .ref (B.1 10 2), .ref (B.1 10 3), .ref (B.1 10 4), .long (T.2.2.1 10 4), .long (T.2.2.1 10 5), .int (T.2.1 10 6), .int (T.2.1 10 7), .int (T.2.1 10 8), .ref (B.1 10 5), .ref (B.1 10 6), .ref (B.1 10 7), .ref (B.1 10 8), .int (T.2.1 10 13), .int (T.2.1 10 14), .int (T.2.1 10 15), .int (T.2.1 10 16), .int (T.2.1 10 17), .ref (B.1 10 9), .ref (B.1 10 10)]) := by simp [wc, wobj]
theorem ix_X11 : (10, 0) ∈ IX := by decide +kernel
theorem wc_sI {k : Nat} {x : Int32} : ∀ g' f' : Nat, ¬ (g' = g ∧ f' = 0) → wc B (sI T g k x) g' f' = wc B T g' f' := by
  intro g' f' hn
  by_cases h0 : f' = 0
  · have hg : ¬ g' = g := fun e => hn ⟨e, h0⟩
    subst h0
    simp [wc, sI, hg]
  · simp [wc, sI, h0]
theorem wc_sL {k : Nat} {x : Int64} : ∀ g' f' : Nat, ¬ (g' = g ∧ f' = 0) → wc B (sL T g k x) g' f' = wc B T g' f' := by
  intro g' f' hn
  by_cases h0 : f' = 0
  · have hg : ¬ g' = g := fun e => hn ⟨e, h0⟩
    subst h0
    simp [wc, sL, hg]
  · simp [wc, sL, h0]
theorem wc_sR {x : Nat × Nat} : ∀ g' f' : Nat, ¬ (g' = g ∧ f' = 0) → wc B (sR T g x) g' f' = wc B T g' f' := by
  intro g' f' hn
  by_cases h0 : f' = 0
  · have hg : ¬ g' = g := fun e => hn ⟨e, h0⟩
    subst h0
    simp [wc, sR, hg]
  · simp [wc, sR, h0]
theorem gf_X10_12 (C : Cx B X "GriefEngine" cc nL d) (hd : decode cc pc = .ok (.getfield 12, 3)) (kk : Wk B X nL T (pc + 3) lv (.ref (B.1 0 0) :: st)) : Wk B X nL T pc lv (.ref (B.1 4 0) :: st) := k_get C (k := 0) (ix_X10) (wo_X10) rfl inGX10 (by decide) rfl tw1_223 rfl hd kk
theorem gf_X10_16 (C : Cx B X "GriefEngine" cc nL d) (hd : decode cc pc = .ok (.getfield 16, 3)) (kk : Wk B X nL T (pc + 3) lv (.ref (B.1 1 0) :: st)) : Wk B X nL T pc lv (.ref (B.1 4 0) :: st) := k_get C (k := 1) (ix_X10) (wo_X10) rfl inGX10 (by decide) rfl tw1_224 rfl hd kk
theorem gf_X10_19 (C : Cx B X "GriefEngine" cc nL d) (hd : decode cc pc = .ok (.getfield 19, 3)) (kk : Wk B X nL T (pc + 3) lv (.ref (B.1 4 1) :: st)) : Wk B X nL T pc lv (.ref (B.1 4 0) :: st) := k_get C (k := 2) (ix_X10) (wo_X10) rfl inGX10 (by decide) rfl tw1_225 rfl hd kk
theorem gf_X10_23 (C : Cx B X "GriefEngine" cc nL d) (hd : decode cc pc = .ok (.getfield 23, 3)) (kk : Wk B X nL T (pc + 3) lv (.ref (B.1 4 2) :: st)) : Wk B X nL T pc lv (.ref (B.1 4 0) :: st) := k_get C (k := 3) (ix_X10) (wo_X10) rfl inGX10 (by decide) rfl tw1_226 rfl hd kk
theorem gf_X10_30 (C : Cx B X "GriefEngine" cc nL d) (hd : decode cc pc = .ok (.getfield 30, 3)) (kk : Wk B X nL T (pc + 3) lv (.ref (B.1 5 0) :: st)) : Wk B X nL T pc lv (.ref (B.1 4 0) :: st) := k_get C (k := 4) (ix_X10) (wo_X10) rfl inGX10 (by decide) rfl tw1_227 rfl hd kk
theorem gf_X10_37 (C : Cx B X "GriefEngine" cc nL d) (hd : decode cc pc = .ok (.getfield 37, 3)) (kk : Wk B X nL T (pc + 3) lv (.ref (B.1 6 0) :: st)) : Wk B X nL T pc lv (.ref (B.1 4 0) :: st) := k_get C (k := 5) (ix_X10) (wo_X10) rfl inGX10 (by decide) rfl tw1_228 rfl hd kk
theorem gf_X10_44 (C : Cx B X "GriefEngine" cc nL d) (hd : decode cc pc = .ok (.getfield 44, 3)) (kk : Wk B X nL T (pc + 3) lv (.ref (B.1 7 0) :: st)) : Wk B X nL T pc lv (.ref (B.1 4 0) :: st) := k_get C (k := 6) (ix_X10) (wo_X10) rfl inGX10 (by decide) rfl tw1_229 rfl hd kk
theorem gf_X10_48 (C : Cx B X "GriefEngine" cc nL d) (hd : decode cc pc = .ok (.getfield 48, 3)) (kk : Wk B X nL T (pc + 3) lv (.ref (B.1 4 3) :: st)) : Wk B X nL T pc lv (.ref (B.1 4 0) :: st) := k_get C (k := 7) (ix_X10) (wo_X10) rfl inGX10 (by decide) rfl tw1_230 rfl hd kk
theorem gf_X10_52 (C : Cx B X "GriefEngine" cc nL d) (hd : decode cc pc = .ok (.getfield 52, 3)) (kk : Wk B X nL T (pc + 3) lv (.ref (B.1 4 4) :: st)) : Wk B X nL T pc lv (.ref (B.1 4 0) :: st) := k_get C (k := 8) (ix_X10) (wo_X10) rfl inGX10 (by decide) rfl tw1_231 rfl hd kk
theorem gf_X10_55 (C : Cx B X "GriefEngine" cc nL d) (hd : decode cc pc = .ok (.getfield 55, 3)) (kk : Wk B X nL T (pc + 3) lv (.long (T.2.2.1 4 9) :: st)) : Wk B X nL T pc lv (.ref (B.1 4 0) :: st) := k_get C (k := 9) (ix_X10) (wo_X10) rfl inGX10 (by decide) rfl tw1_232 rfl hd kk
theorem pf_X10_55 (C : Cx B X "GriefEngine" cc nL d) {x : Int64} (hd : decode cc pc = .ok (.putfield 55, 3)) (kk : Wk B X nL (sL T 4 9 x) (pc + 3) lv st) : Wk B X nL T pc lv (.long x :: .ref (B.1 4 0) :: st) := k_put C (k := 9) (ix_X10) (wo_X10) rfl inGX10 tyX10_ok nmX10 (by decide) rfl tw1_232 rfl (ty := .long) (by decide +kernel) rfl rfl (by show 9 < 11; decide) (by rw [wo_X10]; simp [sL]) wc_sL (fun h => h) hd kk
theorem gf_X10_59 (C : Cx B X "GriefEngine" cc nL d) (hd : decode cc pc = .ok (.getfield 59, 3)) (kk : Wk B X nL T (pc + 3) lv (.long (T.2.2.1 4 10) :: st)) : Wk B X nL T pc lv (.ref (B.1 4 0) :: st) := k_get C (k := 10) (ix_X10) (wo_X10) rfl inGX10 (by decide) rfl tw1_233 rfl hd kk
theorem pf_X10_59 (C : Cx B X "GriefEngine" cc nL d) {x : Int64} (hd : decode cc pc = .ok (.putfield 59, 3)) (kk : Wk B X nL (sL T 4 10 x) (pc + 3) lv st) : Wk B X nL T pc lv (.long x :: .ref (B.1 4 0) :: st) := k_put C (k := 10) (ix_X10) (wo_X10) rfl inGX10 tyX10_ok nmX10 (by decide) rfl tw1_233 rfl (ty := .long) (by decide +kernel) rfl rfl (by show 10 < 11; decide) (by rw [wo_X10]; simp [sL]) wc_sL (fun h => h) hd kk
theorem gf_X10_62 (C : Cx B X "GriefEngine" cc nL d) (hg : g < 4) (hd : decode cc pc = .ok (.getfield 62, 3)) (kk : Wk B X nL T (pc + 3) lv (.int (T.2.1 g 7) :: st)) : Wk B X nL T pc lv (.ref (B.1 g 0) :: st) := k_get C (k := 7) (ix_X4 hg) (wo_X4 hg) rfl inGX4 (by decide) rfl tw1_93 rfl hd kk
theorem pf_X10_62 (C : Cx B X "GriefEngine" cc nL d) (hg : g < 4) {x : Int32} (hd : decode cc pc = .ok (.putfield 62, 3)) (kk : Wk B X nL (sI T g 7 x) (pc + 3) lv st) : Wk B X nL T pc lv (.int x :: .ref (B.1 g 0) :: st) := k_put C (k := 7) (ix_X4 hg) (wo_X4 hg) rfl inGX4 tyX4_ok nmX4 (by decide) rfl tw1_93 rfl (ty := .int) (by decide +kernel) rfl rfl (by show 7 < 12; decide) (by rw [wo_X4 hg]; simp [sI]) wc_sI (fun h => h) hd kk
theorem gf_X10_87 (C : Cx B X "GriefEngine" cc nL d) (hd : decode cc pc = .ok (.getfield 87, 3)) (kk : Wk B X nL T (pc + 3) lv (.int (T.2.1 5 1) :: st)) : Wk B X nL T pc lv (.ref (B.1 5 0) :: st) := k_get C (k := 1) (ix_X9) (wo_X9) rfl inGX9 (by decide) rfl tw1_139 rfl hd kk
theorem pf_X10_87 (C : Cx B X "GriefEngine" cc nL d) {x : Int32} (hd : decode cc pc = .ok (.putfield 87, 3)) (kk : Wk B X nL (sI T 5 1 x) (pc + 3) lv st) : Wk B X nL T pc lv (.int x :: .ref (B.1 5 0) :: st) := k_put C (k := 1) (ix_X9) (wo_X9) rfl inGX9 tyX9_ok nmX9 (by decide) rfl tw1_139 rfl (ty := .int) (by decide +kernel) rfl rfl (by show 1 < 10; decide) (by rw [wo_X9]; simp [sI]) wc_sI (fun h => h) hd kk
theorem gf_X10_101 (C : Cx B X "GriefEngine" cc nL d) (hd : decode cc pc = .ok (.getfield 101, 3)) (kk : Wk B X nL T (pc + 3) lv (.int (T.2.1 5 4) :: st)) : Wk B X nL T pc lv (.ref (B.1 5 0) :: st) := k_get C (k := 4) (ix_X9) (wo_X9) rfl inGX9 (by decide) rfl tw1_145 rfl hd kk
theorem pf_X10_101 (C : Cx B X "GriefEngine" cc nL d) {x : Int32} (hd : decode cc pc = .ok (.putfield 101, 3)) (h : (if x = 0 ∨ x = 1 then a else none) = some res) (kk : a = some res → Wk B X nL (sI T 5 4 x) (pc + 3) lv st) : Wk B X nL T pc lv (.int x :: .ref (B.1 5 0) :: st) := by
  by_cases c : x = 0 ∨ x = 1
  · rw [if_pos c] at h
    exact k_put C (k := 4) (ix_X9) (wo_X9) rfl inGX9 tyX9_ok nmX9 (by decide) rfl tw1_145 rfl (ty := .boolean) (by decide +kernel) (by rcases c with rfl | rfl <;> rfl) (by rcases c with rfl | rfl <;> rfl) (by show 4 < 10; decide) (by rw [wo_X9]; simp [sI]) wc_sI (fun h => h) hd (kk h)
  · rw [if_neg c] at h
    cases h
theorem gf_X10_105 (C : Cx B X "GriefEngine" cc nL d) (hd : decode cc pc = .ok (.getfield 105, 3)) (kk : Wk B X nL T (pc + 3) lv (.int (T.2.1 5 5) :: st)) : Wk B X nL T pc lv (.ref (B.1 5 0) :: st) := k_get C (k := 5) (ix_X9) (wo_X9) rfl inGX9 (by decide) rfl tw1_147 rfl hd kk
theorem pf_X10_105 (C : Cx B X "GriefEngine" cc nL d) {x : Int32} (hd : decode cc pc = .ok (.putfield 105, 3)) (kk : Wk B X nL (sI T 5 5 x) (pc + 3) lv st) : Wk B X nL T pc lv (.int x :: .ref (B.1 5 0) :: st) := k_put C (k := 5) (ix_X9) (wo_X9) rfl inGX9 tyX9_ok nmX9 (by decide) rfl tw1_147 rfl (ty := .int) (by decide +kernel) rfl rfl (by show 5 < 10; decide) (by rw [wo_X9]; simp [sI]) wc_sI (fun h => h) hd kk
theorem gf_X10_108 (C : Cx B X "GriefEngine" cc nL d) (hd : decode cc pc = .ok (.getfield 108, 3)) (kk : Wk B X nL T (pc + 3) lv (.int (T.2.1 5 6) :: st)) : Wk B X nL T pc lv (.ref (B.1 5 0) :: st) := k_get C (k := 6) (ix_X9) (wo_X9) rfl inGX9 (by decide) rfl tw1_149 rfl hd kk
theorem pf_X10_108 (C : Cx B X "GriefEngine" cc nL d) {x : Int32} (hd : decode cc pc = .ok (.putfield 108, 3)) (kk : Wk B X nL (sI T 5 6 x) (pc + 3) lv st) : Wk B X nL T pc lv (.int x :: .ref (B.1 5 0) :: st) := k_put C (k := 6) (ix_X9) (wo_X9) rfl inGX9 tyX9_ok nmX9 (by decide) rfl tw1_149 rfl (ty := .int) (by decide +kernel) rfl rfl (by show 6 < 10; decide) (by rw [wo_X9]; simp [sI]) wc_sI (fun h => h) hd kk
theorem gf_X10_115 (C : Cx B X "GriefEngine" cc nL d) (hd : decode cc pc = .ok (.getfield 115, 3)) (kk : Wk B X nL T (pc + 3) lv (.int (T.2.1 5 3) :: st)) : Wk B X nL T pc lv (.ref (B.1 5 0) :: st) := k_get C (k := 3) (ix_X9) (wo_X9) rfl inGX9 (by decide) rfl tw1_143 rfl hd kk
theorem pf_X10_115 (C : Cx B X "GriefEngine" cc nL d) {x : Int32} (hd : decode cc pc = .ok (.putfield 115, 3)) (h : (if x = 0 ∨ x = 1 then a else none) = some res) (kk : a = some res → Wk B X nL (sI T 5 3 x) (pc + 3) lv st) : Wk B X nL T pc lv (.int x :: .ref (B.1 5 0) :: st) := by
  by_cases c : x = 0 ∨ x = 1
  · rw [if_pos c] at h
    exact k_put C (k := 3) (ix_X9) (wo_X9) rfl inGX9 tyX9_ok nmX9 (by decide) rfl tw1_143 rfl (ty := .boolean) (by decide +kernel) (by rcases c with rfl | rfl <;> rfl) (by rcases c with rfl | rfl <;> rfl) (by show 3 < 10; decide) (by rw [wo_X9]; simp [sI]) wc_sI (fun h => h) hd (kk h)
  · rw [if_neg c] at h
    cases h
theorem gf_X10_118 (C : Cx B X "GriefEngine" cc nL d) (hd : decode cc pc = .ok (.getfield 118, 3)) (kk : Wk B X nL T (pc + 3) lv (.int (T.2.1 5 2) :: st)) : Wk B X nL T pc lv (.ref (B.1 5 0) :: st) := k_get C (k := 2) (ix_X9) (wo_X9) rfl inGX9 (by decide) rfl tw1_140 rfl hd kk
theorem pf_X10_118 (C : Cx B X "GriefEngine" cc nL d) {x : Int32} (hd : decode cc pc = .ok (.putfield 118, 3)) (kk : Wk B X nL (sI T 5 2 x) (pc + 3) lv st) : Wk B X nL T pc lv (.int x :: .ref (B.1 5 0) :: st) := k_put C (k := 2) (ix_X9) (wo_X9) rfl inGX9 tyX9_ok nmX9 (by decide) rfl tw1_140 rfl (ty := .int) (by decide +kernel) rfl rfl (by show 2 < 10; decide) (by rw [wo_X9]; simp [sI]) wc_sI (fun h => h) hd kk
theorem gf_X10_135 (C : Cx B X "GriefEngine" cc nL d) (hg : g < 4) (hd : decode cc pc = .ok (.getfield 135, 3)) (kk : Wk B X nL T (pc + 3) lv (.int (T.2.1 g 11) :: st)) : Wk B X nL T pc lv (.ref (B.1 g 0) :: st) := k_get C (k := 11) (ix_X4 hg) (wo_X4 hg) rfl inGX4 (by decide) rfl tw1_103 rfl hd kk
theorem pf_X10_135 (C : Cx B X "GriefEngine" cc nL d) (hg : g < 4) {x : Int32} (hd : decode cc pc = .ok (.putfield 135, 3)) (kk : Wk B X nL (sI T g 11 x) (pc + 3) lv st) : Wk B X nL T pc lv (.int x :: .ref (B.1 g 0) :: st) := k_put C (k := 11) (ix_X4 hg) (wo_X4 hg) rfl inGX4 tyX4_ok nmX4 (by decide) rfl tw1_103 rfl (ty := .int) (by decide +kernel) rfl rfl (by show 11 < 12; decide) (by rw [wo_X4 hg]; simp [sI]) wc_sI (fun h => h) hd kk
theorem gf_X10_141 (C : Cx B X "GriefEngine" cc nL d) (hg : g < 4) (hd : decode cc pc = .ok (.getfield 141, 3)) (kk : Wk B X nL T (pc + 3) lv (.int (T.2.1 g 8) :: st)) : Wk B X nL T pc lv (.ref (B.1 g 0) :: st) := k_get C (k := 8) (ix_X4 hg) (wo_X4 hg) rfl inGX4 (by decide) rfl tw1_97 rfl hd kk
theorem pf_X10_141 (C : Cx B X "GriefEngine" cc nL d) (hg : g < 4) {x : Int32} (hd : decode cc pc = .ok (.putfield 141, 3)) (kk : Wk B X nL (sI T g 8 x) (pc + 3) lv st) : Wk B X nL T pc lv (.int x :: .ref (B.1 g 0) :: st) := k_put C (k := 8) (ix_X4 hg) (wo_X4 hg) rfl inGX4 tyX4_ok nmX4 (by decide) rfl tw1_97 rfl (ty := .int) (by decide +kernel) rfl rfl (by show 8 < 12; decide) (by rw [wo_X4 hg]; simp [sI]) wc_sI (fun h => h) hd kk
theorem gf_X10_144 (C : Cx B X "GriefEngine" cc nL d) (hg : g < 4) (hd : decode cc pc = .ok (.getfield 144, 3)) (kk : Wk B X nL T (pc + 3) lv (.ref (B.1 g 2) :: st)) : Wk B X nL T pc lv (.ref (B.1 g 0) :: st) := k_get C (k := 1) (ix_X4 hg) (wo_X4 hg) rfl inGX4 (by decide) rfl tw1_80 rfl hd kk
theorem gf_X10_147 (C : Cx B X "GriefEngine" cc nL d) (hg : g < 4) (hd : decode cc pc = .ok (.getfield 147, 3)) (kk : Wk B X nL T (pc + 3) lv (.ref (B.1 g 3) :: st)) : Wk B X nL T pc lv (.ref (B.1 g 0) :: st) := k_get C (k := 2) (ix_X4 hg) (wo_X4 hg) rfl inGX4 (by decide) rfl tw1_84 rfl hd kk
theorem gf_X10_150 (C : Cx B X "GriefEngine" cc nL d) (hg : g < 4) (hd : decode cc pc = .ok (.getfield 150, 3)) (kk : Wk B X nL T (pc + 3) lv (.ref (B.1 g 4) :: st)) : Wk B X nL T pc lv (.ref (B.1 g 0) :: st) := k_get C (k := 3) (ix_X4 hg) (wo_X4 hg) rfl inGX4 (by decide) rfl tw1_86 rfl hd kk
theorem gf_X10_190 (C : Cx B X "GriefEngine" cc nL d) (hd : decode cc pc = .ok (.getfield 190, 3)) (kk : Wk B X nL T (pc + 3) lv (.int (T.2.1 7 1) :: st)) : Wk B X nL T pc lv (.ref (B.1 7 0) :: st) := k_get C (k := 1) (ix_X2) (wo_X2) rfl inGX2 (by decide) rfl tw1_214 rfl hd kk
theorem pf_X10_190 (C : Cx B X "GriefEngine" cc nL d) {x : Int32} (hd : decode cc pc = .ok (.putfield 190, 3)) (kk : Wk B X nL (sI T 7 1 x) (pc + 3) lv st) : Wk B X nL T pc lv (.int x :: .ref (B.1 7 0) :: st) := k_put C (k := 1) (ix_X2) (wo_X2) rfl inGX2 tyX2_ok nmX2 (by decide) rfl tw1_214 rfl (ty := .int) (by decide +kernel) rfl rfl (by show 1 < 3; decide) (by rw [wo_X2]; simp [sI]) wc_sI (fun h => h) hd kk
theorem gf_X10_193 (C : Cx B X "GriefEngine" cc nL d) (hd : decode cc pc = .ok (.getfield 193, 3)) (kk : Wk B X nL T (pc + 3) lv (.ref (B.1 7 1) :: st)) : Wk B X nL T pc lv (.ref (B.1 7 0) :: st) := k_get C (k := 0) (ix_X2) (wo_X2) rfl inGX2 (by decide) rfl tw1_212 rfl hd kk
theorem gf_X10_203 (C : Cx B X "GriefEngine" cc nL d) (hg : g < 4) (hd : decode cc pc = .ok (.getfield 203, 3)) (kk : Wk B X nL T (pc + 3) lv (.int (T.2.1 g 9) :: st)) : Wk B X nL T pc lv (.ref (B.1 g 0) :: st) := k_get C (k := 9) (ix_X4 hg) (wo_X4 hg) rfl inGX4 (by decide) rfl tw1_99 rfl hd kk
theorem pf_X10_203 (C : Cx B X "GriefEngine" cc nL d) (hg : g < 4) {x : Int32} (hd : decode cc pc = .ok (.putfield 203, 3)) (kk : Wk B X nL (sI T g 9 x) (pc + 3) lv st) : Wk B X nL T pc lv (.int x :: .ref (B.1 g 0) :: st) := k_put C (k := 9) (ix_X4 hg) (wo_X4 hg) rfl inGX4 tyX4_ok nmX4 (by decide) rfl tw1_99 rfl (ty := .int) (by decide +kernel) rfl rfl (by show 9 < 12; decide) (by rw [wo_X4 hg]; simp [sI]) wc_sI (fun h => h) hd kk
theorem gf_X10_206 (C : Cx B X "GriefEngine" cc nL d) (hg : g < 4) (hd : decode cc pc = .ok (.getfield 206, 3)) (kk : Wk B X nL T (pc + 3) lv (.int (T.2.1 g 10) :: st)) : Wk B X nL T pc lv (.ref (B.1 g 0) :: st) := k_get C (k := 10) (ix_X4 hg) (wo_X4 hg) rfl inGX4 (by decide) rfl tw1_101 rfl hd kk
theorem pf_X10_206 (C : Cx B X "GriefEngine" cc nL d) (hg : g < 4) {x : Int32} (hd : decode cc pc = .ok (.putfield 206, 3)) (kk : Wk B X nL (sI T g 10 x) (pc + 3) lv st) : Wk B X nL T pc lv (.int x :: .ref (B.1 g 0) :: st) := k_put C (k := 10) (ix_X4 hg) (wo_X4 hg) rfl inGX4 tyX4_ok nmX4 (by decide) rfl tw1_101 rfl (ty := .int) (by decide +kernel) rfl rfl (by show 10 < 12; decide) (by rw [wo_X4 hg]; simp [sI]) wc_sI (fun h => h) hd kk
theorem gf_X10_260 (C : Cx B X "GriefEngine" cc nL d) (hg : g < 4) (hd : decode cc pc = .ok (.getfield 260, 3)) (kk : Wk B X nL T (pc + 3) lv (.ref (B.1 g 5) :: st)) : Wk B X nL T pc lv (.ref (B.1 g 0) :: st) := k_get C (k := 4) (ix_X4 hg) (wo_X4 hg) rfl inGX4 (by decide) rfl tw1_88 rfl hd kk
theorem gf_X10_263 (C : Cx B X "GriefEngine" cc nL d) (hg : g < 4) (hd : decode cc pc = .ok (.getfield 263, 3)) (kk : Wk B X nL T (pc + 3) lv (.ref (B.1 g 6) :: st)) : Wk B X nL T pc lv (.ref (B.1 g 0) :: st) := k_get C (k := 5) (ix_X4 hg) (wo_X4 hg) rfl inGX4 (by decide) rfl tw1_90 rfl hd kk
theorem gf_X10_266 (C : Cx B X "GriefEngine" cc nL d) (hg : g < 4) (hd : decode cc pc = .ok (.getfield 266, 3)) (kk : Wk B X nL T (pc + 3) lv (.ref (B.1 g 1) :: st)) : Wk B X nL T pc lv (.ref (B.1 g 0) :: st) := k_get C (k := 0) (ix_X4 hg) (wo_X4 hg) rfl inGX4 (by decide) rfl tw1_77 rfl hd kk
theorem gf_X2_9 (C : Cx B X "GriefEngine$Pairs" cc nL d) (hd : decode cc pc = .ok (.getfield 9, 3)) (kk : Wk B X nL T (pc + 3) lv (.ref (B.1 7 1) :: st)) : Wk B X nL T pc lv (.ref (B.1 7 0) :: st) := k_get C (k := 0) (ix_X2) (wo_X2) rfl inGX2 (by decide) rfl tw1_211 rfl hd kk
theorem gf_X2_15 (C : Cx B X "GriefEngine$Pairs" cc nL d) (hd : decode cc pc = .ok (.getfield 15, 3)) (kk : Wk B X nL T (pc + 3) lv (.ref (B.1 7 2) :: st)) : Wk B X nL T pc lv (.ref (B.1 7 0) :: st) := k_get C (k := 2) (ix_X2) (wo_X2) rfl inGX2 (by decide) rfl tw1_215 rfl hd kk
theorem gf_X2_18 (C : Cx B X "GriefEngine$Pairs" cc nL d) (hd : decode cc pc = .ok (.getfield 18, 3)) (kk : Wk B X nL T (pc + 3) lv (.int (T.2.1 7 1) :: st)) : Wk B X nL T pc lv (.ref (B.1 7 0) :: st) := k_get C (k := 1) (ix_X2) (wo_X2) rfl inGX2 (by decide) rfl tw1_213 rfl hd kk
theorem pf_X2_18 (C : Cx B X "GriefEngine$Pairs" cc nL d) {x : Int32} (hd : decode cc pc = .ok (.putfield 18, 3)) (kk : Wk B X nL (sI T 7 1 x) (pc + 3) lv st) : Wk B X nL T pc lv (.int x :: .ref (B.1 7 0) :: st) := k_put C (k := 1) (ix_X2) (wo_X2) rfl inGX2 tyX2_ok nmX2 (by decide) rfl tw1_213 rfl (ty := .int) (by decide +kernel) rfl rfl (by show 1 < 3; decide) (by rw [wo_X2]; simp [sI]) wc_sI (fun h => h) hd kk
theorem gf_X2_26 (C : Cx B X "GriefEngine$Pairs" cc nL d) (hg : g < 4) (hd : decode cc pc = .ok (.getfield 26, 3)) (kk : Wk B X nL T (pc + 3) lv (.int (T.2.1 g 7) :: st)) : Wk B X nL T pc lv (.ref (B.1 g 0) :: st) := k_get C (k := 7) (ix_X4 hg) (wo_X4 hg) rfl inGX4 (by decide) rfl tw1_94 rfl hd kk
theorem pf_X2_26 (C : Cx B X "GriefEngine$Pairs" cc nL d) (hg : g < 4) {x : Int32} (hd : decode cc pc = .ok (.putfield 26, 3)) (kk : Wk B X nL (sI T g 7 x) (pc + 3) lv st) : Wk B X nL T pc lv (.int x :: .ref (B.1 g 0) :: st) := k_put C (k := 7) (ix_X4 hg) (wo_X4 hg) rfl inGX4 tyX4_ok nmX4 (by decide) rfl tw1_94 rfl (ty := .int) (by decide +kernel) rfl rfl (by show 7 < 12; decide) (by rw [wo_X4 hg]; simp [sI]) wc_sI (fun h => h) hd kk
theorem gf_X2_45 (C : Cx B X "GriefEngine$Pairs" cc nL d) (hg : g < 4) (hd : decode cc pc = .ok (.getfield 45, 3)) (kk : Wk B X nL T (pc + 3) lv (.ref (B.1 g 3) :: st)) : Wk B X nL T pc lv (.ref (B.1 g 0) :: st) := k_get C (k := 2) (ix_X4 hg) (wo_X4 hg) rfl inGX4 (by decide) rfl tw1_83 rfl hd kk
theorem gf_X2_54 (C : Cx B X "GriefEngine$Pairs" cc nL d) (hg : g < 4) (hd : decode cc pc = .ok (.getfield 54, 3)) (kk : Wk B X nL T (pc + 3) lv (.ref (B.1 g 2) :: st)) : Wk B X nL T pc lv (.ref (B.1 g 0) :: st) := k_get C (k := 1) (ix_X4 hg) (wo_X4 hg) rfl inGX4 (by decide) rfl tw1_79 rfl hd kk
theorem gf_X4_27 (C : Cx B X "GriefEngine$Rank" cc nL d) (hg : g < 4) (hd : decode cc pc = .ok (.getfield 27, 3)) (kk : Wk B X nL T (pc + 3) lv (.ref (B.1 g 1) :: st)) : Wk B X nL T pc lv (.ref (B.1 g 0) :: st) := k_get C (k := 0) (ix_X4 hg) (wo_X4 hg) rfl inGX4 (by decide) rfl tw1_76 rfl hd kk
theorem gf_X4_33 (C : Cx B X "GriefEngine$Rank" cc nL d) (hg : g < 4) (hd : decode cc pc = .ok (.getfield 33, 3)) (kk : Wk B X nL T (pc + 3) lv (.ref (B.1 g 2) :: st)) : Wk B X nL T pc lv (.ref (B.1 g 0) :: st) := k_get C (k := 1) (ix_X4 hg) (wo_X4 hg) rfl inGX4 (by decide) rfl tw1_78 rfl hd kk
theorem gf_X4_37 (C : Cx B X "GriefEngine$Rank" cc nL d) (hg : g < 4) (hd : decode cc pc = .ok (.getfield 37, 3)) (kk : Wk B X nL T (pc + 3) lv (.ref (B.1 g 3) :: st)) : Wk B X nL T pc lv (.ref (B.1 g 0) :: st) := k_get C (k := 2) (ix_X4 hg) (wo_X4 hg) rfl inGX4 (by decide) rfl tw1_81 rfl hd kk
theorem gf_X4_40 (C : Cx B X "GriefEngine$Rank" cc nL d) (hg : g < 4) (hd : decode cc pc = .ok (.getfield 40, 3)) (kk : Wk B X nL T (pc + 3) lv (.ref (B.1 g 4) :: st)) : Wk B X nL T pc lv (.ref (B.1 g 0) :: st) := k_get C (k := 3) (ix_X4 hg) (wo_X4 hg) rfl inGX4 (by decide) rfl tw1_85 rfl hd kk
theorem gf_X4_43 (C : Cx B X "GriefEngine$Rank" cc nL d) (hg : g < 4) (hd : decode cc pc = .ok (.getfield 43, 3)) (kk : Wk B X nL T (pc + 3) lv (.ref (B.1 g 5) :: st)) : Wk B X nL T pc lv (.ref (B.1 g 0) :: st) := k_get C (k := 4) (ix_X4 hg) (wo_X4 hg) rfl inGX4 (by decide) rfl tw1_87 rfl hd kk
theorem gf_X4_46 (C : Cx B X "GriefEngine$Rank" cc nL d) (hg : g < 4) (hd : decode cc pc = .ok (.getfield 46, 3)) (kk : Wk B X nL T (pc + 3) lv (.ref (B.1 g 6) :: st)) : Wk B X nL T pc lv (.ref (B.1 g 0) :: st) := k_get C (k := 5) (ix_X4 hg) (wo_X4 hg) rfl inGX4 (by decide) rfl tw1_89 rfl hd kk
theorem gf_X4_49 (C : Cx B X "GriefEngine$Rank" cc nL d) (hg : g < 4) (hd : decode cc pc = .ok (.getfield 49, 3)) (kk : Wk B X nL T (pc + 3) lv (.ref (B.1 g 7) :: st)) : Wk B X nL T pc lv (.ref (B.1 g 0) :: st) := k_get C (k := 6) (ix_X4 hg) (wo_X4 hg) rfl inGX4 (by decide) rfl tw1_91 rfl hd kk
theorem gf_X4_52 (C : Cx B X "GriefEngine$Rank" cc nL d) (hg : g < 4) (hd : decode cc pc = .ok (.getfield 52, 3)) (kk : Wk B X nL T (pc + 3) lv (.int (T.2.1 g 7) :: st)) : Wk B X nL T pc lv (.ref (B.1 g 0) :: st) := k_get C (k := 7) (ix_X4 hg) (wo_X4 hg) rfl inGX4 (by decide) rfl tw1_92 rfl hd kk
theorem pf_X4_52 (C : Cx B X "GriefEngine$Rank" cc nL d) (hg : g < 4) {x : Int32} (hd : decode cc pc = .ok (.putfield 52, 3)) (kk : Wk B X nL (sI T g 7 x) (pc + 3) lv st) : Wk B X nL T pc lv (.int x :: .ref (B.1 g 0) :: st) := k_put C (k := 7) (ix_X4 hg) (wo_X4 hg) rfl inGX4 tyX4_ok nmX4 (by decide) rfl tw1_92 rfl (ty := .int) (by decide +kernel) rfl rfl (by show 7 < 12; decide) (by rw [wo_X4 hg]; simp [sI]) wc_sI (fun h => h) hd kk
theorem gf_X4_56 (C : Cx B X "GriefEngine$Rank" cc nL d) (hg : g < 4) (hd : decode cc pc = .ok (.getfield 56, 3)) (kk : Wk B X nL T (pc + 3) lv (.int (T.2.1 g 8) :: st)) : Wk B X nL T pc lv (.ref (B.1 g 0) :: st) := k_get C (k := 8) (ix_X4 hg) (wo_X4 hg) rfl inGX4 (by decide) rfl tw1_95 rfl hd kk
theorem pf_X4_56 (C : Cx B X "GriefEngine$Rank" cc nL d) (hg : g < 4) {x : Int32} (hd : decode cc pc = .ok (.putfield 56, 3)) (kk : Wk B X nL (sI T g 8 x) (pc + 3) lv st) : Wk B X nL T pc lv (.int x :: .ref (B.1 g 0) :: st) := k_put C (k := 8) (ix_X4 hg) (wo_X4 hg) rfl inGX4 tyX4_ok nmX4 (by decide) rfl tw1_95 rfl (ty := .int) (by decide +kernel) rfl rfl (by show 8 < 12; decide) (by rw [wo_X4 hg]; simp [sI]) wc_sI (fun h => h) hd kk
theorem gf_X4_59 (C : Cx B X "GriefEngine$Rank" cc nL d) (hg : g < 4) (hd : decode cc pc = .ok (.getfield 59, 3)) (kk : Wk B X nL T (pc + 3) lv (.int (T.2.1 g 9) :: st)) : Wk B X nL T pc lv (.ref (B.1 g 0) :: st) := k_get C (k := 9) (ix_X4 hg) (wo_X4 hg) rfl inGX4 (by decide) rfl tw1_98 rfl hd kk
theorem pf_X4_59 (C : Cx B X "GriefEngine$Rank" cc nL d) (hg : g < 4) {x : Int32} (hd : decode cc pc = .ok (.putfield 59, 3)) (kk : Wk B X nL (sI T g 9 x) (pc + 3) lv st) : Wk B X nL T pc lv (.int x :: .ref (B.1 g 0) :: st) := k_put C (k := 9) (ix_X4 hg) (wo_X4 hg) rfl inGX4 tyX4_ok nmX4 (by decide) rfl tw1_98 rfl (ty := .int) (by decide +kernel) rfl rfl (by show 9 < 12; decide) (by rw [wo_X4 hg]; simp [sI]) wc_sI (fun h => h) hd kk
theorem gf_X4_62 (C : Cx B X "GriefEngine$Rank" cc nL d) (hg : g < 4) (hd : decode cc pc = .ok (.getfield 62, 3)) (kk : Wk B X nL T (pc + 3) lv (.int (T.2.1 g 10) :: st)) : Wk B X nL T pc lv (.ref (B.1 g 0) :: st) := k_get C (k := 10) (ix_X4 hg) (wo_X4 hg) rfl inGX4 (by decide) rfl tw1_100 rfl hd kk
theorem pf_X4_62 (C : Cx B X "GriefEngine$Rank" cc nL d) (hg : g < 4) {x : Int32} (hd : decode cc pc = .ok (.putfield 62, 3)) (kk : Wk B X nL (sI T g 10 x) (pc + 3) lv st) : Wk B X nL T pc lv (.int x :: .ref (B.1 g 0) :: st) := k_put C (k := 10) (ix_X4 hg) (wo_X4 hg) rfl inGX4 tyX4_ok nmX4 (by decide) rfl tw1_100 rfl (ty := .int) (by decide +kernel) rfl rfl (by show 10 < 12; decide) (by rw [wo_X4 hg]; simp [sI]) wc_sI (fun h => h) hd kk
theorem gf_X4_65 (C : Cx B X "GriefEngine$Rank" cc nL d) (hg : g < 4) (hd : decode cc pc = .ok (.getfield 65, 3)) (kk : Wk B X nL T (pc + 3) lv (.int (T.2.1 g 11) :: st)) : Wk B X nL T pc lv (.ref (B.1 g 0) :: st) := k_get C (k := 11) (ix_X4 hg) (wo_X4 hg) rfl inGX4 (by decide) rfl tw1_102 rfl hd kk
theorem pf_X4_65 (C : Cx B X "GriefEngine$Rank" cc nL d) (hg : g < 4) {x : Int32} (hd : decode cc pc = .ok (.putfield 65, 3)) (kk : Wk B X nL (sI T g 11 x) (pc + 3) lv st) : Wk B X nL T pc lv (.int x :: .ref (B.1 g 0) :: st) := k_put C (k := 11) (ix_X4 hg) (wo_X4 hg) rfl inGX4 tyX4_ok nmX4 (by decide) rfl tw1_102 rfl (ty := .int) (by decide +kernel) rfl rfl (by show 11 < 12; decide) (by rw [wo_X4 hg]; simp [sI]) wc_sI (fun h => h) hd kk
theorem gf_X5_11 (C : Cx B X "GriefEngine$Rows" cc nL d) (hd : decode cc pc = .ok (.getfield 11, 3)) (kk : Wk B X nL T (pc + 3) lv (.ref (B.1 6 1) :: st)) : Wk B X nL T pc lv (.ref (B.1 6 0) :: st) := k_get C (k := 0) (ix_X5) (wo_X5) rfl inGX5 (by decide) rfl tw1_186 rfl hd kk
theorem gf_X5_16 (C : Cx B X "GriefEngine$Rows" cc nL d) (hd : decode cc pc = .ok (.getfield 16, 3)) (kk : Wk B X nL T (pc + 3) lv (.ref (B.1 6 2) :: st)) : Wk B X nL T pc lv (.ref (B.1 6 0) :: st) := k_get C (k := 1) (ix_X5) (wo_X5) rfl inGX5 (by decide) rfl tw1_187 rfl hd kk
theorem gf_X5_22 (C : Cx B X "GriefEngine$Rows" cc nL d) (hd : decode cc pc = .ok (.getfield 22, 3)) (kk : kok (T.2.2.2 6).1 (T.2.2.2 6).2 → Wk B X nL T (pc + 3) lv (.ref (B.1 (T.2.2.2 6).1 (T.2.2.2 6).2) :: st)) : Wk B X nL T pc lv (.ref (B.1 6 0) :: st) := fun H locs ls hH hL hl => k_get C (k := 2) ix_X5 wo_X5 rfl inGX5 (by decide) rfl tw1_188 rfl hd (kk hH.2.2.2) H locs ls hH hL hl
theorem pf_X5_22 (C : Cx B X "GriefEngine$Rows" cc nL d) {h0 : Nat × Nat} (hk : kok h0.1 h0.2) (hd : decode cc pc = .ok (.putfield 22, 3)) (kk : Wk B X nL (sR T 6 h0) (pc + 3) lv st) : Wk B X nL T pc lv (.ref (B.1 h0.1 h0.2) :: .ref (B.1 6 0) :: st) := k_put C (k := 2) (ix_X5) (wo_X5) rfl inGX5 tyX5_ok nmX5 (by decide) rfl tw1_188 rfl (ty := .object "GriefEngine$Plain") (by decide +kernel) rfl rfl (by show 2 < 6; decide) (by rw [wo_X5]; simp [sR]) wc_sR (fun _ => by simpa [sR] using hk) hd kk
theorem gf_X5_36 (C : Cx B X "GriefEngine$Rows" cc nL d) (hg : g < 4) (hd : decode cc pc = .ok (.getfield 36, 3)) (kk : Wk B X nL T (pc + 3) lv (.int (T.2.1 g 8) :: st)) : Wk B X nL T pc lv (.ref (B.1 g 0) :: st) := k_get C (k := 8) (ix_X4 hg) (wo_X4 hg) rfl inGX4 (by decide) rfl tw1_96 rfl hd kk
theorem pf_X5_36 (C : Cx B X "GriefEngine$Rows" cc nL d) (hg : g < 4) {x : Int32} (hd : decode cc pc = .ok (.putfield 36, 3)) (kk : Wk B X nL (sI T g 8 x) (pc + 3) lv st) : Wk B X nL T pc lv (.int x :: .ref (B.1 g 0) :: st) := k_put C (k := 8) (ix_X4 hg) (wo_X4 hg) rfl inGX4 tyX4_ok nmX4 (by decide) rfl tw1_96 rfl (ty := .int) (by decide +kernel) rfl rfl (by show 8 < 12; decide) (by rw [wo_X4 hg]; simp [sI]) wc_sI (fun h => h) hd kk
theorem gf_X5_40 (C : Cx B X "GriefEngine$Rows" cc nL d) (hd : decode cc pc = .ok (.getfield 40, 3)) (kk : Wk B X nL T (pc + 3) lv (.int (T.2.1 6 3) :: st)) : Wk B X nL T pc lv (.ref (B.1 6 0) :: st) := k_get C (k := 3) (ix_X5) (wo_X5) rfl inGX5 (by decide) rfl tw1_189 rfl hd kk
theorem pf_X5_40 (C : Cx B X "GriefEngine$Rows" cc nL d) {x : Int32} (hd : decode cc pc = .ok (.putfield 40, 3)) (kk : Wk B X nL (sI T 6 3 x) (pc + 3) lv st) : Wk B X nL T pc lv (.int x :: .ref (B.1 6 0) :: st) := k_put C (k := 3) (ix_X5) (wo_X5) rfl inGX5 tyX5_ok nmX5 (by decide) rfl tw1_189 rfl (ty := .int) (by decide +kernel) rfl rfl (by show 3 < 6; decide) (by rw [wo_X5]; simp [sI]) wc_sI (fun h => h) hd kk
theorem gf_X5_43 (C : Cx B X "GriefEngine$Rows" cc nL d) (hg : g < 4) (hd : decode cc pc = .ok (.getfield 43, 3)) (kk : Wk B X nL T (pc + 3) lv (.ref (B.1 g 3) :: st)) : Wk B X nL T pc lv (.ref (B.1 g 0) :: st) := k_get C (k := 2) (ix_X4 hg) (wo_X4 hg) rfl inGX4 (by decide) rfl tw1_82 rfl hd kk
theorem gf_X5_56 (C : Cx B X "GriefEngine$Rows" cc nL d) (hd : decode cc pc = .ok (.getfield 56, 3)) (kk : Wk B X nL T (pc + 3) lv (.int (T.2.1 6 4) :: st)) : Wk B X nL T pc lv (.ref (B.1 6 0) :: st) := k_get C (k := 4) (ix_X5) (wo_X5) rfl inGX5 (by decide) rfl tw1_190 rfl hd kk
theorem pf_X5_56 (C : Cx B X "GriefEngine$Rows" cc nL d) {x : Int32} (hd : decode cc pc = .ok (.putfield 56, 3)) (kk : Wk B X nL (sI T 6 4 x) (pc + 3) lv st) : Wk B X nL T pc lv (.int x :: .ref (B.1 6 0) :: st) := k_put C (k := 4) (ix_X5) (wo_X5) rfl inGX5 tyX5_ok nmX5 (by decide) rfl tw1_190 rfl (ty := .int) (by decide +kernel) rfl rfl (by show 4 < 6; decide) (by rw [wo_X5]; simp [sI]) wc_sI (fun h => h) hd kk
theorem gf_X5_59 (C : Cx B X "GriefEngine$Rows" cc nL d) (hd : decode cc pc = .ok (.getfield 59, 3)) (kk : Wk B X nL T (pc + 3) lv (.int (T.2.1 6 5) :: st)) : Wk B X nL T pc lv (.ref (B.1 6 0) :: st) := k_get C (k := 5) (ix_X5) (wo_X5) rfl inGX5 (by decide) rfl tw1_191 rfl hd kk
theorem pf_X5_59 (C : Cx B X "GriefEngine$Rows" cc nL d) {x : Int32} (hd : decode cc pc = .ok (.putfield 59, 3)) (kk : Wk B X nL (sI T 6 5 x) (pc + 3) lv st) : Wk B X nL T pc lv (.int x :: .ref (B.1 6 0) :: st) := k_put C (k := 5) (ix_X5) (wo_X5) rfl inGX5 tyX5_ok nmX5 (by decide) rfl tw1_191 rfl (ty := .int) (by decide +kernel) rfl rfl (by show 5 < 6; decide) (by rw [wo_X5]; simp [sI]) wc_sI (fun h => h) hd kk
theorem gf_X9_9 (C : Cx B X "GriefEngine$Text" cc nL d) (hd : decode cc pc = .ok (.getfield 9, 3)) (kk : Wk B X nL T (pc + 3) lv (.ref (B.1 5 1) :: st)) : Wk B X nL T pc lv (.ref (B.1 5 0) :: st) := k_get C (k := 0) (ix_X9) (wo_X9) rfl inGX9 (by decide) rfl tw1_137 rfl hd kk
theorem gf_X9_15 (C : Cx B X "GriefEngine$Text" cc nL d) (hd : decode cc pc = .ok (.getfield 15, 3)) (kk : Wk B X nL T (pc + 3) lv (.int (T.2.1 5 1) :: st)) : Wk B X nL T pc lv (.ref (B.1 5 0) :: st) := k_get C (k := 1) (ix_X9) (wo_X9) rfl inGX9 (by decide) rfl tw1_138 rfl hd kk
theorem pf_X9_15 (C : Cx B X "GriefEngine$Text" cc nL d) {x : Int32} (hd : decode cc pc = .ok (.putfield 15, 3)) (kk : Wk B X nL (sI T 5 1 x) (pc + 3) lv st) : Wk B X nL T pc lv (.int x :: .ref (B.1 5 0) :: st) := k_put C (k := 1) (ix_X9) (wo_X9) rfl inGX9 tyX9_ok nmX9 (by decide) rfl tw1_138 rfl (ty := .int) (by decide +kernel) rfl rfl (by show 1 < 10; decide) (by rw [wo_X9]; simp [sI]) wc_sI (fun h => h) hd kk
theorem gf_X9_19 (C : Cx B X "GriefEngine$Text" cc nL d) (hd : decode cc pc = .ok (.getfield 19, 3)) (kk : Wk B X nL T (pc + 3) lv (.int (T.2.1 5 8) :: st)) : Wk B X nL T pc lv (.ref (B.1 5 0) :: st) := k_get C (k := 8) (ix_X9) (wo_X9) rfl inGX9 (by decide) rfl tw1_151 rfl hd kk
theorem pf_X9_19 (C : Cx B X "GriefEngine$Text" cc nL d) {x : Int32} (hd : decode cc pc = .ok (.putfield 19, 3)) (kk : Wk B X nL (sI T 5 8 x) (pc + 3) lv st) : Wk B X nL T pc lv (.int x :: .ref (B.1 5 0) :: st) := k_put C (k := 8) (ix_X9) (wo_X9) rfl inGX9 tyX9_ok nmX9 (by decide) rfl tw1_151 rfl (ty := .int) (by decide +kernel) rfl rfl (by show 8 < 10; decide) (by rw [wo_X9]; simp [sI]) wc_sI (fun h => h) hd kk
theorem gf_X9_22 (C : Cx B X "GriefEngine$Text" cc nL d) (hd : decode cc pc = .ok (.getfield 22, 3)) (kk : Wk B X nL T (pc + 3) lv (.int (T.2.1 5 3) :: st)) : Wk B X nL T pc lv (.ref (B.1 5 0) :: st) := k_get C (k := 3) (ix_X9) (wo_X9) rfl inGX9 (by decide) rfl tw1_142 rfl hd kk
theorem pf_X9_22 (C : Cx B X "GriefEngine$Text" cc nL d) {x : Int32} (hd : decode cc pc = .ok (.putfield 22, 3)) (h : (if x = 0 ∨ x = 1 then a else none) = some res) (kk : a = some res → Wk B X nL (sI T 5 3 x) (pc + 3) lv st) : Wk B X nL T pc lv (.int x :: .ref (B.1 5 0) :: st) := by
  by_cases c : x = 0 ∨ x = 1
  · rw [if_pos c] at h
    exact k_put C (k := 3) (ix_X9) (wo_X9) rfl inGX9 tyX9_ok nmX9 (by decide) rfl tw1_142 rfl (ty := .boolean) (by decide +kernel) (by rcases c with rfl | rfl <;> rfl) (by rcases c with rfl | rfl <;> rfl) (by show 3 < 10; decide) (by rw [wo_X9]; simp [sI]) wc_sI (fun h => h) hd (kk h)
  · rw [if_neg c] at h
    cases h
theorem gf_X9_39 (C : Cx B X "GriefEngine$Text" cc nL d) (hd : decode cc pc = .ok (.getfield 39, 3)) (kk : Wk B X nL T (pc + 3) lv (.int (T.2.1 5 7) :: st)) : Wk B X nL T pc lv (.ref (B.1 5 0) :: st) := k_get C (k := 7) (ix_X9) (wo_X9) rfl inGX9 (by decide) rfl tw1_150 rfl hd kk
theorem pf_X9_39 (C : Cx B X "GriefEngine$Text" cc nL d) {x : Int32} (hd : decode cc pc = .ok (.putfield 39, 3)) (kk : Wk B X nL (sI T 5 7 x) (pc + 3) lv st) : Wk B X nL T pc lv (.int x :: .ref (B.1 5 0) :: st) := k_put C (k := 7) (ix_X9) (wo_X9) rfl inGX9 tyX9_ok nmX9 (by decide) rfl tw1_150 rfl (ty := .int) (by decide +kernel) rfl rfl (by show 7 < 10; decide) (by rw [wo_X9]; simp [sI]) wc_sI (fun h => h) hd kk
theorem gf_X9_44 (C : Cx B X "GriefEngine$Text" cc nL d) (hd : decode cc pc = .ok (.getfield 44, 3)) (kk : Wk B X nL T (pc + 3) lv (.int (T.2.1 5 4) :: st)) : Wk B X nL T pc lv (.ref (B.1 5 0) :: st) := k_get C (k := 4) (ix_X9) (wo_X9) rfl inGX9 (by decide) rfl tw1_144 rfl hd kk
theorem pf_X9_44 (C : Cx B X "GriefEngine$Text" cc nL d) {x : Int32} (hd : decode cc pc = .ok (.putfield 44, 3)) (h : (if x = 0 ∨ x = 1 then a else none) = some res) (kk : a = some res → Wk B X nL (sI T 5 4 x) (pc + 3) lv st) : Wk B X nL T pc lv (.int x :: .ref (B.1 5 0) :: st) := by
  by_cases c : x = 0 ∨ x = 1
  · rw [if_pos c] at h
    exact k_put C (k := 4) (ix_X9) (wo_X9) rfl inGX9 tyX9_ok nmX9 (by decide) rfl tw1_144 rfl (ty := .boolean) (by decide +kernel) (by rcases c with rfl | rfl <;> rfl) (by rcases c with rfl | rfl <;> rfl) (by show 4 < 10; decide) (by rw [wo_X9]; simp [sI]) wc_sI (fun h => h) hd (kk h)
  · rw [if_neg c] at h
    cases h
theorem gf_X9_53 (C : Cx B X "GriefEngine$Text" cc nL d) (hd : decode cc pc = .ok (.getfield 53, 3)) (kk : Wk B X nL T (pc + 3) lv (.int (T.2.1 5 9) :: st)) : Wk B X nL T pc lv (.ref (B.1 5 0) :: st) := k_get C (k := 9) (ix_X9) (wo_X9) rfl inGX9 (by decide) rfl tw1_152 rfl hd kk
theorem pf_X9_53 (C : Cx B X "GriefEngine$Text" cc nL d) {x : Int32} (hd : decode cc pc = .ok (.putfield 53, 3)) (kk : Wk B X nL (sI T 5 9 x) (pc + 3) lv st) : Wk B X nL T pc lv (.int x :: .ref (B.1 5 0) :: st) := k_put C (k := 9) (ix_X9) (wo_X9) rfl inGX9 tyX9_ok nmX9 (by decide) rfl tw1_152 rfl (ty := .int) (by decide +kernel) rfl rfl (by show 9 < 10; decide) (by rw [wo_X9]; simp [sI]) wc_sI (fun h => h) hd kk
theorem gf_X9_56 (C : Cx B X "GriefEngine$Text" cc nL d) (hd : decode cc pc = .ok (.getfield 56, 3)) (kk : Wk B X nL T (pc + 3) lv (.int (T.2.1 5 5) :: st)) : Wk B X nL T pc lv (.ref (B.1 5 0) :: st) := k_get C (k := 5) (ix_X9) (wo_X9) rfl inGX9 (by decide) rfl tw1_146 rfl hd kk
theorem pf_X9_56 (C : Cx B X "GriefEngine$Text" cc nL d) {x : Int32} (hd : decode cc pc = .ok (.putfield 56, 3)) (kk : Wk B X nL (sI T 5 5 x) (pc + 3) lv st) : Wk B X nL T pc lv (.int x :: .ref (B.1 5 0) :: st) := k_put C (k := 5) (ix_X9) (wo_X9) rfl inGX9 tyX9_ok nmX9 (by decide) rfl tw1_146 rfl (ty := .int) (by decide +kernel) rfl rfl (by show 5 < 10; decide) (by rw [wo_X9]; simp [sI]) wc_sI (fun h => h) hd kk
theorem gf_X9_59 (C : Cx B X "GriefEngine$Text" cc nL d) (hd : decode cc pc = .ok (.getfield 59, 3)) (kk : Wk B X nL T (pc + 3) lv (.int (T.2.1 5 6) :: st)) : Wk B X nL T pc lv (.ref (B.1 5 0) :: st) := k_get C (k := 6) (ix_X9) (wo_X9) rfl inGX9 (by decide) rfl tw1_148 rfl hd kk
theorem pf_X9_59 (C : Cx B X "GriefEngine$Text" cc nL d) {x : Int32} (hd : decode cc pc = .ok (.putfield 59, 3)) (kk : Wk B X nL (sI T 5 6 x) (pc + 3) lv st) : Wk B X nL T pc lv (.int x :: .ref (B.1 5 0) :: st) := k_put C (k := 6) (ix_X9) (wo_X9) rfl inGX9 tyX9_ok nmX9 (by decide) rfl tw1_148 rfl (ty := .int) (by decide +kernel) rfl rfl (by show 6 < 10; decide) (by rw [wo_X9]; simp [sI]) wc_sI (fun h => h) hd kk
theorem gf_X9_66 (C : Cx B X "GriefEngine$Text" cc nL d) (hd : decode cc pc = .ok (.getfield 66, 3)) (kk : Wk B X nL T (pc + 3) lv (.int (T.2.1 5 2) :: st)) : Wk B X nL T pc lv (.ref (B.1 5 0) :: st) := k_get C (k := 2) (ix_X9) (wo_X9) rfl inGX9 (by decide) rfl tw1_141 rfl hd kk
theorem pf_X9_66 (C : Cx B X "GriefEngine$Text" cc nL d) {x : Int32} (hd : decode cc pc = .ok (.putfield 66, 3)) (kk : Wk B X nL (sI T 5 2 x) (pc + 3) lv st) : Wk B X nL T pc lv (.int x :: .ref (B.1 5 0) :: st) := k_put C (k := 2) (ix_X9) (wo_X9) rfl inGX9 tyX9_ok nmX9 (by decide) rfl tw1_141 rfl (ty := .int) (by decide +kernel) rfl rfl (by show 2 < 10; decide) (by rw [wo_X9]; simp [sI]) wc_sI (fun h => h) hd kk
theorem gf_X11_7 (C : Cx B X "GriefEngineModel" cc nL d) (hd : decode cc pc = .ok (.getfield 7, 3)) (kk : Wk B X nL T (pc + 3) lv (.ref (B.1 10 1) :: st)) : Wk B X nL T pc lv (.ref (B.1 10 0) :: st) := k_get C (k := 0) (ix_X11) (wo_X11) rfl inGX11 (by decide) rfl tw4_61 rfl hd kk
theorem gf_X11_13 (C : Cx B X "GriefEngineModel" cc nL d) (hd : decode cc pc = .ok (.getfield 13, 3)) (kk : Wk B X nL T (pc + 3) lv (.ref (B.1 10 2) :: st)) : Wk B X nL T pc lv (.ref (B.1 10 0) :: st) := k_get C (k := 1) (ix_X11) (wo_X11) rfl inGX11 (by decide) rfl tw4_62 rfl hd kk
theorem gf_X11_16 (C : Cx B X "GriefEngineModel" cc nL d) (hd : decode cc pc = .ok (.getfield 16, 3)) (kk : Wk B X nL T (pc + 3) lv (.ref (B.1 10 3) :: st)) : Wk B X nL T pc lv (.ref (B.1 10 0) :: st) := k_get C (k := 2) (ix_X11) (wo_X11) rfl inGX11 (by decide) rfl tw4_63 rfl hd kk
theorem gf_X11_20 (C : Cx B X "GriefEngineModel" cc nL d) (hd : decode cc pc = .ok (.getfield 20, 3)) (kk : Wk B X nL T (pc + 3) lv (.ref (B.1 10 4) :: st)) : Wk B X nL T pc lv (.ref (B.1 10 0) :: st) := k_get C (k := 3) (ix_X11) (wo_X11) rfl inGX11 (by decide) rfl tw4_64 rfl hd kk
theorem gf_X11_23 (C : Cx B X "GriefEngineModel" cc nL d) (hd : decode cc pc = .ok (.getfield 23, 3)) (kk : Wk B X nL T (pc + 3) lv (.long (T.2.2.1 10 5) :: st)) : Wk B X nL T pc lv (.ref (B.1 10 0) :: st) := k_get C (k := 5) (ix_X11) (wo_X11) rfl inGX11 (by decide) rfl tw4_66 rfl hd kk
theorem pf_X11_23 (C : Cx B X "GriefEngineModel" cc nL d) {x : Int64} (hd : decode cc pc = .ok (.putfield 23, 3)) (kk : Wk B X nL (sL T 10 5 x) (pc + 3) lv st) : Wk B X nL T pc lv (.long x :: .ref (B.1 10 0) :: st) := k_put C (k := 5) (ix_X11) (wo_X11) rfl inGX11 tyX11_ok nmX11 (by decide) rfl tw4_66 rfl (ty := .long) (by decide +kernel) rfl rfl (by show 5 < 20; decide) (by rw [wo_X11]; simp [sL]) wc_sL (fun h => h) hd kk
theorem gf_X11_27 (C : Cx B X "GriefEngineModel" cc nL d) (hd : decode cc pc = .ok (.getfield 27, 3)) (kk : Wk B X nL T (pc + 3) lv (.ref (B.1 10 5) :: st)) : Wk B X nL T pc lv (.ref (B.1 10 0) :: st) := k_get C (k := 9) (ix_X11) (wo_X11) rfl inGX11 (by decide) rfl tw4_70 rfl hd kk
theorem gf_X11_30 (C : Cx B X "GriefEngineModel" cc nL d) (hd : decode cc pc = .ok (.getfield 30, 3)) (kk : Wk B X nL T (pc + 3) lv (.ref (B.1 10 6) :: st)) : Wk B X nL T pc lv (.ref (B.1 10 0) :: st) := k_get C (k := 10) (ix_X11) (wo_X11) rfl inGX11 (by decide) rfl tw4_71 rfl hd kk
theorem gf_X11_33 (C : Cx B X "GriefEngineModel" cc nL d) (hd : decode cc pc = .ok (.getfield 33, 3)) (kk : Wk B X nL T (pc + 3) lv (.ref (B.1 10 7) :: st)) : Wk B X nL T pc lv (.ref (B.1 10 0) :: st) := k_get C (k := 11) (ix_X11) (wo_X11) rfl inGX11 (by decide) rfl tw4_72 rfl hd kk
theorem gf_X11_36 (C : Cx B X "GriefEngineModel" cc nL d) (hd : decode cc pc = .ok (.getfield 36, 3)) (kk : Wk B X nL T (pc + 3) lv (.ref (B.1 10 8) :: st)) : Wk B X nL T pc lv (.ref (B.1 10 0) :: st) := k_get C (k := 12) (ix_X11) (wo_X11) rfl inGX11 (by decide) rfl tw4_73 rfl hd kk
theorem gf_X11_39 (C : Cx B X "GriefEngineModel" cc nL d) (hd : decode cc pc = .ok (.getfield 39, 3)) (kk : Wk B X nL T (pc + 3) lv (.ref (B.1 10 9) :: st)) : Wk B X nL T pc lv (.ref (B.1 10 0) :: st) := k_get C (k := 18) (ix_X11) (wo_X11) rfl inGX11 (by decide) rfl tw4_79 rfl hd kk
theorem gf_X11_42 (C : Cx B X "GriefEngineModel" cc nL d) (hd : decode cc pc = .ok (.getfield 42, 3)) (kk : Wk B X nL T (pc + 3) lv (.ref (B.1 10 10) :: st)) : Wk B X nL T pc lv (.ref (B.1 10 0) :: st) := k_get C (k := 19) (ix_X11) (wo_X11) rfl inGX11 (by decide) rfl tw4_80 rfl hd kk
theorem gf_X11_84 (C : Cx B X "GriefEngineModel" cc nL d) (hd : decode cc pc = .ok (.getfield 84, 3)) (kk : Wk B X nL T (pc + 3) lv (.int (T.2.1 10 7) :: st)) : Wk B X nL T pc lv (.ref (B.1 10 0) :: st) := k_get C (k := 7) (ix_X11) (wo_X11) rfl inGX11 (by decide) rfl tw4_68 rfl hd kk
theorem pf_X11_84 (C : Cx B X "GriefEngineModel" cc nL d) {x : Int32} (hd : decode cc pc = .ok (.putfield 84, 3)) (kk : Wk B X nL (sI T 10 7 x) (pc + 3) lv st) : Wk B X nL T pc lv (.int x :: .ref (B.1 10 0) :: st) := k_put C (k := 7) (ix_X11) (wo_X11) rfl inGX11 tyX11_ok nmX11 (by decide) rfl tw4_68 rfl (ty := .int) (by decide +kernel) rfl rfl (by show 7 < 20; decide) (by rw [wo_X11]; simp [sI]) wc_sI (fun h => h) hd kk
theorem gf_X11_88 (C : Cx B X "GriefEngineModel" cc nL d) (hd : decode cc pc = .ok (.getfield 88, 3)) (kk : Wk B X nL T (pc + 3) lv (.int (T.2.1 10 6) :: st)) : Wk B X nL T pc lv (.ref (B.1 10 0) :: st) := k_get C (k := 6) (ix_X11) (wo_X11) rfl inGX11 (by decide) rfl tw4_67 rfl hd kk
theorem pf_X11_88 (C : Cx B X "GriefEngineModel" cc nL d) {x : Int32} (hd : decode cc pc = .ok (.putfield 88, 3)) (kk : Wk B X nL (sI T 10 6 x) (pc + 3) lv st) : Wk B X nL T pc lv (.int x :: .ref (B.1 10 0) :: st) := k_put C (k := 6) (ix_X11) (wo_X11) rfl inGX11 tyX11_ok nmX11 (by decide) rfl tw4_67 rfl (ty := .int) (by decide +kernel) rfl rfl (by show 6 < 20; decide) (by rw [wo_X11]; simp [sI]) wc_sI (fun h => h) hd kk
theorem gf_X11_138 (C : Cx B X "GriefEngineModel" cc nL d) (hd : decode cc pc = .ok (.getfield 138, 3)) (kk : Wk B X nL T (pc + 3) lv (.int (T.2.1 10 8) :: st)) : Wk B X nL T pc lv (.ref (B.1 10 0) :: st) := k_get C (k := 8) (ix_X11) (wo_X11) rfl inGX11 (by decide) rfl tw4_69 rfl hd kk
theorem pf_X11_138 (C : Cx B X "GriefEngineModel" cc nL d) {x : Int32} (hd : decode cc pc = .ok (.putfield 138, 3)) (kk : Wk B X nL (sI T 10 8 x) (pc + 3) lv st) : Wk B X nL T pc lv (.int x :: .ref (B.1 10 0) :: st) := k_put C (k := 8) (ix_X11) (wo_X11) rfl inGX11 tyX11_ok nmX11 (by decide) rfl tw4_69 rfl (ty := .int) (by decide +kernel) rfl rfl (by show 8 < 20; decide) (by rw [wo_X11]; simp [sI]) wc_sI (fun h => h) hd kk
theorem gf_X11_181 (C : Cx B X "GriefEngineModel" cc nL d) (hd : decode cc pc = .ok (.getfield 181, 3)) (kk : Wk B X nL T (pc + 3) lv (.long (T.2.2.1 10 4) :: st)) : Wk B X nL T pc lv (.ref (B.1 10 0) :: st) := k_get C (k := 4) (ix_X11) (wo_X11) rfl inGX11 (by decide) rfl tw4_65 rfl hd kk
theorem pf_X11_181 (C : Cx B X "GriefEngineModel" cc nL d) {x : Int64} (hd : decode cc pc = .ok (.putfield 181, 3)) (kk : Wk B X nL (sL T 10 4 x) (pc + 3) lv st) : Wk B X nL T pc lv (.long x :: .ref (B.1 10 0) :: st) := k_put C (k := 4) (ix_X11) (wo_X11) rfl inGX11 tyX11_ok nmX11 (by decide) rfl tw4_65 rfl (ty := .long) (by decide +kernel) rfl rfl (by show 4 < 20; decide) (by rw [wo_X11]; simp [sL]) wc_sL (fun h => h) hd kk
theorem gf_X11_206 (C : Cx B X "GriefEngineModel" cc nL d) (hd : decode cc pc = .ok (.getfield 206, 3)) (kk : Wk B X nL T (pc + 3) lv (.int (T.2.1 10 13) :: st)) : Wk B X nL T pc lv (.ref (B.1 10 0) :: st) := k_get C (k := 13) (ix_X11) (wo_X11) rfl inGX11 (by decide) rfl tw4_74 rfl hd kk
theorem pf_X11_206 (C : Cx B X "GriefEngineModel" cc nL d) {x : Int32} (hd : decode cc pc = .ok (.putfield 206, 3)) (kk : Wk B X nL (sI T 10 13 x) (pc + 3) lv st) : Wk B X nL T pc lv (.int x :: .ref (B.1 10 0) :: st) := k_put C (k := 13) (ix_X11) (wo_X11) rfl inGX11 tyX11_ok nmX11 (by decide) rfl tw4_74 rfl (ty := .int) (by decide +kernel) rfl rfl (by show 13 < 20; decide) (by rw [wo_X11]; simp [sI]) wc_sI (fun h => h) hd kk
theorem gf_X11_217 (C : Cx B X "GriefEngineModel" cc nL d) (hd : decode cc pc = .ok (.getfield 217, 3)) (kk : Wk B X nL T (pc + 3) lv (.int (T.2.1 10 14) :: st)) : Wk B X nL T pc lv (.ref (B.1 10 0) :: st) := k_get C (k := 14) (ix_X11) (wo_X11) rfl inGX11 (by decide) rfl tw4_75 rfl hd kk
theorem pf_X11_217 (C : Cx B X "GriefEngineModel" cc nL d) {x : Int32} (hd : decode cc pc = .ok (.putfield 217, 3)) (kk : Wk B X nL (sI T 10 14 x) (pc + 3) lv st) : Wk B X nL T pc lv (.int x :: .ref (B.1 10 0) :: st) := k_put C (k := 14) (ix_X11) (wo_X11) rfl inGX11 tyX11_ok nmX11 (by decide) rfl tw4_75 rfl (ty := .int) (by decide +kernel) rfl rfl (by show 14 < 20; decide) (by rw [wo_X11]; simp [sI]) wc_sI (fun h => h) hd kk
theorem gf_X11_220 (C : Cx B X "GriefEngineModel" cc nL d) (hd : decode cc pc = .ok (.getfield 220, 3)) (kk : Wk B X nL T (pc + 3) lv (.int (T.2.1 10 15) :: st)) : Wk B X nL T pc lv (.ref (B.1 10 0) :: st) := k_get C (k := 15) (ix_X11) (wo_X11) rfl inGX11 (by decide) rfl tw4_76 rfl hd kk
theorem pf_X11_220 (C : Cx B X "GriefEngineModel" cc nL d) {x : Int32} (hd : decode cc pc = .ok (.putfield 220, 3)) (kk : Wk B X nL (sI T 10 15 x) (pc + 3) lv st) : Wk B X nL T pc lv (.int x :: .ref (B.1 10 0) :: st) := k_put C (k := 15) (ix_X11) (wo_X11) rfl inGX11 tyX11_ok nmX11 (by decide) rfl tw4_76 rfl (ty := .int) (by decide +kernel) rfl rfl (by show 15 < 20; decide) (by rw [wo_X11]; simp [sI]) wc_sI (fun h => h) hd kk
theorem gf_X11_223 (C : Cx B X "GriefEngineModel" cc nL d) (hd : decode cc pc = .ok (.getfield 223, 3)) (kk : Wk B X nL T (pc + 3) lv (.int (T.2.1 10 16) :: st)) : Wk B X nL T pc lv (.ref (B.1 10 0) :: st) := k_get C (k := 16) (ix_X11) (wo_X11) rfl inGX11 (by decide) rfl tw4_77 rfl hd kk
theorem pf_X11_223 (C : Cx B X "GriefEngineModel" cc nL d) {x : Int32} (hd : decode cc pc = .ok (.putfield 223, 3)) (kk : Wk B X nL (sI T 10 16 x) (pc + 3) lv st) : Wk B X nL T pc lv (.int x :: .ref (B.1 10 0) :: st) := k_put C (k := 16) (ix_X11) (wo_X11) rfl inGX11 tyX11_ok nmX11 (by decide) rfl tw4_77 rfl (ty := .int) (by decide +kernel) rfl rfl (by show 16 < 20; decide) (by rw [wo_X11]; simp [sI]) wc_sI (fun h => h) hd kk
theorem gf_X11_226 (C : Cx B X "GriefEngineModel" cc nL d) (hd : decode cc pc = .ok (.getfield 226, 3)) (kk : Wk B X nL T (pc + 3) lv (.int (T.2.1 10 17) :: st)) : Wk B X nL T pc lv (.ref (B.1 10 0) :: st) := k_get C (k := 17) (ix_X11) (wo_X11) rfl inGX11 (by decide) rfl tw4_78 rfl hd kk
theorem pf_X11_226 (C : Cx B X "GriefEngineModel" cc nL d) {x : Int32} (hd : decode cc pc = .ok (.putfield 226, 3)) (kk : Wk B X nL (sI T 10 17 x) (pc + 3) lv st) : Wk B X nL T pc lv (.int x :: .ref (B.1 10 0) :: st) := k_put C (k := 17) (ix_X11) (wo_X11) rfl inGX11 tyX11_ok nmX11 (by decide) rfl tw4_78 rfl (ty := .int) (by decide +kernel) rfl rfl (by show 17 < 20; decide) (by rw [wo_X11]; simp [sI]) wc_sI (fun h => h) hd kk
end KF
end
section
theorem lk_X10_66 : LkV "GriefEngine" 66 yX4_reset cX4_reset 1 none 0 := ⟨⟨tw2_21, tw2_22, tw2_23, tw1_2, tw2_24⟩, ⟨by decide, by decide, by decide +kernel⟩, by decide⟩
theorem lk_X10_69 : LkS "GriefEngine" 69 yX10_within cX10_within 3 (some .boolean) 3 := ⟨⟨tw2_29, tw2_30, tw1_1, tw2_31⟩, ⟨by decide, by decide, by decide +kernel⟩, by decide⟩
theorem lk_X10_73 : LkV "GriefEngine" 73 yX10_refuse cX10_refuse 3 (some .int) 1 := ⟨⟨tw2_32, tw2_34, ts_0, tw1_1, tw2_35⟩, ⟨by decide, by decide, by decide +kernel⟩, by decide⟩
theorem lk_X10_77 : LkV "GriefEngine" 77 yX4_addDriver cX4_addDriver 4 (some .int) 2 := ⟨⟨tw2_36, tw2_37, tw2_38, tw1_2, tw2_39⟩, ⟨by decide, by decide, by decide +kernel⟩, by decide⟩
theorem lk_X10_81 : LkV "GriefEngine" 81 yX10_refuseIfFull cX10_refuseIfFull 2 (some .int) 1 := ⟨⟨tw2_44, tw2_46, ts_1, tw1_1, tw2_47⟩, ⟨by decide, by decide, by decide +kernel⟩, by decide⟩
theorem lk_X10_84 : LkV "GriefEngine" 84 yX9_append cX9_append 2 (some .int) 1 := ⟨⟨tw2_52, tw2_53, tw2_54, tw1_9, tw2_55⟩, ⟨by decide, by decide, by decide +kernel⟩, by decide⟩
theorem lk_X10_90 : LkV "GriefEngine" 90 yX9_takesRank cX9_takesRank 1 (some .boolean) 0 := ⟨⟨tw2_64, tw2_65, tw2_66, tw1_9, tw2_67⟩, ⟨by decide, by decide, by decide +kernel⟩, by decide⟩
theorem lk_X10_94 : LkV "GriefEngine" 94 yX4_isFull cX4_isFull 1 (some .boolean) 0 := ⟨⟨tw2_141, tw2_41, tw2_42, tw1_2, tw2_43⟩, ⟨by decide, by decide, by decide +kernel⟩, by decide⟩
theorem lk_X10_97 : LkV "GriefEngine" 97 yX9_takesItem cX9_takesItem 2 (some .boolean) 1 := ⟨⟨tw2_142, tw2_143, tw2_144, tw1_9, tw2_145⟩, ⟨by decide, by decide, by decide +kernel⟩, by decide⟩
theorem lk_X10_111 : LkV "GriefEngine" 111 yX4_passDays cX4_passDays 7 (some .int) 3 := ⟨⟨tw2_152, tw2_153, tw2_154, tw1_2, tw2_155⟩, ⟨by decide, by decide, by decide +kernel⟩, by decide⟩
theorem lk_X10_121 : LkV "GriefEngine" 121 yX4_copyFrom cX4_copyFrom 2 none 1 := ⟨⟨tw3_16, tw3_17, tw3_18, tw1_2, tw3_19⟩, ⟨by decide, by decide, by decide +kernel⟩, by decide⟩
theorem lk_X10_125 : LkS "GriefEngine" 125 yX10_isChoice cX10_isChoice 1 (some .boolean) 1 := ⟨⟨tw3_27, tw3_28, tw1_1, tw3_29⟩, ⟨by decide, by decide, by decide +kernel⟩, by decide⟩
theorem lk_X10_129 : LkV "GriefEngine" 129 yX4_remember cX4_remember 2 none 0 := ⟨⟨tw3_30, tw3_31, tw3_32, tw1_2, tw3_33⟩, ⟨by decide, by decide, by decide +kernel⟩, by decide⟩
theorem lk_X10_132 : LkV "GriefEngine" 132 yX4_has cX4_has 2 (some .boolean) 1 := ⟨⟨tw3_38, tw2_161, tw2_162, tw1_2, tw2_163⟩, ⟨by decide, by decide, by decide +kernel⟩, by decide⟩
theorem lk_X10_138 : LkV "GriefEngine" 138 yX4_takeBack cX4_takeBack 2 none 0 := ⟨⟨tw3_43, tw3_44, tw3_45, tw1_2, tw3_46⟩, ⟨by decide, by decide, by decide +kernel⟩, by decide⟩
theorem lk_X10_153 : LkV "GriefEngine" 153 yX4_kindOf cX4_kindOf 3 (some (.object "GriefEngine$Plain")) 1 := ⟨⟨tw3_55, tw2_165, tw2_166, tw1_2, tw2_167⟩, ⟨by decide, by decide, by decide +kernel⟩, by decide⟩
theorem lk_X10_157 : LkS "GriefEngine" 157 yX10_seasonOf cX10_seasonOf 1 (some .int) 1 := ⟨⟨tw3_56, tw2_169, tw1_1, tw2_170⟩, ⟨by decide, by decide, by decide +kernel⟩, by decide⟩
theorem lk_X10_160 : Cond.methodLink "GriefEngine" 160 yX3_runs ∈ GW := tw3_57
theorem lk_X10_165 : Cond.methodLink "GriefEngine" 165 yX3_left ∈ GW := tw3_58
theorem lk_X10_168 : LkV "GriefEngine" 168 yX5_reckon cX5_reckon 4 none 3 := ⟨⟨tw3_71, tw3_72, tw3_73, tw1_10, tw3_74⟩, ⟨by decide, by decide, by decide +kernel⟩, by decide⟩
theorem lk_X10_172 : LkV "GriefEngine" 172 yX5_mostMiles cX5_mostMiles 1 (some .int) 0 := ⟨⟨tw3_98, tw3_99, tw3_100, tw1_10, tw3_101⟩, ⟨by decide, by decide, by decide +kernel⟩, by decide⟩
theorem lk_X10_176 : LkV "GriefEngine" 176 yX5_choiceOf cX5_choiceOf 5 (some .int) 1 := ⟨⟨tw3_102, tw3_103, tw3_104, tw1_10, tw3_105⟩, ⟨by decide, by decide, by decide +kernel⟩, by decide⟩
theorem lk_X10_179 : LkV "GriefEngine" 179 yX5_fewestDaysFor cX5_fewestDaysFor 4 (some .int) 1 := ⟨⟨tw3_114, tw3_115, tw3_116, tw1_10, tw3_117⟩, ⟨by decide, by decide, by decide +kernel⟩, by decide⟩
theorem lk_X10_182 : LkV "GriefEngine" 182 yX5_farthestTurn cX5_farthestTurn 3 (some .int) 0 := ⟨⟨tw3_122, tw3_123, tw3_124, tw1_10, tw3_125⟩, ⟨by decide, by decide, by decide +kernel⟩, by decide⟩
theorem lk_X10_185 : LkV "GriefEngine" 185 yX5_firstTurnAt cX5_firstTurnAt 3 (some .int) 1 := ⟨⟨tw3_130, tw3_131, tw3_132, tw1_10, tw3_133⟩, ⟨by decide, by decide, by decide +kernel⟩, by decide⟩
theorem lk_X10_188 : LkV "GriefEngine" 188 yX2_reckon cX2_reckon 3 none 1 := ⟨⟨tw3_138, tw3_139, tw3_140, tw1_11, tw3_141⟩, ⟨by decide, by decide, by decide +kernel⟩, by decide⟩
theorem lk_X10_196 : LkV "GriefEngine" 196 yX4_addNote cX4_addNote 8 (some .int) 6 := ⟨⟨tw3_158, tw3_159, tw3_160, tw1_2, tw3_161⟩, ⟨by decide, by decide, by decide +kernel⟩, by decide⟩
theorem lk_X10_200 : LkV "GriefEngine" 200 yX4_addTrip cX4_addTrip 5 (some .int) 3 := ⟨⟨tw3_166, tw3_167, tw3_168, tw1_2, tw3_169⟩, ⟨by decide, by decide, by decide +kernel⟩, by decide⟩
theorem lk_X10_209 : LkV "GriefEngine" 209 yX10_kindsThatFit cX10_kindsThatFit 4 (some .int) 1 := ⟨⟨tw3_178, tw3_180, ts_16, tw1_1, tw3_181⟩, ⟨by decide, by decide, by decide +kernel⟩, by decide⟩
theorem lk_X10_212 : LkV "GriefEngine" 212 yX10_bestMorning cX10_bestMorning 8 (some .int) 2 := ⟨⟨tw3_190, tw3_192, ts_17, tw1_1, tw3_193⟩, ⟨by decide, by decide, by decide +kernel⟩, by decide⟩
theorem lk_X10_215 : LkV "GriefEngine" 215 yX4_tripsFit cX4_tripsFit 6 (some .boolean) 2 := ⟨⟨tw3_203, tw3_204, tw3_205, tw1_2, tw3_206⟩, ⟨by decide, by decide, by decide +kernel⟩, by decide⟩
theorem lk_X10_219 : LkV "GriefEngine" 219 yX10_isContent cX10_isContent 4 (some .boolean) 3 := ⟨⟨tw3_224, tw3_226, ts_19, tw1_1, tw3_227⟩, ⟨by decide, by decide, by decide +kernel⟩, by decide⟩
theorem lk_X10_223 : LkS "GriefEngine" 223 yX10_tenfoldMean cX10_tenfoldMean 11 (some .long) 5 := ⟨⟨tw3_236, tw3_237, tw1_1, tw3_238⟩, ⟨by decide, by decide, by decide +kernel⟩, by decide⟩
theorem lk_X10_227 : LkS "GriefEngine" 227 yX10_tenTo cX10_tenTo 4 (some .long) 1 := ⟨⟨tw3_239, tw4_0, tw1_1, tw4_1⟩, ⟨by decide, by decide, by decide +kernel⟩, by decide⟩
theorem lk_X10_231 : LkV "GriefEngine" 231 yX10_setFraction cX10_setFraction 7 none 2 := ⟨⟨tw4_3, tw4_5, ts_21, tw1_1, tw4_6⟩, ⟨by decide, by decide, by decide +kernel⟩, by decide⟩
theorem lk_X10_246 : LkV "GriefEngine" 246 yX4_act cX4_act 5 (some .int) 2 := ⟨⟨tw4_20, tw2_157, tw2_158, tw1_2, tw2_159⟩, ⟨by decide, by decide, by decide +kernel⟩, by decide⟩
theorem lk_X10_249 : LkV "GriefEngine" 249 yX4_sumOf cX4_sumOf 4 (some .int) 1 := ⟨⟨tw4_41, tw4_42, tw4_43, tw1_2, tw4_44⟩, ⟨by decide, by decide, by decide +kernel⟩, by decide⟩
theorem lk_X10_257 : LkV "GriefEngine" 257 yX10_count cX10_count 2 (some .int) 1 := ⟨⟨tw4_51, tw4_38, tw4_39, tw1_1, tw4_40⟩, ⟨by decide, by decide, by decide +kernel⟩, by decide⟩
theorem lk_X10_270 : LkV "GriefEngine" 270 yX4_notesFit cX4_notesFit 7 (some .boolean) 2 := ⟨⟨tw3_182, tw3_183, tw3_184, tw1_2, tw3_185⟩, ⟨by decide, by decide, by decide +kernel⟩, by decide⟩
theorem lk_X10_274 : LkV "GriefEngine" 274 yX10_mostAlike cX10_mostAlike 9 (some .int) 4 := ⟨⟨tw3_194, tw3_196, ts_18, tw1_1, tw3_197⟩, ⟨by decide, by decide, by decide +kernel⟩, by decide⟩
theorem lk_X10_283 : LkV "GriefEngine" 283 yX10_worthToday cX10_worthToday 7 (some .int) 3 := ⟨⟨tw3_228, tw3_230, ts_20, tw1_1, tw3_231⟩, ⟨by decide, by decide, by decide +kernel⟩, by decide⟩
theorem lk_X10_289 : LkS "GriefEngine" 289 yX10_commonDivisor cX10_commonDivisor 7 (some .long) 2 := ⟨⟨tw4_7, tw4_8, tw1_1, tw4_9⟩, ⟨by decide, by decide, by decide +kernel⟩, by decide⟩
theorem lk_X0_7 : LkP "GriefEngine$Keeper" 7 yX3_behindDriving cX3_behindDriving 2 (some .int) 1 := ⟨⟨tw2_210, tw2_206, tw1_47, tw2_204, tw1_3, tw2_216⟩, ⟨by decide, by decide +kernel⟩, by decide⟩
theorem lk_X1_7 : LkP "GriefEngine$Old" 7 yX7_runs cX7_runs 3 (some .int) 2 := ⟨⟨tw2_179, tw5_186, tw1_75, tw2_180, tw1_6, tw2_181⟩, ⟨by decide, by decide +kernel⟩, by decide⟩
theorem lk_X2_22 : LkS "GriefEngine$Pairs" 22 yX2_tryFrom cX2_tryFrom 5 none 4 := ⟨⟨tw3_142, tw3_143, tw1_11, tw3_144⟩, ⟨by decide, by decide, by decide +kernel⟩, by decide⟩
theorem lk_X2_31 : LkV "GriefEngine$Pairs" 31 yX2_keepIfBetter cX2_keepIfBetter 2 none 1 := ⟨⟨tw3_145, tw3_147, ts_15, tw1_11, tw3_148⟩, ⟨by decide, by decide, by decide +kernel⟩, by decide⟩
theorem lk_X2_35 : LkS "GriefEngine$Pairs" 35 yX2_pairWorth cX2_pairWorth 4 (some .int) 3 := ⟨⟨tw3_150, tw3_151, tw1_11, tw3_152⟩, ⟨by decide, by decide, by decide +kernel⟩, by decide⟩
theorem lk_X3_9 : Cond.methodLink "GriefEngine$Plain" 9 yX3_behindDriving ∈ GW := tw2_203
theorem lk_X3_15 : Cond.methodLink "GriefEngine$Plain" 15 yX3_behindTelling ∈ GW := tw2_217
theorem lk_X3_18 : Cond.methodLink "GriefEngine$Plain" 18 yX3_behindResting ∈ GW := tw2_235
theorem lk_X3_33 : Cond.methodLink "GriefEngine$Plain" 33 yX3_runs ∈ GW := tw3_218
theorem lk_X3_36 : Cond.methodLink "GriefEngine$Plain" 36 yX3_left ∈ GW := tw3_219
theorem lk_X4_74 : LkV "GriefEngine$Rank" 74 yX4_has cX4_has 2 (some .boolean) 1 := ⟨⟨tw2_160, tw2_161, tw2_162, tw1_2, tw2_163⟩, ⟨by decide, by decide, by decide +kernel⟩, by decide⟩
theorem lk_X4_78 : LkV "GriefEngine$Rank" 78 yX4_isFull cX4_isFull 1 (some .boolean) 0 := ⟨⟨tw2_40, tw2_41, tw2_42, tw1_2, tw2_43⟩, ⟨by decide, by decide, by decide +kernel⟩, by decide⟩
theorem lk_X4_82 : LkV "GriefEngine$Rank" 82 yX4_act cX4_act 5 (some .int) 2 := ⟨⟨tw2_156, tw2_157, tw2_158, tw1_2, tw2_159⟩, ⟨by decide, by decide, by decide +kernel⟩, by decide⟩
theorem lk_X4_86 : LkV "GriefEngine$Rank" 86 yX4_kindOf cX4_kindOf 3 (some (.object "GriefEngine$Plain")) 1 := ⟨⟨tw2_164, tw2_165, tw2_166, tw1_2, tw2_167⟩, ⟨by decide, by decide, by decide +kernel⟩, by decide⟩
theorem lk_X4_94 : Cond.methodLink "GriefEngine$Rank" 94 yX3_runs ∈ GW := tw2_171
theorem lk_X4_97 : Cond.methodLink "GriefEngine$Rank" 97 yX3_left ∈ GW := tw2_193
theorem lk_X4_100 : Cond.methodLink "GriefEngine$Rank" 100 yX3_milesFromFirstDay ∈ GW := tw3_207
theorem lk_X5_26 : LkV "GriefEngine$Rows" 26 yX4_has cX4_has 2 (some .boolean) 1 := ⟨⟨tw3_75, tw2_161, tw2_162, tw1_2, tw2_163⟩, ⟨by decide, by decide, by decide +kernel⟩, by decide⟩
theorem lk_X5_32 : LkV "GriefEngine$Rows" 32 yX4_kindOf cX4_kindOf 3 (some (.object "GriefEngine$Plain")) 1 := ⟨⟨tw3_76, tw2_165, tw2_166, tw1_2, tw2_167⟩, ⟨by decide, by decide, by decide +kernel⟩, by decide⟩
theorem lk_X5_62 : LkV "GriefEngine$Rows" 62 yX5_reckonBefore cX5_reckonBefore 3 none 0 := ⟨⟨tw3_79, tw3_81, ts_9, tw1_10, tw3_82⟩, ⟨by decide, by decide, by decide +kernel⟩, by decide⟩
theorem lk_X5_65 : LkV "GriefEngine$Rows" 65 yX5_reckonAfter cX5_reckonAfter 5 none 0 := ⟨⟨tw3_90, tw3_92, ts_11, tw1_10, tw3_93⟩, ⟨by decide, by decide, by decide +kernel⟩, by decide⟩
theorem lk_X5_68 : LkV "GriefEngine$Rows" 68 yX5_spread cX5_spread 6 none 2 := ⟨⟨tw3_83, tw3_85, ts_10, tw1_10, tw3_86⟩, ⟨by decide, by decide, by decide +kernel⟩, by decide⟩
theorem lk_X5_72 : Cond.methodLink "GriefEngine$Rows" 72 yX3_left ∈ GW := tw3_87
theorem lk_X5_79 : Cond.methodLink "GriefEngine$Rows" 79 yX3_runs ∈ GW := tw3_89
theorem lk_X5_82 : LkV "GriefEngine$Rows" 82 yX5_milesBy cX5_milesBy 5 (some .int) 3 := ⟨⟨tw3_94, tw3_96, ts_12, tw1_10, tw3_97⟩, ⟨by decide, by decide, by decide +kernel⟩, by decide⟩
theorem lk_X5_86 : LkV "GriefEngine$Rows" 86 yX5_firstBestChoice cX5_firstBestChoice 4 (some .int) 2 := ⟨⟨tw3_106, tw3_108, ts_13, tw1_10, tw3_109⟩, ⟨by decide, by decide, by decide +kernel⟩, by decide⟩
theorem lk_X5_89 : LkV "GriefEngine$Rows" 89 yX5_farthestTurnAt cX5_farthestTurnAt 4 (some .int) 1 := ⟨⟨tw3_126, tw3_128, ts_14, tw1_10, tw3_129⟩, ⟨by decide, by decide, by decide +kernel⟩, by decide⟩
theorem lk_X6_7 : LkP "GriefEngine$Sham" 7 yX3_runs cX3_runs 4 (some .int) 2 := ⟨⟨tw2_189, tw2_174, tw1_54, tw2_172, tw1_3, tw2_192⟩, ⟨by decide, by decide +kernel⟩, by decide⟩
theorem lk_X6_11 : LkP "GriefEngine$Sham" 11 yX3_behindTelling cX3_behindTelling 2 (some .int) 1 := ⟨⟨tw2_226, tw2_220, tw1_54, tw2_218, tw1_3, tw2_234⟩, ⟨by decide, by decide +kernel⟩, by decide⟩
theorem lk_X7_9 : LkP "GriefEngine$Spring" 9 yX3_runs cX3_runs 4 (some .int) 2 := ⟨⟨tw2_182, tw2_174, tw1_61, tw2_172, tw1_3, tw2_192⟩, ⟨by decide, by decide +kernel⟩, by decide⟩
theorem lk_X9_26 : LkV "GriefEngine$Text" 26 yX9_advance cX9_advance 1 none 0 := ⟨⟨tw2_68, tw2_70, ts_2, tw1_9, tw2_71⟩, ⟨by decide, by decide, by decide +kernel⟩, by decide⟩
theorem lk_X9_31 : LkV "GriefEngine$Text" 31 yX9_isWord cX9_isWord 3 (some .boolean) 1 := ⟨⟨tw2_85, tw2_87, ts_6, tw1_9, tw2_88⟩, ⟨by decide, by decide, by decide +kernel⟩, by decide⟩
theorem lk_X9_35 : LkV "GriefEngine$Text" 35 yX9_takesStop cX9_takesStop 1 (some .boolean) 0 := ⟨⟨tw2_137, tw2_139, ts_7, tw1_9, tw2_140⟩, ⟨by decide, by decide, by decide +kernel⟩, by decide⟩
theorem lk_X9_49 : LkV "GriefEngine$Text" 49 yX9_takesNumber cX9_takesNumber 3 (some .boolean) 2 := ⟨⟨tw2_148, tw2_150, ts_8, tw1_9, tw2_151⟩, ⟨by decide, by decide, by decide +kernel⟩, by decide⟩
theorem lk_X9_62 : LkV "GriefEngine$Text" 62 yX9_runEnd cX9_runEnd 5 (some .int) 3 := ⟨⟨tw2_72, tw2_74, ts_3, tw1_9, tw2_75⟩, ⟨by decide, by decide, by decide +kernel⟩, by decide⟩
theorem lk_X9_69 : LkV "GriefEngine$Text" 69 yX9_isBetween cX9_isBetween 4 (some .boolean) 3 := ⟨⟨tw2_76, tw2_78, ts_4, tw1_9, tw2_79⟩, ⟨by decide, by decide, by decide +kernel⟩, by decide⟩
theorem lk_X9_73 : LkV "GriefEngine$Text" 73 yX9_valueOfRun cX9_valueOfRun 3 (some .int) 0 := ⟨⟨tw2_80, tw2_82, ts_5, tw1_9, tw2_83⟩, ⟨by decide, by decide, by decide +kernel⟩, by decide⟩
theorem lk_L_13 : LkV "GriefEngineLaw" 13 yX10_rank cX10_rank 2 (some .int) 0 := ⟨⟨tw2_17, tw2_18, tw2_19, tw1_1, tw2_20⟩, ⟨by decide, by decide, by decide +kernel⟩, by decide⟩
theorem lk_L_17 : LkV "GriefEngineLaw" 17 yX11_rank cX11_rank 2 (some .int) 0 := ⟨⟨tw4_122, tw4_123, tw4_124, tw1_12, tw4_125⟩, ⟨by decide, by decide, by decide +kernel⟩, by decide⟩
theorem lk_L_18 : LkV "GriefEngineLaw" 18 yX10_driver cX10_driver 3 (some .int) 2 := ⟨⟨tw2_25, tw2_26, tw2_27, tw1_1, tw2_28⟩, ⟨by decide, by decide, by decide +kernel⟩, by decide⟩
theorem lk_L_22 : LkV "GriefEngineLaw" 22 yX11_driver cX11_driver 3 (some .int) 2 := ⟨⟨tw4_130, tw4_131, tw4_132, tw1_12, tw4_133⟩, ⟨by decide, by decide, by decide +kernel⟩, by decide⟩
theorem lk_L_23 : LkV "GriefEngineLaw" 23 yX10_type cX10_type 2 (some .int) 1 := ⟨⟨tw2_48, tw2_49, tw2_50, tw1_1, tw2_51⟩, ⟨by decide, by decide, by decide +kernel⟩, by decide⟩
theorem lk_L_27 : LkV "GriefEngineLaw" 27 yX11_type cX11_type 2 (some .int) 1 := ⟨⟨tw5_97, tw5_98, tw5_99, tw1_12, tw5_100⟩, ⟨by decide, by decide, by decide +kernel⟩, by decide⟩
theorem lk_L_28 : LkV "GriefEngineLaw" 28 yX10_clear cX10_clear 2 (some .int) 0 := ⟨⟨tw2_56, tw2_57, tw2_58, tw1_1, tw2_59⟩, ⟨by decide, by decide, by decide +kernel⟩, by decide⟩
theorem lk_L_31 : LkV "GriefEngineLaw" 31 yX11_clear cX11_clear 2 (some .int) 0 := ⟨⟨tw5_102, tw5_103, tw5_104, tw1_12, tw5_105⟩, ⟨by decide, by decide, by decide +kernel⟩, by decide⟩
theorem lk_L_32 : LkV "GriefEngineLaw" 32 yX10_read cX10_read 2 (some .int) 0 := ⟨⟨tw2_60, tw2_61, tw2_62, tw1_1, tw2_63⟩, ⟨by decide, by decide, by decide +kernel⟩, by decide⟩
theorem lk_L_35 : LkV "GriefEngineLaw" 35 yX11_read cX11_read 3 (some .int) 0 := ⟨⟨tw5_106, tw5_107, tw5_108, tw1_12, tw5_109⟩, ⟨by decide, by decide, by decide +kernel⟩, by decide⟩
theorem lk_L_36 : LkV "GriefEngineLaw" 36 yX10_days cX10_days 3 (some .int) 2 := ⟨⟨tw3_23, tw3_24, tw3_25, tw1_1, tw3_26⟩, ⟨by decide, by decide, by decide +kernel⟩, by decide⟩
theorem lk_L_39 : LkV "GriefEngineLaw" 39 yX11_days cX11_days 5 (some .int) 2 := ⟨⟨tw4_150, tw4_151, tw4_152, tw1_12, tw4_153⟩, ⟨by decide, by decide, by decide +kernel⟩, by decide⟩
theorem lk_L_40 : LkV "GriefEngineLaw" 40 yX10_day cX10_day 3 (some .int) 2 := ⟨⟨tw3_34, tw3_35, tw3_36, tw1_1, tw3_37⟩, ⟨by decide, by decide, by decide +kernel⟩, by decide⟩
theorem lk_L_43 : LkV "GriefEngineLaw" 43 yX11_day cX11_day 3 (some .int) 2 := ⟨⟨tw4_188, tw4_189, tw4_190, tw1_12, tw4_191⟩, ⟨by decide, by decide, by decide +kernel⟩, by decide⟩
theorem lk_L_44 : LkV "GriefEngineLaw" 44 yX10_undo cX10_undo 1 (some .int) 0 := ⟨⟨tw3_39, tw3_40, tw3_41, tw1_1, tw3_42⟩, ⟨by decide, by decide, by decide +kernel⟩, by decide⟩
theorem lk_L_47 : LkV "GriefEngineLaw" 47 yX11_undo cX11_undo 2 (some .int) 0 := ⟨⟨tw4_196, tw4_197, tw4_198, tw1_12, tw4_199⟩, ⟨by decide, by decide, by decide +kernel⟩, by decide⟩
theorem lk_L_48 : LkV "GriefEngineLaw" 48 yX10_of cX10_of 3 (some .int) 2 := ⟨⟨tw3_47, tw3_48, tw3_49, tw1_1, tw3_50⟩, ⟨by decide, by decide, by decide +kernel⟩, by decide⟩
theorem lk_L_51 : LkV "GriefEngineLaw" 51 yX11_of cX11_of 3 (some .int) 2 := ⟨⟨tw4_204, tw4_205, tw4_206, tw1_12, tw4_207⟩, ⟨by decide, by decide, by decide +kernel⟩, by decide⟩
theorem lk_L_52 : LkV "GriefEngineLaw" 52 yX10_today cX10_today 5 (some .int) 2 := ⟨⟨tw3_51, tw3_52, tw3_53, tw1_1, tw3_54⟩, ⟨by decide, by decide, by decide +kernel⟩, by decide⟩
theorem lk_L_55 : LkV "GriefEngineLaw" 55 yX11_today cX11_today 4 (some .int) 2 := ⟨⟨tw4_208, tw4_209, tw4_210, tw1_12, tw4_211⟩, ⟨by decide, by decide, by decide +kernel⟩, by decide⟩
theorem lk_L_56 : LkV "GriefEngineLaw" 56 yX10_then cX10_then 9 (some .int) 4 := ⟨⟨tw3_59, tw3_60, tw3_61, tw1_1, tw3_62⟩, ⟨by decide, by decide, by decide +kernel⟩, by decide⟩
theorem lk_L_60 : LkV "GriefEngineLaw" 60 yX11_then cX11_then 6 (some .int) 4 := ⟨⟨tw4_217, tw4_218, tw4_219, tw1_12, tw4_220⟩, ⟨by decide, by decide, by decide +kernel⟩, by decide⟩
theorem lk_L_61 : LkV "GriefEngineLaw" 61 yX10_over cX10_over 5 (some .int) 1 := ⟨⟨tw3_63, tw3_64, tw3_65, tw1_1, tw3_66⟩, ⟨by decide, by decide, by decide +kernel⟩, by decide⟩
theorem lk_L_64 : LkV "GriefEngineLaw" 64 yX11_over cX11_over 3 (some .int) 1 := ⟨⟨tw4_225, tw4_226, tw4_227, tw1_12, tw4_228⟩, ⟨by decide, by decide, by decide +kernel⟩, by decide⟩
theorem lk_L_65 : LkV "GriefEngineLaw" 65 yX10_most cX10_most 4 (some .int) 3 := ⟨⟨tw3_67, tw3_68, tw3_69, tw1_1, tw3_70⟩, ⟨by decide, by decide, by decide +kernel⟩, by decide⟩
theorem lk_L_69 : LkV "GriefEngineLaw" 69 yX11_most cX11_most 5 (some .int) 3 := ⟨⟨tw4_229, tw4_230, tw4_231, tw1_12, tw4_232⟩, ⟨by decide, by decide, by decide +kernel⟩, by decide⟩
theorem lk_L_70 : LkV "GriefEngineLaw" 70 yX10_soonest cX10_soonest 3 (some .int) 2 := ⟨⟨tw3_110, tw3_111, tw3_112, tw1_1, tw3_113⟩, ⟨by decide, by decide, by decide +kernel⟩, by decide⟩
theorem lk_L_73 : LkV "GriefEngineLaw" 73 yX11_soonest cX11_soonest 4 (some .int) 2 := ⟨⟨tw5_5, tw5_6, tw5_7, tw1_12, tw5_8⟩, ⟨by decide, by decide, by decide +kernel⟩, by decide⟩
theorem lk_L_74 : LkV "GriefEngineLaw" 74 yX10_home cX10_home 4 (some .int) 3 := ⟨⟨tw3_118, tw3_119, tw3_120, tw1_1, tw3_121⟩, ⟨by decide, by decide, by decide +kernel⟩, by decide⟩
theorem lk_L_77 : LkV "GriefEngineLaw" 77 yX11_home cX11_home 11 (some .int) 3 := ⟨⟨tw5_10, tw5_11, tw5_12, tw1_12, tw5_13⟩, ⟨by decide, by decide, by decide +kernel⟩, by decide⟩
theorem lk_L_78 : LkV "GriefEngineLaw" 78 yX10_tell cX10_tell 2 (some .int) 1 := ⟨⟨tw3_134, tw3_135, tw3_136, tw1_1, tw3_137⟩, ⟨by decide, by decide, by decide +kernel⟩, by decide⟩
theorem lk_L_81 : LkV "GriefEngineLaw" 81 yX11_tell cX11_tell 7 (some .int) 1 := ⟨⟨tw5_14, tw5_15, tw5_16, tw1_12, tw5_17⟩, ⟨by decide, by decide, by decide +kernel⟩, by decide⟩
theorem lk_L_82 : LkV "GriefEngineLaw" 82 yX10_note cX10_note 8 (some .int) 6 := ⟨⟨tw3_154, tw3_155, tw3_156, tw1_1, tw3_157⟩, ⟨by decide, by decide, by decide +kernel⟩, by decide⟩
theorem lk_L_86 : LkV "GriefEngineLaw" 86 yX11_note cX11_note 8 (some .int) 6 := ⟨⟨tw5_26, tw5_27, tw5_28, tw1_12, tw5_29⟩, ⟨by decide, by decide, by decide +kernel⟩, by decide⟩
theorem lk_L_87 : LkV "GriefEngineLaw" 87 yX10_gone cX10_gone 4 (some .int) 3 := ⟨⟨tw3_162, tw3_163, tw3_164, tw1_1, tw3_165⟩, ⟨by decide, by decide, by decide +kernel⟩, by decide⟩
theorem lk_L_90 : LkV "GriefEngineLaw" 90 yX11_gone cX11_gone 5 (some .int) 3 := ⟨⟨tw5_32, tw5_33, tw5_34, tw1_12, tw5_35⟩, ⟨by decide, by decide, by decide +kernel⟩, by decide⟩
theorem lk_L_91 : LkV "GriefEngineLaw" 91 yX10_forget cX10_forget 3 (some .int) 1 := ⟨⟨tw3_170, tw3_171, tw3_172, tw1_1, tw3_173⟩, ⟨by decide, by decide, by decide +kernel⟩, by decide⟩
theorem lk_L_94 : LkV "GriefEngineLaw" 94 yX11_forget cX11_forget 3 (some .int) 1 := ⟨⟨tw5_38, tw5_39, tw5_40, tw1_12, tw5_41⟩, ⟨by decide, by decide, by decide +kernel⟩, by decide⟩
theorem lk_L_95 : LkV "GriefEngineLaw" 95 yX10_is cX10_is 2 (some .int) 1 := ⟨⟨tw3_174, tw3_175, tw3_176, tw1_1, tw3_177⟩, ⟨by decide, by decide, by decide +kernel⟩, by decide⟩
theorem lk_L_98 : LkV "GriefEngineLaw" 98 yX11_is cX11_is 2 (some .int) 1 := ⟨⟨tw5_42, tw5_43, tw5_44, tw1_12, tw5_45⟩, ⟨by decide, by decide, by decide +kernel⟩, by decide⟩
theorem lk_L_99 : LkV "GriefEngineLaw" 99 yX10_look cX10_look 3 (some .int) 1 := ⟨⟨tw3_186, tw3_187, tw3_188, tw1_1, tw3_189⟩, ⟨by decide, by decide, by decide +kernel⟩, by decide⟩
theorem lk_L_102 : LkV "GriefEngineLaw" 102 yX11_look cX11_look 10 (some .int) 1 := ⟨⟨tw5_50, tw5_51, tw5_52, tw1_12, tw5_53⟩, ⟨by decide, by decide, by decide +kernel⟩, by decide⟩
theorem lk_L_103 : LkV "GriefEngineLaw" 103 yX10_had cX10_had 6 (some .int) 2 := ⟨⟨tw3_199, tw3_200, tw3_201, tw1_1, tw3_202⟩, ⟨by decide, by decide, by decide +kernel⟩, by decide⟩
theorem lk_L_106 : LkV "GriefEngineLaw" 106 yX11_had cX11_had 6 (some .int) 2 := ⟨⟨tw5_61, tw5_62, tw5_63, tw1_12, tw5_64⟩, ⟨by decide, by decide, by decide +kernel⟩, by decide⟩
theorem lk_L_107 : LkV "GriefEngineLaw" 107 yX10_fares cX10_fares 7 (some .int) 2 := ⟨⟨tw3_220, tw3_221, tw3_222, tw1_1, tw3_223⟩, ⟨by decide, by decide, by decide +kernel⟩, by decide⟩
theorem lk_L_110 : LkV "GriefEngineLaw" 110 yX11_fares cX11_fares 8 (some .int) 2 := ⟨⟨tw5_69, tw5_70, tw5_71, tw1_12, tw5_72⟩, ⟨by decide, by decide, by decide +kernel⟩, by decide⟩
theorem lk_L_111 : LkV "GriefEngineLaw" 111 yX10_starts cX10_starts 6 (some .int) 3 := ⟨⟨tw3_232, tw3_233, tw3_234, tw1_1, tw3_235⟩, ⟨by decide, by decide, by decide +kernel⟩, by decide⟩
theorem lk_L_114 : LkV "GriefEngineLaw" 114 yX11_starts cX11_starts 12 (some .int) 3 := ⟨⟨tw5_77, tw5_78, tw5_79, tw1_12, tw5_80⟩, ⟨by decide, by decide, by decide +kernel⟩, by decide⟩
theorem lk_L_115 : LkV "GriefEngineLaw" 115 yX10_years cX10_years 8 (some .int) 2 := ⟨⟨tw4_10, tw4_11, tw4_12, tw1_1, tw4_13⟩, ⟨by decide, by decide, by decide +kernel⟩, by decide⟩
theorem lk_L_118 : LkV "GriefEngineLaw" 118 yX11_years cX11_years 8 (some .int) 2 := ⟨⟨tw5_87, tw5_88, tw5_89, tw1_12, tw5_90⟩, ⟨by decide, by decide, by decide +kernel⟩, by decide⟩
theorem lk_L_119 : LkV "GriefEngineLaw" 119 yX10_part cX10_part 2 (some .long) 1 := ⟨⟨tw4_21, tw4_22, tw4_23, tw1_1, tw4_24⟩, ⟨by decide, by decide, by decide +kernel⟩, by decide⟩
theorem lk_L_123 : LkV "GriefEngineLaw" 123 yX11_part cX11_part 2 (some .long) 1 := ⟨⟨tw5_148, tw5_149, tw5_150, tw1_12, tw5_151⟩, ⟨by decide, by decide, by decide +kernel⟩, by decide⟩
theorem lk_L_124 : LkV "GriefEngineLaw" 124 yX10_image cX10_image 2 (some .int) 1 := ⟨⟨tw4_25, tw4_26, tw4_27, tw1_1, tw4_28⟩, ⟨by decide, by decide, by decide +kernel⟩, by decide⟩
theorem lk_L_127 : LkV "GriefEngineLaw" 127 yX11_image cX11_image 3 (some .int) 1 := ⟨⟨tw5_152, tw5_153, tw5_154, tw1_12, tw5_155⟩, ⟨by decide, by decide, by decide +kernel⟩, by decide⟩
theorem lk_L_128 : LkV "GriefEngineLaw" 128 yX10_from cX10_from 2 (some .int) 1 := ⟨⟨tw4_29, tw4_30, tw4_31, tw1_1, tw4_32⟩, ⟨by decide, by decide, by decide +kernel⟩, by decide⟩
theorem lk_L_131 : LkV "GriefEngineLaw" 131 yX11_from cX11_from 3 (some .int) 1 := ⟨⟨tw5_156, tw5_157, tw5_158, tw1_12, tw5_159⟩, ⟨by decide, by decide, by decide +kernel⟩, by decide⟩
theorem lk_L_132 : LkV "GriefEngineLaw" 132 yX10_status cX10_status 2 (some .int) 1 := ⟨⟨tw4_33, tw4_34, tw4_35, tw1_1, tw4_36⟩, ⟨by decide, by decide, by decide +kernel⟩, by decide⟩
theorem lk_L_135 : LkV "GriefEngineLaw" 135 yX11_status cX11_status 2 (some .int) 1 := ⟨⟨tw5_160, tw5_161, tw5_162, tw1_12, tw5_163⟩, ⟨by decide, by decide, by decide +kernel⟩, by decide⟩
theorem lk_L_136 : LkV "GriefEngineLaw" 136 yX10_count cX10_count 2 (some .int) 1 := ⟨⟨tw4_37, tw4_38, tw4_39, tw1_1, tw4_40⟩, ⟨by decide, by decide, by decide +kernel⟩, by decide⟩
theorem lk_L_139 : LkV "GriefEngineLaw" 139 yX11_count cX11_count 2 (some .int) 1 := ⟨⟨tw5_164, tw5_165, tw5_166, tw1_12, tw5_167⟩, ⟨by decide, by decide, by decide +kernel⟩, by decide⟩
theorem lk_L_140 : LkV "GriefEngineLaw" 140 yX10_digest cX10_digest 4 (some .long) 0 := ⟨⟨tw4_45, tw4_46, tw4_47, tw1_1, tw4_48⟩, ⟨by decide, by decide, by decide +kernel⟩, by decide⟩
theorem lk_L_144 : LkV "GriefEngineLaw" 144 yX11_digest cX11_digest 4 (some .long) 0 := ⟨⟨tw5_176, tw5_177, tw5_178, tw1_12, tw5_179⟩, ⟨by decide, by decide, by decide +kernel⟩, by decide⟩
theorem lk_X11_45 : LkS "GriefEngineModel" 45 yX11_begin cX11_begin 2 none 1 := ⟨⟨tw4_58, tw4_59, tw1_12, tw4_60⟩, ⟨by decide, by decide, by decide +kernel⟩, by decide⟩
theorem lk_X11_49 : LkV "GriefEngineModel" 49 yX11_many cX11_many 1 (some .int) 0 := ⟨⟨tw4_126, tw4_128, ts_22, tw1_12, tw4_129⟩, ⟨by decide, by decide, by decide +kernel⟩, by decide⟩
theorem lk_X11_53 : LkS "GriefEngineModel" 53 yX11_in cX11_in 6 (some .boolean) 3 := ⟨⟨tw4_135, tw4_136, tw1_12, tw4_137⟩, ⟨by decide, by decide, by decide +kernel⟩, by decide⟩
theorem lk_X11_63 : LkV "GriefEngineModel" 63 yX11_bad cX11_bad 2 (some .int) 1 := ⟨⟨tw4_139, tw4_141, ts_23, tw1_12, tw4_142⟩, ⟨by decide, by decide, by decide +kernel⟩, by decide⟩
theorem lk_X11_67 : LkV "GriefEngineModel" 67 yX11_full cX11_full 1 (some .int) 0 := ⟨⟨tw4_143, tw4_145, ts_24, tw1_12, tw4_146⟩, ⟨by decide, by decide, by decide +kernel⟩, by decide⟩
theorem lk_X11_70 : LkS "GriefEngineModel" 70 yX11_layDriver cX11_layDriver 4 none 3 := ⟨⟨tw4_147, tw4_148, tw1_12, tw4_149⟩, ⟨by decide, by decide, by decide +kernel⟩, by decide⟩
theorem lk_X11_74 : LkS "GriefEngineModel" 74 yX11_droveAs cX11_droveAs 4 (some .int) 2 := ⟨⟨tw4_179, tw4_180, tw1_12, tw4_181⟩, ⟨by decide, by decide, by decide +kernel⟩, by decide⟩
theorem lk_X11_78 : LkS "GriefEngineModel" 78 yX11_toldAs cX11_toldAs 3 (some .int) 2 := ⟨⟨tw4_182, tw4_183, tw1_12, tw4_184⟩, ⟨by decide, by decide, by decide +kernel⟩, by decide⟩
theorem lk_X11_81 : LkS "GriefEngineModel" 81 yX11_restedAs cX11_restedAs 3 (some .int) 2 := ⟨⟨tw4_185, tw4_186, tw1_12, tw4_187⟩, ⟨by decide, by decide, by decide +kernel⟩, by decide⟩
theorem lk_X11_91 : LkS "GriefEngineModel" 91 yX11_seasonOf cX11_seasonOf 1 (some .int) 1 := ⟨⟨tw4_170, tw4_171, tw1_12, tw4_172⟩, ⟨by decide, by decide, by decide +kernel⟩, by decide⟩
theorem lk_X11_94 : LkS "GriefEngineModel" 94 yX11_runsAs cX11_runsAs 5 (some .int) 3 := ⟨⟨tw4_173, tw4_174, tw1_12, tw4_175⟩, ⟨by decide, by decide, by decide +kernel⟩, by decide⟩
theorem lk_X11_98 : LkS "GriefEngineModel" 98 yX11_leftAs cX11_leftAs 4 (some .int) 3 := ⟨⟨tw4_176, tw4_177, tw1_12, tw4_178⟩, ⟨by decide, by decide, by decide +kernel⟩, by decide⟩
theorem lk_X11_101 : LkV "GriefEngineModel" 101 yX11_goDay cX11_goDay 4 none 3 := ⟨⟨tw4_166, tw4_168, ts_27, tw1_12, tw4_169⟩, ⟨by decide, by decide, by decide +kernel⟩, by decide⟩
theorem lk_X11_105 : LkS "GriefEngineModel" 105 yX11_isChoice cX11_isChoice 1 (some .boolean) 1 := ⟨⟨tw4_154, tw4_155, tw1_12, tw4_156⟩, ⟨by decide, by decide, by decide +kernel⟩, by decide⟩
theorem lk_X11_109 : LkV "GriefEngineModel" 109 yX11_keep cX11_keep 2 none 0 := ⟨⟨tw4_158, tw4_160, ts_25, tw1_12, tw4_161⟩, ⟨by decide, by decide, by decide +kernel⟩, by decide⟩
theorem lk_X11_112 : LkV "GriefEngineModel" 112 yX11_passDay cX11_passDay 6 (some .int) 3 := ⟨⟨tw4_162, tw4_164, ts_26, tw1_12, tw4_165⟩, ⟨by decide, by decide, by decide +kernel⟩, by decide⟩
theorem lk_X11_116 : LkV "GriefEngineModel" 116 yX11_isDriver cX11_isDriver 2 (some .boolean) 1 := ⟨⟨tw4_192, tw4_194, ts_28, tw1_12, tw4_195⟩, ⟨by decide, by decide, by decide +kernel⟩, by decide⟩
theorem lk_X11_119 : LkV "GriefEngineModel" 119 yX11_no cX11_no 1 (some .int) 0 := ⟨⟨tw4_200, tw4_202, ts_29, tw1_12, tw4_203⟩, ⟨by decide, by decide, by decide +kernel⟩, by decide⟩
theorem lk_X11_124 : LkV "GriefEngineModel" 124 yX11_kindOf cX11_kindOf 2 (some .int) 1 := ⟨⟨tw4_213, tw4_215, ts_30, tw1_12, tw4_216⟩, ⟨by decide, by decide, by decide +kernel⟩, by decide⟩
theorem lk_X11_127 : LkV "GriefEngineModel" 127 yX11_layOne cX11_layOne 2 none 1 := ⟨⟨tw4_221, tw4_223, ts_31, tw1_12, tw4_224⟩, ⟨by decide, by decide, by decide +kernel⟩, by decide⟩
theorem lk_X11_131 : LkS "GriefEngineModel" 131 yX11_powerOfThree cX11_powerOfThree 3 (some .int) 1 := ⟨⟨tw4_238, tw4_239, tw1_12, tw5_0⟩, ⟨by decide, by decide, by decide +kernel⟩, by decide⟩
theorem lk_X11_134 : LkV "GriefEngineModel" 134 yX11_milesBy cX11_milesBy 8 (some .int) 5 := ⟨⟨tw5_1, tw5_3, ts_33, tw1_12, tw5_4⟩, ⟨by decide, by decide, by decide +kernel⟩, by decide⟩
theorem lk_X11_143 : LkV "GriefEngineModel" 143 yX11_mostIn cX11_mostIn 6 (some .int) 2 := ⟨⟨tw4_234, tw4_236, ts_32, tw1_12, tw4_237⟩, ⟨by decide, by decide, by decide +kernel⟩, by decide⟩
theorem lk_X11_148 : LkV "GriefEngineModel" 148 yX11_worthOf cX11_worthOf 4 (some .int) 2 := ⟨⟨tw5_22, tw5_24, ts_35, tw1_12, tw5_25⟩, ⟨by decide, by decide, by decide +kernel⟩, by decide⟩
theorem lk_X11_151 : LkV "GriefEngineModel" 151 yX11_pairsBy cX11_pairsBy 10 (some .int) 2 := ⟨⟨tw5_18, tw5_20, ts_34, tw1_12, tw5_21⟩, ⟨by decide, by decide, by decide +kernel⟩, by decide⟩
theorem lk_X11_162 : LkV "GriefEngineModel" 162 yX11_kindsOf cX11_kindsOf 8 (some .int) 1 := ⟨⟨tw5_46, tw5_48, ts_36, tw1_12, tw5_49⟩, ⟨by decide, by decide, by decide +kernel⟩, by decide⟩
theorem lk_X11_166 : LkS "GriefEngineModel" 166 yX11_has cX11_has 2 (some .boolean) 2 := ⟨⟨tw5_55, tw5_56, tw1_12, tw5_57⟩, ⟨by decide, by decide, by decide +kernel⟩, by decide⟩
theorem lk_X11_170 : LkS "GriefEngineModel" 170 yX11_areAlike cX11_areAlike 5 (some .boolean) 5 := ⟨⟨tw5_58, tw5_59, tw1_12, tw5_60⟩, ⟨by decide, by decide, by decide +kernel⟩, by decide⟩
theorem lk_X11_174 : LkV "GriefEngineModel" 174 yX11_fits cX11_fits 7 (some .boolean) 2 := ⟨⟨tw5_65, tw5_67, ts_37, tw1_12, tw5_68⟩, ⟨by decide, by decide, by decide +kernel⟩, by decide⟩
theorem lk_X11_177 : LkV "GriefEngineModel" 177 yX11_getsBy cX11_getsBy 6 (some .int) 3 := ⟨⟨tw5_73, tw5_75, ts_38, tw1_12, tw5_76⟩, ⟨by decide, by decide, by decide +kernel⟩, by decide⟩
theorem lk_X11_188 : LkV "GriefEngineModel" 188 yX11_fraction cX11_fraction 11 none 2 := ⟨⟨tw5_83, tw5_85, ts_39, tw1_12, tw5_86⟩, ⟨by decide, by decide, by decide +kernel⟩, by decide⟩
theorem lk_X11_229 : LkS "GriefEngineModel" 229 yX11_isSmall cX11_isSmall 1 (some .boolean) 1 := ⟨⟨tw5_114, tw5_115, tw1_12, tw5_116⟩, ⟨by decide, by decide, by decide +kernel⟩, by decide⟩
theorem lk_X11_232 : LkS "GriefEngineModel" 232 yX11_isFigure cX11_isFigure 1 (some .boolean) 1 := ⟨⟨tw5_119, tw5_120, tw1_12, tw5_121⟩, ⟨by decide, by decide, by decide +kernel⟩, by decide⟩
theorem lk_X11_235 : LkV "GriefEngineModel" 235 yX11_lookAt cX11_lookAt 5 none 1 := ⟨⟨tw5_110, tw5_112, ts_40, tw1_12, tw5_113⟩, ⟨by decide, by decide, by decide +kernel⟩, by decide⟩
theorem lk_X11_238 : LkV "GriefEngineModel" 238 yX11_goBehind cX11_goBehind 1 none 0 := ⟨⟨tw5_128, tw5_130, ts_42, tw1_12, tw5_131⟩, ⟨by decide, by decide, by decide +kernel⟩, by decide⟩
theorem lk_X11_241 : LkV "GriefEngineModel" 241 yX11_takes cX11_takes 4 (some .boolean) 3 := ⟨⟨tw5_140, tw5_142, ts_45, tw1_12, tw5_143⟩, ⟨by decide, by decide, by decide +kernel⟩, by decide⟩
theorem lk_X11_245 : LkV "GriefEngineModel" 245 yX11_spells cX11_spells 10 (some .boolean) 7 := ⟨⟨tw5_124, tw5_126, ts_41, tw1_12, tw5_127⟩, ⟨by decide, by decide, by decide +kernel⟩, by decide⟩
theorem lk_X11_249 : LkV "GriefEngineModel" 249 yX11_takesDriver cX11_takesDriver 1 (some .boolean) 0 := ⟨⟨tw5_136, tw5_138, ts_44, tw1_12, tw5_139⟩, ⟨by decide, by decide, by decide +kernel⟩, by decide⟩
theorem lk_X11_253 : LkV "GriefEngineModel" 253 yX11_takesDays cX11_takesDays 3 (some .boolean) 0 := ⟨⟨tw5_144, tw5_146, ts_46, tw1_12, tw5_147⟩, ⟨by decide, by decide, by decide +kernel⟩, by decide⟩
theorem lk_X11_256 : LkV "GriefEngineModel" 256 yX11_takesItem cX11_takesItem 1 (some .boolean) 0 := ⟨⟨tw5_132, tw5_134, ts_43, tw1_12, tw5_135⟩, ⟨by decide, by decide, by decide +kernel⟩, by decide⟩
theorem lk_X11_259 : LkV "GriefEngineModel" 259 yX11_allOf cX11_allOf 4 (some .int) 1 := ⟨⟨tw5_172, tw5_174, ts_48, tw1_12, tw5_175⟩, ⟨by decide, by decide, by decide +kernel⟩, by decide⟩
theorem lk_X11_262 : LkV "GriefEngineModel" 262 yX11_counted cX11_counted 2 (some .int) 1 := ⟨⟨tw5_168, tw5_170, ts_47, tw1_12, tw5_171⟩, ⟨by decide, by decide, by decide +kernel⟩, by decide⟩
theorem lk_X11_269 : LkV "GriefEngineModel" 269 yX11_sums cX11_sums 8 (some .long) 3 := ⟨⟨tw5_182, tw5_184, ts_49, tw1_12, tw5_185⟩, ⟨by decide, by decide, by decide +kernel⟩, by decide⟩
theorem lu_runs_0 {own : String} {idx : Nat} (h : Cond.methodLink own idx yX3_runs ∈ GW) : LkU own idx "GriefEngine$Plain" yX3_runs yX3_runs cX3_runs 4 (some .int) 2 := ⟨⟨h, tw2_174, tw2_172, tw2_173, tw2_172, tw1_3, tw2_192⟩, ⟨by decide, by decide, by decide +kernel⟩, by decide, _, _, _, tw2_192⟩
theorem lu_runs_1 {own : String} {idx : Nat} (h : Cond.methodLink own idx yX3_runs ∈ GW) : LkU own idx "GriefEngine$Keeper" yX3_runs yX3_runs cX3_runs 4 (some .int) 2 := ⟨⟨h, tw2_174, tw2_172, tw2_175, tw2_172, tw1_3, tw2_192⟩, ⟨by decide, by decide, by decide +kernel⟩, by decide, _, _, _, tw2_192⟩
theorem lu_runs_2 {own : String} {idx : Nat} (h : Cond.methodLink own idx yX3_runs ∈ GW) : LkU own idx "GriefEngine$Sham" yX3_runs yX6_runs cX6_runs 3 (some .int) 2 := ⟨⟨h, tw2_174, tw2_172, tw2_186, tw2_187, tw1_5, tw2_188⟩, ⟨by decide, by decide, by decide +kernel⟩, by decide, _, _, _, tw2_192⟩
theorem lu_runs_3 {own : String} {idx : Nat} (h : Cond.methodLink own idx yX3_runs ∈ GW) : LkU own idx "GriefEngine$Spring" yX3_runs yX7_runs cX7_runs 3 (some .int) 2 := ⟨⟨h, tw2_174, tw2_172, tw2_190, tw2_180, tw1_6, tw2_181⟩, ⟨by decide, by decide, by decide +kernel⟩, by decide, _, _, _, tw2_192⟩
theorem lu_runs_4 {own : String} {idx : Nat} (h : Cond.methodLink own idx yX3_runs ∈ GW) : LkU own idx "GriefEngine$Teller" yX3_runs yX3_runs cX3_runs 4 (some .int) 2 := ⟨⟨h, tw2_174, tw2_172, tw2_191, tw2_172, tw1_3, tw2_192⟩, ⟨by decide, by decide, by decide +kernel⟩, by decide, _, _, _, tw2_192⟩
theorem lu_runs_5 {own : String} {idx : Nat} (h : Cond.methodLink own idx yX3_runs ∈ GW) : LkU own idx "GriefEngine$Old" yX3_runs yX1_runs cX1_runs 3 (some .int) 2 := ⟨⟨h, tw2_174, tw2_172, tw2_176, tw2_177, tw1_8, tw2_178⟩, ⟨by decide, by decide, by decide +kernel⟩, by decide, _, _, _, tw2_192⟩
theorem lu_behindDriving_0 {own : String} {idx : Nat} (h : Cond.methodLink own idx yX3_behindDriving ∈ GW) : LkU own idx "GriefEngine$Plain" yX3_behindDriving yX3_behindDriving cX3_behindDriving 2 (some .int) 1 := ⟨⟨h, tw2_206, tw2_204, tw2_205, tw2_204, tw1_3, tw2_216⟩, ⟨by decide, by decide, by decide +kernel⟩, by decide, _, _, _, tw2_216⟩
theorem lu_behindDriving_1 {own : String} {idx : Nat} (h : Cond.methodLink own idx yX3_behindDriving ∈ GW) : LkU own idx "GriefEngine$Keeper" yX3_behindDriving yX0_behindDriving cX0_behindDriving 2 (some .int) 1 := ⟨⟨h, tw2_206, tw2_204, tw2_207, tw2_208, tw1_4, tw2_209⟩, ⟨by decide, by decide, by decide +kernel⟩, by decide, _, _, _, tw2_216⟩
theorem lu_behindDriving_2 {own : String} {idx : Nat} (h : Cond.methodLink own idx yX3_behindDriving ∈ GW) : LkU own idx "GriefEngine$Sham" yX3_behindDriving yX3_behindDriving cX3_behindDriving 2 (some .int) 1 := ⟨⟨h, tw2_206, tw2_204, tw2_213, tw2_204, tw1_3, tw2_216⟩, ⟨by decide, by decide, by decide +kernel⟩, by decide, _, _, _, tw2_216⟩
theorem lu_behindDriving_3 {own : String} {idx : Nat} (h : Cond.methodLink own idx yX3_behindDriving ∈ GW) : LkU own idx "GriefEngine$Spring" yX3_behindDriving yX3_behindDriving cX3_behindDriving 2 (some .int) 1 := ⟨⟨h, tw2_206, tw2_204, tw2_214, tw2_204, tw1_3, tw2_216⟩, ⟨by decide, by decide, by decide +kernel⟩, by decide, _, _, _, tw2_216⟩
theorem lu_behindDriving_4 {own : String} {idx : Nat} (h : Cond.methodLink own idx yX3_behindDriving ∈ GW) : LkU own idx "GriefEngine$Teller" yX3_behindDriving yX0_behindDriving cX0_behindDriving 2 (some .int) 1 := ⟨⟨h, tw2_206, tw2_204, tw2_215, tw2_208, tw1_4, tw2_209⟩, ⟨by decide, by decide, by decide +kernel⟩, by decide, _, _, _, tw2_216⟩
theorem lu_behindDriving_5 {own : String} {idx : Nat} (h : Cond.methodLink own idx yX3_behindDriving ∈ GW) : LkU own idx "GriefEngine$Old" yX3_behindDriving yX3_behindDriving cX3_behindDriving 2 (some .int) 1 := ⟨⟨h, tw2_206, tw2_204, tw2_212, tw2_204, tw1_3, tw2_216⟩, ⟨by decide, by decide, by decide +kernel⟩, by decide, _, _, _, tw2_216⟩
theorem lu_behindTelling_0 {own : String} {idx : Nat} (h : Cond.methodLink own idx yX3_behindTelling ∈ GW) : LkU own idx "GriefEngine$Plain" yX3_behindTelling yX3_behindTelling cX3_behindTelling 2 (some .int) 1 := ⟨⟨h, tw2_220, tw2_218, tw2_219, tw2_218, tw1_3, tw2_234⟩, ⟨by decide, by decide, by decide +kernel⟩, by decide, _, _, _, tw2_234⟩
theorem lu_behindTelling_1 {own : String} {idx : Nat} (h : Cond.methodLink own idx yX3_behindTelling ∈ GW) : LkU own idx "GriefEngine$Keeper" yX3_behindTelling yX3_behindTelling cX3_behindTelling 2 (some .int) 1 := ⟨⟨h, tw2_220, tw2_218, tw2_221, tw2_218, tw1_3, tw2_234⟩, ⟨by decide, by decide, by decide +kernel⟩, by decide, _, _, _, tw2_234⟩
theorem lu_behindTelling_2 {own : String} {idx : Nat} (h : Cond.methodLink own idx yX3_behindTelling ∈ GW) : LkU own idx "GriefEngine$Sham" yX3_behindTelling yX6_behindTelling cX6_behindTelling 2 (some .int) 1 := ⟨⟨h, tw2_220, tw2_218, tw2_223, tw2_224, tw1_5, tw2_225⟩, ⟨by decide, by decide, by decide +kernel⟩, by decide, _, _, _, tw2_234⟩
theorem lu_behindTelling_3 {own : String} {idx : Nat} (h : Cond.methodLink own idx yX3_behindTelling ∈ GW) : LkU own idx "GriefEngine$Spring" yX3_behindTelling yX3_behindTelling cX3_behindTelling 2 (some .int) 1 := ⟨⟨h, tw2_220, tw2_218, tw2_227, tw2_218, tw1_3, tw2_234⟩, ⟨by decide, by decide, by decide +kernel⟩, by decide, _, _, _, tw2_234⟩
theorem lu_behindTelling_4 {own : String} {idx : Nat} (h : Cond.methodLink own idx yX3_behindTelling ∈ GW) : LkU own idx "GriefEngine$Teller" yX3_behindTelling yX8_behindTelling cX8_behindTelling 2 (some .int) 1 := ⟨⟨h, tw2_220, tw2_218, tw2_228, tw2_229, tw1_7, tw2_230⟩, ⟨by decide, by decide, by decide +kernel⟩, by decide, _, _, _, tw2_234⟩
theorem lu_behindTelling_5 {own : String} {idx : Nat} (h : Cond.methodLink own idx yX3_behindTelling ∈ GW) : LkU own idx "GriefEngine$Old" yX3_behindTelling yX3_behindTelling cX3_behindTelling 2 (some .int) 1 := ⟨⟨h, tw2_220, tw2_218, tw2_222, tw2_218, tw1_3, tw2_234⟩, ⟨by decide, by decide, by decide +kernel⟩, by decide, _, _, _, tw2_234⟩
theorem lu_behindResting_0 {own : String} {idx : Nat} (h : Cond.methodLink own idx yX3_behindResting ∈ GW) : LkU own idx "GriefEngine$Plain" yX3_behindResting yX3_behindResting cX3_behindResting 2 (some .int) 1 := ⟨⟨h, tw2_238, tw2_236, tw2_237, tw2_236, tw1_3, tw3_11⟩, ⟨by decide, by decide, by decide +kernel⟩, by decide, _, _, _, tw3_11⟩
theorem lu_behindResting_1 {own : String} {idx : Nat} (h : Cond.methodLink own idx yX3_behindResting ∈ GW) : LkU own idx "GriefEngine$Keeper" yX3_behindResting yX3_behindResting cX3_behindResting 2 (some .int) 1 := ⟨⟨h, tw2_238, tw2_236, tw2_239, tw2_236, tw1_3, tw3_11⟩, ⟨by decide, by decide, by decide +kernel⟩, by decide, _, _, _, tw3_11⟩
theorem lu_behindResting_2 {own : String} {idx : Nat} (h : Cond.methodLink own idx yX3_behindResting ∈ GW) : LkU own idx "GriefEngine$Sham" yX3_behindResting yX3_behindResting cX3_behindResting 2 (some .int) 1 := ⟨⟨h, tw2_238, tw2_236, tw3_3, tw2_236, tw1_3, tw3_11⟩, ⟨by decide, by decide, by decide +kernel⟩, by decide, _, _, _, tw3_11⟩
theorem lu_behindResting_3 {own : String} {idx : Nat} (h : Cond.methodLink own idx yX3_behindResting ∈ GW) : LkU own idx "GriefEngine$Spring" yX3_behindResting yX3_behindResting cX3_behindResting 2 (some .int) 1 := ⟨⟨h, tw2_238, tw2_236, tw3_4, tw2_236, tw1_3, tw3_11⟩, ⟨by decide, by decide, by decide +kernel⟩, by decide, _, _, _, tw3_11⟩
theorem lu_behindResting_4 {own : String} {idx : Nat} (h : Cond.methodLink own idx yX3_behindResting ∈ GW) : LkU own idx "GriefEngine$Teller" yX3_behindResting yX8_behindResting cX8_behindResting 2 (some .int) 1 := ⟨⟨h, tw2_238, tw2_236, tw3_5, tw3_6, tw1_7, tw3_7⟩, ⟨by decide, by decide, by decide +kernel⟩, by decide, _, _, _, tw3_11⟩
theorem lu_behindResting_5 {own : String} {idx : Nat} (h : Cond.methodLink own idx yX3_behindResting ∈ GW) : LkU own idx "GriefEngine$Old" yX3_behindResting yX1_behindResting cX1_behindResting 2 (some .int) 1 := ⟨⟨h, tw2_238, tw2_236, tw3_0, tw3_1, tw1_8, tw3_2⟩, ⟨by decide, by decide, by decide +kernel⟩, by decide, _, _, _, tw3_11⟩
theorem lu_left_0 {own : String} {idx : Nat} (h : Cond.methodLink own idx yX3_left ∈ GW) : LkU own idx "GriefEngine$Plain" yX3_left yX3_left cX3_left 4 (some .int) 2 := ⟨⟨h, tw2_196, tw2_194, tw2_195, tw2_194, tw1_3, tw2_202⟩, ⟨by decide, by decide, by decide +kernel⟩, by decide, _, _, _, tw2_202⟩
theorem lu_left_1 {own : String} {idx : Nat} (h : Cond.methodLink own idx yX3_left ∈ GW) : LkU own idx "GriefEngine$Keeper" yX3_left yX3_left cX3_left 4 (some .int) 2 := ⟨⟨h, tw2_196, tw2_194, tw2_197, tw2_194, tw1_3, tw2_202⟩, ⟨by decide, by decide, by decide +kernel⟩, by decide, _, _, _, tw2_202⟩
theorem lu_left_2 {own : String} {idx : Nat} (h : Cond.methodLink own idx yX3_left ∈ GW) : LkU own idx "GriefEngine$Sham" yX3_left yX3_left cX3_left 4 (some .int) 2 := ⟨⟨h, tw2_196, tw2_194, tw2_199, tw2_194, tw1_3, tw2_202⟩, ⟨by decide, by decide, by decide +kernel⟩, by decide, _, _, _, tw2_202⟩
theorem lu_left_3 {own : String} {idx : Nat} (h : Cond.methodLink own idx yX3_left ∈ GW) : LkU own idx "GriefEngine$Spring" yX3_left yX3_left cX3_left 4 (some .int) 2 := ⟨⟨h, tw2_196, tw2_194, tw2_200, tw2_194, tw1_3, tw2_202⟩, ⟨by decide, by decide, by decide +kernel⟩, by decide, _, _, _, tw2_202⟩
theorem lu_left_4 {own : String} {idx : Nat} (h : Cond.methodLink own idx yX3_left ∈ GW) : LkU own idx "GriefEngine$Teller" yX3_left yX3_left cX3_left 4 (some .int) 2 := ⟨⟨h, tw2_196, tw2_194, tw2_201, tw2_194, tw1_3, tw2_202⟩, ⟨by decide, by decide, by decide +kernel⟩, by decide, _, _, _, tw2_202⟩
theorem lu_left_5 {own : String} {idx : Nat} (h : Cond.methodLink own idx yX3_left ∈ GW) : LkU own idx "GriefEngine$Old" yX3_left yX3_left cX3_left 4 (some .int) 2 := ⟨⟨h, tw2_196, tw2_194, tw2_198, tw2_194, tw1_3, tw2_202⟩, ⟨by decide, by decide, by decide +kernel⟩, by decide, _, _, _, tw2_202⟩
theorem lu_milesFromFirstDay_0 {own : String} {idx : Nat} (h : Cond.methodLink own idx yX3_milesFromFirstDay ∈ GW) : LkU own idx "GriefEngine$Plain" yX3_milesFromFirstDay yX3_milesFromFirstDay cX3_milesFromFirstDay 6 (some .int) 2 := ⟨⟨h, tw3_210, tw3_208, tw3_209, tw3_208, tw1_3, tw3_216⟩, ⟨by decide, by decide, by decide +kernel⟩, by decide, _, _, _, tw3_216⟩
theorem lu_milesFromFirstDay_1 {own : String} {idx : Nat} (h : Cond.methodLink own idx yX3_milesFromFirstDay ∈ GW) : LkU own idx "GriefEngine$Keeper" yX3_milesFromFirstDay yX3_milesFromFirstDay cX3_milesFromFirstDay 6 (some .int) 2 := ⟨⟨h, tw3_210, tw3_208, tw3_211, tw3_208, tw1_3, tw3_216⟩, ⟨by decide, by decide, by decide +kernel⟩, by decide, _, _, _, tw3_216⟩
theorem lu_milesFromFirstDay_2 {own : String} {idx : Nat} (h : Cond.methodLink own idx yX3_milesFromFirstDay ∈ GW) : LkU own idx "GriefEngine$Sham" yX3_milesFromFirstDay yX3_milesFromFirstDay cX3_milesFromFirstDay 6 (some .int) 2 := ⟨⟨h, tw3_210, tw3_208, tw3_213, tw3_208, tw1_3, tw3_216⟩, ⟨by decide, by decide, by decide +kernel⟩, by decide, _, _, _, tw3_216⟩
theorem lu_milesFromFirstDay_3 {own : String} {idx : Nat} (h : Cond.methodLink own idx yX3_milesFromFirstDay ∈ GW) : LkU own idx "GriefEngine$Spring" yX3_milesFromFirstDay yX3_milesFromFirstDay cX3_milesFromFirstDay 6 (some .int) 2 := ⟨⟨h, tw3_210, tw3_208, tw3_214, tw3_208, tw1_3, tw3_216⟩, ⟨by decide, by decide, by decide +kernel⟩, by decide, _, _, _, tw3_216⟩
theorem lu_milesFromFirstDay_4 {own : String} {idx : Nat} (h : Cond.methodLink own idx yX3_milesFromFirstDay ∈ GW) : LkU own idx "GriefEngine$Teller" yX3_milesFromFirstDay yX3_milesFromFirstDay cX3_milesFromFirstDay 6 (some .int) 2 := ⟨⟨h, tw3_210, tw3_208, tw3_215, tw3_208, tw1_3, tw3_216⟩, ⟨by decide, by decide, by decide +kernel⟩, by decide, _, _, _, tw3_216⟩
theorem lu_milesFromFirstDay_5 {own : String} {idx : Nat} (h : Cond.methodLink own idx yX3_milesFromFirstDay ∈ GW) : LkU own idx "GriefEngine$Old" yX3_milesFromFirstDay yX3_milesFromFirstDay cX3_milesFromFirstDay 6 (some .int) 2 := ⟨⟨h, tw3_210, tw3_208, tw3_212, tw3_208, tw1_3, tw3_216⟩, ⟨by decide, by decide, by decide +kernel⟩, by decide, _, _, _, tw3_216⟩
end
section
section KW
variable {B : KB} {X : KE} {own : String} {cc : ByteArray} {nL d : Nat} {T : TT} {pc : Nat} {lv : List (Nat × Value)} {st : List Value}
theorem k_callsI {idx : Nat} {y : MethodName} {c2 : ByteArray} {maxL n d' : Nat} {ret : Option FieldType} {as rest : List Value} {v : Int32} {T1 : TT} (C : Cx B X own cc nL d) (lk : LkS own idx y c2 maxL ret n) (hdd : d' < d) (hk : Kt B X.2.1 d' y c2 maxL ret T as (some (.int v)) T1) (hd : decode cc pc = .ok (.invokestatic idx, 3)) (hn : as.length = n) (hs : st = as.reverse ++ rest) (hW : (rest.map fun v => v.category).sum ≤ 8) (kk : Wk B X nL T1 (pc + 3) lv (.int v :: rest)) : Wk B X nL T pc lv st := k_calls C lk hdd hk hd hn hs hW kk
theorem k_callsnI {idx : Nat} {y : MethodName} {c2 : ByteArray} {maxL n d' : Nat} {ret : Option FieldType} {as rest : List Value} {v : Int32} {T1 : TT} (C : Cx B X own cc nL d) {host : String} (hnw : va_Nw (.methodLinkNest own idx y host) X.2.2.2.2.1) (l2 : Cond.static y ∈ GW) (l3 : Cond.initialized y.cls ∈ GW) (l4 : Cond.code y c2 maxL ret ∈ GW) (l5 : y.cls ≠ "java/lang/invoke/MethodHandle" ∧ y.cls ≠ "java/lang/invoke/VarHandle" ∧ (parseMethodDescriptor y.desc).map (fun d => d.parameters.length) = some n) (l6 : maxL ≤ 45) (hdd : d' < d) (hk : Kt B X.2.1 d' y c2 maxL ret T as (some (.int v)) T1) (hd : decode cc pc = .ok (.invokestatic idx, 3)) (hn : as.length = n) (hs : st = as.reverse ++ rest) (hW : (rest.map fun v => v.category).sum ≤ 8) (kk : Wk B X nL T1 (pc + 3) lv (.int v :: rest)) : Wk B X nL T pc lv st := k_callsn C hnw l2 l3 l4 l5 l6 hdd hk hd hn hs hW kk
theorem k_callvI {idx : Nat} {y : MethodName} {c2 : ByteArray} {maxL n d' : Nat} {ret : Option FieldType} {as rest : List Value} {v : Int32} {T1 : TT} (C : Cx B X own cc nL d) {g f ci : Nat} {q : vw_C} {fs : List Value} (lk : LkV own idx y c2 maxL ret n) (hdd : d' < d) (hx0 : (g, f) ∈ IX) (hw0 : wc B T g f = .inr (ci, fs)) (hc0 : vwCl[ci]? = some q) (hq0 : q.1 = y.cls) (hk : Kt B X.2.1 d' y c2 maxL ret T (.ref (B.1 g f) :: as) (some (.int v)) T1) (hd : decode cc pc = .ok (.invokevirtual idx, 3)) (hn : as.length = n) (hs : st = as.reverse ++ .ref (B.1 g f) :: rest) (hW : (rest.map fun v => v.category).sum ≤ 8) (kk : Wk B X nL T1 (pc + 3) lv (.int v :: rest)) : Wk B X nL T pc lv st := k_callv C lk hdd hx0 hw0 hc0 hq0 hk hd hn hs hW kk
theorem k_calluI {idx : Nat} {y : MethodName} {c2 : ByteArray} {maxL n d' : Nat} {ret : Option FieldType} {as rest : List Value} {v : Int32} {T1 : TT} (C : Cx B X own cc nL d) {Cn : String} {x : MethodName} {g f ci : Nat} {q : vw_C} {fs : List Value} (lk : LkU own idx Cn x y c2 maxL ret n) (hdd : d' < d) (hx0 : (g, f) ∈ IX) (hw0 : wc B T g f = .inr (ci, fs)) (hc0 : vwCl[ci]? = some q) (hq0 : q.1 = Cn) (hk : Kt B X.2.1 d' y c2 maxL ret T (.ref (B.1 g f) :: as) (some (.int v)) T1) (hd : decode cc pc = .ok (.invokevirtual idx, 3)) (hn : as.length = n) (hs : st = as.reverse ++ .ref (B.1 g f) :: rest) (hW : (rest.map fun v => v.category).sum ≤ 8) (kk : Wk B X nL T1 (pc + 3) lv (.int v :: rest)) : Wk B X nL T pc lv st := k_callu C lk hdd hx0 hw0 hc0 hq0 hk hd hn hs hW kk
theorem k_callpI {idx : Nat} {y : MethodName} {c2 : ByteArray} {maxL n d' : Nat} {ret : Option FieldType} {as rest : List Value} {v : Int32} {T1 : TT} (C : Cx B X own cc nL d) {g f ci : Nat} {q : vw_C} {fs : List Value} (lk : LkP own idx y c2 maxL ret n) (hdd : d' < d) (hx0 : (g, f) ∈ IX) (hw0 : wc B T g f = .inr (ci, fs)) (hc0 : vwCl[ci]? = some q) (hk : Kt B X.2.1 d' y c2 maxL ret T (.ref (B.1 g f) :: as) (some (.int v)) T1) (hd : decode cc pc = .ok (.invokespecial idx, 3)) (hn : as.length = n) (hs : st = as.reverse ++ .ref (B.1 g f) :: rest) (hW : (rest.map fun v => v.category).sum ≤ 8) (kk : Wk B X nL T1 (pc + 3) lv (.int v :: rest)) : Wk B X nL T pc lv st := k_callp C lk hdd hx0 hw0 hc0 hk hd hn hs hW kk
theorem k_callsJ {idx : Nat} {y : MethodName} {c2 : ByteArray} {maxL n d' : Nat} {ret : Option FieldType} {as rest : List Value} {v : Int64} {T1 : TT} (C : Cx B X own cc nL d) (lk : LkS own idx y c2 maxL ret n) (hdd : d' < d) (hk : Kt B X.2.1 d' y c2 maxL ret T as (some (.long v)) T1) (hd : decode cc pc = .ok (.invokestatic idx, 3)) (hn : as.length = n) (hs : st = as.reverse ++ rest) (hW : (rest.map fun v => v.category).sum ≤ 8) (kk : Wk B X nL T1 (pc + 3) lv (.long v :: rest)) : Wk B X nL T pc lv st := k_calls C lk hdd hk hd hn hs hW kk
theorem k_callsnJ {idx : Nat} {y : MethodName} {c2 : ByteArray} {maxL n d' : Nat} {ret : Option FieldType} {as rest : List Value} {v : Int64} {T1 : TT} (C : Cx B X own cc nL d) {host : String} (hnw : va_Nw (.methodLinkNest own idx y host) X.2.2.2.2.1) (l2 : Cond.static y ∈ GW) (l3 : Cond.initialized y.cls ∈ GW) (l4 : Cond.code y c2 maxL ret ∈ GW) (l5 : y.cls ≠ "java/lang/invoke/MethodHandle" ∧ y.cls ≠ "java/lang/invoke/VarHandle" ∧ (parseMethodDescriptor y.desc).map (fun d => d.parameters.length) = some n) (l6 : maxL ≤ 45) (hdd : d' < d) (hk : Kt B X.2.1 d' y c2 maxL ret T as (some (.long v)) T1) (hd : decode cc pc = .ok (.invokestatic idx, 3)) (hn : as.length = n) (hs : st = as.reverse ++ rest) (hW : (rest.map fun v => v.category).sum ≤ 8) (kk : Wk B X nL T1 (pc + 3) lv (.long v :: rest)) : Wk B X nL T pc lv st := k_callsn C hnw l2 l3 l4 l5 l6 hdd hk hd hn hs hW kk
theorem k_callvJ {idx : Nat} {y : MethodName} {c2 : ByteArray} {maxL n d' : Nat} {ret : Option FieldType} {as rest : List Value} {v : Int64} {T1 : TT} (C : Cx B X own cc nL d) {g f ci : Nat} {q : vw_C} {fs : List Value} (lk : LkV own idx y c2 maxL ret n) (hdd : d' < d) (hx0 : (g, f) ∈ IX) (hw0 : wc B T g f = .inr (ci, fs)) (hc0 : vwCl[ci]? = some q) (hq0 : q.1 = y.cls) (hk : Kt B X.2.1 d' y c2 maxL ret T (.ref (B.1 g f) :: as) (some (.long v)) T1) (hd : decode cc pc = .ok (.invokevirtual idx, 3)) (hn : as.length = n) (hs : st = as.reverse ++ .ref (B.1 g f) :: rest) (hW : (rest.map fun v => v.category).sum ≤ 8) (kk : Wk B X nL T1 (pc + 3) lv (.long v :: rest)) : Wk B X nL T pc lv st := k_callv C lk hdd hx0 hw0 hc0 hq0 hk hd hn hs hW kk
theorem k_callsV {idx : Nat} {y : MethodName} {c2 : ByteArray} {maxL n d' : Nat} {ret : Option FieldType} {as rest : List Value}  {T1 : TT} (C : Cx B X own cc nL d) (lk : LkS own idx y c2 maxL ret n) (hdd : d' < d) (hk : Kt B X.2.1 d' y c2 maxL ret T as none T1) (hd : decode cc pc = .ok (.invokestatic idx, 3)) (hn : as.length = n) (hs : st = as.reverse ++ rest) (hW : (rest.map fun v => v.category).sum ≤ 8) (kk : Wk B X nL T1 (pc + 3) lv (rest)) : Wk B X nL T pc lv st := k_calls C lk hdd hk hd hn hs hW kk
theorem k_callsnV {idx : Nat} {y : MethodName} {c2 : ByteArray} {maxL n d' : Nat} {ret : Option FieldType} {as rest : List Value}  {T1 : TT} (C : Cx B X own cc nL d) {host : String} (hnw : va_Nw (.methodLinkNest own idx y host) X.2.2.2.2.1) (l2 : Cond.static y ∈ GW) (l3 : Cond.initialized y.cls ∈ GW) (l4 : Cond.code y c2 maxL ret ∈ GW) (l5 : y.cls ≠ "java/lang/invoke/MethodHandle" ∧ y.cls ≠ "java/lang/invoke/VarHandle" ∧ (parseMethodDescriptor y.desc).map (fun d => d.parameters.length) = some n) (l6 : maxL ≤ 45) (hdd : d' < d) (hk : Kt B X.2.1 d' y c2 maxL ret T as none T1) (hd : decode cc pc = .ok (.invokestatic idx, 3)) (hn : as.length = n) (hs : st = as.reverse ++ rest) (hW : (rest.map fun v => v.category).sum ≤ 8) (kk : Wk B X nL T1 (pc + 3) lv (rest)) : Wk B X nL T pc lv st := k_callsn C hnw l2 l3 l4 l5 l6 hdd hk hd hn hs hW kk
theorem k_callvV {idx : Nat} {y : MethodName} {c2 : ByteArray} {maxL n d' : Nat} {ret : Option FieldType} {as rest : List Value}  {T1 : TT} (C : Cx B X own cc nL d) {g f ci : Nat} {q : vw_C} {fs : List Value} (lk : LkV own idx y c2 maxL ret n) (hdd : d' < d) (hx0 : (g, f) ∈ IX) (hw0 : wc B T g f = .inr (ci, fs)) (hc0 : vwCl[ci]? = some q) (hq0 : q.1 = y.cls) (hk : Kt B X.2.1 d' y c2 maxL ret T (.ref (B.1 g f) :: as) none T1) (hd : decode cc pc = .ok (.invokevirtual idx, 3)) (hn : as.length = n) (hs : st = as.reverse ++ .ref (B.1 g f) :: rest) (hW : (rest.map fun v => v.category).sum ≤ 8) (kk : Wk B X nL T1 (pc + 3) lv (rest)) : Wk B X nL T pc lv st := k_callv C lk hdd hx0 hw0 hc0 hq0 hk hd hn hs hW kk
theorem k_callsA {idx : Nat} {y : MethodName} {c2 : ByteArray} {maxL n d' : Nat} {ret : Option FieldType} {as rest : List Value} {v : Nat} {T1 : TT} (C : Cx B X own cc nL d) (lk : LkS own idx y c2 maxL ret n) (hdd : d' < d) (hk : Kt B X.2.1 d' y c2 maxL ret T as (some (.ref v)) T1) (hd : decode cc pc = .ok (.invokestatic idx, 3)) (hn : as.length = n) (hs : st = as.reverse ++ rest) (hW : (rest.map fun v => v.category).sum ≤ 8) (kk : Wk B X nL T1 (pc + 3) lv (.ref v :: rest)) : Wk B X nL T pc lv st := k_calls C lk hdd hk hd hn hs hW kk
theorem k_callsnA {idx : Nat} {y : MethodName} {c2 : ByteArray} {maxL n d' : Nat} {ret : Option FieldType} {as rest : List Value} {v : Nat} {T1 : TT} (C : Cx B X own cc nL d) {host : String} (hnw : va_Nw (.methodLinkNest own idx y host) X.2.2.2.2.1) (l2 : Cond.static y ∈ GW) (l3 : Cond.initialized y.cls ∈ GW) (l4 : Cond.code y c2 maxL ret ∈ GW) (l5 : y.cls ≠ "java/lang/invoke/MethodHandle" ∧ y.cls ≠ "java/lang/invoke/VarHandle" ∧ (parseMethodDescriptor y.desc).map (fun d => d.parameters.length) = some n) (l6 : maxL ≤ 45) (hdd : d' < d) (hk : Kt B X.2.1 d' y c2 maxL ret T as (some (.ref v)) T1) (hd : decode cc pc = .ok (.invokestatic idx, 3)) (hn : as.length = n) (hs : st = as.reverse ++ rest) (hW : (rest.map fun v => v.category).sum ≤ 8) (kk : Wk B X nL T1 (pc + 3) lv (.ref v :: rest)) : Wk B X nL T pc lv st := k_callsn C hnw l2 l3 l4 l5 l6 hdd hk hd hn hs hW kk
theorem k_callvA {idx : Nat} {y : MethodName} {c2 : ByteArray} {maxL n d' : Nat} {ret : Option FieldType} {as rest : List Value} {v : Nat} {T1 : TT} (C : Cx B X own cc nL d) {g f ci : Nat} {q : vw_C} {fs : List Value} (lk : LkV own idx y c2 maxL ret n) (hdd : d' < d) (hx0 : (g, f) ∈ IX) (hw0 : wc B T g f = .inr (ci, fs)) (hc0 : vwCl[ci]? = some q) (hq0 : q.1 = y.cls) (hk : Kt B X.2.1 d' y c2 maxL ret T (.ref (B.1 g f) :: as) (some (.ref v)) T1) (hd : decode cc pc = .ok (.invokevirtual idx, 3)) (hn : as.length = n) (hs : st = as.reverse ++ .ref (B.1 g f) :: rest) (hW : (rest.map fun v => v.category).sum ≤ 8) (kk : Wk B X nL T1 (pc + 3) lv (.ref v :: rest)) : Wk B X nL T pc lv st := k_callv C lk hdd hx0 hw0 hc0 hq0 hk hd hn hs hW kk
theorem bnd {α β : Type} {x : Option α} {f : α → Option β} {r : β} (h : x.bind f = some r) : ∃ z, x = some z ∧ f z = some r := by
  cases x with
  | none => cases h
  | some z => exact ⟨z, rfl, h⟩
/-- a name for a value -/
def bT {α β : Type} (x : α) (k : α → β) : β := k x
theorem k_nT {R : Type} {res : R} {k0 : TT → Option R} (h : bT T k0 = some res) (kk : ∀ T' : TT, k0 T' = some res → Wk B X nL T' pc lv st) : Wk B X nL T pc lv st := kk T h
theorem k_nI {R : Type} {res : R} {x : Int32} {k0 : Int32 → Option R} (h : bT x k0 = some res) (kk : ∀ y : Int32, k0 y = some res → Wk B X nL T pc lv (.int y :: st)) : Wk B X nL T pc lv (.int x :: st) := kk x h
theorem k_nL {R : Type} {res : R} {x : Int64} {k0 : Int64 → Option R} (h : bT x k0 = some res) (kk : ∀ y : Int64, k0 y = some res → Wk B X nL T pc lv (.long y :: st)) : Wk B X nL T pc lv (.long x :: st) := kk x h
theorem k_iincN {R : Type} {res : R} {k0 : Int32 → Option R} {i : Nat} {n : Int} {x c : Int32} (C : Cx B X own cc nL d) (lv' : Int32 → List (Nat × Value)) (hd : decode cc pc = .ok (.iinc i n, 3)) (j : Nat) (hj : lv[j]? = some (i, .int x)) (hv : Int32.ofInt n = c) (hn : i < nL) (hf : ∀ v : Int32, (i, Value.int v) :: lv.filter (fun q => !(q.1 == i) && !(q.1 + 1 == i && q.2.category == 2)) = lv' v) (h : bT (x + c) k0 = some res) (kk : ∀ v : Int32, k0 v = some res → Wk B X nL T (pc + 3) (lv' v) st) : Wk B X nL T pc lv st := k_iinc C (x + c) (lv' (x + c)) hd j hj (by rw [hv]) hn (hf _) (kk (x + c) h)
theorem no_some {α : Type} {r : α} {p : Prop} (h : none = some r) : p := by cases h
theorem some_i {α : Type} {x y : α} (h : some x = some y) : x = y := Option.some.inj h
theorem ne_toInt {x v : Int32} (h : ¬ x = v) : x.toInt ≠ v.toInt := fun e => h (Int32.toInt_inj.mp e)
theorem bool01 {x : Int32} (h : x = 0 ∨ x = 1) : narrow .boolean (.int x) = .int x := by rcases h with rfl | rfl <;> rfl
def FU : Nat := 1000000
theorem kok_at {g f : Nat} (h : kok g f) : (g, f) ∈ IX ∧ (∀ (B : KB) (T : TT), wc B T g f = .inr (ciK (kn g f), [])) ∧ kn g f < 6 := by
  rcases h with ⟨rfl, rfl⟩ | ⟨hg, h8, h14⟩
  · exact ⟨by decide +kernel, fun B T => rfl, by decide⟩
  · refine ⟨ix_rank hg h14, fun B T => ?_, ?_⟩
    · have h6 : ¬ g = 6 := by omega
      have h0 : ¬ f = 0 := by omega
      have h1 : ¬ f = 1 := by omega
      have h5 : ¬ f < 5 := by omega
      have h55 : ¬ f = 5 := by omega
      have h66 : ¬ f = 6 := by omega
      have h7 : ¬ f = 7 := by omega
      simp [wc, warr, kn, hg, h6, h0, h1, h5, h55, h66, h7]
    · have h6 : ¬ g = 6 := by omega
      simp [kn, h6]
      omega
theorem cbipush_m10 : (Int8.ofInt (-10)).toInt32 = (-10 : Int32) := by decide
theorem cbipush_m5 : (Int8.ofInt (-5)).toInt32 = (-5 : Int32) := by decide
theorem cbipush_m4 : (Int8.ofInt (-4)).toInt32 = (-4 : Int32) := by decide
theorem cbipush_m3 : (Int8.ofInt (-3)).toInt32 = (-3 : Int32) := by decide
theorem cbipush_m2 : (Int8.ofInt (-2)).toInt32 = (-2 : Int32) := by decide
theorem cbipush_6 : (Int8.ofInt 6).toInt32 = (6 : Int32) := by decide
theorem cbipush_7 : (Int8.ofInt 7).toInt32 = (7 : Int32) := by decide
theorem cbipush_8 : (Int8.ofInt 8).toInt32 = (8 : Int32) := by decide
theorem cbipush_10 : (Int8.ofInt 10).toInt32 = (10 : Int32) := by decide
theorem cbipush_12 : (Int8.ofInt 12).toInt32 = (12 : Int32) := by decide
theorem cbipush_13 : (Int8.ofInt 13).toInt32 = (13 : Int32) := by decide
theorem cbipush_16 : (Int8.ofInt 16).toInt32 = (16 : Int32) := by decide
theorem cbipush_17 : (Int8.ofInt 17).toInt32 = (17 : Int32) := by decide
theorem cbipush_20 : (Int8.ofInt 20).toInt32 = (20 : Int32) := by decide
theorem cbipush_23 : (Int8.ofInt 23).toInt32 = (23 : Int32) := by decide
theorem cbipush_30 : (Int8.ofInt 30).toInt32 = (30 : Int32) := by decide
theorem cbipush_31 : (Int8.ofInt 31).toInt32 = (31 : Int32) := by decide
theorem cbipush_32 : (Int8.ofInt 32).toInt32 = (32 : Int32) := by decide
theorem cbipush_33 : (Int8.ofInt 33).toInt32 = (33 : Int32) := by decide
theorem cbipush_36 : (Int8.ofInt 36).toInt32 = (36 : Int32) := by decide
theorem cbipush_48 : (Int8.ofInt 48).toInt32 = (48 : Int32) := by decide
theorem cbipush_57 : (Int8.ofInt 57).toInt32 = (57 : Int32) := by decide
theorem cbipush_59 : (Int8.ofInt 59).toInt32 = (59 : Int32) := by decide
theorem cbipush_60 : (Int8.ofInt 60).toInt32 = (60 : Int32) := by decide
theorem cbipush_71 : (Int8.ofInt 71).toInt32 = (71 : Int32) := by decide
theorem cbipush_84 : (Int8.ofInt 84).toInt32 = (84 : Int32) := by decide
theorem cbipush_91 : (Int8.ofInt 91).toInt32 = (91 : Int32) := by decide
theorem cbipush_97 : (Int8.ofInt 97).toInt32 = (97 : Int32) := by decide
theorem cbipush_99 : (Int8.ofInt 99).toInt32 = (99 : Int32) := by decide
theorem cbipush_100 : (Int8.ofInt 100).toInt32 = (100 : Int32) := by decide
theorem cbipush_101 : (Int8.ofInt 101).toInt32 = (101 : Int32) := by decide
theorem cbipush_104 : (Int8.ofInt 104).toInt32 = (104 : Int32) := by decide
theorem cbipush_105 : (Int8.ofInt 105).toInt32 = (105 : Int32) := by decide
theorem cbipush_107 : (Int8.ofInt 107).toInt32 = (107 : Int32) := by decide
theorem cbipush_110 : (Int8.ofInt 110).toInt32 = (110 : Int32) := by decide
theorem cbipush_114 : (Int8.ofInt 114).toInt32 = (114 : Int32) := by decide
theorem cbipush_115 : (Int8.ofInt 115).toInt32 = (115 : Int32) := by decide
theorem cbipush_118 : (Int8.ofInt 118).toInt32 = (118 : Int32) := by decide
theorem cbipush_121 : (Int8.ofInt 121).toInt32 = (121 : Int32) := by decide
theorem cbipush_122 : (Int8.ofInt 122).toInt32 = (122 : Int32) := by decide
theorem cbipush_127 : (Int8.ofInt 127).toInt32 = (127 : Int32) := by decide
theorem ciconst_m1 : Int32.ofInt (-1) = (-1 : Int32) := by decide
theorem ciconst_0 : Int32.ofInt 0 = (0 : Int32) := by decide
theorem ciconst_1 : Int32.ofInt 1 = (1 : Int32) := by decide
theorem ciconst_2 : Int32.ofInt 2 = (2 : Int32) := by decide
theorem ciconst_3 : Int32.ofInt 3 = (3 : Int32) := by decide
theorem ciconst_4 : Int32.ofInt 4 = (4 : Int32) := by decide
theorem ciconst_5 : Int32.ofInt 5 = (5 : Int32) := by decide
theorem csipush_150 : (Int16.ofInt 150).toInt32 = (150 : Int32) := by decide
theorem csipush_175 : (Int16.ofInt 175).toInt32 = (175 : Int32) := by decide
theorem csipush_200 : (Int16.ofInt 200).toInt32 = (200 : Int32) := by decide
theorem csipush_255 : (Int16.ofInt 255).toInt32 = (255 : Int32) := by decide
theorem csipush_350 : (Int16.ofInt 350).toInt32 = (350 : Int32) := by decide
theorem csipush_999 : (Int16.ofInt 999).toInt32 = (999 : Int32) := by decide
theorem csipush_6000 : (Int16.ofInt 6000).toInt32 = (6000 : Int32) := by decide
theorem csipush_9999 : (Int16.ofInt 9999).toInt32 = (9999 : Int32) := by decide
end KW
end
