section
-- ===== PART A: goes FIRST, ahead of the names: the tables' words, and 'selects' of the private methods out of them =====
/-- a private method of a class that the tables say can be made, by its rows of tables_1 -/
def lw_okq (q : MethodName × Nat) : Prop := (q.1.cls ≠ "java/lang/invoke/MethodHandle" ∧ q.1.cls ≠ "java/lang/invoke/VarHandle") ∧ Cond.instantiable q.1.cls q.2 ∈ tables_1 ∧ Cond.privateMethod q.1 ∈ tables_1 ∧ Cond.instanceMethod q.1 ∈ tables_1
theorem lw_p0 : lw_okq (⟨"HoleMoved", "rowOf", "(I)LHoleMoved$Strip;"⟩, 17) := ⟨⟨by decide +kernel, by decide +kernel⟩, List.mem_of_getElem? (i := 15) (by decide +kernel), List.mem_of_getElem? (i := 261) (by decide +kernel), List.mem_of_getElem? (i := 262) (by decide +kernel)⟩
theorem lw_p1 : lw_okq (⟨"HoleMoved", "comeAnew", "(LHoleMoved$Strip;II)I"⟩, 17) := ⟨⟨by decide +kernel, by decide +kernel⟩, List.mem_of_getElem? (i := 15) (by decide +kernel), List.mem_of_getElem? (i := 265) (by decide +kernel), List.mem_of_getElem? (i := 266) (by decide +kernel)⟩
theorem lw_p2 : lw_okq (⟨"HoleMoved", "found", "(I)I"⟩, 17) := ⟨⟨by decide +kernel, by decide +kernel⟩, List.mem_of_getElem? (i := 15) (by decide +kernel), List.mem_of_getElem? (i := 273) (by decide +kernel), List.mem_of_getElem? (i := 274) (by decide +kernel)⟩
theorem lw_p3 : lw_okq (⟨"HoleMoved", "tell", "(I)I"⟩, 17) := ⟨⟨by decide +kernel, by decide +kernel⟩, List.mem_of_getElem? (i := 15) (by decide +kernel), List.mem_of_getElem? (i := 312) (by decide +kernel), List.mem_of_getElem? (i := 313) (by decide +kernel)⟩
theorem lw_p4 : lw_okq (⟨"HoleMoved", "textOf", "(I)LHoleMoved$Strip;"⟩, 17) := ⟨⟨by decide +kernel, by decide +kernel⟩, List.mem_of_getElem? (i := 15) (by decide +kernel), List.mem_of_getElem? (i := 356) (by decide +kernel), List.mem_of_getElem? (i := 357) (by decide +kernel)⟩
theorem lw_p5 : lw_okq (⟨"HoleMoved$Reader", "skipBlanks", "(LHoleMoved$Strip;)V"⟩, 7) := ⟨⟨by decide +kernel, by decide +kernel⟩, List.mem_of_getElem? (i := 25) (by decide +kernel), List.mem_of_getElem? (i := 372) (by decide +kernel), List.mem_of_getElem? (i := 373) (by decide +kernel)⟩
theorem lw_p6 : lw_okq (⟨"HoleMoved$Reader", "sign", "(LHoleMoved$Strip;)I"⟩, 7) := ⟨⟨by decide +kernel, by decide +kernel⟩, List.mem_of_getElem? (i := 25) (by decide +kernel), List.mem_of_getElem? (i := 377) (by decide +kernel), List.mem_of_getElem? (i := 378) (by decide +kernel)⟩
theorem lw_p7 : lw_okq (⟨"HoleMoved$Reader", "readLines", "(LHoleMoved$Strip;)Z"⟩, 7) := ⟨⟨by decide +kernel, by decide +kernel⟩, List.mem_of_getElem? (i := 25) (by decide +kernel), List.mem_of_getElem? (i := 383) (by decide +kernel), List.mem_of_getElem? (i := 384) (by decide +kernel)⟩
theorem lw_p8 : lw_okq (⟨"HoleMoved$Reader", "readLine", "(LHoleMoved$Strip;I)Z"⟩, 7) := ⟨⟨by decide +kernel, by decide +kernel⟩, List.mem_of_getElem? (i := 25) (by decide +kernel), List.mem_of_getElem? (i := 387) (by decide +kernel), List.mem_of_getElem? (i := 388) (by decide +kernel)⟩
theorem lw_p9 : lw_okq (⟨"HoleMoved$Reader", "figure", "(LHoleMoved$Strip;I)I"⟩, 7) := ⟨⟨by decide +kernel, by decide +kernel⟩, List.mem_of_getElem? (i := 25) (by decide +kernel), List.mem_of_getElem? (i := 391) (by decide +kernel), List.mem_of_getElem? (i := 392) (by decide +kernel)⟩
theorem lw_p10 : lw_okq (⟨"HoleMoved$Reader", "readGardens", "(LHoleMoved$Strip;)Z"⟩, 7) := ⟨⟨by decide +kernel, by decide +kernel⟩, List.mem_of_getElem? (i := 25) (by decide +kernel), List.mem_of_getElem? (i := 395) (by decide +kernel), List.mem_of_getElem? (i := 396) (by decide +kernel)⟩
theorem lw_p11 : lw_okq (⟨"HoleMoved$Reader", "readLaws", "(LHoleMoved$Strip;)V"⟩, 7) := ⟨⟨by decide +kernel, by decide +kernel⟩, List.mem_of_getElem? (i := 25) (by decide +kernel), List.mem_of_getElem? (i := 399) (by decide +kernel), List.mem_of_getElem? (i := 400) (by decide +kernel)⟩
theorem lw_p12 : lw_okq (⟨"HoleMoved$Land", "columnBits", "(I)I"⟩, 5) := ⟨⟨by decide +kernel, by decide +kernel⟩, List.mem_of_getElem? (i := 57) (by decide +kernel), List.mem_of_getElem? (i := 415) (by decide +kernel), List.mem_of_getElem? (i := 416) (by decide +kernel)⟩
theorem lw_p13 : lw_okq (⟨"HoleMoved", "takeLaws", "()V"⟩, 17) := ⟨⟨by decide +kernel, by decide +kernel⟩, List.mem_of_getElem? (i := 15) (by decide +kernel), List.mem_of_getElem? (i := 443) (by decide +kernel), List.mem_of_getElem? (i := 444) (by decide +kernel)⟩
theorem lw_p14 : lw_okq (⟨"HoleMoved", "cellTold", "(II)I"⟩, 17) := ⟨⟨by decide +kernel, by decide +kernel⟩, List.mem_of_getElem? (i := 15) (by decide +kernel), List.mem_of_getElem? (i := 468) (by decide +kernel), List.mem_of_getElem? (i := 469) (by decide +kernel)⟩
theorem lw_p15 : lw_okq (⟨"HoleMoved", "lawOf", "(I)LHoleMoved$Law;"⟩, 17) := ⟨⟨by decide +kernel, by decide +kernel⟩, List.mem_of_getElem? (i := 15) (by decide +kernel), List.mem_of_getElem? (i := 503) (by decide +kernel), List.mem_of_getElem? (i := 504) (by decide +kernel)⟩
def lw_privs_1 : List (MethodName × Nat) := [(⟨"HoleMoved", "rowOf", "(I)LHoleMoved$Strip;"⟩, 17), (⟨"HoleMoved", "comeAnew", "(LHoleMoved$Strip;II)I"⟩, 17), (⟨"HoleMoved", "found", "(I)I"⟩, 17), (⟨"HoleMoved", "tell", "(I)I"⟩, 17), (⟨"HoleMoved", "textOf", "(I)LHoleMoved$Strip;"⟩, 17), (⟨"HoleMoved$Reader", "skipBlanks", "(LHoleMoved$Strip;)V"⟩, 7), (⟨"HoleMoved$Reader", "sign", "(LHoleMoved$Strip;)I"⟩, 7), (⟨"HoleMoved$Reader", "readLines", "(LHoleMoved$Strip;)Z"⟩, 7), (⟨"HoleMoved$Reader", "readLine", "(LHoleMoved$Strip;I)Z"⟩, 7), (⟨"HoleMoved$Reader", "figure", "(LHoleMoved$Strip;I)I"⟩, 7), (⟨"HoleMoved$Reader", "readGardens", "(LHoleMoved$Strip;)Z"⟩, 7), (⟨"HoleMoved$Reader", "readLaws", "(LHoleMoved$Strip;)V"⟩, 7), (⟨"HoleMoved$Land", "columnBits", "(I)I"⟩, 5), (⟨"HoleMoved", "takeLaws", "()V"⟩, 17), (⟨"HoleMoved", "cellTold", "(II)I"⟩, 17), (⟨"HoleMoved", "lawOf", "(I)LHoleMoved$Law;"⟩, 17)]
theorem lw_r1 : ∀ q ∈ lw_privs_1, lw_okq q := List.forall_mem_cons.mpr ⟨lw_p0, List.forall_mem_cons.mpr ⟨lw_p1, List.forall_mem_cons.mpr ⟨lw_p2, List.forall_mem_cons.mpr ⟨lw_p3, List.forall_mem_cons.mpr ⟨lw_p4, List.forall_mem_cons.mpr ⟨lw_p5, List.forall_mem_cons.mpr ⟨lw_p6, List.forall_mem_cons.mpr ⟨lw_p7, List.forall_mem_cons.mpr ⟨lw_p8, List.forall_mem_cons.mpr ⟨lw_p9, List.forall_mem_cons.mpr ⟨lw_p10, List.forall_mem_cons.mpr ⟨lw_p11, List.forall_mem_cons.mpr ⟨lw_p12, List.forall_mem_cons.mpr ⟨lw_p13, List.forall_mem_cons.mpr ⟨lw_p14, List.forall_mem_cons.mpr ⟨lw_p15, fun _ h => absurd h List.not_mem_nil⟩⟩⟩⟩⟩⟩⟩⟩⟩⟩⟩⟩⟩⟩⟩⟩
theorem lw_p16 : lw_okq (⟨"HoleMoved$Law", "alikePairs", "(LHoleMoved$Ground;I)I"⟩, 2) := ⟨⟨by decide +kernel, by decide +kernel⟩, List.mem_of_getElem? (i := 191) (by decide +kernel), List.mem_of_getElem? (i := 527) (by decide +kernel), List.mem_of_getElem? (i := 528) (by decide +kernel)⟩
theorem lw_p17 : lw_okq (⟨"HoleMoved$Law", "areAlike", "(III)Z"⟩, 2) := ⟨⟨by decide +kernel, by decide +kernel⟩, List.mem_of_getElem? (i := 191) (by decide +kernel), List.mem_of_getElem? (i := 532) (by decide +kernel), List.mem_of_getElem? (i := 533) (by decide +kernel)⟩
theorem lw_p18 : lw_okq (⟨"HoleMoved", "rainedOn", "(II)I"⟩, 17) := ⟨⟨by decide +kernel, by decide +kernel⟩, List.mem_of_getElem? (i := 15) (by decide +kernel), List.mem_of_getElem? (i := 605) (by decide +kernel), List.mem_of_getElem? (i := 606) (by decide +kernel)⟩
theorem lw_p19 : lw_okq (⟨"HoleMoved", "imageOf", "(I)LHoleMoved$Ground;"⟩, 17) := ⟨⟨by decide +kernel, by decide +kernel⟩, List.mem_of_getElem? (i := 15) (by decide +kernel), List.mem_of_getElem? (i := 629) (by decide +kernel), List.mem_of_getElem? (i := 630) (by decide +kernel)⟩
theorem lw_p20 : lw_okq (⟨"HoleMoved$Thief", "succeeds", "(III)Z"⟩, 7) := ⟨⟨by decide +kernel, by decide +kernel⟩, List.mem_of_getElem? (i := 147) (by decide +kernel), List.mem_of_getElem? (i := 740) (by decide +kernel), List.mem_of_getElem? (i := 741) (by decide +kernel)⟩
theorem lw_p21 : lw_okq (⟨"HoleMoved$Thief", "isStolen", "()Z"⟩, 7) := ⟨⟨by decide +kernel, by decide +kernel⟩, List.mem_of_getElem? (i := 147) (by decide +kernel), List.mem_of_getElem? (i := 744) (by decide +kernel), List.mem_of_getElem? (i := 745) (by decide +kernel)⟩
theorem lw_p22 : lw_okq (⟨"HoleMoved", "tellFraction", "(JJ)I"⟩, 17) := ⟨⟨by decide +kernel, by decide +kernel⟩, List.mem_of_getElem? (i := 15) (by decide +kernel), List.mem_of_getElem? (i := 763) (by decide +kernel), List.mem_of_getElem? (i := 764) (by decide +kernel)⟩
theorem lw_p23 : lw_okq (⟨"HoleMoved", "waysFrom", "(LHoleMoved$Strip;I)I"⟩, 17) := ⟨⟨by decide +kernel, by decide +kernel⟩, List.mem_of_getElem? (i := 15) (by decide +kernel), List.mem_of_getElem? (i := 777) (by decide +kernel), List.mem_of_getElem? (i := 778) (by decide +kernel)⟩
theorem lw_p24 : lw_okq (⟨"HoleMoved", "counted", "(I)I"⟩, 17) := ⟨⟨by decide +kernel, by decide +kernel⟩, List.mem_of_getElem? (i := 15) (by decide +kernel), List.mem_of_getElem? (i := 846) (by decide +kernel), List.mem_of_getElem? (i := 847) (by decide +kernel)⟩
theorem lw_p25 : lw_okq (⟨"HoleMoved", "rimLaws", "()I"⟩, 17) := ⟨⟨by decide +kernel, by decide +kernel⟩, List.mem_of_getElem? (i := 15) (by decide +kernel), List.mem_of_getElem? (i := 850) (by decide +kernel), List.mem_of_getElem? (i := 851) (by decide +kernel)⟩
theorem lw_p26 : lw_okq (⟨"HoleMoved", "imagesThere", "()I"⟩, 17) := ⟨⟨by decide +kernel, by decide +kernel⟩, List.mem_of_getElem? (i := 15) (by decide +kernel), List.mem_of_getElem? (i := 857) (by decide +kernel), List.mem_of_getElem? (i := 858) (by decide +kernel)⟩
theorem lw_p27 : lw_okq (⟨"HoleMovedModel", "meet", "(I)I"⟩, 34) := ⟨⟨by decide +kernel, by decide +kernel⟩, List.mem_of_getElem? (i := 887) (by decide +kernel), List.mem_of_getElem? (i := 1007) (by decide +kernel), List.mem_of_getElem? (i := 1008) (by decide +kernel)⟩
theorem lw_p28 : lw_okq (⟨"HoleMovedModel", "setRow", "(III)V"⟩, 34) := ⟨⟨by decide +kernel, by decide +kernel⟩, List.mem_of_getElem? (i := 887) (by decide +kernel), List.mem_of_getElem? (i := 1011) (by decide +kernel), List.mem_of_getElem? (i := 1012) (by decide +kernel)⟩
theorem lw_p29 : lw_okq (⟨"HoleMovedModel", "askedRow", "(I)I"⟩, 34) := ⟨⟨by decide +kernel, by decide +kernel⟩, List.mem_of_getElem? (i := 887) (by decide +kernel), List.mem_of_getElem? (i := 1019) (by decide +kernel), List.mem_of_getElem? (i := 1020) (by decide +kernel)⟩
theorem lw_p30 : lw_okq (⟨"HoleMovedModel", "rowAt", "(II)I"⟩, 34) := ⟨⟨by decide +kernel, by decide +kernel⟩, List.mem_of_getElem? (i := 887) (by decide +kernel), List.mem_of_getElem? (i := 1023) (by decide +kernel), List.mem_of_getElem? (i := 1024) (by decide +kernel)⟩
theorem lw_p31 : lw_okq (⟨"HoleMovedModel", "ask", "(II)I"⟩, 34) := ⟨⟨by decide +kernel, by decide +kernel⟩, List.mem_of_getElem? (i := 887) (by decide +kernel), List.mem_of_getElem? (i := 1027) (by decide +kernel), List.mem_of_getElem? (i := 1028) (by decide +kernel)⟩
def lw_privs_2 : List (MethodName × Nat) := [(⟨"HoleMoved$Law", "alikePairs", "(LHoleMoved$Ground;I)I"⟩, 2), (⟨"HoleMoved$Law", "areAlike", "(III)Z"⟩, 2), (⟨"HoleMoved", "rainedOn", "(II)I"⟩, 17), (⟨"HoleMoved", "imageOf", "(I)LHoleMoved$Ground;"⟩, 17), (⟨"HoleMoved$Thief", "succeeds", "(III)Z"⟩, 7), (⟨"HoleMoved$Thief", "isStolen", "()Z"⟩, 7), (⟨"HoleMoved", "tellFraction", "(JJ)I"⟩, 17), (⟨"HoleMoved", "waysFrom", "(LHoleMoved$Strip;I)I"⟩, 17), (⟨"HoleMoved", "counted", "(I)I"⟩, 17), (⟨"HoleMoved", "rimLaws", "()I"⟩, 17), (⟨"HoleMoved", "imagesThere", "()I"⟩, 17), (⟨"HoleMovedModel", "meet", "(I)I"⟩, 34), (⟨"HoleMovedModel", "setRow", "(III)V"⟩, 34), (⟨"HoleMovedModel", "askedRow", "(I)I"⟩, 34), (⟨"HoleMovedModel", "rowAt", "(II)I"⟩, 34), (⟨"HoleMovedModel", "ask", "(II)I"⟩, 34)]
theorem lw_r2 : ∀ q ∈ lw_privs_2, lw_okq q := List.forall_mem_cons.mpr ⟨lw_p16, List.forall_mem_cons.mpr ⟨lw_p17, List.forall_mem_cons.mpr ⟨lw_p18, List.forall_mem_cons.mpr ⟨lw_p19, List.forall_mem_cons.mpr ⟨lw_p20, List.forall_mem_cons.mpr ⟨lw_p21, List.forall_mem_cons.mpr ⟨lw_p22, List.forall_mem_cons.mpr ⟨lw_p23, List.forall_mem_cons.mpr ⟨lw_p24, List.forall_mem_cons.mpr ⟨lw_p25, List.forall_mem_cons.mpr ⟨lw_p26, List.forall_mem_cons.mpr ⟨lw_p27, List.forall_mem_cons.mpr ⟨lw_p28, List.forall_mem_cons.mpr ⟨lw_p29, List.forall_mem_cons.mpr ⟨lw_p30, List.forall_mem_cons.mpr ⟨lw_p31, fun _ h => absurd h List.not_mem_nil⟩⟩⟩⟩⟩⟩⟩⟩⟩⟩⟩⟩⟩⟩⟩⟩
theorem lw_p32 : lw_okq (⟨"HoleMovedModel", "askedText", "(I)I"⟩, 34) := ⟨⟨by decide +kernel, by decide +kernel⟩, List.mem_of_getElem? (i := 887) (by decide +kernel), List.mem_of_getElem? (i := 1059) (by decide +kernel), List.mem_of_getElem? (i := 1060) (by decide +kernel)⟩
theorem lw_p33 : lw_okq (⟨"HoleMovedModel", "goesOn", "(I)I"⟩, 34) := ⟨⟨by decide +kernel, by decide +kernel⟩, List.mem_of_getElem? (i := 887) (by decide +kernel), List.mem_of_getElem? (i := 1067) (by decide +kernel), List.mem_of_getElem? (i := 1068) (by decide +kernel)⟩
theorem lw_p34 : lw_okq (⟨"HoleMovedModel", "readsGround", "(I)Z"⟩, 34) := ⟨⟨by decide +kernel, by decide +kernel⟩, List.mem_of_getElem? (i := 887) (by decide +kernel), List.mem_of_getElem? (i := 1071) (by decide +kernel), List.mem_of_getElem? (i := 1072) (by decide +kernel)⟩
theorem lw_p35 : lw_okq (⟨"HoleMovedModel", "skip", "(I)V"⟩, 34) := ⟨⟨by decide +kernel, by decide +kernel⟩, List.mem_of_getElem? (i := 887) (by decide +kernel), List.mem_of_getElem? (i := 1075) (by decide +kernel), List.mem_of_getElem? (i := 1076) (by decide +kernel)⟩
theorem lw_p36 : lw_okq (⟨"HoleMovedModel", "here", "(I)I"⟩, 34) := ⟨⟨by decide +kernel, by decide +kernel⟩, List.mem_of_getElem? (i := 887) (by decide +kernel), List.mem_of_getElem? (i := 1079) (by decide +kernel), List.mem_of_getElem? (i := 1080) (by decide +kernel)⟩
theorem lw_p37 : lw_okq (⟨"HoleMovedModel", "readsFirst", "(I)Z"⟩, 34) := ⟨⟨by decide +kernel, by decide +kernel⟩, List.mem_of_getElem? (i := 887) (by decide +kernel), List.mem_of_getElem? (i := 1083) (by decide +kernel), List.mem_of_getElem? (i := 1084) (by decide +kernel)⟩
theorem lw_p38 : lw_okq (⟨"HoleMovedModel", "figure", "(III)Z"⟩, 34) := ⟨⟨by decide +kernel, by decide +kernel⟩, List.mem_of_getElem? (i := 887) (by decide +kernel), List.mem_of_getElem? (i := 1087) (by decide +kernel), List.mem_of_getElem? (i := 1088) (by decide +kernel)⟩
theorem lw_p39 : lw_okq (⟨"HoleMovedModel", "sign", "(II)Z"⟩, 34) := ⟨⟨by decide +kernel, by decide +kernel⟩, List.mem_of_getElem? (i := 887) (by decide +kernel), List.mem_of_getElem? (i := 1091) (by decide +kernel), List.mem_of_getElem? (i := 1092) (by decide +kernel)⟩
theorem lw_p40 : lw_okq (⟨"HoleMovedModel", "readsLine", "(I)Z"⟩, 34) := ⟨⟨by decide +kernel, by decide +kernel⟩, List.mem_of_getElem? (i := 887) (by decide +kernel), List.mem_of_getElem? (i := 1095) (by decide +kernel), List.mem_of_getElem? (i := 1096) (by decide +kernel)⟩
theorem lw_p41 : lw_okq (⟨"HoleMovedModel", "isCell", "(I)Z"⟩, 34) := ⟨⟨by decide +kernel, by decide +kernel⟩, List.mem_of_getElem? (i := 887) (by decide +kernel), List.mem_of_getElem? (i := 1110) (by decide +kernel), List.mem_of_getElem? (i := 1111) (by decide +kernel)⟩
theorem lw_p42 : lw_okq (⟨"HoleMovedModel", "cellOf", "(II)I"⟩, 34) := ⟨⟨by decide +kernel, by decide +kernel⟩, List.mem_of_getElem? (i := 887) (by decide +kernel), List.mem_of_getElem? (i := 1114) (by decide +kernel), List.mem_of_getElem? (i := 1115) (by decide +kernel)⟩
theorem lw_p43 : lw_okq (⟨"HoleMovedModel", "layHoles", "()V"⟩, 34) := ⟨⟨by decide +kernel, by decide +kernel⟩, List.mem_of_getElem? (i := 887) (by decide +kernel), List.mem_of_getElem? (i := 1118) (by decide +kernel), List.mem_of_getElem? (i := 1119) (by decide +kernel)⟩
theorem lw_p44 : lw_okq (⟨"HoleMovedModel", "findHoles", "(I[I)I"⟩, 34) := ⟨⟨by decide +kernel, by decide +kernel⟩, List.mem_of_getElem? (i := 887) (by decide +kernel), List.mem_of_getElem? (i := 1125) (by decide +kernel), List.mem_of_getElem? (i := 1126) (by decide +kernel)⟩
theorem lw_p45 : lw_okq (⟨"HoleMovedModel", "grown", "(II)I"⟩, 34) := ⟨⟨by decide +kernel, by decide +kernel⟩, List.mem_of_getElem? (i := 887) (by decide +kernel), List.mem_of_getElem? (i := 1132) (by decide +kernel), List.mem_of_getElem? (i := 1133) (by decide +kernel)⟩
theorem lw_p46 : lw_okq (⟨"HoleMovedModel", "besides", "(I)I"⟩, 34) := ⟨⟨by decide +kernel, by decide +kernel⟩, List.mem_of_getElem? (i := 887) (by decide +kernel), List.mem_of_getElem? (i := 1136) (by decide +kernel), List.mem_of_getElem? (i := 1137) (by decide +kernel)⟩
theorem lw_p47 : lw_okq (⟨"HoleMovedModel", "isLaw", "(I)Z"⟩, 34) := ⟨⟨by decide +kernel, by decide +kernel⟩, List.mem_of_getElem? (i := 887) (by decide +kernel), List.mem_of_getElem? (i := 1144) (by decide +kernel), List.mem_of_getElem? (i := 1145) (by decide +kernel)⟩
def lw_privs_3 : List (MethodName × Nat) := [(⟨"HoleMovedModel", "askedText", "(I)I"⟩, 34), (⟨"HoleMovedModel", "goesOn", "(I)I"⟩, 34), (⟨"HoleMovedModel", "readsGround", "(I)Z"⟩, 34), (⟨"HoleMovedModel", "skip", "(I)V"⟩, 34), (⟨"HoleMovedModel", "here", "(I)I"⟩, 34), (⟨"HoleMovedModel", "readsFirst", "(I)Z"⟩, 34), (⟨"HoleMovedModel", "figure", "(III)Z"⟩, 34), (⟨"HoleMovedModel", "sign", "(II)Z"⟩, 34), (⟨"HoleMovedModel", "readsLine", "(I)Z"⟩, 34), (⟨"HoleMovedModel", "isCell", "(I)Z"⟩, 34), (⟨"HoleMovedModel", "cellOf", "(II)I"⟩, 34), (⟨"HoleMovedModel", "layHoles", "()V"⟩, 34), (⟨"HoleMovedModel", "findHoles", "(I[I)I"⟩, 34), (⟨"HoleMovedModel", "grown", "(II)I"⟩, 34), (⟨"HoleMovedModel", "besides", "(I)I"⟩, 34), (⟨"HoleMovedModel", "isLaw", "(I)Z"⟩, 34)]
theorem lw_r3 : ∀ q ∈ lw_privs_3, lw_okq q := List.forall_mem_cons.mpr ⟨lw_p32, List.forall_mem_cons.mpr ⟨lw_p33, List.forall_mem_cons.mpr ⟨lw_p34, List.forall_mem_cons.mpr ⟨lw_p35, List.forall_mem_cons.mpr ⟨lw_p36, List.forall_mem_cons.mpr ⟨lw_p37, List.forall_mem_cons.mpr ⟨lw_p38, List.forall_mem_cons.mpr ⟨lw_p39, List.forall_mem_cons.mpr ⟨lw_p40, List.forall_mem_cons.mpr ⟨lw_p41, List.forall_mem_cons.mpr ⟨lw_p42, List.forall_mem_cons.mpr ⟨lw_p43, List.forall_mem_cons.mpr ⟨lw_p44, List.forall_mem_cons.mpr ⟨lw_p45, List.forall_mem_cons.mpr ⟨lw_p46, List.forall_mem_cons.mpr ⟨lw_p47, fun _ h => absurd h List.not_mem_nil⟩⟩⟩⟩⟩⟩⟩⟩⟩⟩⟩⟩⟩⟩⟩⟩
theorem lw_p48 : lw_okq (⟨"HoleMovedModel", "isA", "(II)Z"⟩, 34) := ⟨⟨by decide +kernel, by decide +kernel⟩, List.mem_of_getElem? (i := 887) (by decide +kernel), List.mem_of_getElem? (i := 1152) (by decide +kernel), List.mem_of_getElem? (i := 1153) (by decide +kernel)⟩
theorem lw_p49 : lw_okq (⟨"HoleMovedModel", "marked", "(II)I"⟩, 34) := ⟨⟨by decide +kernel, by decide +kernel⟩, List.mem_of_getElem? (i := 887) (by decide +kernel), List.mem_of_getElem? (i := 1156) (by decide +kernel), List.mem_of_getElem? (i := 1157) (by decide +kernel)⟩
theorem lw_p50 : lw_okq (⟨"HoleMovedModel", "volume", "([III)I"⟩, 34) := ⟨⟨by decide +kernel, by decide +kernel⟩, List.mem_of_getElem? (i := 887) (by decide +kernel), List.mem_of_getElem? (i := 1166) (by decide +kernel), List.mem_of_getElem? (i := 1167) (by decide +kernel)⟩
theorem lw_p51 : lw_okq (⟨"HoleMovedModel", "bottom", "([III)I"⟩, 34) := ⟨⟨by decide +kernel, by decide +kernel⟩, List.mem_of_getElem? (i := 887) (by decide +kernel), List.mem_of_getElem? (i := 1170) (by decide +kernel), List.mem_of_getElem? (i := 1171) (by decide +kernel)⟩
theorem lw_p52 : lw_okq (⟨"HoleMovedModel", "pairsBy", "(I)I"⟩, 34) := ⟨⟨by decide +kernel, by decide +kernel⟩, List.mem_of_getElem? (i := 887) (by decide +kernel), List.mem_of_getElem? (i := 1174) (by decide +kernel), List.mem_of_getElem? (i := 1175) (by decide +kernel)⟩
theorem lw_p53 : lw_okq (⟨"HoleMovedModel", "areSame", "(I[IIII)Z"⟩, 34) := ⟨⟨by decide +kernel, by decide +kernel⟩, List.mem_of_getElem? (i := 887) (by decide +kernel), List.mem_of_getElem? (i := 1178) (by decide +kernel), List.mem_of_getElem? (i := 1179) (by decide +kernel)⟩
theorem lw_p54 : lw_okq (⟨"HoleMovedModel", "shape", "(I)I"⟩, 34) := ⟨⟨by decide +kernel, by decide +kernel⟩, List.mem_of_getElem? (i := 887) (by decide +kernel), List.mem_of_getElem? (i := 1182) (by decide +kernel), List.mem_of_getElem? (i := 1183) (by decide +kernel)⟩
theorem lw_p55 : lw_okq (⟨"HoleMovedModel", "pushed", "(I)I"⟩, 34) := ⟨⟨by decide +kernel, by decide +kernel⟩, List.mem_of_getElem? (i := 887) (by decide +kernel), List.mem_of_getElem? (i := 1186) (by decide +kernel), List.mem_of_getElem? (i := 1187) (by decide +kernel)⟩
theorem lw_p56 : lw_okq (⟨"HoleMovedModel", "areTurned", "(II)Z"⟩, 34) := ⟨⟨by decide +kernel, by decide +kernel⟩, List.mem_of_getElem? (i := 887) (by decide +kernel), List.mem_of_getElem? (i := 1190) (by decide +kernel), List.mem_of_getElem? (i := 1191) (by decide +kernel)⟩
theorem lw_p57 : lw_okq (⟨"HoleMovedModel", "quarter", "(I)I"⟩, 34) := ⟨⟨by decide +kernel, by decide +kernel⟩, List.mem_of_getElem? (i := 887) (by decide +kernel), List.mem_of_getElem? (i := 1194) (by decide +kernel), List.mem_of_getElem? (i := 1195) (by decide +kernel)⟩
theorem lw_p58 : lw_okq (⟨"HoleMovedModel", "isHole", "(I)Z"⟩, 34) := ⟨⟨by decide +kernel, by decide +kernel⟩, List.mem_of_getElem? (i := 887) (by decide +kernel), List.mem_of_getElem? (i := 1202) (by decide +kernel), List.mem_of_getElem? (i := 1203) (by decide +kernel)⟩
theorem lw_p59 : lw_okq (⟨"HoleMovedModel", "holeOf", "([IIII)I"⟩, 34) := ⟨⟨by decide +kernel, by decide +kernel⟩, List.mem_of_getElem? (i := 887) (by decide +kernel), List.mem_of_getElem? (i := 1206) (by decide +kernel), List.mem_of_getElem? (i := 1207) (by decide +kernel)⟩
theorem lw_p60 : lw_okq (⟨"HoleMovedModel", "whose", "(I)I"⟩, 34) := ⟨⟨by decide +kernel, by decide +kernel⟩, List.mem_of_getElem? (i := 887) (by decide +kernel), List.mem_of_getElem? (i := 1210) (by decide +kernel), List.mem_of_getElem? (i := 1211) (by decide +kernel)⟩
theorem lw_p61 : lw_okq (⟨"HoleMovedModel", "cellsOf", "(II)I"⟩, 34) := ⟨⟨by decide +kernel, by decide +kernel⟩, List.mem_of_getElem? (i := 887) (by decide +kernel), List.mem_of_getElem? (i := 1214) (by decide +kernel), List.mem_of_getElem? (i := 1215) (by decide +kernel)⟩
theorem lw_p62 : lw_okq (⟨"HoleMovedModel", "note", "()V"⟩, 34) := ⟨⟨by decide +kernel, by decide +kernel⟩, List.mem_of_getElem? (i := 887) (by decide +kernel), List.mem_of_getElem? (i := 1222) (by decide +kernel), List.mem_of_getElem? (i := 1223) (by decide +kernel)⟩
theorem lw_p63 : lw_okq (⟨"HoleMovedModel", "write", "([II)V"⟩, 34) := ⟨⟨by decide +kernel, by decide +kernel⟩, List.mem_of_getElem? (i := 887) (by decide +kernel), List.mem_of_getElem? (i := 1226) (by decide +kernel), List.mem_of_getElem? (i := 1227) (by decide +kernel)⟩
def lw_privs_4 : List (MethodName × Nat) := [(⟨"HoleMovedModel", "isA", "(II)Z"⟩, 34), (⟨"HoleMovedModel", "marked", "(II)I"⟩, 34), (⟨"HoleMovedModel", "volume", "([III)I"⟩, 34), (⟨"HoleMovedModel", "bottom", "([III)I"⟩, 34), (⟨"HoleMovedModel", "pairsBy", "(I)I"⟩, 34), (⟨"HoleMovedModel", "areSame", "(I[IIII)Z"⟩, 34), (⟨"HoleMovedModel", "shape", "(I)I"⟩, 34), (⟨"HoleMovedModel", "pushed", "(I)I"⟩, 34), (⟨"HoleMovedModel", "areTurned", "(II)Z"⟩, 34), (⟨"HoleMovedModel", "quarter", "(I)I"⟩, 34), (⟨"HoleMovedModel", "isHole", "(I)Z"⟩, 34), (⟨"HoleMovedModel", "holeOf", "([IIII)I"⟩, 34), (⟨"HoleMovedModel", "whose", "(I)I"⟩, 34), (⟨"HoleMovedModel", "cellsOf", "(II)I"⟩, 34), (⟨"HoleMovedModel", "note", "()V"⟩, 34), (⟨"HoleMovedModel", "write", "([II)V"⟩, 34)]
theorem lw_r4 : ∀ q ∈ lw_privs_4, lw_okq q := List.forall_mem_cons.mpr ⟨lw_p48, List.forall_mem_cons.mpr ⟨lw_p49, List.forall_mem_cons.mpr ⟨lw_p50, List.forall_mem_cons.mpr ⟨lw_p51, List.forall_mem_cons.mpr ⟨lw_p52, List.forall_mem_cons.mpr ⟨lw_p53, List.forall_mem_cons.mpr ⟨lw_p54, List.forall_mem_cons.mpr ⟨lw_p55, List.forall_mem_cons.mpr ⟨lw_p56, List.forall_mem_cons.mpr ⟨lw_p57, List.forall_mem_cons.mpr ⟨lw_p58, List.forall_mem_cons.mpr ⟨lw_p59, List.forall_mem_cons.mpr ⟨lw_p60, List.forall_mem_cons.mpr ⟨lw_p61, List.forall_mem_cons.mpr ⟨lw_p62, List.forall_mem_cons.mpr ⟨lw_p63, fun _ h => absurd h List.not_mem_nil⟩⟩⟩⟩⟩⟩⟩⟩⟩⟩⟩⟩⟩⟩⟩⟩
theorem lw_p64 : lw_okq (⟨"HoleMovedModel", "holeCount", "()I"⟩, 34) := ⟨⟨by decide +kernel, by decide +kernel⟩, List.mem_of_getElem? (i := 887) (by decide +kernel), List.mem_of_getElem? (i := 1242) (by decide +kernel), List.mem_of_getElem? (i := 1243) (by decide +kernel)⟩
theorem lw_p65 : lw_okq (⟨"HoleMovedModel", "readBack", "([II)V"⟩, 34) := ⟨⟨by decide +kernel, by decide +kernel⟩, List.mem_of_getElem? (i := 887) (by decide +kernel), List.mem_of_getElem? (i := 1250) (by decide +kernel), List.mem_of_getElem? (i := 1251) (by decide +kernel)⟩
theorem lw_p66 : lw_okq (⟨"HoleMovedModel", "needImage", "(I)I"⟩, 34) := ⟨⟨by decide +kernel, by decide +kernel⟩, List.mem_of_getElem? (i := 887) (by decide +kernel), List.mem_of_getElem? (i := 1269) (by decide +kernel), List.mem_of_getElem? (i := 1270) (by decide +kernel)⟩
theorem lw_p67 : lw_okq (⟨"HoleMovedModel", "isSame", "(IIII)Z"⟩, 34) := ⟨⟨by decide +kernel, by decide +kernel⟩, List.mem_of_getElem? (i := 887) (by decide +kernel), List.mem_of_getElem? (i := 1277) (by decide +kernel), List.mem_of_getElem? (i := 1278) (by decide +kernel)⟩
theorem lw_p68 : lw_okq (⟨"HoleMovedModel", "sameSet", "(III)I"⟩, 34) := ⟨⟨by decide +kernel, by decide +kernel⟩, List.mem_of_getElem? (i := 887) (by decide +kernel), List.mem_of_getElem? (i := 1285) (by decide +kernel), List.mem_of_getElem? (i := 1286) (by decide +kernel)⟩
theorem lw_p69 : lw_okq (⟨"HoleMovedModel", "isFair", "(II)Z"⟩, 34) := ⟨⟨by decide +kernel, by decide +kernel⟩, List.mem_of_getElem? (i := 887) (by decide +kernel), List.mem_of_getElem? (i := 1297) (by decide +kernel), List.mem_of_getElem? (i := 1298) (by decide +kernel)⟩
theorem lw_p70 : lw_okq (⟨"HoleMovedModel", "stealOn", "(IIIIII)Z"⟩, 34) := ⟨⟨by decide +kernel, by decide +kernel⟩, List.mem_of_getElem? (i := 887) (by decide +kernel), List.mem_of_getElem? (i := 1329) (by decide +kernel), List.mem_of_getElem? (i := 1330) (by decide +kernel)⟩
theorem lw_p71 : lw_okq (⟨"HoleMovedModel", "isStolen", "(IIII)Z"⟩, 34) := ⟨⟨by decide +kernel, by decide +kernel⟩, List.mem_of_getElem? (i := 887) (by decide +kernel), List.mem_of_getElem? (i := 1333) (by decide +kernel), List.mem_of_getElem? (i := 1334) (by decide +kernel)⟩
theorem lw_p72 : lw_okq (⟨"HoleMovedModel", "part", "(JJ)I"⟩, 34) := ⟨⟨by decide +kernel, by decide +kernel⟩, List.mem_of_getElem? (i := 887) (by decide +kernel), List.mem_of_getElem? (i := 1342) (by decide +kernel), List.mem_of_getElem? (i := 1343) (by decide +kernel)⟩
theorem lw_p73 : lw_okq (⟨"HoleMovedModel", "heapOn", "(II)J"⟩, 34) := ⟨⟨by decide +kernel, by decide +kernel⟩, List.mem_of_getElem? (i := 887) (by decide +kernel), List.mem_of_getElem? (i := 1350) (by decide +kernel), List.mem_of_getElem? (i := 1351) (by decide +kernel)⟩
theorem lw_p74 : lw_okq (⟨"HoleMovedModel", "askedWitnesses", "(I)I"⟩, 34) := ⟨⟨by decide +kernel, by decide +kernel⟩, List.mem_of_getElem? (i := 887) (by decide +kernel), List.mem_of_getElem? (i := 1358) (by decide +kernel), List.mem_of_getElem? (i := 1359) (by decide +kernel)⟩
theorem lw_p75 : lw_okq (⟨"HoleMovedModel", "doesLie", "(III)Z"⟩, 34) := ⟨⟨by decide +kernel, by decide +kernel⟩, List.mem_of_getElem? (i := 887) (by decide +kernel), List.mem_of_getElem? (i := 1362) (by decide +kernel), List.mem_of_getElem? (i := 1363) (by decide +kernel)⟩
theorem lw_p76 : lw_okq (⟨"HoleMovedModel", "liesBy", "(I[II)I"⟩, 34) := ⟨⟨by decide +kernel, by decide +kernel⟩, List.mem_of_getElem? (i := 887) (by decide +kernel), List.mem_of_getElem? (i := 1366) (by decide +kernel), List.mem_of_getElem? (i := 1367) (by decide +kernel)⟩
theorem lw_p77 : lw_okq (⟨"HoleMovedModel", "depthsOf", "(II)J"⟩, 34) := ⟨⟨by decide +kernel, by decide +kernel⟩, List.mem_of_getElem? (i := 887) (by decide +kernel), List.mem_of_getElem? (i := 1378) (by decide +kernel), List.mem_of_getElem? (i := 1379) (by decide +kernel)⟩
theorem lw_p78 : lw_okq (⟨"HoleMovedModel", "tells", "(I)I"⟩, 34) := ⟨⟨by decide +kernel, by decide +kernel⟩, List.mem_of_getElem? (i := 887) (by decide +kernel), List.mem_of_getElem? (i := 1409) (by decide +kernel), List.mem_of_getElem? (i := 1410) (by decide +kernel)⟩
theorem lw_p79 : lw_okq (⟨"HoleMovedModel", "mix", "(I)V"⟩, 34) := ⟨⟨by decide +kernel, by decide +kernel⟩, List.mem_of_getElem? (i := 887) (by decide +kernel), List.mem_of_getElem? (i := 1426) (by decide +kernel), List.mem_of_getElem? (i := 1427) (by decide +kernel)⟩
def lw_privs_5 : List (MethodName × Nat) := [(⟨"HoleMovedModel", "holeCount", "()I"⟩, 34), (⟨"HoleMovedModel", "readBack", "([II)V"⟩, 34), (⟨"HoleMovedModel", "needImage", "(I)I"⟩, 34), (⟨"HoleMovedModel", "isSame", "(IIII)Z"⟩, 34), (⟨"HoleMovedModel", "sameSet", "(III)I"⟩, 34), (⟨"HoleMovedModel", "isFair", "(II)Z"⟩, 34), (⟨"HoleMovedModel", "stealOn", "(IIIIII)Z"⟩, 34), (⟨"HoleMovedModel", "isStolen", "(IIII)Z"⟩, 34), (⟨"HoleMovedModel", "part", "(JJ)I"⟩, 34), (⟨"HoleMovedModel", "heapOn", "(II)J"⟩, 34), (⟨"HoleMovedModel", "askedWitnesses", "(I)I"⟩, 34), (⟨"HoleMovedModel", "doesLie", "(III)Z"⟩, 34), (⟨"HoleMovedModel", "liesBy", "(I[II)I"⟩, 34), (⟨"HoleMovedModel", "depthsOf", "(II)J"⟩, 34), (⟨"HoleMovedModel", "tells", "(I)I"⟩, 34), (⟨"HoleMovedModel", "mix", "(I)V"⟩, 34)]
theorem lw_r5 : ∀ q ∈ lw_privs_5, lw_okq q := List.forall_mem_cons.mpr ⟨lw_p64, List.forall_mem_cons.mpr ⟨lw_p65, List.forall_mem_cons.mpr ⟨lw_p66, List.forall_mem_cons.mpr ⟨lw_p67, List.forall_mem_cons.mpr ⟨lw_p68, List.forall_mem_cons.mpr ⟨lw_p69, List.forall_mem_cons.mpr ⟨lw_p70, List.forall_mem_cons.mpr ⟨lw_p71, List.forall_mem_cons.mpr ⟨lw_p72, List.forall_mem_cons.mpr ⟨lw_p73, List.forall_mem_cons.mpr ⟨lw_p74, List.forall_mem_cons.mpr ⟨lw_p75, List.forall_mem_cons.mpr ⟨lw_p76, List.forall_mem_cons.mpr ⟨lw_p77, List.forall_mem_cons.mpr ⟨lw_p78, List.forall_mem_cons.mpr ⟨lw_p79, fun _ h => absurd h List.not_mem_nil⟩⟩⟩⟩⟩⟩⟩⟩⟩⟩⟩⟩⟩⟩⟩⟩
theorem lw_p80 : lw_okq (⟨"HoleMovedModel", "mixGround", "()V"⟩, 34) := ⟨⟨by decide +kernel, by decide +kernel⟩, List.mem_of_getElem? (i := 887) (by decide +kernel), List.mem_of_getElem? (i := 1431) (by decide +kernel), List.mem_of_getElem? (i := 1432) (by decide +kernel)⟩
def lw_privs_6 : List (MethodName × Nat) := [(⟨"HoleMovedModel", "mixGround", "()V"⟩, 34)]
theorem lw_r6 : ∀ q ∈ lw_privs_6, lw_okq q := List.forall_mem_cons.mpr ⟨lw_p80, fun _ h => absurd h List.not_mem_nil⟩
def lw_privs : List (MethodName × Nat) := lw_privs_1 ++ (lw_privs_2 ++ (lw_privs_3 ++ (lw_privs_4 ++ (lw_privs_5 ++ (lw_privs_6)))))
def lw_tbl : List Cond := k2_sels lw_privs ++ tables_1
theorem lw_privs_ok : ∀ q ∈ lw_privs, lw_okq q := by
  show ∀ q ∈ lw_privs_1 ++ (lw_privs_2 ++ (lw_privs_3 ++ (lw_privs_4 ++ (lw_privs_5 ++ (lw_privs_6))))), lw_okq q
  exact List.forall_mem_append.mpr ⟨lw_r1, List.forall_mem_append.mpr ⟨lw_r2, List.forall_mem_append.mpr ⟨lw_r3, List.forall_mem_append.mpr ⟨lw_r4, List.forall_mem_append.mpr ⟨lw_r5, lw_r6⟩⟩⟩⟩⟩
end
section
/-! ===== BEGIN words of one list among another's, by their places ===== -/
theorem goodIn_r {big : List Cond} (ws : List Cond) (ps : List Nat) (hp : ws = ps.filterMap (fun i => big[i]?)) (h : ws.all goodWord = true) : GoodIn big ws := by
  intro w hw
  have h1 := List.all_eq_true.mp h w hw
  rw [hp] at hw
  obtain ⟨i, -, hi⟩ := List.mem_filterMap.mp hw
  have hm : w ∈ big := by first | exact List.mem_of_getElem? hi | exact List.getElem?_mem hi
  exact ⟨hm, good_of_word h1⟩
theorem goodIn_app {big a b : List Cond} (ha : GoodIn big a) (hb : GoodIn big b) : GoodIn big (a ++ b) := fun w h => (List.mem_append.mp h).elim (ha w) (hb w)
theorem goodIn_ca {big a b : List Cond} {c : Cond} (ha : GoodIn big (c :: a)) (hb : GoodIn big b) : GoodIn big (c :: (a ++ b)) := fun w h => (List.mem_cons.mp h).elim (fun e => ha w (List.mem_cons.mpr (Or.inl e))) (fun h => (List.mem_append.mp h).elim (fun h => ha w (List.mem_cons.mpr (Or.inr h))) (hb w))
theorem goodIn_sub {big ws : List Cond} (hm : ∀ w ∈ ws, w ∈ big) (h : ws.all goodWord = true) : GoodIn big ws := fun w hw => ⟨hm w hw, good_of_word (List.all_eq_true.mp h w hw)⟩
/-! ===== END ===== -/

/-! ===== BEGIN printed: names, fields, word lists, decode rows ===== -/
def RX0 : String := "HoleMoved$Deeds"
def TX0 : u_T := fun k => match k with
  | 0 => ("HoleMoved$Deeds", "cells", "[I", true)
  | 1 => ("HoleMoved$Deeds", "depths", "[I", true)
  | 2 => ("HoleMoved$Deeds", "earths", "[I", true)
  | _ => ("HoleMoved$Deeds", "size", "I", false)
def tyX0 : Nat → FieldType := fun k => match k with
  | 0 => .array .int
  | 1 => .array .int
  | 2 => .array .int
  | _ => .int
abbrev wsX00 : List Cond := u_ws RX0 TX0 4
theorem nmX0 : ∀ a, a < 4 → ∀ b, b < 4 → a ≠ b → (TX0 a).2.1 ≠ (TX0 b).2.1 := by decide +kernel
theorem tyX0_ok : ∀ k, k < 4 → parseFieldDescriptor (TX0 k).2.2.1 = some (tyX0 k) := by decide +kernel
abbrev cX0_init : ByteArray := prog_2_method_1_code
def yX0_init : MethodName := ⟨RX0, "<init>", "()V"⟩
abbrev cX0_size : ByteArray := prog_2_method_2_code
def yX0_size : MethodName := ⟨RX0, "size", "()I"⟩
abbrev cX0_areFull : ByteArray := prog_2_method_3_code
def yX0_areFull : MethodName := ⟨RX0, "areFull", "()Z"⟩
abbrev cX0_forget : ByteArray := prog_2_method_4_code
def yX0_forget : MethodName := ⟨RX0, "forget", "()V"⟩
abbrev cX0_perform : ByteArray := prog_2_method_5_code
def yX0_perform : MethodName := ⟨RX0, "perform", "(LHoleMoved$Ground;III)V"⟩
abbrev cX0_takeBack : ByteArray := prog_2_method_6_code
def yX0_takeBack : MethodName := ⟨RX0, "takeBack", "(LHoleMoved$Ground;I)I"⟩
abbrev cX0_change : ByteArray := prog_2_method_7_code
def yX0_change : MethodName := ⟨RX0, "change", "(LHoleMoved$Ground;III)V"⟩
def RX1 : String := "HoleMoved$Ground"
def TX1 : u_T := fun k => match k with
  | 0 => ("HoleMoved$Ground", "land", "LHoleMoved$Land;", true)
  | 1 => ("HoleMoved$Ground", "depths", "[I", true)
  | 2 => ("HoleMoved$Ground", "holes", "[I", true)
  | 3 => ("HoleMoved$Ground", "holeCount", "I", false)
  | 4 => ("HoleMoved$Ground", "dug", "I", false)
  | 5 => ("HoleMoved$Ground", "surveyed", "I", false)
  | 6 => ("HoleMoved$Ground", "earth", "I", false)
  | _ => ("HoleMoved$Ground", "there", "Z", false)
def tyX1 : Nat → FieldType := fun k => match k with
  | 0 => .object "HoleMoved$Land"
  | 1 => .array .int
  | 2 => .array .int
  | 3 => .int
  | 4 => .int
  | 5 => .int
  | 6 => .int
  | _ => .boolean
abbrev wsX10 : List Cond := u_ws RX1 TX1 8
theorem nmX1 : ∀ a, a < 8 → ∀ b, b < 8 → a ≠ b → (TX1 a).2.1 ≠ (TX1 b).2.1 := by decide +kernel
theorem tyX1_ok : ∀ k, k < 8 → parseFieldDescriptor (TX1 k).2.2.1 = some (tyX1 k) := by decide +kernel
abbrev cX1_init : ByteArray := prog_3_method_1_code
def yX1_init : MethodName := ⟨RX1, "<init>", "(LHoleMoved$Land;)V"⟩
abbrev cX1_begin : ByteArray := prog_3_method_2_code
def yX1_begin : MethodName := ⟨RX1, "begin", "(LHoleMoved$Reader;)V"⟩
abbrev cX1_become : ByteArray := prog_3_method_3_code
def yX1_become : MethodName := ⟨RX1, "become", "(LHoleMoved$Ground;)V"⟩
abbrev cX1_go : ByteArray := prog_3_method_4_code
def yX1_go : MethodName := ⟨RX1, "go", "()V"⟩
abbrev cX1_has : ByteArray := prog_3_method_5_code
def yX1_has : MethodName := ⟨RX1, "has", "(I)Z"⟩
abbrev cX1_bitsOf : ByteArray := prog_3_method_6_code
def yX1_bitsOf : MethodName := ⟨RX1, "bitsOf", "(I)I"⟩
abbrev cX1_depthAt : ByteArray := prog_3_method_7_code
def yX1_depthAt : MethodName := ⟨RX1, "depthAt", "(I)I"⟩
abbrev cX1_bears : ByteArray := prog_3_method_8_code
def yX1_bears : MethodName := ⟨RX1, "bears", "(II)Z"⟩
abbrev cX1_deepen : ByteArray := prog_3_method_9_code
def yX1_deepen : MethodName := ⟨RX1, "deepen", "(II)V"⟩
abbrev cX1_survey : ByteArray := prog_3_method_10_code
def yX1_survey : MethodName := ⟨RX1, "survey", "()V"⟩
abbrev cX1_holeAt : ByteArray := prog_3_method_11_code
def yX1_holeAt : MethodName := ⟨RX1, "holeAt", "(I)I"⟩
abbrev cX1_volumeOf : ByteArray := prog_3_method_12_code
def yX1_volumeOf : MethodName := ⟨RX1, "volumeOf", "(I)I"⟩
abbrev cX1_bottomOf : ByteArray := prog_3_method_13_code
def yX1_bottomOf : MethodName := ⟨RX1, "bottomOf", "(I)I"⟩
abbrev cX1_largestHole : ByteArray := prog_3_method_14_code
def yX1_largestHole : MethodName := ⟨RX1, "largestHole", "()I"⟩
abbrev cX1_holeTold : ByteArray := prog_3_method_15_code
def yX1_holeTold : MethodName := ⟨RX1, "holeTold", "(II)I"⟩
abbrev cX1_digestOnto : ByteArray := prog_3_method_16_code
def yX1_digestOnto : MethodName := ⟨RX1, "digestOnto", "(J)J"⟩
def RX2 : String := "HoleMoved$Land"
def TX2 : u_T := fun k => match k with
  | 0 => ("HoleMoved$Land", "cells", "I", false)
  | 1 => ("HoleMoved$Land", "columns", "I", false)
  | 2 => ("HoleMoved$Land", "firstColumn", "I", false)
  | 3 => ("HoleMoved$Land", "lastColumn", "I", false)
  | _ => ("HoleMoved$Land", "gardens", "[I", true)
def tyX2 : Nat → FieldType := fun k => match k with
  | 0 => .int
  | 1 => .int
  | 2 => .int
  | 3 => .int
  | _ => .array .int
abbrev wsX20 : List Cond := u_ws RX2 TX2 5
theorem nmX2 : ∀ a, a < 5 → ∀ b, b < 5 → a ≠ b → (TX2 a).2.1 ≠ (TX2 b).2.1 := by decide +kernel
theorem tyX2_ok : ∀ k, k < 5 → parseFieldDescriptor (TX2 k).2.2.1 = some (tyX2 k) := by decide +kernel
abbrev cX2_init : ByteArray := prog_4_method_1_code
def yX2_init : MethodName := ⟨RX2, "<init>", "()V"⟩
abbrev cX2_layOut : ByteArray := prog_4_method_2_code
def yX2_layOut : MethodName := ⟨RX2, "layOut", "(LHoleMoved$Reader;)V"⟩
abbrev cX2_columnBits : ByteArray := prog_4_method_3_code
def yX2_columnBits : MethodName := ⟨RX2, "columnBits", "(I)I"⟩
abbrev cX2_has : ByteArray := prog_4_method_4_code
def yX2_has : MethodName := ⟨RX2, "has", "(I)Z"⟩
abbrev cX2_gardenOf : ByteArray := prog_4_method_5_code
def yX2_gardenOf : MethodName := ⟨RX2, "gardenOf", "(I)I"⟩
abbrev cX2_gardenerAt : ByteArray := prog_4_method_6_code
def yX2_gardenerAt : MethodName := ⟨RX2, "gardenerAt", "(I)I"⟩
abbrev cX2_ownerOf : ByteArray := prog_4_method_7_code
def yX2_ownerOf : MethodName := ⟨RX2, "ownerOf", "(I)I"⟩
abbrev cX2_spread : ByteArray := prog_4_method_8_code
def yX2_spread : MethodName := ⟨RX2, "spread", "(I)I"⟩
abbrev cX2_hangingWith : ByteArray := prog_4_method_9_code
def yX2_hangingWith : MethodName := ⟨RX2, "hangingWith", "(II)I"⟩
abbrev cX2_isParted : ByteArray := prog_4_method_10_code
def yX2_isParted : MethodName := ⟨RX2, "isParted", "(I)Z"⟩
abbrev cX2_canPush : ByteArray := prog_4_method_11_code
def yX2_canPush : MethodName := ⟨RX2, "canPush", "(III)Z"⟩
abbrev cX2_onBoard : ByteArray := prog_4_method_12_code
def yX2_onBoard : MethodName := ⟨RX2, "onBoard", "(I)I"⟩
abbrev cX2_cornered : ByteArray := prog_4_method_13_code
def yX2_cornered : MethodName := ⟨RX2, "cornered", "(I)I"⟩
abbrev cX2_turned : ByteArray := prog_4_method_14_code
def yX2_turned : MethodName := ⟨RX2, "turned", "(I)I"⟩
def RX3 : String := "HoleMoved$Law"
def TX3 : u_T := fun k => match k with
  | 0 => ("HoleMoved$Law", "kind", "I", true)
  | _ => ("HoleMoved$Law", "land", "LHoleMoved$Land;", true)
def tyX3 : Nat → FieldType := fun k => match k with
  | 0 => .int
  | _ => .object "HoleMoved$Land"
abbrev wsX30 : List Cond := u_ws RX3 TX3 2
theorem nmX3 : ∀ a, a < 2 → ∀ b, b < 2 → a ≠ b → (TX3 a).2.1 ≠ (TX3 b).2.1 := by decide +kernel
theorem tyX3_ok : ∀ k, k < 2 → parseFieldDescriptor (TX3 k).2.2.1 = some (tyX3 k) := by decide +kernel
abbrev cX3_init : ByteArray := prog_5_method_1_code
def yX3_init : MethodName := ⟨RX3, "<init>", "(ILHoleMoved$Land;)V"⟩
abbrev cX3_is : ByteArray := prog_5_method_2_code
def yX3_is : MethodName := ⟨RX3, "is", "(I)Z"⟩
abbrev cX3_matches : ByteArray := prog_5_method_3_code
def yX3_matches : MethodName := ⟨RX3, "matches", "(LHoleMoved$Ground;ILHoleMoved$Ground;I)Z"⟩
abbrev cX3_areAlike : ByteArray := prog_5_method_4_code
def yX3_areAlike : MethodName := ⟨RX3, "areAlike", "(III)Z"⟩
abbrev cX3_allMatching : ByteArray := prog_5_method_5_code
def yX3_allMatching : MethodName := ⟨RX3, "allMatching", "(LHoleMoved$Ground;ILHoleMoved$Ground;)I"⟩
abbrev cX3_isFair : ByteArray := prog_5_method_6_code
def yX3_isFair : MethodName := ⟨RX3, "isFair", "(LHoleMoved$Ground;LHoleMoved$Ground;)Z"⟩
abbrev cX3_tells : ByteArray := prog_5_method_7_code
def yX3_tells : MethodName := ⟨RX3, "tells", "(ILHoleMoved$Ground;)I"⟩
abbrev cX3_alikePairs : ByteArray := prog_5_method_8_code
def yX3_alikePairs : MethodName := ⟨RX3, "alikePairs", "(LHoleMoved$Ground;I)I"⟩
def RX4 : String := "HoleMoved$Reader"
def TX4 : u_T := fun k => match k with
  | 0 => ("HoleMoved$Reader", "depths", "[I", true)
  | 1 => ("HoleMoved$Reader", "gardeners", "[I", true)
  | 2 => ("HoleMoved$Reader", "kinds", "[I", true)
  | 3 => ("HoleMoved$Reader", "place", "I", false)
  | 4 => ("HoleMoved$Reader", "lines", "I", false)
  | 5 => ("HoleMoved$Reader", "columns", "I", false)
  | _ => ("HoleMoved$Reader", "laws", "I", false)
def tyX4 : Nat → FieldType := fun k => match k with
  | 0 => .array .int
  | 1 => .array .int
  | 2 => .array .int
  | 3 => .int
  | 4 => .int
  | 5 => .int
  | _ => .int
abbrev wsX40 : List Cond := u_ws RX4 TX4 7
theorem nmX4 : ∀ a, a < 7 → ∀ b, b < 7 → a ≠ b → (TX4 a).2.1 ≠ (TX4 b).2.1 := by decide +kernel
theorem tyX4_ok : ∀ k, k < 7 → parseFieldDescriptor (TX4 k).2.2.1 = some (tyX4 k) := by decide +kernel
abbrev cX4_init : ByteArray := prog_6_method_1_code
def yX4_init : MethodName := ⟨RX4, "<init>", "()V"⟩
abbrev cX4_faultOf : ByteArray := prog_6_method_2_code
def yX4_faultOf : MethodName := ⟨RX4, "faultOf", "(LHoleMoved$Strip;)I"⟩
abbrev cX4_depthAt : ByteArray := prog_6_method_3_code
def yX4_depthAt : MethodName := ⟨RX4, "depthAt", "(I)I"⟩
abbrev cX4_gardenerAt : ByteArray := prog_6_method_4_code
def yX4_gardenerAt : MethodName := ⟨RX4, "gardenerAt", "(I)I"⟩
abbrev cX4_kindAt : ByteArray := prog_6_method_5_code
def yX4_kindAt : MethodName := ⟨RX4, "kindAt", "(I)I"⟩
abbrev cX4_sign : ByteArray := prog_6_method_6_code
def yX4_sign : MethodName := ⟨RX4, "sign", "(LHoleMoved$Strip;)I"⟩
abbrev cX4_figure : ByteArray := prog_6_method_7_code
def yX4_figure : MethodName := ⟨RX4, "figure", "(LHoleMoved$Strip;I)I"⟩
abbrev cX4_skipBlanks : ByteArray := prog_6_method_8_code
def yX4_skipBlanks : MethodName := ⟨RX4, "skipBlanks", "(LHoleMoved$Strip;)V"⟩
abbrev cX4_readLines : ByteArray := prog_6_method_9_code
def yX4_readLines : MethodName := ⟨RX4, "readLines", "(LHoleMoved$Strip;)Z"⟩
abbrev cX4_readLine : ByteArray := prog_6_method_10_code
def yX4_readLine : MethodName := ⟨RX4, "readLine", "(LHoleMoved$Strip;I)Z"⟩
abbrev cX4_readGardens : ByteArray := prog_6_method_11_code
def yX4_readGardens : MethodName := ⟨RX4, "readGardens", "(LHoleMoved$Strip;)Z"⟩
abbrev cX4_readLaws : ByteArray := prog_6_method_12_code
def yX4_readLaws : MethodName := ⟨RX4, "readLaws", "(LHoleMoved$Strip;)V"⟩
abbrev cX4_kindBy : ByteArray := prog_6_method_13_code
def yX4_kindBy : MethodName := ⟨RX4, "kindBy", "(I)I"⟩
def RX5 : String := "HoleMoved$Strip"
def TX5 : u_T := fun k => match k with
  | 0 => ("HoleMoved$Strip", "places", "[I", true)
  | _ => ("HoleMoved$Strip", "size", "I", false)
def tyX5 : Nat → FieldType := fun k => match k with
  | 0 => .array .int
  | _ => .int
abbrev wsX50 : List Cond := u_ws RX5 TX5 2
theorem nmX5 : ∀ a, a < 2 → ∀ b, b < 2 → a ≠ b → (TX5 a).2.1 ≠ (TX5 b).2.1 := by decide +kernel
theorem tyX5_ok : ∀ k, k < 2 → parseFieldDescriptor (TX5 k).2.2.1 = some (tyX5 k) := by decide +kernel
abbrev cX5_init : ByteArray := prog_7_method_1_code
def yX5_init : MethodName := ⟨RX5, "<init>", "(I)V"⟩
abbrev cX5_most : ByteArray := prog_7_method_2_code
def yX5_most : MethodName := ⟨RX5, "most", "()I"⟩
abbrev cX5_size : ByteArray := prog_7_method_3_code
def yX5_size : MethodName := ⟨RX5, "size", "()I"⟩
abbrev cX5_isMissing : ByteArray := prog_7_method_4_code
def yX5_isMissing : MethodName := ⟨RX5, "isMissing", "()Z"⟩
abbrev cX5_has : ByteArray := prog_7_method_5_code
def yX5_has : MethodName := ⟨RX5, "has", "(I)Z"⟩
abbrev cX5_spans : ByteArray := prog_7_method_6_code
def yX5_spans : MethodName := ⟨RX5, "spans", "(II)Z"⟩
abbrev cX5_get : ByteArray := prog_7_method_7_code
def yX5_get : MethodName := ⟨RX5, "get", "(I)I"⟩
abbrev cX5_set : ByteArray := prog_7_method_8_code
def yX5_set : MethodName := ⟨RX5, "set", "(II)V"⟩
abbrev cX5_renew : ByteArray := prog_7_method_9_code
def yX5_renew : MethodName := ⟨RX5, "renew", "(II)V"⟩
abbrev cX5_remove : ByteArray := prog_7_method_10_code
def yX5_remove : MethodName := ⟨RX5, "remove", "()V"⟩
abbrev cX5_take : ByteArray := prog_7_method_11_code
def yX5_take : MethodName := ⟨RX5, "take", "(ILHoleMoved$Strip;II)V"⟩
abbrev cX5_sum : ByteArray := prog_7_method_12_code
def yX5_sum : MethodName := ⟨RX5, "sum", "()J"⟩
abbrev cX5_digestOnto : ByteArray := prog_7_method_13_code
def yX5_digestOnto : MethodName := ⟨RX5, "digestOnto", "(J)J"⟩
def RX6 : String := "HoleMoved$Thief"
def TX6 : u_T := fun k => match k with
  | 0 => ("HoleMoved$Thief", "land", "LHoleMoved$Land;", true)
  | 1 => ("HoleMoved$Thief", "aside", "LHoleMoved$Ground;", true)
  | 2 => ("HoleMoved$Thief", "moves", "[I", true)
  | 3 => ("HoleMoved$Thief", "law", "LHoleMoved$Law;", false)
  | 4 => ("HoleMoved$Thief", "then", "LHoleMoved$Ground;", false)
  | 5 => ("HoleMoved$Thief", "hole", "I", false)
  | _ => ("HoleMoved$Thief", "person", "I", false)
def tyX6 : Nat → FieldType := fun k => match k with
  | 0 => .object "HoleMoved$Land"
  | 1 => .object "HoleMoved$Ground"
  | 2 => .array .int
  | 3 => .object "HoleMoved$Law"
  | 4 => .object "HoleMoved$Ground"
  | 5 => .int
  | _ => .int
abbrev wsX60 : List Cond := u_ws RX6 TX6 7
theorem nmX6 : ∀ a, a < 7 → ∀ b, b < 7 → a ≠ b → (TX6 a).2.1 ≠ (TX6 b).2.1 := by decide +kernel
theorem tyX6_ok : ∀ k, k < 7 → parseFieldDescriptor (TX6 k).2.2.1 = some (tyX6 k) := by decide +kernel
abbrev cX6_init : ByteArray := prog_8_method_1_code
def yX6_init : MethodName := ⟨RX6, "<init>", "(LHoleMoved$Land;)V"⟩
abbrev cX6_want : ByteArray := prog_8_method_2_code
def yX6_want : MethodName := ⟨RX6, "want", "(LHoleMoved$Law;LHoleMoved$Ground;II)V"⟩
abbrev cX6_moveAt : ByteArray := prog_8_method_3_code
def yX6_moveAt : MethodName := ⟨RX6, "moveAt", "(I)I"⟩
abbrev cX6_fewestMoves : ByteArray := prog_8_method_4_code
def yX6_fewestMoves : MethodName := ⟨RX6, "fewestMoves", "(LHoleMoved$Ground;)I"⟩
abbrev cX6_succeeds : ByteArray := prog_8_method_5_code
def yX6_succeeds : MethodName := ⟨RX6, "succeeds", "(III)Z"⟩
abbrev cX6_isStolen : ByteArray := prog_8_method_6_code
def yX6_isStolen : MethodName := ⟨RX6, "isStolen", "()Z"⟩
def RX7 : String := "HoleMoved$Witnesses"
def TX7 : u_T := fun k => match k with
  | _ => ("", "", "", false)
def tyX7 : Nat → FieldType := fun k => match k with
  | _ => .int
abbrev wsX70 : List Cond := u_ws RX7 TX7 0
theorem nmX7 : ∀ a, a < 0 → ∀ b, b < 0 → a ≠ b → (TX7 a).2.1 ≠ (TX7 b).2.1 := by decide +kernel
theorem tyX7_ok : ∀ k, k < 0 → parseFieldDescriptor (TX7 k).2.2.1 = some (tyX7 k) := by decide +kernel
abbrev cX7_wrongIn : ByteArray := prog_9_method_2_code
def yX7_wrongIn : MethodName := ⟨RX7, "wrongIn", "(LHoleMoved$Strip;LHoleMoved$Land;)I"⟩
abbrev cX7_liarsOf : ByteArray := prog_9_method_3_code
def yX7_liarsOf : MethodName := ⟨RX7, "liarsOf", "(LHoleMoved$Strip;LHoleMoved$Ground;)I"⟩
abbrev cX7_firstLiar : ByteArray := prog_9_method_4_code
def yX7_firstLiar : MethodName := ⟨RX7, "firstLiar", "(LHoleMoved$Strip;LHoleMoved$Ground;)I"⟩
abbrev cX7_groundsBy : ByteArray := prog_9_method_5_code
def yX7_groundsBy : MethodName := ⟨RX7, "groundsBy", "(LHoleMoved$Strip;LHoleMoved$Land;)J"⟩
abbrev cX7_speaksOf : ByteArray := prog_9_method_6_code
def yX7_speaksOf : MethodName := ⟨RX7, "speaksOf", "(LHoleMoved$Strip;I)Z"⟩
abbrev cX7_depthsBy : ByteArray := prog_9_method_7_code
def yX7_depthsBy : MethodName := ⟨RX7, "depthsBy", "(LHoleMoved$Strip;I)I"⟩
abbrev cX7_isLie : ByteArray := prog_9_method_8_code
def yX7_isLie : MethodName := ⟨RX7, "isLie", "(LHoleMoved$Strip;II)Z"⟩
def RX8 : String := "HoleMoved"
def TX8 : u_T := fun k => match k with
  | 0 => ("HoleMoved", "rows", "[LHoleMoved$Strip;", true)
  | 1 => ("HoleMoved", "texts", "[LHoleMoved$Strip;", true)
  | 2 => ("HoleMoved", "reader", "LHoleMoved$Reader;", true)
  | 3 => ("HoleMoved", "land", "LHoleMoved$Land;", true)
  | 4 => ("HoleMoved", "now", "LHoleMoved$Ground;", true)
  | 5 => ("HoleMoved", "images", "[LHoleMoved$Ground;", true)
  | 6 => ("HoleMoved", "kinds", "[LHoleMoved$Law;", true)
  | 7 => ("HoleMoved", "laws", "[LHoleMoved$Law;", true)
  | 8 => ("HoleMoved", "lawCount", "I", false)
  | 9 => ("HoleMoved", "deeds", "LHoleMoved$Deeds;", true)
  | 10 => ("HoleMoved", "thief", "LHoleMoved$Thief;", true)
  | 11 => ("HoleMoved", "owed", "[I", true)
  | 12 => ("HoleMoved", "asked", "I", false)
  | 13 => ("HoleMoved", "upper", "J", false)
  | 14 => ("HoleMoved", "lower", "J", false)
  | 15 => ("HoleMoved", "finding", "I", false)
  | _ => ("HoleMoved", "findings", "[I", true)
def tyX8 : Nat → FieldType := fun k => match k with
  | 0 => .array (.object "HoleMoved$Strip")
  | 1 => .array (.object "HoleMoved$Strip")
  | 2 => .object "HoleMoved$Reader"
  | 3 => .object "HoleMoved$Land"
  | 4 => .object "HoleMoved$Ground"
  | 5 => .array (.object "HoleMoved$Ground")
  | 6 => .array (.object "HoleMoved$Law")
  | 7 => .array (.object "HoleMoved$Law")
  | 8 => .int
  | 9 => .object "HoleMoved$Deeds"
  | 10 => .object "HoleMoved$Thief"
  | 11 => .array .int
  | 12 => .int
  | 13 => .long
  | 14 => .long
  | 15 => .int
  | _ => .array .int
abbrev wsX80 : List Cond := u_ws RX8 TX8 17
theorem nmX8 : ∀ a, a < 17 → ∀ b, b < 17 → a ≠ b → (TX8 a).2.1 ≠ (TX8 b).2.1 := by decide +kernel
theorem tyX8_ok : ∀ k, k < 17 → parseFieldDescriptor (TX8 k).2.2.1 = some (tyX8 k) := by decide +kernel
abbrev cX8_init : ByteArray := prog_1_method_1_code
def yX8_init : MethodName := ⟨RX8, "<init>", "()V"⟩
abbrev cX8_row : ByteArray := prog_1_method_2_code
def yX8_row : MethodName := ⟨RX8, "row", "(II)I"⟩
abbrev cX8_lay : ByteArray := prog_1_method_3_code
def yX8_lay : MethodName := ⟨RX8, "lay", "(III)I"⟩
abbrev cX8_at : ByteArray := prog_1_method_4_code
def yX8_at : MethodName := ⟨RX8, "at", "(II)I"⟩
abbrev cX8_tear : ByteArray := prog_1_method_5_code
def yX8_tear : MethodName := ⟨RX8, "tear", "(I)I"⟩
abbrev cX8_copy : ByteArray := prog_1_method_6_code
def yX8_copy : MethodName := ⟨RX8, "copy", "(IIIII)I"⟩
abbrev cX8_mean : ByteArray := prog_1_method_7_code
def yX8_mean : MethodName := ⟨RX8, "mean", "(I)I"⟩
abbrev cX8_text : ByteArray := prog_1_method_8_code
def yX8_text : MethodName := ⟨RX8, "text", "(II)I"⟩
abbrev cX8_put : ByteArray := prog_1_method_9_code
def yX8_put : MethodName := ⟨RX8, "put", "(III)I"⟩
abbrev cX8_fault : ByteArray := prog_1_method_10_code
def yX8_fault : MethodName := ⟨RX8, "fault", "(I)I"⟩
abbrev cX8_ground : ByteArray := prog_1_method_11_code
def yX8_ground : MethodName := ⟨RX8, "ground", "(I)I"⟩
abbrev cX8_cell : ByteArray := prog_1_method_12_code
def yX8_cell : MethodName := ⟨RX8, "cell", "(II)I"⟩
abbrev cX8_law : ByteArray := prog_1_method_13_code
def yX8_law : MethodName := ⟨RX8, "law", "(I)I"⟩
abbrev cX8_mark : ByteArray := prog_1_method_14_code
def yX8_mark : MethodName := ⟨RX8, "mark", "(II)I"⟩
abbrev cX8_hole : ByteArray := prog_1_method_15_code
def yX8_hole : MethodName := ⟨RX8, "hole", "(II)I"⟩
abbrev cX8_dig : ByteArray := prog_1_method_16_code
def yX8_dig : MethodName := ⟨RX8, "dig", "(I)I"⟩
abbrev cX8_fill : ByteArray := prog_1_method_17_code
def yX8_fill : MethodName := ⟨RX8, "fill", "(I)I"⟩
abbrev cX8_rain : ByteArray := prog_1_method_18_code
def yX8_rain : MethodName := ⟨RX8, "rain", "(II)I"⟩
abbrev cX8_undo : ByteArray := prog_1_method_19_code
def yX8_undo : MethodName := ⟨RX8, "undo", "(I)I"⟩
abbrev cX8_image : ByteArray := prog_1_method_20_code
def yX8_image : MethodName := ⟨RX8, "image", "(I)I"⟩
abbrev cX8_on : ByteArray := prog_1_method_21_code
def yX8_on : MethodName := ⟨RX8, "on", "(I)I"⟩
abbrev cX8_then : ByteArray := prog_1_method_22_code
def yX8_then : MethodName := ⟨RX8, "then", "(III)I"⟩
abbrev cX8_same : ByteArray := prog_1_method_23_code
def yX8_same : MethodName := ⟨RX8, "same", "(IIII)I"⟩
abbrev cX8_which : ByteArray := prog_1_method_24_code
def yX8_which : MethodName := ⟨RX8, "which", "(III)I"⟩
abbrev cX8_doubt : ByteArray := prog_1_method_25_code
def yX8_doubt : MethodName := ⟨RX8, "doubt", "(II)I"⟩
abbrev cX8_fair : ByteArray := prog_1_method_26_code
def yX8_fair : MethodName := ⟨RX8, "fair", "(I)I"⟩
abbrev cX8_shovels : ByteArray := prog_1_method_27_code
def yX8_shovels : MethodName := ⟨RX8, "shovels", "(I)I"⟩
abbrev cX8_suspect : ByteArray := prog_1_method_28_code
def yX8_suspect : MethodName := ⟨RX8, "suspect", "(I)I"⟩
abbrev cX8_carry : ByteArray := prog_1_method_29_code
def yX8_carry : MethodName := ⟨RX8, "carry", "(III)I"⟩
abbrev cX8_join : ByteArray := prog_1_method_30_code
def yX8_join : MethodName := ⟨RX8, "join", "(II)I"⟩
abbrev cX8_part : ByteArray := prog_1_method_31_code
def yX8_part : MethodName := ⟨RX8, "part", "(I)I"⟩
abbrev cX8_steal : ByteArray := prog_1_method_32_code
def yX8_steal : MethodName := ⟨RX8, "steal", "(IIIII)I"⟩
abbrev cX8_share : ByteArray := prog_1_method_33_code
def yX8_share : MethodName := ⟨RX8, "share", "(II)I"⟩
abbrev cX8_heaps : ByteArray := prog_1_method_34_code
def yX8_heaps : MethodName := ⟨RX8, "heaps", "(I)I"⟩
abbrev cX8_lies : ByteArray := prog_1_method_35_code
def yX8_lies : MethodName := ⟨RX8, "lies", "(I)I"⟩
abbrev cX8_day : ByteArray := prog_1_method_36_code
def yX8_day : MethodName := ⟨RX8, "day", "(I)I"⟩
abbrev cX8_grounds : ByteArray := prog_1_method_37_code
def yX8_grounds : MethodName := ⟨RX8, "grounds", "(I)I"⟩
abbrev cX8_odds : ByteArray := prog_1_method_38_code
def yX8_odds : MethodName := ⟨RX8, "odds", "(II)I"⟩
abbrev cX8_gone : ByteArray := prog_1_method_39_code
def yX8_gone : MethodName := ⟨RX8, "gone", "(III)I"⟩
abbrev cX8_asked : ByteArray := prog_1_method_40_code
def yX8_asked : MethodName := ⟨RX8, "asked", "()I"⟩
abbrev cX8_upper : ByteArray := prog_1_method_41_code
def yX8_upper : MethodName := ⟨RX8, "upper", "()J"⟩
abbrev cX8_lower : ByteArray := prog_1_method_42_code
def yX8_lower : MethodName := ⟨RX8, "lower", "()J"⟩
abbrev cX8_count : ByteArray := prog_1_method_43_code
def yX8_count : MethodName := ⟨RX8, "count", "(I)I"⟩
abbrev cX8_finding : ByteArray := prog_1_method_44_code
def yX8_finding : MethodName := ⟨RX8, "finding", "()I"⟩
abbrev cX8_findings : ByteArray := prog_1_method_45_code
def yX8_findings : MethodName := ⟨RX8, "findings", "(I)I"⟩
abbrev cX8_digest : ByteArray := prog_1_method_46_code
def yX8_digest : MethodName := ⟨RX8, "digest", "()J"⟩
abbrev cX8_rowOf : ByteArray := prog_1_method_47_code
def yX8_rowOf : MethodName := ⟨RX8, "rowOf", "(I)LHoleMoved$Strip;"⟩
abbrev cX8_textOf : ByteArray := prog_1_method_48_code
def yX8_textOf : MethodName := ⟨RX8, "textOf", "(I)LHoleMoved$Strip;"⟩
abbrev cX8_imageOf : ByteArray := prog_1_method_49_code
def yX8_imageOf : MethodName := ⟨RX8, "imageOf", "(I)LHoleMoved$Ground;"⟩
abbrev cX8_lawOf : ByteArray := prog_1_method_50_code
def yX8_lawOf : MethodName := ⟨RX8, "lawOf", "(I)LHoleMoved$Law;"⟩
abbrev cX8_isPerson : ByteArray := prog_1_method_51_code
def yX8_isPerson : MethodName := ⟨RX8, "isPerson", "(I)Z"⟩
abbrev cX8_found : ByteArray := prog_1_method_52_code
def yX8_found : MethodName := ⟨RX8, "found", "(I)I"⟩
abbrev cX8_tell : ByteArray := prog_1_method_53_code
def yX8_tell : MethodName := ⟨RX8, "tell", "(I)I"⟩
abbrev cX8_tellFraction : ByteArray := prog_1_method_54_code
def yX8_tellFraction : MethodName := ⟨RX8, "tellFraction", "(JJ)I"⟩
abbrev cX8_commonDivisor : ByteArray := prog_1_method_55_code
def yX8_commonDivisor : MethodName := ⟨RX8, "commonDivisor", "(JJ)J"⟩
abbrev cX8_comeAnew : ByteArray := prog_1_method_56_code
def yX8_comeAnew : MethodName := ⟨RX8, "comeAnew", "(LHoleMoved$Strip;II)I"⟩
abbrev cX8_wrongPlace : ByteArray := prog_1_method_57_code
def yX8_wrongPlace : MethodName := ⟨RX8, "wrongPlace", "(LHoleMoved$Strip;I)I"⟩
abbrev cX8_wrongHeaps : ByteArray := prog_1_method_58_code
def yX8_wrongHeaps : MethodName := ⟨RX8, "wrongHeaps", "(LHoleMoved$Strip;)I"⟩
abbrev cX8_takeLaws : ByteArray := prog_1_method_59_code
def yX8_takeLaws : MethodName := ⟨RX8, "takeLaws", "()V"⟩
abbrev cX8_cellTold : ByteArray := prog_1_method_60_code
def yX8_cellTold : MethodName := ⟨RX8, "cellTold", "(II)I"⟩
abbrev cX8_counted : ByteArray := prog_1_method_61_code
def yX8_counted : MethodName := ⟨RX8, "counted", "(I)I"⟩
abbrev cX8_rimLaws : ByteArray := prog_1_method_62_code
def yX8_rimLaws : MethodName := ⟨RX8, "rimLaws", "()I"⟩
abbrev cX8_stripsThere : ByteArray := prog_1_method_63_code
def yX8_stripsThere : MethodName := ⟨RX8, "stripsThere", "([LHoleMoved$Strip;)I"⟩
abbrev cX8_imagesThere : ByteArray := prog_1_method_64_code
def yX8_imagesThere : MethodName := ⟨RX8, "imagesThere", "()I"⟩
abbrev cX8_rainedOn : ByteArray := prog_1_method_65_code
def yX8_rainedOn : MethodName := ⟨RX8, "rainedOn", "(II)I"⟩
abbrev cX8_nextSet : ByteArray := prog_1_method_66_code
def yX8_nextSet : MethodName := ⟨RX8, "nextSet", "(I)I"⟩
abbrev cX8_waysFrom : ByteArray := prog_1_method_67_code
def yX8_waysFrom : MethodName := ⟨RX8, "waysFrom", "(LHoleMoved$Strip;I)I"⟩
abbrev cX8_waysToVanish : ByteArray := prog_1_method_68_code
def yX8_waysToVanish : MethodName := ⟨RX8, "waysToVanish", "(III)J"⟩
def RX9 : String := "HoleMovedModel"
def TX9 : u_T := fun k => match k with
  | 0 => ("HoleMovedModel", "finding", "I", false)
  | 1 => ("HoleMovedModel", "findings", "[I", true)
  | 2 => ("HoleMovedModel", "asked", "I", false)
  | 3 => ("HoleMovedModel", "upper", "J", false)
  | 4 => ("HoleMovedModel", "lower", "J", false)
  | 5 => ("HoleMovedModel", "sizes", "[I", true)
  | 6 => ("HoleMovedModel", "rows", "[I", true)
  | 7 => ("HoleMovedModel", "moving", "[I", true)
  | 8 => ("HoleMovedModel", "lengths", "[I", true)
  | 9 => ("HoleMovedModel", "texts", "[I", true)
  | 10 => ("HoleMovedModel", "wide", "I", false)
  | 11 => ("HoleMovedModel", "many", "I", false)
  | 12 => ("HoleMovedModel", "lawMany", "I", false)
  | 13 => ("HoleMovedModel", "depths", "[I", true)
  | 14 => ("HoleMovedModel", "gardens", "[I", true)
  | 15 => ("HoleMovedModel", "laws", "[I", true)
  | 16 => ("HoleMovedModel", "cart", "I", false)
  | 17 => ("HoleMovedModel", "readAt", "I", false)
  | 18 => ("HoleMovedModel", "readWide", "I", false)
  | 19 => ("HoleMovedModel", "readMany", "I", false)
  | 20 => ("HoleMovedModel", "readLaws", "I", false)
  | 21 => ("HoleMovedModel", "read", "[I", true)
  | 22 => ("HoleMovedModel", "holes", "[I", true)
  | 23 => ("HoleMovedModel", "holeMany", "I", false)
  | 24 => ("HoleMovedModel", "thens", "[I", true)
  | 25 => ("HoleMovedModel", "thenMany", "I", false)
  | 26 => ("HoleMovedModel", "deedMany", "I", false)
  | 27 => ("HoleMovedModel", "notes", "[I", true)
  | 28 => ("HoleMovedModel", "isThere", "[I", true)
  | 29 => ("HoleMovedModel", "images", "[I", true)
  | 30 => ("HoleMovedModel", "laid", "[I", true)
  | 31 => ("HoleMovedModel", "wants", "[I", true)
  | 32 => ("HoleMovedModel", "chances", "[J", true)
  | _ => ("HoleMovedModel", "h0", "J", false)
def tyX9 : Nat → FieldType := fun k => match k with
  | 0 => .int
  | 1 => .array .int
  | 2 => .int
  | 3 => .long
  | 4 => .long
  | 5 => .array .int
  | 6 => .array .int
  | 7 => .array .int
  | 8 => .array .int
  | 9 => .array .int
  | 10 => .int
  | 11 => .int
  | 12 => .int
  | 13 => .array .int
  | 14 => .array .int
  | 15 => .array .int
  | 16 => .int
  | 17 => .int
  | 18 => .int
  | 19 => .int
  | 20 => .int
  | 21 => .array .int
  | 22 => .array .int
  | 23 => .int
  | 24 => .array .int
  | 25 => .int
  | 26 => .int
  | 27 => .array .int
  | 28 => .array .int
  | 29 => .array .int
  | 30 => .array .int
  | 31 => .array .int
  | 32 => .array .long
  | _ => .long
abbrev wsX90 : List Cond := u_ws RX9 TX9 34
theorem nmX9 : ∀ a, a < 34 → ∀ b, b < 34 → a ≠ b → (TX9 a).2.1 ≠ (TX9 b).2.1 := by decide +kernel
theorem tyX9_ok : ∀ k, k < 34 → parseFieldDescriptor (TX9 k).2.2.1 = some (tyX9 k) := by decide +kernel
abbrev cX9_init : ByteArray := prog_11_method_1_code
def yX9_init : MethodName := ⟨RX9, "<init>", "()V"⟩
abbrev cX9_in : ByteArray := prog_11_method_3_code
def yX9_in : MethodName := ⟨RX9, "in", "(III)Z"⟩
abbrev cX9_meet : ByteArray := prog_11_method_4_code
def yX9_meet : MethodName := ⟨RX9, "meet", "(I)I"⟩
abbrev cX9_ask : ByteArray := prog_11_method_5_code
def yX9_ask : MethodName := ⟨RX9, "ask", "(II)I"⟩
abbrev cX9_has : ByteArray := prog_11_method_6_code
def yX9_has : MethodName := ⟨RX9, "has", "(II)Z"⟩
abbrev cX9_sizeOf : ByteArray := prog_11_method_7_code
def yX9_sizeOf : MethodName := ⟨RX9, "sizeOf", "(I)I"⟩
abbrev cX9_greater : ByteArray := prog_11_method_8_code
def yX9_greater : MethodName := ⟨RX9, "greater", "(II)I"⟩
abbrev cX9_part : ByteArray := prog_11_method_9_code
def yX9_part : MethodName := ⟨RX9, "part", "(JJ)I"⟩
abbrev cX9_isRow : ByteArray := prog_11_method_10_code
def yX9_isRow : MethodName := ⟨RX9, "isRow", "(I)Z"⟩
abbrev cX9_isText : ByteArray := prog_11_method_11_code
def yX9_isText : MethodName := ⟨RX9, "isText", "(I)Z"⟩
abbrev cX9_askedRow : ByteArray := prog_11_method_12_code
def yX9_askedRow : MethodName := ⟨RX9, "askedRow", "(I)I"⟩
abbrev cX9_askedText : ByteArray := prog_11_method_13_code
def yX9_askedText : MethodName := ⟨RX9, "askedText", "(I)I"⟩
abbrev cX9_rowAt : ByteArray := prog_11_method_14_code
def yX9_rowAt : MethodName := ⟨RX9, "rowAt", "(II)I"⟩
abbrev cX9_setRow : ByteArray := prog_11_method_15_code
def yX9_setRow : MethodName := ⟨RX9, "setRow", "(III)V"⟩
abbrev cX9_row : ByteArray := prog_11_method_16_code
def yX9_row : MethodName := ⟨RX9, "row", "(II)I"⟩
abbrev cX9_at : ByteArray := prog_11_method_17_code
def yX9_at : MethodName := ⟨RX9, "at", "(II)I"⟩
abbrev cX9_lay : ByteArray := prog_11_method_18_code
def yX9_lay : MethodName := ⟨RX9, "lay", "(III)I"⟩
abbrev cX9_tear : ByteArray := prog_11_method_19_code
def yX9_tear : MethodName := ⟨RX9, "tear", "(I)I"⟩
abbrev cX9_copy : ByteArray := prog_11_method_20_code
def yX9_copy : MethodName := ⟨RX9, "copy", "(IIIII)I"⟩
abbrev cX9_mean : ByteArray := prog_11_method_21_code
def yX9_mean : MethodName := ⟨RX9, "mean", "(I)I"⟩
abbrev cX9_text : ByteArray := prog_11_method_22_code
def yX9_text : MethodName := ⟨RX9, "text", "(II)I"⟩
abbrev cX9_put : ByteArray := prog_11_method_23_code
def yX9_put : MethodName := ⟨RX9, "put", "(III)I"⟩
abbrev cX9_here : ByteArray := prog_11_method_24_code
def yX9_here : MethodName := ⟨RX9, "here", "(I)I"⟩
abbrev cX9_figure : ByteArray := prog_11_method_25_code
def yX9_figure : MethodName := ⟨RX9, "figure", "(III)Z"⟩
abbrev cX9_sign : ByteArray := prog_11_method_26_code
def yX9_sign : MethodName := ⟨RX9, "sign", "(II)Z"⟩
abbrev cX9_readsFirst : ByteArray := prog_11_method_27_code
def yX9_readsFirst : MethodName := ⟨RX9, "readsFirst", "(I)Z"⟩
abbrev cX9_readsLine : ByteArray := prog_11_method_28_code
def yX9_readsLine : MethodName := ⟨RX9, "readsLine", "(I)Z"⟩
abbrev cX9_kindBy : ByteArray := prog_11_method_29_code
def yX9_kindBy : MethodName := ⟨RX9, "kindBy", "(I)I"⟩
abbrev cX9_skip : ByteArray := prog_11_method_30_code
def yX9_skip : MethodName := ⟨RX9, "skip", "(I)V"⟩
abbrev cX9_readsGround : ByteArray := prog_11_method_31_code
def yX9_readsGround : MethodName := ⟨RX9, "readsGround", "(I)Z"⟩
abbrev cX9_goesOn : ByteArray := prog_11_method_32_code
def yX9_goesOn : MethodName := ⟨RX9, "goesOn", "(I)I"⟩
abbrev cX9_fault : ByteArray := prog_11_method_33_code
def yX9_fault : MethodName := ⟨RX9, "fault", "(I)I"⟩
abbrev cX9_ground : ByteArray := prog_11_method_34_code
def yX9_ground : MethodName := ⟨RX9, "ground", "(I)I"⟩
abbrev cX9_isCell : ByteArray := prog_11_method_35_code
def yX9_isCell : MethodName := ⟨RX9, "isCell", "(I)Z"⟩
abbrev cX9_isLaw : ByteArray := prog_11_method_36_code
def yX9_isLaw : MethodName := ⟨RX9, "isLaw", "(I)Z"⟩
abbrev cX9_besides : ByteArray := prog_11_method_37_code
def yX9_besides : MethodName := ⟨RX9, "besides", "(I)I"⟩
abbrev cX9_grown : ByteArray := prog_11_method_38_code
def yX9_grown : MethodName := ⟨RX9, "grown", "(II)I"⟩
abbrev cX9_dugIn : ByteArray := prog_11_method_39_code
def yX9_dugIn : MethodName := ⟨RX9, "dugIn", "([II)I"⟩
abbrev cX9_findHoles : ByteArray := prog_11_method_40_code
def yX9_findHoles : MethodName := ⟨RX9, "findHoles", "(I[I)I"⟩
abbrev cX9_layHoles : ByteArray := prog_11_method_41_code
def yX9_layHoles : MethodName := ⟨RX9, "layHoles", "()V"⟩
abbrev cX9_holeCount : ByteArray := prog_11_method_42_code
def yX9_holeCount : MethodName := ⟨RX9, "holeCount", "()I"⟩
abbrev cX9_isHole : ByteArray := prog_11_method_43_code
def yX9_isHole : MethodName := ⟨RX9, "isHole", "(I)Z"⟩
abbrev cX9_volume : ByteArray := prog_11_method_44_code
def yX9_volume : MethodName := ⟨RX9, "volume", "([III)I"⟩
abbrev cX9_bottom : ByteArray := prog_11_method_45_code
def yX9_bottom : MethodName := ⟨RX9, "bottom", "([III)I"⟩
abbrev cX9_cellsOf : ByteArray := prog_11_method_46_code
def yX9_cellsOf : MethodName := ⟨RX9, "cellsOf", "(II)I"⟩
abbrev cX9_whose : ByteArray := prog_11_method_47_code
def yX9_whose : MethodName := ⟨RX9, "whose", "(I)I"⟩
abbrev cX9_holeOf : ByteArray := prog_11_method_48_code
def yX9_holeOf : MethodName := ⟨RX9, "holeOf", "([IIII)I"⟩
abbrev cX9_cellOf : ByteArray := prog_11_method_49_code
def yX9_cellOf : MethodName := ⟨RX9, "cellOf", "(II)I"⟩
abbrev cX9_cell : ByteArray := prog_11_method_50_code
def yX9_cell : MethodName := ⟨RX9, "cell", "(II)I"⟩
abbrev cX9_law : ByteArray := prog_11_method_51_code
def yX9_law : MethodName := ⟨RX9, "law", "(I)I"⟩
abbrev cX9_pushed : ByteArray := prog_11_method_52_code
def yX9_pushed : MethodName := ⟨RX9, "pushed", "(I)I"⟩
abbrev cX9_shape : ByteArray := prog_11_method_53_code
def yX9_shape : MethodName := ⟨RX9, "shape", "(I)I"⟩
abbrev cX9_quarter : ByteArray := prog_11_method_54_code
def yX9_quarter : MethodName := ⟨RX9, "quarter", "(I)I"⟩
abbrev cX9_areTurned : ByteArray := prog_11_method_55_code
def yX9_areTurned : MethodName := ⟨RX9, "areTurned", "(II)Z"⟩
abbrev cX9_areSame : ByteArray := prog_11_method_56_code
def yX9_areSame : MethodName := ⟨RX9, "areSame", "(I[IIII)Z"⟩
abbrev cX9_pairsBy : ByteArray := prog_11_method_57_code
def yX9_pairsBy : MethodName := ⟨RX9, "pairsBy", "(I)I"⟩
abbrev cX9_marked : ByteArray := prog_11_method_58_code
def yX9_marked : MethodName := ⟨RX9, "marked", "(II)I"⟩
abbrev cX9_isA : ByteArray := prog_11_method_59_code
def yX9_isA : MethodName := ⟨RX9, "isA", "(II)Z"⟩
abbrev cX9_mark : ByteArray := prog_11_method_60_code
def yX9_mark : MethodName := ⟨RX9, "mark", "(II)I"⟩
abbrev cX9_hole : ByteArray := prog_11_method_61_code
def yX9_hole : MethodName := ⟨RX9, "hole", "(II)I"⟩
abbrev cX9_write : ByteArray := prog_11_method_62_code
def yX9_write : MethodName := ⟨RX9, "write", "([II)V"⟩
abbrev cX9_readBack : ByteArray := prog_11_method_63_code
def yX9_readBack : MethodName := ⟨RX9, "readBack", "([II)V"⟩
abbrev cX9_note : ByteArray := prog_11_method_64_code
def yX9_note : MethodName := ⟨RX9, "note", "()V"⟩
abbrev cX9_dig : ByteArray := prog_11_method_65_code
def yX9_dig : MethodName := ⟨RX9, "dig", "(I)I"⟩
abbrev cX9_fill : ByteArray := prog_11_method_66_code
def yX9_fill : MethodName := ⟨RX9, "fill", "(I)I"⟩
abbrev cX9_rain : ByteArray := prog_11_method_67_code
def yX9_rain : MethodName := ⟨RX9, "rain", "(II)I"⟩
abbrev cX9_undo : ByteArray := prog_11_method_68_code
def yX9_undo : MethodName := ⟨RX9, "undo", "(I)I"⟩
abbrev cX9_isImage : ByteArray := prog_11_method_69_code
def yX9_isImage : MethodName := ⟨RX9, "isImage", "(I)Z"⟩
abbrev cX9_image : ByteArray := prog_11_method_70_code
def yX9_image : MethodName := ⟨RX9, "image", "(I)I"⟩
abbrev cX9_needImage : ByteArray := prog_11_method_71_code
def yX9_needImage : MethodName := ⟨RX9, "needImage", "(I)I"⟩
abbrev cX9_on : ByteArray := prog_11_method_72_code
def yX9_on : MethodName := ⟨RX9, "on", "(I)I"⟩
abbrev cX9_then : ByteArray := prog_11_method_73_code
def yX9_then : MethodName := ⟨RX9, "then", "(III)I"⟩
abbrev cX9_isSame : ByteArray := prog_11_method_74_code
def yX9_isSame : MethodName := ⟨RX9, "isSame", "(IIII)Z"⟩
abbrev cX9_same : ByteArray := prog_11_method_75_code
def yX9_same : MethodName := ⟨RX9, "same", "(IIII)I"⟩
abbrev cX9_sameSet : ByteArray := prog_11_method_76_code
def yX9_sameSet : MethodName := ⟨RX9, "sameSet", "(III)I"⟩
abbrev cX9_which : ByteArray := prog_11_method_77_code
def yX9_which : MethodName := ⟨RX9, "which", "(III)I"⟩
abbrev cX9_doubt : ByteArray := prog_11_method_78_code
def yX9_doubt : MethodName := ⟨RX9, "doubt", "(II)I"⟩
abbrev cX9_isFair : ByteArray := prog_11_method_79_code
def yX9_isFair : MethodName := ⟨RX9, "isFair", "(II)Z"⟩
abbrev cX9_fair : ByteArray := prog_11_method_80_code
def yX9_fair : MethodName := ⟨RX9, "fair", "(I)I"⟩
abbrev cX9_shovels : ByteArray := prog_11_method_81_code
def yX9_shovels : MethodName := ⟨RX9, "shovels", "(I)I"⟩
abbrev cX9_suspect : ByteArray := prog_11_method_82_code
def yX9_suspect : MethodName := ⟨RX9, "suspect", "(I)I"⟩
abbrev cX9_carry : ByteArray := prog_11_method_83_code
def yX9_carry : MethodName := ⟨RX9, "carry", "(III)I"⟩
abbrev cX9_join : ByteArray := prog_11_method_84_code
def yX9_join : MethodName := ⟨RX9, "join", "(II)I"⟩
abbrev cX9_lowest : ByteArray := prog_11_method_85_code
def yX9_lowest : MethodName := ⟨RX9, "lowest", "(I)I"⟩
abbrev cX9_part_ : ByteArray := prog_11_method_86_code
def yX9_part_ : MethodName := ⟨RX9, "part", "(I)I"⟩
abbrev cX9_isStolen : ByteArray := prog_11_method_87_code
def yX9_isStolen : MethodName := ⟨RX9, "isStolen", "(IIII)Z"⟩
abbrev cX9_stealOn : ByteArray := prog_11_method_88_code
def yX9_stealOn : MethodName := ⟨RX9, "stealOn", "(IIIIII)Z"⟩
abbrev cX9_steal : ByteArray := prog_11_method_89_code
def yX9_steal : MethodName := ⟨RX9, "steal", "(IIIII)I"⟩
abbrev cX9_share : ByteArray := prog_11_method_90_code
def yX9_share : MethodName := ⟨RX9, "share", "(II)I"⟩
abbrev cX9_heapOn : ByteArray := prog_11_method_91_code
def yX9_heapOn : MethodName := ⟨RX9, "heapOn", "(II)J"⟩
abbrev cX9_heaps : ByteArray := prog_11_method_92_code
def yX9_heaps : MethodName := ⟨RX9, "heaps", "(I)I"⟩
abbrev cX9_askedWitnesses : ByteArray := prog_11_method_93_code
def yX9_askedWitnesses : MethodName := ⟨RX9, "askedWitnesses", "(I)I"⟩
abbrev cX9_doesLie : ByteArray := prog_11_method_94_code
def yX9_doesLie : MethodName := ⟨RX9, "doesLie", "(III)Z"⟩
abbrev cX9_liesBy : ByteArray := prog_11_method_95_code
def yX9_liesBy : MethodName := ⟨RX9, "liesBy", "(I[II)I"⟩
abbrev cX9_lies : ByteArray := prog_11_method_96_code
def yX9_lies : MethodName := ⟨RX9, "lies", "(I)I"⟩
abbrev cX9_day : ByteArray := prog_11_method_97_code
def yX9_day : MethodName := ⟨RX9, "day", "(I)I"⟩
abbrev cX9_depthsOf : ByteArray := prog_11_method_98_code
def yX9_depthsOf : MethodName := ⟨RX9, "depthsOf", "(II)J"⟩
abbrev cX9_grounds : ByteArray := prog_11_method_99_code
def yX9_grounds : MethodName := ⟨RX9, "grounds", "(I)I"⟩
abbrev cX9_power : ByteArray := prog_11_method_100_code
def yX9_power : MethodName := ⟨RX9, "power", "(JI)J"⟩
abbrev cX9_odds : ByteArray := prog_11_method_101_code
def yX9_odds : MethodName := ⟨RX9, "odds", "(II)I"⟩
abbrev cX9_gone : ByteArray := prog_11_method_102_code
def yX9_gone : MethodName := ⟨RX9, "gone", "(III)I"⟩
abbrev cX9_asked : ByteArray := prog_11_method_103_code
def yX9_asked : MethodName := ⟨RX9, "asked", "()I"⟩
abbrev cX9_upper : ByteArray := prog_11_method_104_code
def yX9_upper : MethodName := ⟨RX9, "upper", "()J"⟩
abbrev cX9_lower : ByteArray := prog_11_method_105_code
def yX9_lower : MethodName := ⟨RX9, "lower", "()J"⟩
abbrev cX9_tells : ByteArray := prog_11_method_106_code
def yX9_tells : MethodName := ⟨RX9, "tells", "(I)I"⟩
abbrev cX9_count : ByteArray := prog_11_method_107_code
def yX9_count : MethodName := ⟨RX9, "count", "(I)I"⟩
abbrev cX9_finding : ByteArray := prog_11_method_108_code
def yX9_finding : MethodName := ⟨RX9, "finding", "()I"⟩
abbrev cX9_findings : ByteArray := prog_11_method_109_code
def yX9_findings : MethodName := ⟨RX9, "findings", "(I)I"⟩
abbrev cX9_mix : ByteArray := prog_11_method_110_code
def yX9_mix : MethodName := ⟨RX9, "mix", "(I)V"⟩
abbrev cX9_mixGround : ByteArray := prog_11_method_111_code
def yX9_mixGround : MethodName := ⟨RX9, "mixGround", "()V"⟩
abbrev cX9_digest : ByteArray := prog_11_method_112_code
def yX9_digest : MethodName := ⟨RX9, "digest", "()J"⟩
def RJ6 : String := "java/lang/Integer"
def TJ6 : u_T := fun k => match k with
  | _ => ("", "", "", false)
def tyJ6 : Nat → FieldType := fun k => match k with
  | _ => .int
abbrev wsJ60 : List Cond := u_ws RJ6 TJ6 0
theorem nmJ6 : ∀ a, a < 0 → ∀ b, b < 0 → a ≠ b → (TJ6 a).2.1 ≠ (TJ6 b).2.1 := by decide +kernel
theorem tyJ6_ok : ∀ k, k < 0 → parseFieldDescriptor (TJ6 k).2.2.1 = some (tyJ6 k) := by decide +kernel
abbrev cJ6_bitCount_0f7a4 : ByteArray := prog_12_method_49_code
def yJ6_bitCount_0f7a4 : MethodName := ⟨RJ6, "bitCount", "(I)I"⟩
def RJ9 : String := "java/lang/Math"
def TJ9 : u_T := fun k => match k with
  | _ => ("", "", "", false)
def tyJ9 : Nat → FieldType := fun k => match k with
  | _ => .int
abbrev wsJ90 : List Cond := u_ws RJ9 TJ9 0
theorem nmJ9 : ∀ a, a < 0 → ∀ b, b < 0 → a ≠ b → (TJ9 a).2.1 ≠ (TJ9 b).2.1 := by decide +kernel
theorem tyJ9_ok : ∀ k, k < 0 → parseFieldDescriptor (TJ9 k).2.2.1 = some (tyJ9 k) := by decide +kernel
abbrev cJ9_abs_0f7a4 : ByteArray := prog_13_method_59_code
def yJ9_abs_0f7a4 : MethodName := ⟨RJ9, "abs", "(I)I"⟩
abbrev cJ9_abs_067f4 : ByteArray := prog_13_method_61_code
def yJ9_abs_067f4 : MethodName := ⟨RJ9, "abs", "(J)J"⟩
abbrev cJ9_max_7cf53 : ByteArray := prog_13_method_65_code
def yJ9_max_7cf53 : MethodName := ⟨RJ9, "max", "(II)I"⟩
abbrev cJ9_min_7cf53 : ByteArray := prog_13_method_69_code
def yJ9_min_7cf53 : MethodName := ⟨RJ9, "min", "(II)I"⟩
def RJ10 : String := "java/lang/System"
def TJ10 : u_T := fun k => match k with
  | _ => ("", "", "", false)
def tyJ10 : Nat → FieldType := fun k => match k with
  | _ => .int
abbrev wsJ100 : List Cond := u_ws RJ10 TJ10 0
theorem nmJ10 : ∀ a, a < 0 → ∀ b, b < 0 → a ≠ b → (TJ10 a).2.1 ≠ (TJ10 b).2.1 := by decide +kernel
theorem tyJ10_ok : ∀ k, k < 0 → parseFieldDescriptor (TJ10 k).2.2.1 = some (tyJ10 k) := by decide +kernel
def RL : String := "HoleMovedLaw"
abbrev cL_law : ByteArray := code
def yL_law : MethodName := ⟨RL, "law", "([I)Z"⟩
abbrev vwCl : List vw_C := [(RX0, TX0, 4), (RX1, TX1, 8), (RX2, TX2, 5), (RX3, TX3, 2), (RX4, TX4, 7), (RX5, TX5, 2), (RX6, TX6, 7), (RX8, TX8, 17), (RX9, TX9, 34)]
end
section
theorem dX0_init_0 : decode cX0_init 0 = .ok (.aload_n 0, 1) := by decide +kernel
theorem dX0_init_1 : decode cX0_init 1 = .ok (.invokespecial 3, 3) := by decide +kernel
theorem dX0_init_4 : decode cX0_init 4 = .ok (.aload_n 0, 1) := by decide +kernel
theorem dX0_init_5 : decode cX0_init 5 = .ok (.bipush 40, 2) := by decide +kernel
theorem dX0_init_7 : decode cX0_init 7 = .ok (.newarray .int, 2) := by decide +kernel
theorem dX0_init_9 : decode cX0_init 9 = .ok (.putfield 9, 3) := by decide +kernel
theorem dX0_init_12 : decode cX0_init 12 = .ok (.aload_n 0, 1) := by decide +kernel
theorem dX0_init_13 : decode cX0_init 13 = .ok (.bipush 40, 2) := by decide +kernel
theorem dX0_init_15 : decode cX0_init 15 = .ok (.newarray .int, 2) := by decide +kernel
theorem dX0_init_17 : decode cX0_init 17 = .ok (.putfield 15, 3) := by decide +kernel
theorem dX0_init_20 : decode cX0_init 20 = .ok (.aload_n 0, 1) := by decide +kernel
theorem dX0_init_21 : decode cX0_init 21 = .ok (.bipush 40, 2) := by decide +kernel
theorem dX0_init_23 : decode cX0_init 23 = .ok (.newarray .int, 2) := by decide +kernel
theorem dX0_init_25 : decode cX0_init 25 = .ok (.putfield 18, 3) := by decide +kernel
theorem dX0_init_28 : decode cX0_init 28 = .ok (.return_, 1) := by decide +kernel
theorem dX0_size_0 : decode cX0_size 0 = .ok (.aload_n 0, 1) := by decide +kernel
theorem dX0_size_1 : decode cX0_size 1 = .ok (.getfield 21, 3) := by decide +kernel
theorem dX0_size_4 : decode cX0_size 4 = .ok (.ireturn, 1) := by decide +kernel
theorem dX0_areFull_0 : decode cX0_areFull 0 = .ok (.aload_n 0, 1) := by decide +kernel
theorem dX0_areFull_1 : decode cX0_areFull 1 = .ok (.getfield 21, 3) := by decide +kernel
theorem dX0_areFull_4 : decode cX0_areFull 4 = .ok (.bipush 40, 2) := by decide +kernel
theorem dX0_areFull_6 : decode cX0_areFull 6 = .ok (.if_icmp .lt 7, 3) := by decide +kernel
theorem dX0_areFull_9 : decode cX0_areFull 9 = .ok (.iconst 1, 1) := by decide +kernel
theorem dX0_areFull_10 : decode cX0_areFull 10 = .ok (.goto 4, 3) := by decide +kernel
theorem dX0_areFull_13 : decode cX0_areFull 13 = .ok (.iconst 0, 1) := by decide +kernel
theorem dX0_areFull_14 : decode cX0_areFull 14 = .ok (.ireturn, 1) := by decide +kernel
theorem dX0_forget_0 : decode cX0_forget 0 = .ok (.aload_n 0, 1) := by decide +kernel
theorem dX0_forget_1 : decode cX0_forget 1 = .ok (.iconst 0, 1) := by decide +kernel
theorem dX0_forget_2 : decode cX0_forget 2 = .ok (.putfield 21, 3) := by decide +kernel
theorem dX0_forget_5 : decode cX0_forget 5 = .ok (.return_, 1) := by decide +kernel
theorem dX0_perform_0 : decode cX0_perform 0 = .ok (.aload_n 0, 1) := by decide +kernel
theorem dX0_perform_1 : decode cX0_perform 1 = .ok (.getfield 21, 3) := by decide +kernel
theorem dX0_perform_4 : decode cX0_perform 4 = .ok (.ifCond .lt 10, 3) := by decide +kernel
theorem dX0_perform_7 : decode cX0_perform 7 = .ok (.aload_n 0, 1) := by decide +kernel
theorem dX0_perform_8 : decode cX0_perform 8 = .ok (.invokevirtual 25, 3) := by decide +kernel
theorem dX0_perform_11 : decode cX0_perform 11 = .ok (.ifCond .eq 4, 3) := by decide +kernel
theorem dX0_perform_14 : decode cX0_perform 14 = .ok (.return_, 1) := by decide +kernel
theorem dX0_perform_15 : decode cX0_perform 15 = .ok (.aload_n 0, 1) := by decide +kernel
theorem dX0_perform_16 : decode cX0_perform 16 = .ok (.getfield 9, 3) := by decide +kernel
theorem dX0_perform_19 : decode cX0_perform 19 = .ok (.aload_n 0, 1) := by decide +kernel
theorem dX0_perform_20 : decode cX0_perform 20 = .ok (.getfield 21, 3) := by decide +kernel
theorem dX0_perform_23 : decode cX0_perform 23 = .ok (.iload_n 2, 1) := by decide +kernel
theorem dX0_perform_24 : decode cX0_perform 24 = .ok (.iastore, 1) := by decide +kernel
theorem dX0_perform_25 : decode cX0_perform 25 = .ok (.aload_n 0, 1) := by decide +kernel
theorem dX0_perform_26 : decode cX0_perform 26 = .ok (.getfield 15, 3) := by decide +kernel
theorem dX0_perform_29 : decode cX0_perform 29 = .ok (.aload_n 0, 1) := by decide +kernel
theorem dX0_perform_30 : decode cX0_perform 30 = .ok (.getfield 21, 3) := by decide +kernel
theorem dX0_perform_33 : decode cX0_perform 33 = .ok (.iload_n 3, 1) := by decide +kernel
theorem dX0_perform_34 : decode cX0_perform 34 = .ok (.iastore, 1) := by decide +kernel
theorem dX0_perform_35 : decode cX0_perform 35 = .ok (.aload_n 0, 1) := by decide +kernel
theorem dX0_perform_36 : decode cX0_perform 36 = .ok (.getfield 18, 3) := by decide +kernel
theorem dX0_perform_39 : decode cX0_perform 39 = .ok (.aload_n 0, 1) := by decide +kernel
theorem dX0_perform_40 : decode cX0_perform 40 = .ok (.getfield 21, 3) := by decide +kernel
theorem dX0_perform_43 : decode cX0_perform 43 = .ok (.iload 4, 2) := by decide +kernel
theorem dX0_perform_45 : decode cX0_perform 45 = .ok (.iastore, 1) := by decide +kernel
theorem dX0_perform_46 : decode cX0_perform 46 = .ok (.aload_n 0, 1) := by decide +kernel
theorem dX0_perform_47 : decode cX0_perform 47 = .ok (.dup, 1) := by decide +kernel
theorem dX0_perform_48 : decode cX0_perform 48 = .ok (.getfield 21, 3) := by decide +kernel
theorem dX0_perform_51 : decode cX0_perform 51 = .ok (.iconst 1, 1) := by decide +kernel
theorem dX0_perform_52 : decode cX0_perform 52 = .ok (.iadd, 1) := by decide +kernel
theorem dX0_perform_53 : decode cX0_perform 53 = .ok (.putfield 21, 3) := by decide +kernel
theorem dX0_perform_56 : decode cX0_perform 56 = .ok (.aload_n 1, 1) := by decide +kernel
theorem dX0_perform_57 : decode cX0_perform 57 = .ok (.iload_n 2, 1) := by decide +kernel
theorem dX0_perform_58 : decode cX0_perform 58 = .ok (.iload_n 3, 1) := by decide +kernel
theorem dX0_perform_59 : decode cX0_perform 59 = .ok (.iload 4, 2) := by decide +kernel
theorem dX0_perform_61 : decode cX0_perform 61 = .ok (.invokestatic 29, 3) := by decide +kernel
theorem dX0_perform_64 : decode cX0_perform 64 = .ok (.return_, 1) := by decide +kernel
theorem dX0_takeBack_0 : decode cX0_takeBack 0 = .ok (.iconst 0, 1) := by decide +kernel
theorem dX0_takeBack_1 : decode cX0_takeBack 1 = .ok (.istore_n 3, 1) := by decide +kernel
theorem dX0_takeBack_2 : decode cX0_takeBack 2 = .ok (.aload_n 0, 1) := by decide +kernel
theorem dX0_takeBack_3 : decode cX0_takeBack 3 = .ok (.getfield 21, 3) := by decide +kernel
theorem dX0_takeBack_6 : decode cX0_takeBack 6 = .ok (.bipush 40, 2) := by decide +kernel
theorem dX0_takeBack_8 : decode cX0_takeBack 8 = .ok (.invokestatic 33, 3) := by decide +kernel
theorem dX0_takeBack_11 : decode cX0_takeBack 11 = .ok (.iconst 1, 1) := by decide +kernel
theorem dX0_takeBack_12 : decode cX0_takeBack 12 = .ok (.isub, 1) := by decide +kernel
theorem dX0_takeBack_13 : decode cX0_takeBack 13 = .ok (.istore 4, 2) := by decide +kernel
theorem dX0_takeBack_15 : decode cX0_takeBack 15 = .ok (.iload 4, 2) := by decide +kernel
theorem dX0_takeBack_17 : decode cX0_takeBack 17 = .ok (.iload_n 2, 1) := by decide +kernel
theorem dX0_takeBack_18 : decode cX0_takeBack 18 = .ok (.if_icmp .lt 44, 3) := by decide +kernel
theorem dX0_takeBack_21 : decode cX0_takeBack 21 = .ok (.iload 4, 2) := by decide +kernel
theorem dX0_takeBack_23 : decode cX0_takeBack 23 = .ok (.ifCond .lt 39, 3) := by decide +kernel
theorem dX0_takeBack_26 : decode cX0_takeBack 26 = .ok (.aload_n 1, 1) := by decide +kernel
theorem dX0_takeBack_27 : decode cX0_takeBack 27 = .ok (.aload_n 0, 1) := by decide +kernel
theorem dX0_takeBack_28 : decode cX0_takeBack 28 = .ok (.getfield 9, 3) := by decide +kernel
theorem dX0_takeBack_31 : decode cX0_takeBack 31 = .ok (.iload 4, 2) := by decide +kernel
theorem dX0_takeBack_33 : decode cX0_takeBack 33 = .ok (.iaload, 1) := by decide +kernel
theorem dX0_takeBack_34 : decode cX0_takeBack 34 = .ok (.aload_n 0, 1) := by decide +kernel
theorem dX0_takeBack_35 : decode cX0_takeBack 35 = .ok (.getfield 15, 3) := by decide +kernel
theorem dX0_takeBack_38 : decode cX0_takeBack 38 = .ok (.iload 4, 2) := by decide +kernel
theorem dX0_takeBack_40 : decode cX0_takeBack 40 = .ok (.iaload, 1) := by decide +kernel
theorem dX0_takeBack_41 : decode cX0_takeBack 41 = .ok (.ineg, 1) := by decide +kernel
theorem dX0_takeBack_42 : decode cX0_takeBack 42 = .ok (.aload_n 0, 1) := by decide +kernel
theorem dX0_takeBack_43 : decode cX0_takeBack 43 = .ok (.getfield 18, 3) := by decide +kernel
theorem dX0_takeBack_46 : decode cX0_takeBack 46 = .ok (.iload 4, 2) := by decide +kernel
theorem dX0_takeBack_48 : decode cX0_takeBack 48 = .ok (.iaload, 1) := by decide +kernel
theorem dX0_takeBack_49 : decode cX0_takeBack 49 = .ok (.ineg, 1) := by decide +kernel
theorem dX0_takeBack_50 : decode cX0_takeBack 50 = .ok (.invokestatic 29, 3) := by decide +kernel
theorem dX0_takeBack_53 : decode cX0_takeBack 53 = .ok (.iinc 3 1, 3) := by decide +kernel
theorem dX0_takeBack_56 : decode cX0_takeBack 56 = .ok (.iinc 4 (-1), 3) := by decide +kernel
theorem dX0_takeBack_59 : decode cX0_takeBack 59 = .ok (.goto (-44), 3) := by decide +kernel
theorem dX0_takeBack_62 : decode cX0_takeBack 62 = .ok (.aload_n 0, 1) := by decide +kernel
theorem dX0_takeBack_63 : decode cX0_takeBack 63 = .ok (.dup, 1) := by decide +kernel
theorem dX0_takeBack_64 : decode cX0_takeBack 64 = .ok (.getfield 21, 3) := by decide +kernel
theorem dX0_takeBack_67 : decode cX0_takeBack 67 = .ok (.iload_n 3, 1) := by decide +kernel
theorem dX0_takeBack_68 : decode cX0_takeBack 68 = .ok (.isub, 1) := by decide +kernel
theorem dX0_takeBack_69 : decode cX0_takeBack 69 = .ok (.putfield 21, 3) := by decide +kernel
theorem dX0_takeBack_72 : decode cX0_takeBack 72 = .ok (.iload_n 3, 1) := by decide +kernel
theorem dX0_takeBack_73 : decode cX0_takeBack 73 = .ok (.ireturn, 1) := by decide +kernel
theorem dX0_change_0 : decode cX0_change 0 = .ok (.iconst 0, 1) := by decide +kernel
theorem dX0_change_1 : decode cX0_change 1 = .ok (.istore 4, 2) := by decide +kernel
theorem dX0_change_3 : decode cX0_change 3 = .ok (.iload 4, 2) := by decide +kernel
theorem dX0_change_5 : decode cX0_change 5 = .ok (.bipush 16, 2) := by decide +kernel
theorem dX0_change_7 : decode cX0_change 7 = .ok (.if_icmp .ge 25, 3) := by decide +kernel
theorem dX0_change_10 : decode cX0_change 10 = .ok (.iload_n 1, 1) := by decide +kernel
theorem dX0_change_11 : decode cX0_change 11 = .ok (.iload 4, 2) := by decide +kernel
theorem dX0_change_13 : decode cX0_change 13 = .ok (.iushr, 1) := by decide +kernel
theorem dX0_change_14 : decode cX0_change 14 = .ok (.iconst 1, 1) := by decide +kernel
theorem dX0_change_15 : decode cX0_change 15 = .ok (.iand, 1) := by decide +kernel
theorem dX0_change_16 : decode cX0_change 16 = .ok (.ifCond .eq 10, 3) := by decide +kernel
theorem dX0_change_19 : decode cX0_change 19 = .ok (.aload_n 0, 1) := by decide +kernel
theorem dX0_change_20 : decode cX0_change 20 = .ok (.iload 4, 2) := by decide +kernel
theorem dX0_change_22 : decode cX0_change 22 = .ok (.iload_n 2, 1) := by decide +kernel
theorem dX0_change_23 : decode cX0_change 23 = .ok (.invokevirtual 39, 3) := by decide +kernel
theorem dX0_change_26 : decode cX0_change 26 = .ok (.iinc 4 1, 3) := by decide +kernel
theorem dX0_change_29 : decode cX0_change 29 = .ok (.goto (-26), 3) := by decide +kernel
theorem dX0_change_32 : decode cX0_change 32 = .ok (.aload_n 0, 1) := by decide +kernel
theorem dX0_change_33 : decode cX0_change 33 = .ok (.dup, 1) := by decide +kernel
theorem dX0_change_34 : decode cX0_change 34 = .ok (.getfield 45, 3) := by decide +kernel
theorem dX0_change_37 : decode cX0_change 37 = .ok (.iload_n 3, 1) := by decide +kernel
theorem dX0_change_38 : decode cX0_change 38 = .ok (.iadd, 1) := by decide +kernel
theorem dX0_change_39 : decode cX0_change 39 = .ok (.putfield 45, 3) := by decide +kernel
theorem dX0_change_42 : decode cX0_change 42 = .ok (.aload_n 0, 1) := by decide +kernel
theorem dX0_change_43 : decode cX0_change 43 = .ok (.invokevirtual 48, 3) := by decide +kernel
theorem dX0_change_46 : decode cX0_change 46 = .ok (.return_, 1) := by decide +kernel
theorem dX1_init_0 : decode cX1_init 0 = .ok (.aload_n 0, 1) := by decide +kernel
theorem dX1_init_1 : decode cX1_init 1 = .ok (.invokespecial 3, 3) := by decide +kernel
theorem dX1_init_4 : decode cX1_init 4 = .ok (.aload_n 0, 1) := by decide +kernel
theorem dX1_init_5 : decode cX1_init 5 = .ok (.bipush 16, 2) := by decide +kernel
theorem dX1_init_7 : decode cX1_init 7 = .ok (.newarray .int, 2) := by decide +kernel
theorem dX1_init_9 : decode cX1_init 9 = .ok (.putfield 9, 3) := by decide +kernel
theorem dX1_init_12 : decode cX1_init 12 = .ok (.aload_n 0, 1) := by decide +kernel
theorem dX1_init_13 : decode cX1_init 13 = .ok (.bipush 8, 2) := by decide +kernel
theorem dX1_init_15 : decode cX1_init 15 = .ok (.newarray .int, 2) := by decide +kernel
theorem dX1_init_17 : decode cX1_init 17 = .ok (.putfield 15, 3) := by decide +kernel
theorem dX1_init_20 : decode cX1_init 20 = .ok (.aload_n 0, 1) := by decide +kernel
theorem dX1_init_21 : decode cX1_init 21 = .ok (.aload_n 1, 1) := by decide +kernel
theorem dX1_init_22 : decode cX1_init 22 = .ok (.putfield 18, 3) := by decide +kernel
theorem dX1_init_25 : decode cX1_init 25 = .ok (.return_, 1) := by decide +kernel
theorem dX1_begin_0 : decode cX1_begin 0 = .ok (.aload_n 0, 1) := by decide +kernel
theorem dX1_begin_1 : decode cX1_begin 1 = .ok (.iconst 0, 1) := by decide +kernel
theorem dX1_begin_2 : decode cX1_begin 2 = .ok (.putfield 22, 3) := by decide +kernel
theorem dX1_begin_5 : decode cX1_begin 5 = .ok (.iconst 0, 1) := by decide +kernel
theorem dX1_begin_6 : decode cX1_begin 6 = .ok (.istore_n 2, 1) := by decide +kernel
theorem dX1_begin_7 : decode cX1_begin 7 = .ok (.iload_n 2, 1) := by decide +kernel
theorem dX1_begin_8 : decode cX1_begin 8 = .ok (.aload_n 0, 1) := by decide +kernel
theorem dX1_begin_9 : decode cX1_begin 9 = .ok (.getfield 9, 3) := by decide +kernel
theorem dX1_begin_12 : decode cX1_begin 12 = .ok (.arraylength, 1) := by decide +kernel
theorem dX1_begin_13 : decode cX1_begin 13 = .ok (.if_icmp .ge 56, 3) := by decide +kernel
theorem dX1_begin_16 : decode cX1_begin 16 = .ok (.aload_n 0, 1) := by decide +kernel
theorem dX1_begin_17 : decode cX1_begin 17 = .ok (.getfield 9, 3) := by decide +kernel
theorem dX1_begin_20 : decode cX1_begin 20 = .ok (.iload_n 2, 1) := by decide +kernel
theorem dX1_begin_21 : decode cX1_begin 21 = .ok (.iload_n 2, 1) := by decide +kernel
theorem dX1_begin_22 : decode cX1_begin 22 = .ok (.aload_n 0, 1) := by decide +kernel
theorem dX1_begin_23 : decode cX1_begin 23 = .ok (.getfield 18, 3) := by decide +kernel
theorem dX1_begin_26 : decode cX1_begin 26 = .ok (.getfield 26, 3) := by decide +kernel
theorem dX1_begin_29 : decode cX1_begin 29 = .ok (.if_icmp .ge 11, 3) := by decide +kernel
theorem dX1_begin_32 : decode cX1_begin 32 = .ok (.aload_n 1, 1) := by decide +kernel
theorem dX1_begin_33 : decode cX1_begin 33 = .ok (.iload_n 2, 1) := by decide +kernel
theorem dX1_begin_34 : decode cX1_begin 34 = .ok (.invokevirtual 31, 3) := by decide +kernel
theorem dX1_begin_37 : decode cX1_begin 37 = .ok (.goto 4, 3) := by decide +kernel
theorem dX1_begin_40 : decode cX1_begin 40 = .ok (.iconst 0, 1) := by decide +kernel
theorem dX1_begin_41 : decode cX1_begin 41 = .ok (.iastore, 1) := by decide +kernel
theorem dX1_begin_42 : decode cX1_begin 42 = .ok (.aload_n 0, 1) := by decide +kernel
theorem dX1_begin_43 : decode cX1_begin 43 = .ok (.getfield 9, 3) := by decide +kernel
theorem dX1_begin_46 : decode cX1_begin 46 = .ok (.iload_n 2, 1) := by decide +kernel
theorem dX1_begin_47 : decode cX1_begin 47 = .ok (.iaload, 1) := by decide +kernel
theorem dX1_begin_48 : decode cX1_begin 48 = .ok (.ifCond .le 15, 3) := by decide +kernel
theorem dX1_begin_51 : decode cX1_begin 51 = .ok (.aload_n 0, 1) := by decide +kernel
theorem dX1_begin_52 : decode cX1_begin 52 = .ok (.dup, 1) := by decide +kernel
theorem dX1_begin_53 : decode cX1_begin 53 = .ok (.getfield 22, 3) := by decide +kernel
theorem dX1_begin_56 : decode cX1_begin 56 = .ok (.iconst 1, 1) := by decide +kernel
theorem dX1_begin_57 : decode cX1_begin 57 = .ok (.iload_n 2, 1) := by decide +kernel
theorem dX1_begin_58 : decode cX1_begin 58 = .ok (.ishl, 1) := by decide +kernel
theorem dX1_begin_59 : decode cX1_begin 59 = .ok (.ior, 1) := by decide +kernel
theorem dX1_begin_60 : decode cX1_begin 60 = .ok (.putfield 22, 3) := by decide +kernel
theorem dX1_begin_63 : decode cX1_begin 63 = .ok (.iinc 2 1, 3) := by decide +kernel
theorem dX1_begin_66 : decode cX1_begin 66 = .ok (.goto (-59), 3) := by decide +kernel
theorem dX1_begin_69 : decode cX1_begin 69 = .ok (.aload_n 0, 1) := by decide +kernel
theorem dX1_begin_70 : decode cX1_begin 70 = .ok (.iconst 0, 1) := by decide +kernel
theorem dX1_begin_71 : decode cX1_begin 71 = .ok (.putfield 37, 3) := by decide +kernel
theorem dX1_begin_74 : decode cX1_begin 74 = .ok (.aload_n 0, 1) := by decide +kernel
theorem dX1_begin_75 : decode cX1_begin 75 = .ok (.iconst 1, 1) := by decide +kernel
theorem dX1_begin_76 : decode cX1_begin 76 = .ok (.putfield 40, 3) := by decide +kernel
theorem dX1_begin_79 : decode cX1_begin 79 = .ok (.aload_n 0, 1) := by decide +kernel
theorem dX1_begin_80 : decode cX1_begin 80 = .ok (.iconst (-1), 1) := by decide +kernel
theorem dX1_begin_81 : decode cX1_begin 81 = .ok (.putfield 44, 3) := by decide +kernel
theorem dX1_begin_84 : decode cX1_begin 84 = .ok (.aload_n 0, 1) := by decide +kernel
theorem dX1_begin_85 : decode cX1_begin 85 = .ok (.invokevirtual 47, 3) := by decide +kernel
theorem dX1_begin_88 : decode cX1_begin 88 = .ok (.return_, 1) := by decide +kernel
theorem dX1_become_0 : decode cX1_become 0 = .ok (.aload_n 1, 1) := by decide +kernel
theorem dX1_become_1 : decode cX1_become 1 = .ok (.getfield 9, 3) := by decide +kernel
theorem dX1_become_4 : decode cX1_become 4 = .ok (.iconst 0, 1) := by decide +kernel
theorem dX1_become_5 : decode cX1_become 5 = .ok (.aload_n 0, 1) := by decide +kernel
theorem dX1_become_6 : decode cX1_become 6 = .ok (.getfield 9, 3) := by decide +kernel
theorem dX1_become_9 : decode cX1_become 9 = .ok (.iconst 0, 1) := by decide +kernel
theorem dX1_become_10 : decode cX1_become 10 = .ok (.bipush 16, 2) := by decide +kernel
theorem dX1_become_12 : decode cX1_become 12 = .ok (.invokestatic 50, 3) := by decide +kernel
theorem dX1_become_15 : decode cX1_become 15 = .ok (.aload_n 1, 1) := by decide +kernel
theorem dX1_become_16 : decode cX1_become 16 = .ok (.getfield 15, 3) := by decide +kernel
theorem dX1_become_19 : decode cX1_become 19 = .ok (.iconst 0, 1) := by decide +kernel
theorem dX1_become_20 : decode cX1_become 20 = .ok (.aload_n 0, 1) := by decide +kernel
theorem dX1_become_21 : decode cX1_become 21 = .ok (.getfield 15, 3) := by decide +kernel
theorem dX1_become_24 : decode cX1_become 24 = .ok (.iconst 0, 1) := by decide +kernel
theorem dX1_become_25 : decode cX1_become 25 = .ok (.bipush 8, 2) := by decide +kernel
theorem dX1_become_27 : decode cX1_become 27 = .ok (.invokestatic 50, 3) := by decide +kernel
theorem dX1_become_30 : decode cX1_become 30 = .ok (.aload_n 0, 1) := by decide +kernel
theorem dX1_become_31 : decode cX1_become 31 = .ok (.aload_n 1, 1) := by decide +kernel
theorem dX1_become_32 : decode cX1_become 32 = .ok (.getfield 56, 3) := by decide +kernel
theorem dX1_become_35 : decode cX1_become 35 = .ok (.putfield 56, 3) := by decide +kernel
theorem dX1_become_38 : decode cX1_become 38 = .ok (.aload_n 0, 1) := by decide +kernel
theorem dX1_become_39 : decode cX1_become 39 = .ok (.aload_n 1, 1) := by decide +kernel
theorem dX1_become_40 : decode cX1_become 40 = .ok (.getfield 22, 3) := by decide +kernel
theorem dX1_become_43 : decode cX1_become 43 = .ok (.putfield 22, 3) := by decide +kernel
theorem dX1_become_46 : decode cX1_become 46 = .ok (.aload_n 0, 1) := by decide +kernel
theorem dX1_become_47 : decode cX1_become 47 = .ok (.aload_n 1, 1) := by decide +kernel
theorem dX1_become_48 : decode cX1_become 48 = .ok (.getfield 44, 3) := by decide +kernel
theorem dX1_become_51 : decode cX1_become 51 = .ok (.putfield 44, 3) := by decide +kernel
theorem dX1_become_54 : decode cX1_become 54 = .ok (.aload_n 0, 1) := by decide +kernel
theorem dX1_become_55 : decode cX1_become 55 = .ok (.aload_n 1, 1) := by decide +kernel
theorem dX1_become_56 : decode cX1_become 56 = .ok (.getfield 37, 3) := by decide +kernel
theorem dX1_become_59 : decode cX1_become 59 = .ok (.putfield 37, 3) := by decide +kernel
theorem dX1_become_62 : decode cX1_become 62 = .ok (.aload_n 0, 1) := by decide +kernel
theorem dX1_become_63 : decode cX1_become 63 = .ok (.aload_n 1, 1) := by decide +kernel
theorem dX1_become_64 : decode cX1_become 64 = .ok (.getfield 40, 3) := by decide +kernel
theorem dX1_become_67 : decode cX1_become 67 = .ok (.putfield 40, 3) := by decide +kernel
theorem dX1_become_70 : decode cX1_become 70 = .ok (.return_, 1) := by decide +kernel
theorem dX1_go_0 : decode cX1_go 0 = .ok (.aload_n 0, 1) := by decide +kernel
theorem dX1_go_1 : decode cX1_go 1 = .ok (.iconst 0, 1) := by decide +kernel
theorem dX1_go_2 : decode cX1_go 2 = .ok (.putfield 40, 3) := by decide +kernel
theorem dX1_go_5 : decode cX1_go 5 = .ok (.return_, 1) := by decide +kernel
theorem dX1_has_0 : decode cX1_has 0 = .ok (.iload_n 1, 1) := by decide +kernel
theorem dX1_has_1 : decode cX1_has 1 = .ok (.ifCond .lt 15, 3) := by decide +kernel
theorem dX1_has_4 : decode cX1_has 4 = .ok (.iload_n 1, 1) := by decide +kernel
theorem dX1_has_5 : decode cX1_has 5 = .ok (.aload_n 0, 1) := by decide +kernel
theorem dX1_has_6 : decode cX1_has 6 = .ok (.getfield 56, 3) := by decide +kernel
theorem dX1_has_9 : decode cX1_has 9 = .ok (.if_icmp .ge 7, 3) := by decide +kernel
theorem dX1_has_12 : decode cX1_has 12 = .ok (.iconst 1, 1) := by decide +kernel
theorem dX1_has_13 : decode cX1_has 13 = .ok (.goto 4, 3) := by decide +kernel
theorem dX1_has_16 : decode cX1_has 16 = .ok (.iconst 0, 1) := by decide +kernel
theorem dX1_has_17 : decode cX1_has 17 = .ok (.ireturn, 1) := by decide +kernel
theorem dX1_bitsOf_0 : decode cX1_bitsOf 0 = .ok (.iload_n 1, 1) := by decide +kernel
theorem dX1_bitsOf_1 : decode cX1_bitsOf 1 = .ok (.ifCond .lt 29, 3) := by decide +kernel
theorem dX1_bitsOf_4 : decode cX1_bitsOf 4 = .ok (.iload_n 1, 1) := by decide +kernel
theorem dX1_bitsOf_5 : decode cX1_bitsOf 5 = .ok (.aload_n 0, 1) := by decide +kernel
theorem dX1_bitsOf_6 : decode cX1_bitsOf 6 = .ok (.getfield 56, 3) := by decide +kernel
theorem dX1_bitsOf_9 : decode cX1_bitsOf 9 = .ok (.if_icmp .ge 21, 3) := by decide +kernel
theorem dX1_bitsOf_12 : decode cX1_bitsOf 12 = .ok (.iload_n 1, 1) := by decide +kernel
theorem dX1_bitsOf_13 : decode cX1_bitsOf 13 = .ok (.aload_n 0, 1) := by decide +kernel
theorem dX1_bitsOf_14 : decode cX1_bitsOf 14 = .ok (.getfield 15, 3) := by decide +kernel
theorem dX1_bitsOf_17 : decode cX1_bitsOf 17 = .ok (.arraylength, 1) := by decide +kernel
theorem dX1_bitsOf_18 : decode cX1_bitsOf 18 = .ok (.if_icmp .ge 12, 3) := by decide +kernel
theorem dX1_bitsOf_21 : decode cX1_bitsOf 21 = .ok (.aload_n 0, 1) := by decide +kernel
theorem dX1_bitsOf_22 : decode cX1_bitsOf 22 = .ok (.getfield 15, 3) := by decide +kernel
theorem dX1_bitsOf_25 : decode cX1_bitsOf 25 = .ok (.iload_n 1, 1) := by decide +kernel
theorem dX1_bitsOf_26 : decode cX1_bitsOf 26 = .ok (.iaload, 1) := by decide +kernel
theorem dX1_bitsOf_27 : decode cX1_bitsOf 27 = .ok (.goto 4, 3) := by decide +kernel
theorem dX1_bitsOf_30 : decode cX1_bitsOf 30 = .ok (.iconst 0, 1) := by decide +kernel
theorem dX1_bitsOf_31 : decode cX1_bitsOf 31 = .ok (.ireturn, 1) := by decide +kernel
theorem dX1_depthAt_0 : decode cX1_depthAt 0 = .ok (.iload_n 1, 1) := by decide +kernel
theorem dX1_depthAt_1 : decode cX1_depthAt 1 = .ok (.ifCond .lt 21, 3) := by decide +kernel
theorem dX1_depthAt_4 : decode cX1_depthAt 4 = .ok (.iload_n 1, 1) := by decide +kernel
theorem dX1_depthAt_5 : decode cX1_depthAt 5 = .ok (.aload_n 0, 1) := by decide +kernel
theorem dX1_depthAt_6 : decode cX1_depthAt 6 = .ok (.getfield 9, 3) := by decide +kernel
theorem dX1_depthAt_9 : decode cX1_depthAt 9 = .ok (.arraylength, 1) := by decide +kernel
theorem dX1_depthAt_10 : decode cX1_depthAt 10 = .ok (.if_icmp .ge 12, 3) := by decide +kernel
theorem dX1_depthAt_13 : decode cX1_depthAt 13 = .ok (.aload_n 0, 1) := by decide +kernel
theorem dX1_depthAt_14 : decode cX1_depthAt 14 = .ok (.getfield 9, 3) := by decide +kernel
theorem dX1_depthAt_17 : decode cX1_depthAt 17 = .ok (.iload_n 1, 1) := by decide +kernel
theorem dX1_depthAt_18 : decode cX1_depthAt 18 = .ok (.iaload, 1) := by decide +kernel
theorem dX1_depthAt_19 : decode cX1_depthAt 19 = .ok (.goto 4, 3) := by decide +kernel
theorem dX1_depthAt_22 : decode cX1_depthAt 22 = .ok (.iconst 0, 1) := by decide +kernel
theorem dX1_depthAt_23 : decode cX1_depthAt 23 = .ok (.ireturn, 1) := by decide +kernel
theorem dX1_bears_0 : decode cX1_bears 0 = .ok (.aload_n 0, 1) := by decide +kernel
theorem dX1_bears_1 : decode cX1_bears 1 = .ok (.iload_n 1, 1) := by decide +kernel
theorem dX1_bears_2 : decode cX1_bears 2 = .ok (.invokevirtual 59, 3) := by decide +kernel
theorem dX1_bears_5 : decode cX1_bears 5 = .ok (.iload_n 2, 1) := by decide +kernel
theorem dX1_bears_6 : decode cX1_bears 6 = .ok (.iadd, 1) := by decide +kernel
theorem dX1_bears_7 : decode cX1_bears 7 = .ok (.istore_n 3, 1) := by decide +kernel
theorem dX1_bears_8 : decode cX1_bears 8 = .ok (.iload_n 3, 1) := by decide +kernel
theorem dX1_bears_9 : decode cX1_bears 9 = .ok (.ifCond .lt 12, 3) := by decide +kernel
theorem dX1_bears_12 : decode cX1_bears 12 = .ok (.iload_n 3, 1) := by decide +kernel
theorem dX1_bears_13 : decode cX1_bears 13 = .ok (.iconst 5, 1) := by decide +kernel
theorem dX1_bears_14 : decode cX1_bears 14 = .ok (.if_icmp .gt 7, 3) := by decide +kernel
theorem dX1_bears_17 : decode cX1_bears 17 = .ok (.iconst 1, 1) := by decide +kernel
theorem dX1_bears_18 : decode cX1_bears 18 = .ok (.goto 4, 3) := by decide +kernel
theorem dX1_bears_21 : decode cX1_bears 21 = .ok (.iconst 0, 1) := by decide +kernel
theorem dX1_bears_22 : decode cX1_bears 22 = .ok (.ireturn, 1) := by decide +kernel
theorem dX1_deepen_0 : decode cX1_deepen 0 = .ok (.iload_n 1, 1) := by decide +kernel
theorem dX1_deepen_1 : decode cX1_deepen 1 = .ok (.ifCond .lt 12, 3) := by decide +kernel
theorem dX1_deepen_4 : decode cX1_deepen 4 = .ok (.iload_n 1, 1) := by decide +kernel
theorem dX1_deepen_5 : decode cX1_deepen 5 = .ok (.aload_n 0, 1) := by decide +kernel
theorem dX1_deepen_6 : decode cX1_deepen 6 = .ok (.getfield 9, 3) := by decide +kernel
theorem dX1_deepen_9 : decode cX1_deepen 9 = .ok (.arraylength, 1) := by decide +kernel
theorem dX1_deepen_10 : decode cX1_deepen 10 = .ok (.if_icmp .lt 4, 3) := by decide +kernel
theorem dX1_deepen_13 : decode cX1_deepen 13 = .ok (.return_, 1) := by decide +kernel
theorem dX1_deepen_14 : decode cX1_deepen 14 = .ok (.aload_n 0, 1) := by decide +kernel
theorem dX1_deepen_15 : decode cX1_deepen 15 = .ok (.getfield 9, 3) := by decide +kernel
theorem dX1_deepen_18 : decode cX1_deepen 18 = .ok (.iload_n 1, 1) := by decide +kernel
theorem dX1_deepen_19 : decode cX1_deepen 19 = .ok (.dup2, 1) := by decide +kernel
theorem dX1_deepen_20 : decode cX1_deepen 20 = .ok (.iaload, 1) := by decide +kernel
theorem dX1_deepen_21 : decode cX1_deepen 21 = .ok (.iload_n 2, 1) := by decide +kernel
theorem dX1_deepen_22 : decode cX1_deepen 22 = .ok (.iadd, 1) := by decide +kernel
theorem dX1_deepen_23 : decode cX1_deepen 23 = .ok (.iastore, 1) := by decide +kernel
theorem dX1_deepen_24 : decode cX1_deepen 24 = .ok (.aload_n 0, 1) := by decide +kernel
theorem dX1_deepen_25 : decode cX1_deepen 25 = .ok (.getfield 9, 3) := by decide +kernel
theorem dX1_deepen_28 : decode cX1_deepen 28 = .ok (.iload_n 1, 1) := by decide +kernel
theorem dX1_deepen_29 : decode cX1_deepen 29 = .ok (.iaload, 1) := by decide +kernel
theorem dX1_deepen_30 : decode cX1_deepen 30 = .ok (.ifCond .le 18, 3) := by decide +kernel
theorem dX1_deepen_33 : decode cX1_deepen 33 = .ok (.aload_n 0, 1) := by decide +kernel
theorem dX1_deepen_34 : decode cX1_deepen 34 = .ok (.dup, 1) := by decide +kernel
theorem dX1_deepen_35 : decode cX1_deepen 35 = .ok (.getfield 22, 3) := by decide +kernel
theorem dX1_deepen_38 : decode cX1_deepen 38 = .ok (.iconst 1, 1) := by decide +kernel
theorem dX1_deepen_39 : decode cX1_deepen 39 = .ok (.iload_n 1, 1) := by decide +kernel
theorem dX1_deepen_40 : decode cX1_deepen 40 = .ok (.ishl, 1) := by decide +kernel
theorem dX1_deepen_41 : decode cX1_deepen 41 = .ok (.ior, 1) := by decide +kernel
theorem dX1_deepen_42 : decode cX1_deepen 42 = .ok (.putfield 22, 3) := by decide +kernel
theorem dX1_deepen_45 : decode cX1_deepen 45 = .ok (.goto 17, 3) := by decide +kernel
theorem dX1_deepen_48 : decode cX1_deepen 48 = .ok (.aload_n 0, 1) := by decide +kernel
theorem dX1_deepen_49 : decode cX1_deepen 49 = .ok (.dup, 1) := by decide +kernel
theorem dX1_deepen_50 : decode cX1_deepen 50 = .ok (.getfield 22, 3) := by decide +kernel
theorem dX1_deepen_53 : decode cX1_deepen 53 = .ok (.iconst 1, 1) := by decide +kernel
theorem dX1_deepen_54 : decode cX1_deepen 54 = .ok (.iload_n 1, 1) := by decide +kernel
theorem dX1_deepen_55 : decode cX1_deepen 55 = .ok (.ishl, 1) := by decide +kernel
theorem dX1_deepen_56 : decode cX1_deepen 56 = .ok (.iconst (-1), 1) := by decide +kernel
theorem dX1_deepen_57 : decode cX1_deepen 57 = .ok (.ixor, 1) := by decide +kernel
theorem dX1_deepen_58 : decode cX1_deepen 58 = .ok (.iand, 1) := by decide +kernel
theorem dX1_deepen_59 : decode cX1_deepen 59 = .ok (.putfield 22, 3) := by decide +kernel
theorem dX1_deepen_62 : decode cX1_deepen 62 = .ok (.return_, 1) := by decide +kernel
theorem dX1_survey_0 : decode cX1_survey 0 = .ok (.aload_n 0, 1) := by decide +kernel
theorem dX1_survey_1 : decode cX1_survey 1 = .ok (.getfield 22, 3) := by decide +kernel
theorem dX1_survey_4 : decode cX1_survey 4 = .ok (.aload_n 0, 1) := by decide +kernel
theorem dX1_survey_5 : decode cX1_survey 5 = .ok (.getfield 44, 3) := by decide +kernel
theorem dX1_survey_8 : decode cX1_survey 8 = .ok (.if_icmp .ne 4, 3) := by decide +kernel
theorem dX1_survey_11 : decode cX1_survey 11 = .ok (.return_, 1) := by decide +kernel
theorem dX1_survey_12 : decode cX1_survey 12 = .ok (.aload_n 0, 1) := by decide +kernel
theorem dX1_survey_13 : decode cX1_survey 13 = .ok (.aload_n 0, 1) := by decide +kernel
theorem dX1_survey_14 : decode cX1_survey 14 = .ok (.getfield 22, 3) := by decide +kernel
theorem dX1_survey_17 : decode cX1_survey 17 = .ok (.putfield 44, 3) := by decide +kernel
theorem dX1_survey_20 : decode cX1_survey 20 = .ok (.aload_n 0, 1) := by decide +kernel
theorem dX1_survey_21 : decode cX1_survey 21 = .ok (.iconst 0, 1) := by decide +kernel
theorem dX1_survey_22 : decode cX1_survey 22 = .ok (.putfield 56, 3) := by decide +kernel
theorem dX1_survey_25 : decode cX1_survey 25 = .ok (.aload_n 0, 1) := by decide +kernel
theorem dX1_survey_26 : decode cX1_survey 26 = .ok (.getfield 22, 3) := by decide +kernel
theorem dX1_survey_29 : decode cX1_survey 29 = .ok (.istore_n 1, 1) := by decide +kernel
theorem dX1_survey_30 : decode cX1_survey 30 = .ok (.iconst 0, 1) := by decide +kernel
theorem dX1_survey_31 : decode cX1_survey 31 = .ok (.istore_n 2, 1) := by decide +kernel
theorem dX1_survey_32 : decode cX1_survey 32 = .ok (.iload_n 2, 1) := by decide +kernel
theorem dX1_survey_33 : decode cX1_survey 33 = .ok (.aload_n 0, 1) := by decide +kernel
theorem dX1_survey_34 : decode cX1_survey 34 = .ok (.getfield 15, 3) := by decide +kernel
theorem dX1_survey_37 : decode cX1_survey 37 = .ok (.arraylength, 1) := by decide +kernel
theorem dX1_survey_38 : decode cX1_survey 38 = .ok (.if_icmp .ge 49, 3) := by decide +kernel
theorem dX1_survey_41 : decode cX1_survey 41 = .ok (.iload_n 1, 1) := by decide +kernel
theorem dX1_survey_42 : decode cX1_survey 42 = .ok (.ifCond .eq 45, 3) := by decide +kernel
theorem dX1_survey_45 : decode cX1_survey 45 = .ok (.aload_n 0, 1) := by decide +kernel
theorem dX1_survey_46 : decode cX1_survey 46 = .ok (.getfield 15, 3) := by decide +kernel
theorem dX1_survey_49 : decode cX1_survey 49 = .ok (.iload_n 2, 1) := by decide +kernel
theorem dX1_survey_50 : decode cX1_survey 50 = .ok (.aload_n 0, 1) := by decide +kernel
theorem dX1_survey_51 : decode cX1_survey 51 = .ok (.getfield 18, 3) := by decide +kernel
theorem dX1_survey_54 : decode cX1_survey 54 = .ok (.iload_n 1, 1) := by decide +kernel
theorem dX1_survey_55 : decode cX1_survey 55 = .ok (.iload_n 1, 1) := by decide +kernel
theorem dX1_survey_56 : decode cX1_survey 56 = .ok (.ineg, 1) := by decide +kernel
theorem dX1_survey_57 : decode cX1_survey 57 = .ok (.iand, 1) := by decide +kernel
theorem dX1_survey_58 : decode cX1_survey 58 = .ok (.iload_n 1, 1) := by decide +kernel
theorem dX1_survey_59 : decode cX1_survey 59 = .ok (.invokevirtual 60, 3) := by decide +kernel
theorem dX1_survey_62 : decode cX1_survey 62 = .ok (.iastore, 1) := by decide +kernel
theorem dX1_survey_63 : decode cX1_survey 63 = .ok (.iload_n 1, 1) := by decide +kernel
theorem dX1_survey_64 : decode cX1_survey 64 = .ok (.aload_n 0, 1) := by decide +kernel
theorem dX1_survey_65 : decode cX1_survey 65 = .ok (.getfield 15, 3) := by decide +kernel
theorem dX1_survey_68 : decode cX1_survey 68 = .ok (.iload_n 2, 1) := by decide +kernel
theorem dX1_survey_69 : decode cX1_survey 69 = .ok (.iaload, 1) := by decide +kernel
theorem dX1_survey_70 : decode cX1_survey 70 = .ok (.iconst (-1), 1) := by decide +kernel
theorem dX1_survey_71 : decode cX1_survey 71 = .ok (.ixor, 1) := by decide +kernel
theorem dX1_survey_72 : decode cX1_survey 72 = .ok (.iand, 1) := by decide +kernel
theorem dX1_survey_73 : decode cX1_survey 73 = .ok (.istore_n 1, 1) := by decide +kernel
theorem dX1_survey_74 : decode cX1_survey 74 = .ok (.aload_n 0, 1) := by decide +kernel
theorem dX1_survey_75 : decode cX1_survey 75 = .ok (.iload_n 2, 1) := by decide +kernel
theorem dX1_survey_76 : decode cX1_survey 76 = .ok (.iconst 1, 1) := by decide +kernel
theorem dX1_survey_77 : decode cX1_survey 77 = .ok (.iadd, 1) := by decide +kernel
theorem dX1_survey_78 : decode cX1_survey 78 = .ok (.putfield 56, 3) := by decide +kernel
theorem dX1_survey_81 : decode cX1_survey 81 = .ok (.iinc 2 1, 3) := by decide +kernel
theorem dX1_survey_84 : decode cX1_survey 84 = .ok (.goto (-52), 3) := by decide +kernel
theorem dX1_survey_87 : decode cX1_survey 87 = .ok (.return_, 1) := by decide +kernel
theorem dX1_holeAt_0 : decode cX1_holeAt 0 = .ok (.iconst 0, 1) := by decide +kernel
theorem dX1_holeAt_1 : decode cX1_holeAt 1 = .ok (.istore_n 2, 1) := by decide +kernel
theorem dX1_holeAt_2 : decode cX1_holeAt 2 = .ok (.iload_n 2, 1) := by decide +kernel
theorem dX1_holeAt_3 : decode cX1_holeAt 3 = .ok (.aload_n 0, 1) := by decide +kernel
theorem dX1_holeAt_4 : decode cX1_holeAt 4 = .ok (.getfield 56, 3) := by decide +kernel
theorem dX1_holeAt_7 : decode cX1_holeAt 7 = .ok (.if_icmp .ge 23, 3) := by decide +kernel
theorem dX1_holeAt_10 : decode cX1_holeAt 10 = .ok (.aload_n 0, 1) := by decide +kernel
theorem dX1_holeAt_11 : decode cX1_holeAt 11 = .ok (.iload_n 2, 1) := by decide +kernel
theorem dX1_holeAt_12 : decode cX1_holeAt 12 = .ok (.invokevirtual 64, 3) := by decide +kernel
theorem dX1_holeAt_15 : decode cX1_holeAt 15 = .ok (.iload_n 1, 1) := by decide +kernel
theorem dX1_holeAt_16 : decode cX1_holeAt 16 = .ok (.iushr, 1) := by decide +kernel
theorem dX1_holeAt_17 : decode cX1_holeAt 17 = .ok (.iconst 1, 1) := by decide +kernel
theorem dX1_holeAt_18 : decode cX1_holeAt 18 = .ok (.iand, 1) := by decide +kernel
theorem dX1_holeAt_19 : decode cX1_holeAt 19 = .ok (.ifCond .eq 5, 3) := by decide +kernel
theorem dX1_holeAt_22 : decode cX1_holeAt 22 = .ok (.iload_n 2, 1) := by decide +kernel
theorem dX1_holeAt_23 : decode cX1_holeAt 23 = .ok (.ireturn, 1) := by decide +kernel
theorem dX1_holeAt_24 : decode cX1_holeAt 24 = .ok (.iinc 2 1, 3) := by decide +kernel
theorem dX1_holeAt_27 : decode cX1_holeAt 27 = .ok (.goto (-25), 3) := by decide +kernel
theorem dX1_holeAt_30 : decode cX1_holeAt 30 = .ok (.bipush (-9), 2) := by decide +kernel
theorem dX1_holeAt_32 : decode cX1_holeAt 32 = .ok (.ireturn, 1) := by decide +kernel
theorem dX1_volumeOf_0 : decode cX1_volumeOf 0 = .ok (.iconst 0, 1) := by decide +kernel
theorem dX1_volumeOf_1 : decode cX1_volumeOf 1 = .ok (.istore_n 2, 1) := by decide +kernel
theorem dX1_volumeOf_2 : decode cX1_volumeOf 2 = .ok (.iconst 0, 1) := by decide +kernel
theorem dX1_volumeOf_3 : decode cX1_volumeOf 3 = .ok (.istore_n 3, 1) := by decide +kernel
theorem dX1_volumeOf_4 : decode cX1_volumeOf 4 = .ok (.iload_n 3, 1) := by decide +kernel
theorem dX1_volumeOf_5 : decode cX1_volumeOf 5 = .ok (.aload_n 0, 1) := by decide +kernel
theorem dX1_volumeOf_6 : decode cX1_volumeOf 6 = .ok (.getfield 9, 3) := by decide +kernel
theorem dX1_volumeOf_9 : decode cX1_volumeOf 9 = .ok (.arraylength, 1) := by decide +kernel
theorem dX1_volumeOf_10 : decode cX1_volumeOf 10 = .ok (.if_icmp .ge 26, 3) := by decide +kernel
theorem dX1_volumeOf_13 : decode cX1_volumeOf 13 = .ok (.iload_n 1, 1) := by decide +kernel
theorem dX1_volumeOf_14 : decode cX1_volumeOf 14 = .ok (.iload_n 3, 1) := by decide +kernel
theorem dX1_volumeOf_15 : decode cX1_volumeOf 15 = .ok (.iushr, 1) := by decide +kernel
theorem dX1_volumeOf_16 : decode cX1_volumeOf 16 = .ok (.iconst 1, 1) := by decide +kernel
theorem dX1_volumeOf_17 : decode cX1_volumeOf 17 = .ok (.iand, 1) := by decide +kernel
theorem dX1_volumeOf_18 : decode cX1_volumeOf 18 = .ok (.ifCond .eq 12, 3) := by decide +kernel
theorem dX1_volumeOf_21 : decode cX1_volumeOf 21 = .ok (.iload_n 2, 1) := by decide +kernel
theorem dX1_volumeOf_22 : decode cX1_volumeOf 22 = .ok (.aload_n 0, 1) := by decide +kernel
theorem dX1_volumeOf_23 : decode cX1_volumeOf 23 = .ok (.getfield 9, 3) := by decide +kernel
theorem dX1_volumeOf_26 : decode cX1_volumeOf 26 = .ok (.iload_n 3, 1) := by decide +kernel
theorem dX1_volumeOf_27 : decode cX1_volumeOf 27 = .ok (.iaload, 1) := by decide +kernel
theorem dX1_volumeOf_28 : decode cX1_volumeOf 28 = .ok (.iadd, 1) := by decide +kernel
theorem dX1_volumeOf_29 : decode cX1_volumeOf 29 = .ok (.istore_n 2, 1) := by decide +kernel
theorem dX1_volumeOf_30 : decode cX1_volumeOf 30 = .ok (.iinc 3 1, 3) := by decide +kernel
theorem dX1_volumeOf_33 : decode cX1_volumeOf 33 = .ok (.goto (-29), 3) := by decide +kernel
theorem dX1_volumeOf_36 : decode cX1_volumeOf 36 = .ok (.iload_n 2, 1) := by decide +kernel
theorem dX1_volumeOf_37 : decode cX1_volumeOf 37 = .ok (.ireturn, 1) := by decide +kernel
theorem dX1_bottomOf_0 : decode cX1_bottomOf 0 = .ok (.iconst 0, 1) := by decide +kernel
theorem dX1_bottomOf_1 : decode cX1_bottomOf 1 = .ok (.istore_n 2, 1) := by decide +kernel
theorem dX1_bottomOf_2 : decode cX1_bottomOf 2 = .ok (.iconst 0, 1) := by decide +kernel
theorem dX1_bottomOf_3 : decode cX1_bottomOf 3 = .ok (.istore_n 3, 1) := by decide +kernel
theorem dX1_bottomOf_4 : decode cX1_bottomOf 4 = .ok (.iload_n 3, 1) := by decide +kernel
theorem dX1_bottomOf_5 : decode cX1_bottomOf 5 = .ok (.aload_n 0, 1) := by decide +kernel
theorem dX1_bottomOf_6 : decode cX1_bottomOf 6 = .ok (.getfield 9, 3) := by decide +kernel
theorem dX1_bottomOf_9 : decode cX1_bottomOf 9 = .ok (.arraylength, 1) := by decide +kernel
theorem dX1_bottomOf_10 : decode cX1_bottomOf 10 = .ok (.if_icmp .ge 28, 3) := by decide +kernel
theorem dX1_bottomOf_13 : decode cX1_bottomOf 13 = .ok (.iload_n 1, 1) := by decide +kernel
theorem dX1_bottomOf_14 : decode cX1_bottomOf 14 = .ok (.iload_n 3, 1) := by decide +kernel
theorem dX1_bottomOf_15 : decode cX1_bottomOf 15 = .ok (.iushr, 1) := by decide +kernel
theorem dX1_bottomOf_16 : decode cX1_bottomOf 16 = .ok (.iconst 1, 1) := by decide +kernel
theorem dX1_bottomOf_17 : decode cX1_bottomOf 17 = .ok (.iand, 1) := by decide +kernel
theorem dX1_bottomOf_18 : decode cX1_bottomOf 18 = .ok (.ifCond .eq 14, 3) := by decide +kernel
theorem dX1_bottomOf_21 : decode cX1_bottomOf 21 = .ok (.iload_n 2, 1) := by decide +kernel
theorem dX1_bottomOf_22 : decode cX1_bottomOf 22 = .ok (.aload_n 0, 1) := by decide +kernel
theorem dX1_bottomOf_23 : decode cX1_bottomOf 23 = .ok (.getfield 9, 3) := by decide +kernel
theorem dX1_bottomOf_26 : decode cX1_bottomOf 26 = .ok (.iload_n 3, 1) := by decide +kernel
theorem dX1_bottomOf_27 : decode cX1_bottomOf 27 = .ok (.iaload, 1) := by decide +kernel
theorem dX1_bottomOf_28 : decode cX1_bottomOf 28 = .ok (.invokestatic 67, 3) := by decide +kernel
theorem dX1_bottomOf_31 : decode cX1_bottomOf 31 = .ok (.istore_n 2, 1) := by decide +kernel
theorem dX1_bottomOf_32 : decode cX1_bottomOf 32 = .ok (.iinc 3 1, 3) := by decide +kernel
theorem dX1_bottomOf_35 : decode cX1_bottomOf 35 = .ok (.goto (-31), 3) := by decide +kernel
theorem dX1_bottomOf_38 : decode cX1_bottomOf 38 = .ok (.iload_n 2, 1) := by decide +kernel
theorem dX1_bottomOf_39 : decode cX1_bottomOf 39 = .ok (.ireturn, 1) := by decide +kernel
theorem dX1_largestHole_0 : decode cX1_largestHole 0 = .ok (.iconst 0, 1) := by decide +kernel
theorem dX1_largestHole_1 : decode cX1_largestHole 1 = .ok (.istore_n 1, 1) := by decide +kernel
theorem dX1_largestHole_2 : decode cX1_largestHole 2 = .ok (.iconst 0, 1) := by decide +kernel
theorem dX1_largestHole_3 : decode cX1_largestHole 3 = .ok (.istore_n 2, 1) := by decide +kernel
theorem dX1_largestHole_4 : decode cX1_largestHole 4 = .ok (.iload_n 2, 1) := by decide +kernel
theorem dX1_largestHole_5 : decode cX1_largestHole 5 = .ok (.aload_n 0, 1) := by decide +kernel
theorem dX1_largestHole_6 : decode cX1_largestHole 6 = .ok (.getfield 56, 3) := by decide +kernel
theorem dX1_largestHole_9 : decode cX1_largestHole 9 = .ok (.if_icmp .ge 22, 3) := by decide +kernel
theorem dX1_largestHole_12 : decode cX1_largestHole 12 = .ok (.iload_n 1, 1) := by decide +kernel
theorem dX1_largestHole_13 : decode cX1_largestHole 13 = .ok (.aload_n 0, 1) := by decide +kernel
theorem dX1_largestHole_14 : decode cX1_largestHole 14 = .ok (.iload_n 2, 1) := by decide +kernel
theorem dX1_largestHole_15 : decode cX1_largestHole 15 = .ok (.invokevirtual 64, 3) := by decide +kernel
theorem dX1_largestHole_18 : decode cX1_largestHole 18 = .ok (.invokestatic 72, 3) := by decide +kernel
theorem dX1_largestHole_21 : decode cX1_largestHole 21 = .ok (.invokestatic 67, 3) := by decide +kernel
theorem dX1_largestHole_24 : decode cX1_largestHole 24 = .ok (.istore_n 1, 1) := by decide +kernel
theorem dX1_largestHole_25 : decode cX1_largestHole 25 = .ok (.iinc 2 1, 3) := by decide +kernel
theorem dX1_largestHole_28 : decode cX1_largestHole 28 = .ok (.goto (-24), 3) := by decide +kernel
theorem dX1_largestHole_31 : decode cX1_largestHole 31 = .ok (.iload_n 1, 1) := by decide +kernel
theorem dX1_largestHole_32 : decode cX1_largestHole 32 = .ok (.ireturn, 1) := by decide +kernel
theorem dX1_holeTold_0 : decode cX1_holeTold 0 = .ok (.aload_n 0, 1) := by decide +kernel
theorem dX1_holeTold_1 : decode cX1_holeTold 1 = .ok (.iload_n 1, 1) := by decide +kernel
theorem dX1_holeTold_2 : decode cX1_holeTold 2 = .ok (.invokevirtual 64, 3) := by decide +kernel
theorem dX1_holeTold_5 : decode cX1_holeTold 5 = .ok (.istore_n 3, 1) := by decide +kernel
theorem dX1_holeTold_6 : decode cX1_holeTold 6 = .ok (.iload_n 2, 1) := by decide +kernel
theorem dX1_holeTold_7 : decode cX1_holeTold 7 = .ok (.tableswitch 48 0 3 #[29, 31, 36, 42], 29) := by decide +kernel
theorem dX1_holeTold_36 : decode cX1_holeTold 36 = .ok (.iload_n 3, 1) := by decide +kernel
theorem dX1_holeTold_37 : decode cX1_holeTold 37 = .ok (.ireturn, 1) := by decide +kernel
theorem dX1_holeTold_38 : decode cX1_holeTold 38 = .ok (.iload_n 3, 1) := by decide +kernel
theorem dX1_holeTold_39 : decode cX1_holeTold 39 = .ok (.invokestatic 72, 3) := by decide +kernel
theorem dX1_holeTold_42 : decode cX1_holeTold 42 = .ok (.ireturn, 1) := by decide +kernel
theorem dX1_holeTold_43 : decode cX1_holeTold 43 = .ok (.aload_n 0, 1) := by decide +kernel
theorem dX1_holeTold_44 : decode cX1_holeTold 44 = .ok (.iload_n 3, 1) := by decide +kernel
theorem dX1_holeTold_45 : decode cX1_holeTold 45 = .ok (.invokevirtual 77, 3) := by decide +kernel
theorem dX1_holeTold_48 : decode cX1_holeTold 48 = .ok (.ireturn, 1) := by decide +kernel
theorem dX1_holeTold_49 : decode cX1_holeTold 49 = .ok (.aload_n 0, 1) := by decide +kernel
theorem dX1_holeTold_50 : decode cX1_holeTold 50 = .ok (.iload_n 3, 1) := by decide +kernel
theorem dX1_holeTold_51 : decode cX1_holeTold 51 = .ok (.invokevirtual 80, 3) := by decide +kernel
theorem dX1_holeTold_54 : decode cX1_holeTold 54 = .ok (.ireturn, 1) := by decide +kernel
theorem dX1_holeTold_55 : decode cX1_holeTold 55 = .ok (.aload_n 0, 1) := by decide +kernel
theorem dX1_holeTold_56 : decode cX1_holeTold 56 = .ok (.getfield 18, 3) := by decide +kernel
theorem dX1_holeTold_59 : decode cX1_holeTold 59 = .ok (.iload_n 3, 1) := by decide +kernel
theorem dX1_holeTold_60 : decode cX1_holeTold 60 = .ok (.invokevirtual 83, 3) := by decide +kernel
theorem dX1_holeTold_63 : decode cX1_holeTold 63 = .ok (.ireturn, 1) := by decide +kernel
theorem dX1_digestOnto_0 : decode cX1_digestOnto 0 = .ok (.aload_n 0, 1) := by decide +kernel
theorem dX1_digestOnto_1 : decode cX1_digestOnto 1 = .ok (.getfield 40, 3) := by decide +kernel
theorem dX1_digestOnto_4 : decode cX1_digestOnto 4 = .ok (.ifCond .ne 13, 3) := by decide +kernel
theorem dX1_digestOnto_7 : decode cX1_digestOnto 7 = .ok (.ldc2_w 86, 3) := by decide +kernel
theorem dX1_digestOnto_10 : decode cX1_digestOnto 10 = .ok (.lload_n 1, 1) := by decide +kernel
theorem dX1_digestOnto_11 : decode cX1_digestOnto 11 = .ok (.lmul, 1) := by decide +kernel
theorem dX1_digestOnto_12 : decode cX1_digestOnto 12 = .ok (.ldc2_w 88, 3) := by decide +kernel
theorem dX1_digestOnto_15 : decode cX1_digestOnto 15 = .ok (.ladd, 1) := by decide +kernel
theorem dX1_digestOnto_16 : decode cX1_digestOnto 16 = .ok (.lreturn, 1) := by decide +kernel
theorem dX1_digestOnto_17 : decode cX1_digestOnto 17 = .ok (.lload_n 1, 1) := by decide +kernel
theorem dX1_digestOnto_18 : decode cX1_digestOnto 18 = .ok (.lstore_n 3, 1) := by decide +kernel
theorem dX1_digestOnto_19 : decode cX1_digestOnto 19 = .ok (.iconst 0, 1) := by decide +kernel
theorem dX1_digestOnto_20 : decode cX1_digestOnto 20 = .ok (.istore 5, 2) := by decide +kernel
theorem dX1_digestOnto_22 : decode cX1_digestOnto 22 = .ok (.iload 5, 2) := by decide +kernel
theorem dX1_digestOnto_24 : decode cX1_digestOnto 24 = .ok (.aload_n 0, 1) := by decide +kernel
theorem dX1_digestOnto_25 : decode cX1_digestOnto 25 = .ok (.getfield 18, 3) := by decide +kernel
theorem dX1_digestOnto_28 : decode cX1_digestOnto 28 = .ok (.getfield 26, 3) := by decide +kernel
theorem dX1_digestOnto_31 : decode cX1_digestOnto 31 = .ok (.if_icmp .ge 23, 3) := by decide +kernel
theorem dX1_digestOnto_34 : decode cX1_digestOnto 34 = .ok (.ldc2_w 86, 3) := by decide +kernel
theorem dX1_digestOnto_37 : decode cX1_digestOnto 37 = .ok (.lload_n 3, 1) := by decide +kernel
theorem dX1_digestOnto_38 : decode cX1_digestOnto 38 = .ok (.lmul, 1) := by decide +kernel
theorem dX1_digestOnto_39 : decode cX1_digestOnto 39 = .ok (.aload_n 0, 1) := by decide +kernel
theorem dX1_digestOnto_40 : decode cX1_digestOnto 40 = .ok (.iload 5, 2) := by decide +kernel
theorem dX1_digestOnto_42 : decode cX1_digestOnto 42 = .ok (.invokevirtual 59, 3) := by decide +kernel
theorem dX1_digestOnto_45 : decode cX1_digestOnto 45 = .ok (.i2l, 1) := by decide +kernel
theorem dX1_digestOnto_46 : decode cX1_digestOnto 46 = .ok (.ladd, 1) := by decide +kernel
theorem dX1_digestOnto_47 : decode cX1_digestOnto 47 = .ok (.lstore_n 3, 1) := by decide +kernel
theorem dX1_digestOnto_48 : decode cX1_digestOnto 48 = .ok (.iinc 5 1, 3) := by decide +kernel
theorem dX1_digestOnto_51 : decode cX1_digestOnto 51 = .ok (.goto (-29), 3) := by decide +kernel
theorem dX1_digestOnto_54 : decode cX1_digestOnto 54 = .ok (.ldc2_w 86, 3) := by decide +kernel
theorem dX1_digestOnto_57 : decode cX1_digestOnto 57 = .ok (.lload_n 3, 1) := by decide +kernel
theorem dX1_digestOnto_58 : decode cX1_digestOnto 58 = .ok (.lmul, 1) := by decide +kernel
theorem dX1_digestOnto_59 : decode cX1_digestOnto 59 = .ok (.aload_n 0, 1) := by decide +kernel
theorem dX1_digestOnto_60 : decode cX1_digestOnto 60 = .ok (.getfield 37, 3) := by decide +kernel
theorem dX1_digestOnto_63 : decode cX1_digestOnto 63 = .ok (.i2l, 1) := by decide +kernel
theorem dX1_digestOnto_64 : decode cX1_digestOnto 64 = .ok (.ladd, 1) := by decide +kernel
theorem dX1_digestOnto_65 : decode cX1_digestOnto 65 = .ok (.lreturn, 1) := by decide +kernel
theorem dX2_init_0 : decode cX2_init 0 = .ok (.aload_n 0, 1) := by decide +kernel
theorem dX2_init_1 : decode cX2_init 1 = .ok (.invokespecial 3, 3) := by decide +kernel
theorem dX2_init_4 : decode cX2_init 4 = .ok (.aload_n 0, 1) := by decide +kernel
theorem dX2_init_5 : decode cX2_init 5 = .ok (.iconst 4, 1) := by decide +kernel
theorem dX2_init_6 : decode cX2_init 6 = .ok (.newarray .int, 2) := by decide +kernel
theorem dX2_init_8 : decode cX2_init 8 = .ok (.putfield 9, 3) := by decide +kernel
theorem dX2_init_11 : decode cX2_init 11 = .ok (.return_, 1) := by decide +kernel
theorem dX2_layOut_0 : decode cX2_layOut 0 = .ok (.aload_n 0, 1) := by decide +kernel
theorem dX2_layOut_1 : decode cX2_layOut 1 = .ok (.aload_n 1, 1) := by decide +kernel
theorem dX2_layOut_2 : decode cX2_layOut 2 = .ok (.getfield 15, 3) := by decide +kernel
theorem dX2_layOut_5 : decode cX2_layOut 5 = .ok (.putfield 21, 3) := by decide +kernel
theorem dX2_layOut_8 : decode cX2_layOut 8 = .ok (.aload_n 0, 1) := by decide +kernel
theorem dX2_layOut_9 : decode cX2_layOut 9 = .ok (.aload_n 1, 1) := by decide +kernel
theorem dX2_layOut_10 : decode cX2_layOut 10 = .ok (.getfield 22, 3) := by decide +kernel
theorem dX2_layOut_13 : decode cX2_layOut 13 = .ok (.aload_n 0, 1) := by decide +kernel
theorem dX2_layOut_14 : decode cX2_layOut 14 = .ok (.getfield 21, 3) := by decide +kernel
theorem dX2_layOut_17 : decode cX2_layOut 17 = .ok (.imul, 1) := by decide +kernel
theorem dX2_layOut_18 : decode cX2_layOut 18 = .ok (.putfield 25, 3) := by decide +kernel
theorem dX2_layOut_21 : decode cX2_layOut 21 = .ok (.aload_n 0, 1) := by decide +kernel
theorem dX2_layOut_22 : decode cX2_layOut 22 = .ok (.aload_n 0, 1) := by decide +kernel
theorem dX2_layOut_23 : decode cX2_layOut 23 = .ok (.iconst 0, 1) := by decide +kernel
theorem dX2_layOut_24 : decode cX2_layOut 24 = .ok (.invokevirtual 28, 3) := by decide +kernel
theorem dX2_layOut_27 : decode cX2_layOut 27 = .ok (.putfield 32, 3) := by decide +kernel
theorem dX2_layOut_30 : decode cX2_layOut 30 = .ok (.aload_n 0, 1) := by decide +kernel
theorem dX2_layOut_31 : decode cX2_layOut 31 = .ok (.aload_n 0, 1) := by decide +kernel
theorem dX2_layOut_32 : decode cX2_layOut 32 = .ok (.aload_n 0, 1) := by decide +kernel
theorem dX2_layOut_33 : decode cX2_layOut 33 = .ok (.getfield 21, 3) := by decide +kernel
theorem dX2_layOut_36 : decode cX2_layOut 36 = .ok (.iconst 1, 1) := by decide +kernel
theorem dX2_layOut_37 : decode cX2_layOut 37 = .ok (.isub, 1) := by decide +kernel
theorem dX2_layOut_38 : decode cX2_layOut 38 = .ok (.invokevirtual 28, 3) := by decide +kernel
theorem dX2_layOut_41 : decode cX2_layOut 41 = .ok (.putfield 35, 3) := by decide +kernel
theorem dX2_layOut_44 : decode cX2_layOut 44 = .ok (.iconst 0, 1) := by decide +kernel
theorem dX2_layOut_45 : decode cX2_layOut 45 = .ok (.istore_n 2, 1) := by decide +kernel
theorem dX2_layOut_46 : decode cX2_layOut 46 = .ok (.iload_n 2, 1) := by decide +kernel
theorem dX2_layOut_47 : decode cX2_layOut 47 = .ok (.aload_n 0, 1) := by decide +kernel
theorem dX2_layOut_48 : decode cX2_layOut 48 = .ok (.getfield 9, 3) := by decide +kernel
theorem dX2_layOut_51 : decode cX2_layOut 51 = .ok (.arraylength, 1) := by decide +kernel
theorem dX2_layOut_52 : decode cX2_layOut 52 = .ok (.if_icmp .ge 55, 3) := by decide +kernel
theorem dX2_layOut_55 : decode cX2_layOut 55 = .ok (.aload_n 0, 1) := by decide +kernel
theorem dX2_layOut_56 : decode cX2_layOut 56 = .ok (.getfield 9, 3) := by decide +kernel
theorem dX2_layOut_59 : decode cX2_layOut 59 = .ok (.iload_n 2, 1) := by decide +kernel
theorem dX2_layOut_60 : decode cX2_layOut 60 = .ok (.iconst 0, 1) := by decide +kernel
theorem dX2_layOut_61 : decode cX2_layOut 61 = .ok (.iastore, 1) := by decide +kernel
theorem dX2_layOut_62 : decode cX2_layOut 62 = .ok (.iconst 0, 1) := by decide +kernel
theorem dX2_layOut_63 : decode cX2_layOut 63 = .ok (.istore_n 3, 1) := by decide +kernel
theorem dX2_layOut_64 : decode cX2_layOut 64 = .ok (.iload_n 3, 1) := by decide +kernel
theorem dX2_layOut_65 : decode cX2_layOut 65 = .ok (.aload_n 0, 1) := by decide +kernel
theorem dX2_layOut_66 : decode cX2_layOut 66 = .ok (.getfield 21, 3) := by decide +kernel
theorem dX2_layOut_69 : decode cX2_layOut 69 = .ok (.if_icmp .ge 32, 3) := by decide +kernel
theorem dX2_layOut_72 : decode cX2_layOut 72 = .ok (.aload_n 1, 1) := by decide +kernel
theorem dX2_layOut_73 : decode cX2_layOut 73 = .ok (.iload_n 3, 1) := by decide +kernel
theorem dX2_layOut_74 : decode cX2_layOut 74 = .ok (.invokevirtual 38, 3) := by decide +kernel
theorem dX2_layOut_77 : decode cX2_layOut 77 = .ok (.iload_n 2, 1) := by decide +kernel
theorem dX2_layOut_78 : decode cX2_layOut 78 = .ok (.if_icmp .ne 17, 3) := by decide +kernel
theorem dX2_layOut_81 : decode cX2_layOut 81 = .ok (.aload_n 0, 1) := by decide +kernel
theorem dX2_layOut_82 : decode cX2_layOut 82 = .ok (.getfield 9, 3) := by decide +kernel
theorem dX2_layOut_85 : decode cX2_layOut 85 = .ok (.iload_n 2, 1) := by decide +kernel
theorem dX2_layOut_86 : decode cX2_layOut 86 = .ok (.dup2, 1) := by decide +kernel
theorem dX2_layOut_87 : decode cX2_layOut 87 = .ok (.iaload, 1) := by decide +kernel
theorem dX2_layOut_88 : decode cX2_layOut 88 = .ok (.aload_n 0, 1) := by decide +kernel
theorem dX2_layOut_89 : decode cX2_layOut 89 = .ok (.iload_n 3, 1) := by decide +kernel
theorem dX2_layOut_90 : decode cX2_layOut 90 = .ok (.invokevirtual 28, 3) := by decide +kernel
theorem dX2_layOut_93 : decode cX2_layOut 93 = .ok (.ior, 1) := by decide +kernel
theorem dX2_layOut_94 : decode cX2_layOut 94 = .ok (.iastore, 1) := by decide +kernel
theorem dX2_layOut_95 : decode cX2_layOut 95 = .ok (.iinc 3 1, 3) := by decide +kernel
theorem dX2_layOut_98 : decode cX2_layOut 98 = .ok (.goto (-34), 3) := by decide +kernel
theorem dX2_layOut_101 : decode cX2_layOut 101 = .ok (.iinc 2 1, 3) := by decide +kernel
theorem dX2_layOut_104 : decode cX2_layOut 104 = .ok (.goto (-58), 3) := by decide +kernel
theorem dX2_layOut_107 : decode cX2_layOut 107 = .ok (.return_, 1) := by decide +kernel
theorem dX2_columnBits_0 : decode cX2_columnBits 0 = .ok (.iconst 0, 1) := by decide +kernel
theorem dX2_columnBits_1 : decode cX2_columnBits 1 = .ok (.istore_n 2, 1) := by decide +kernel
theorem dX2_columnBits_2 : decode cX2_columnBits 2 = .ok (.iconst 0, 1) := by decide +kernel
theorem dX2_columnBits_3 : decode cX2_columnBits 3 = .ok (.istore_n 3, 1) := by decide +kernel
theorem dX2_columnBits_4 : decode cX2_columnBits 4 = .ok (.iload_n 3, 1) := by decide +kernel
theorem dX2_columnBits_5 : decode cX2_columnBits 5 = .ok (.iconst 4, 1) := by decide +kernel
theorem dX2_columnBits_6 : decode cX2_columnBits 6 = .ok (.if_icmp .ge 40, 3) := by decide +kernel
theorem dX2_columnBits_9 : decode cX2_columnBits 9 = .ok (.iload_n 3, 1) := by decide +kernel
theorem dX2_columnBits_10 : decode cX2_columnBits 10 = .ok (.aload_n 0, 1) := by decide +kernel
theorem dX2_columnBits_11 : decode cX2_columnBits 11 = .ok (.getfield 21, 3) := by decide +kernel
theorem dX2_columnBits_14 : decode cX2_columnBits 14 = .ok (.imul, 1) := by decide +kernel
theorem dX2_columnBits_15 : decode cX2_columnBits 15 = .ok (.iload_n 1, 1) := by decide +kernel
theorem dX2_columnBits_16 : decode cX2_columnBits 16 = .ok (.iadd, 1) := by decide +kernel
theorem dX2_columnBits_17 : decode cX2_columnBits 17 = .ok (.istore 4, 2) := by decide +kernel
theorem dX2_columnBits_19 : decode cX2_columnBits 19 = .ok (.iload 4, 2) := by decide +kernel
theorem dX2_columnBits_21 : decode cX2_columnBits 21 = .ok (.ifCond .lt 19, 3) := by decide +kernel
theorem dX2_columnBits_24 : decode cX2_columnBits 24 = .ok (.iload 4, 2) := by decide +kernel
theorem dX2_columnBits_26 : decode cX2_columnBits 26 = .ok (.aload_n 0, 1) := by decide +kernel
theorem dX2_columnBits_27 : decode cX2_columnBits 27 = .ok (.getfield 25, 3) := by decide +kernel
theorem dX2_columnBits_30 : decode cX2_columnBits 30 = .ok (.if_icmp .ge 10, 3) := by decide +kernel
theorem dX2_columnBits_33 : decode cX2_columnBits 33 = .ok (.iload_n 2, 1) := by decide +kernel
theorem dX2_columnBits_34 : decode cX2_columnBits 34 = .ok (.iconst 1, 1) := by decide +kernel
theorem dX2_columnBits_35 : decode cX2_columnBits 35 = .ok (.iload 4, 2) := by decide +kernel
theorem dX2_columnBits_37 : decode cX2_columnBits 37 = .ok (.ishl, 1) := by decide +kernel
theorem dX2_columnBits_38 : decode cX2_columnBits 38 = .ok (.ior, 1) := by decide +kernel
theorem dX2_columnBits_39 : decode cX2_columnBits 39 = .ok (.istore_n 2, 1) := by decide +kernel
theorem dX2_columnBits_40 : decode cX2_columnBits 40 = .ok (.iinc 3 1, 3) := by decide +kernel
theorem dX2_columnBits_43 : decode cX2_columnBits 43 = .ok (.goto (-39), 3) := by decide +kernel
theorem dX2_columnBits_46 : decode cX2_columnBits 46 = .ok (.iload_n 2, 1) := by decide +kernel
theorem dX2_columnBits_47 : decode cX2_columnBits 47 = .ok (.ireturn, 1) := by decide +kernel
theorem dX2_has_0 : decode cX2_has 0 = .ok (.iload_n 1, 1) := by decide +kernel
theorem dX2_has_1 : decode cX2_has 1 = .ok (.ifCond .lt 15, 3) := by decide +kernel
theorem dX2_has_4 : decode cX2_has 4 = .ok (.iload_n 1, 1) := by decide +kernel
theorem dX2_has_5 : decode cX2_has 5 = .ok (.aload_n 0, 1) := by decide +kernel
theorem dX2_has_6 : decode cX2_has 6 = .ok (.getfield 25, 3) := by decide +kernel
theorem dX2_has_9 : decode cX2_has 9 = .ok (.if_icmp .ge 7, 3) := by decide +kernel
theorem dX2_has_12 : decode cX2_has 12 = .ok (.iconst 1, 1) := by decide +kernel
theorem dX2_has_13 : decode cX2_has 13 = .ok (.goto 4, 3) := by decide +kernel
theorem dX2_has_16 : decode cX2_has 16 = .ok (.iconst 0, 1) := by decide +kernel
theorem dX2_has_17 : decode cX2_has 17 = .ok (.ireturn, 1) := by decide +kernel
theorem dX2_gardenOf_0 : decode cX2_gardenOf 0 = .ok (.iload_n 1, 1) := by decide +kernel
theorem dX2_gardenOf_1 : decode cX2_gardenOf 1 = .ok (.ifCond .lt 21, 3) := by decide +kernel
theorem dX2_gardenOf_4 : decode cX2_gardenOf 4 = .ok (.iload_n 1, 1) := by decide +kernel
theorem dX2_gardenOf_5 : decode cX2_gardenOf 5 = .ok (.aload_n 0, 1) := by decide +kernel
theorem dX2_gardenOf_6 : decode cX2_gardenOf 6 = .ok (.getfield 9, 3) := by decide +kernel
theorem dX2_gardenOf_9 : decode cX2_gardenOf 9 = .ok (.arraylength, 1) := by decide +kernel
theorem dX2_gardenOf_10 : decode cX2_gardenOf 10 = .ok (.if_icmp .ge 12, 3) := by decide +kernel
theorem dX2_gardenOf_13 : decode cX2_gardenOf 13 = .ok (.aload_n 0, 1) := by decide +kernel
theorem dX2_gardenOf_14 : decode cX2_gardenOf 14 = .ok (.getfield 9, 3) := by decide +kernel
theorem dX2_gardenOf_17 : decode cX2_gardenOf 17 = .ok (.iload_n 1, 1) := by decide +kernel
theorem dX2_gardenOf_18 : decode cX2_gardenOf 18 = .ok (.iaload, 1) := by decide +kernel
theorem dX2_gardenOf_19 : decode cX2_gardenOf 19 = .ok (.goto 4, 3) := by decide +kernel
theorem dX2_gardenOf_22 : decode cX2_gardenOf 22 = .ok (.iconst 0, 1) := by decide +kernel
theorem dX2_gardenOf_23 : decode cX2_gardenOf 23 = .ok (.ireturn, 1) := by decide +kernel
theorem dX2_gardenerAt_0 : decode cX2_gardenerAt 0 = .ok (.aload_n 0, 1) := by decide +kernel
theorem dX2_gardenerAt_1 : decode cX2_gardenerAt 1 = .ok (.iload_n 1, 1) := by decide +kernel
theorem dX2_gardenerAt_2 : decode cX2_gardenerAt 2 = .ok (.invokevirtual 41, 3) := by decide +kernel
theorem dX2_gardenerAt_5 : decode cX2_gardenerAt 5 = .ok (.ifCond .eq 13, 3) := by decide +kernel
theorem dX2_gardenerAt_8 : decode cX2_gardenerAt 8 = .ok (.aload_n 0, 1) := by decide +kernel
theorem dX2_gardenerAt_9 : decode cX2_gardenerAt 9 = .ok (.iconst 1, 1) := by decide +kernel
theorem dX2_gardenerAt_10 : decode cX2_gardenerAt 10 = .ok (.iload_n 1, 1) := by decide +kernel
theorem dX2_gardenerAt_11 : decode cX2_gardenerAt 11 = .ok (.ishl, 1) := by decide +kernel
theorem dX2_gardenerAt_12 : decode cX2_gardenerAt 12 = .ok (.invokevirtual 45, 3) := by decide +kernel
theorem dX2_gardenerAt_15 : decode cX2_gardenerAt 15 = .ok (.goto 5, 3) := by decide +kernel
theorem dX2_gardenerAt_18 : decode cX2_gardenerAt 18 = .ok (.bipush (-9), 2) := by decide +kernel
theorem dX2_gardenerAt_20 : decode cX2_gardenerAt 20 = .ok (.ireturn, 1) := by decide +kernel
theorem dX2_ownerOf_0 : decode cX2_ownerOf 0 = .ok (.iconst 0, 1) := by decide +kernel
theorem dX2_ownerOf_1 : decode cX2_ownerOf 1 = .ok (.istore_n 2, 1) := by decide +kernel
theorem dX2_ownerOf_2 : decode cX2_ownerOf 2 = .ok (.bipush (-9), 2) := by decide +kernel
theorem dX2_ownerOf_4 : decode cX2_ownerOf 4 = .ok (.istore_n 3, 1) := by decide +kernel
theorem dX2_ownerOf_5 : decode cX2_ownerOf 5 = .ok (.iconst 0, 1) := by decide +kernel
theorem dX2_ownerOf_6 : decode cX2_ownerOf 6 = .ok (.istore 4, 2) := by decide +kernel
theorem dX2_ownerOf_8 : decode cX2_ownerOf 8 = .ok (.iload 4, 2) := by decide +kernel
theorem dX2_ownerOf_10 : decode cX2_ownerOf 10 = .ok (.aload_n 0, 1) := by decide +kernel
theorem dX2_ownerOf_11 : decode cX2_ownerOf 11 = .ok (.getfield 9, 3) := by decide +kernel
theorem dX2_ownerOf_14 : decode cX2_ownerOf 14 = .ok (.arraylength, 1) := by decide +kernel
theorem dX2_ownerOf_15 : decode cX2_ownerOf 15 = .ok (.if_icmp .ge 35, 3) := by decide +kernel
theorem dX2_ownerOf_18 : decode cX2_ownerOf 18 = .ok (.iload_n 1, 1) := by decide +kernel
theorem dX2_ownerOf_19 : decode cX2_ownerOf 19 = .ok (.aload_n 0, 1) := by decide +kernel
theorem dX2_ownerOf_20 : decode cX2_ownerOf 20 = .ok (.getfield 9, 3) := by decide +kernel
theorem dX2_ownerOf_23 : decode cX2_ownerOf 23 = .ok (.iload 4, 2) := by decide +kernel
theorem dX2_ownerOf_25 : decode cX2_ownerOf 25 = .ok (.iaload, 1) := by decide +kernel
theorem dX2_ownerOf_26 : decode cX2_ownerOf 26 = .ok (.iand, 1) := by decide +kernel
theorem dX2_ownerOf_27 : decode cX2_ownerOf 27 = .ok (.invokestatic 48, 3) := by decide +kernel
theorem dX2_ownerOf_30 : decode cX2_ownerOf 30 = .ok (.istore 5, 2) := by decide +kernel
theorem dX2_ownerOf_32 : decode cX2_ownerOf 32 = .ok (.iload 5, 2) := by decide +kernel
theorem dX2_ownerOf_34 : decode cX2_ownerOf 34 = .ok (.iload_n 2, 1) := by decide +kernel
theorem dX2_ownerOf_35 : decode cX2_ownerOf 35 = .ok (.if_icmp .le 9, 3) := by decide +kernel
theorem dX2_ownerOf_38 : decode cX2_ownerOf 38 = .ok (.iload 5, 2) := by decide +kernel
theorem dX2_ownerOf_40 : decode cX2_ownerOf 40 = .ok (.istore_n 2, 1) := by decide +kernel
theorem dX2_ownerOf_41 : decode cX2_ownerOf 41 = .ok (.iload 4, 2) := by decide +kernel
theorem dX2_ownerOf_43 : decode cX2_ownerOf 43 = .ok (.istore_n 3, 1) := by decide +kernel
theorem dX2_ownerOf_44 : decode cX2_ownerOf 44 = .ok (.iinc 4 1, 3) := by decide +kernel
theorem dX2_ownerOf_47 : decode cX2_ownerOf 47 = .ok (.goto (-39), 3) := by decide +kernel
theorem dX2_ownerOf_50 : decode cX2_ownerOf 50 = .ok (.iload_n 3, 1) := by decide +kernel
theorem dX2_ownerOf_51 : decode cX2_ownerOf 51 = .ok (.ireturn, 1) := by decide +kernel
theorem dX2_spread_0 : decode cX2_spread 0 = .ok (.iload_n 1, 1) := by decide +kernel
theorem dX2_spread_1 : decode cX2_spread 1 = .ok (.aload_n 0, 1) := by decide +kernel
theorem dX2_spread_2 : decode cX2_spread 2 = .ok (.getfield 35, 3) := by decide +kernel
theorem dX2_spread_5 : decode cX2_spread 5 = .ok (.iconst (-1), 1) := by decide +kernel
theorem dX2_spread_6 : decode cX2_spread 6 = .ok (.ixor, 1) := by decide +kernel
theorem dX2_spread_7 : decode cX2_spread 7 = .ok (.iand, 1) := by decide +kernel
theorem dX2_spread_8 : decode cX2_spread 8 = .ok (.iconst 1, 1) := by decide +kernel
theorem dX2_spread_9 : decode cX2_spread 9 = .ok (.ishl, 1) := by decide +kernel
theorem dX2_spread_10 : decode cX2_spread 10 = .ok (.iload_n 1, 1) := by decide +kernel
theorem dX2_spread_11 : decode cX2_spread 11 = .ok (.aload_n 0, 1) := by decide +kernel
theorem dX2_spread_12 : decode cX2_spread 12 = .ok (.getfield 32, 3) := by decide +kernel
theorem dX2_spread_15 : decode cX2_spread 15 = .ok (.iconst (-1), 1) := by decide +kernel
theorem dX2_spread_16 : decode cX2_spread 16 = .ok (.ixor, 1) := by decide +kernel
theorem dX2_spread_17 : decode cX2_spread 17 = .ok (.iand, 1) := by decide +kernel
theorem dX2_spread_18 : decode cX2_spread 18 = .ok (.iconst 1, 1) := by decide +kernel
theorem dX2_spread_19 : decode cX2_spread 19 = .ok (.iushr, 1) := by decide +kernel
theorem dX2_spread_20 : decode cX2_spread 20 = .ok (.ior, 1) := by decide +kernel
theorem dX2_spread_21 : decode cX2_spread 21 = .ok (.istore_n 2, 1) := by decide +kernel
theorem dX2_spread_22 : decode cX2_spread 22 = .ok (.iload_n 1, 1) := by decide +kernel
theorem dX2_spread_23 : decode cX2_spread 23 = .ok (.aload_n 0, 1) := by decide +kernel
theorem dX2_spread_24 : decode cX2_spread 24 = .ok (.getfield 21, 3) := by decide +kernel
theorem dX2_spread_27 : decode cX2_spread 27 = .ok (.ishl, 1) := by decide +kernel
theorem dX2_spread_28 : decode cX2_spread 28 = .ok (.iload_n 1, 1) := by decide +kernel
theorem dX2_spread_29 : decode cX2_spread 29 = .ok (.aload_n 0, 1) := by decide +kernel
theorem dX2_spread_30 : decode cX2_spread 30 = .ok (.getfield 21, 3) := by decide +kernel
theorem dX2_spread_33 : decode cX2_spread 33 = .ok (.iushr, 1) := by decide +kernel
theorem dX2_spread_34 : decode cX2_spread 34 = .ok (.ior, 1) := by decide +kernel
theorem dX2_spread_35 : decode cX2_spread 35 = .ok (.istore_n 3, 1) := by decide +kernel
theorem dX2_spread_36 : decode cX2_spread 36 = .ok (.iload_n 1, 1) := by decide +kernel
theorem dX2_spread_37 : decode cX2_spread 37 = .ok (.iload_n 2, 1) := by decide +kernel
theorem dX2_spread_38 : decode cX2_spread 38 = .ok (.ior, 1) := by decide +kernel
theorem dX2_spread_39 : decode cX2_spread 39 = .ok (.iload_n 3, 1) := by decide +kernel
theorem dX2_spread_40 : decode cX2_spread 40 = .ok (.ior, 1) := by decide +kernel
theorem dX2_spread_41 : decode cX2_spread 41 = .ok (.iconst 1, 1) := by decide +kernel
theorem dX2_spread_42 : decode cX2_spread 42 = .ok (.aload_n 0, 1) := by decide +kernel
theorem dX2_spread_43 : decode cX2_spread 43 = .ok (.getfield 25, 3) := by decide +kernel
theorem dX2_spread_46 : decode cX2_spread 46 = .ok (.ishl, 1) := by decide +kernel
theorem dX2_spread_47 : decode cX2_spread 47 = .ok (.iconst 1, 1) := by decide +kernel
theorem dX2_spread_48 : decode cX2_spread 48 = .ok (.isub, 1) := by decide +kernel
theorem dX2_spread_49 : decode cX2_spread 49 = .ok (.iand, 1) := by decide +kernel
theorem dX2_spread_50 : decode cX2_spread 50 = .ok (.ireturn, 1) := by decide +kernel
theorem dX2_hangingWith_0 : decode cX2_hangingWith 0 = .ok (.iload_n 1, 1) := by decide +kernel
theorem dX2_hangingWith_1 : decode cX2_hangingWith 1 = .ok (.iload_n 2, 1) := by decide +kernel
theorem dX2_hangingWith_2 : decode cX2_hangingWith 2 = .ok (.iand, 1) := by decide +kernel
theorem dX2_hangingWith_3 : decode cX2_hangingWith 3 = .ok (.istore_n 3, 1) := by decide +kernel
theorem dX2_hangingWith_4 : decode cX2_hangingWith 4 = .ok (.iconst 0, 1) := by decide +kernel
theorem dX2_hangingWith_5 : decode cX2_hangingWith 5 = .ok (.istore 4, 2) := by decide +kernel
theorem dX2_hangingWith_7 : decode cX2_hangingWith 7 = .ok (.iload 4, 2) := by decide +kernel
theorem dX2_hangingWith_9 : decode cX2_hangingWith 9 = .ok (.bipush 16, 2) := by decide +kernel
theorem dX2_hangingWith_11 : decode cX2_hangingWith 11 = .ok (.if_icmp .ge 29, 3) := by decide +kernel
theorem dX2_hangingWith_14 : decode cX2_hangingWith 14 = .ok (.aload_n 0, 1) := by decide +kernel
theorem dX2_hangingWith_15 : decode cX2_hangingWith 15 = .ok (.iload_n 3, 1) := by decide +kernel
theorem dX2_hangingWith_16 : decode cX2_hangingWith 16 = .ok (.invokevirtual 53, 3) := by decide +kernel
theorem dX2_hangingWith_19 : decode cX2_hangingWith 19 = .ok (.iload_n 2, 1) := by decide +kernel
theorem dX2_hangingWith_20 : decode cX2_hangingWith 20 = .ok (.iand, 1) := by decide +kernel
theorem dX2_hangingWith_21 : decode cX2_hangingWith 21 = .ok (.istore 5, 2) := by decide +kernel
theorem dX2_hangingWith_23 : decode cX2_hangingWith 23 = .ok (.iload 5, 2) := by decide +kernel
theorem dX2_hangingWith_25 : decode cX2_hangingWith 25 = .ok (.iload_n 3, 1) := by decide +kernel
theorem dX2_hangingWith_26 : decode cX2_hangingWith 26 = .ok (.if_icmp .ne 5, 3) := by decide +kernel
theorem dX2_hangingWith_29 : decode cX2_hangingWith 29 = .ok (.iload_n 3, 1) := by decide +kernel
theorem dX2_hangingWith_30 : decode cX2_hangingWith 30 = .ok (.ireturn, 1) := by decide +kernel
theorem dX2_hangingWith_31 : decode cX2_hangingWith 31 = .ok (.iload 5, 2) := by decide +kernel
theorem dX2_hangingWith_33 : decode cX2_hangingWith 33 = .ok (.istore_n 3, 1) := by decide +kernel
theorem dX2_hangingWith_34 : decode cX2_hangingWith 34 = .ok (.iinc 4 1, 3) := by decide +kernel
theorem dX2_hangingWith_37 : decode cX2_hangingWith 37 = .ok (.goto (-30), 3) := by decide +kernel
theorem dX2_hangingWith_40 : decode cX2_hangingWith 40 = .ok (.iload_n 3, 1) := by decide +kernel
theorem dX2_hangingWith_41 : decode cX2_hangingWith 41 = .ok (.ireturn, 1) := by decide +kernel
theorem dX2_isParted_0 : decode cX2_isParted 0 = .ok (.aload_n 0, 1) := by decide +kernel
theorem dX2_isParted_1 : decode cX2_isParted 1 = .ok (.iload_n 1, 1) := by decide +kernel
theorem dX2_isParted_2 : decode cX2_isParted 2 = .ok (.iload_n 1, 1) := by decide +kernel
theorem dX2_isParted_3 : decode cX2_isParted 3 = .ok (.ineg, 1) := by decide +kernel
theorem dX2_isParted_4 : decode cX2_isParted 4 = .ok (.iand, 1) := by decide +kernel
theorem dX2_isParted_5 : decode cX2_isParted 5 = .ok (.iload_n 1, 1) := by decide +kernel
theorem dX2_isParted_6 : decode cX2_isParted 6 = .ok (.invokevirtual 56, 3) := by decide +kernel
theorem dX2_isParted_9 : decode cX2_isParted 9 = .ok (.iload_n 1, 1) := by decide +kernel
theorem dX2_isParted_10 : decode cX2_isParted 10 = .ok (.if_icmp .eq 7, 3) := by decide +kernel
theorem dX2_isParted_13 : decode cX2_isParted 13 = .ok (.iconst 1, 1) := by decide +kernel
theorem dX2_isParted_14 : decode cX2_isParted 14 = .ok (.goto 4, 3) := by decide +kernel
theorem dX2_isParted_17 : decode cX2_isParted 17 = .ok (.iconst 0, 1) := by decide +kernel
theorem dX2_isParted_18 : decode cX2_isParted 18 = .ok (.ireturn, 1) := by decide +kernel
theorem dX2_canPush_0 : decode cX2_canPush 0 = .ok (.iload_n 2, 1) := by decide +kernel
theorem dX2_canPush_1 : decode cX2_canPush 1 = .ok (.i2l, 1) := by decide +kernel
theorem dX2_canPush_2 : decode cX2_canPush 2 = .ok (.invokestatic 60, 3) := by decide +kernel
theorem dX2_canPush_5 : decode cX2_canPush 5 = .ok (.ldc2_w 66, 3) := by decide +kernel
theorem dX2_canPush_8 : decode cX2_canPush 8 = .ok (.lcmp, 1) := by decide +kernel
theorem dX2_canPush_9 : decode cX2_canPush 9 = .ok (.ifCond .ge 15, 3) := by decide +kernel
theorem dX2_canPush_12 : decode cX2_canPush 12 = .ok (.iload_n 3, 1) := by decide +kernel
theorem dX2_canPush_13 : decode cX2_canPush 13 = .ok (.i2l, 1) := by decide +kernel
theorem dX2_canPush_14 : decode cX2_canPush 14 = .ok (.invokestatic 60, 3) := by decide +kernel
theorem dX2_canPush_17 : decode cX2_canPush 17 = .ok (.ldc2_w 66, 3) := by decide +kernel
theorem dX2_canPush_20 : decode cX2_canPush 20 = .ok (.lcmp, 1) := by decide +kernel
theorem dX2_canPush_21 : decode cX2_canPush 21 = .ok (.ifCond .lt 5, 3) := by decide +kernel
theorem dX2_canPush_24 : decode cX2_canPush 24 = .ok (.iconst 0, 1) := by decide +kernel
theorem dX2_canPush_25 : decode cX2_canPush 25 = .ok (.ireturn, 1) := by decide +kernel
theorem dX2_canPush_26 : decode cX2_canPush 26 = .ok (.iconst 0, 1) := by decide +kernel
theorem dX2_canPush_27 : decode cX2_canPush 27 = .ok (.istore 4, 2) := by decide +kernel
theorem dX2_canPush_29 : decode cX2_canPush 29 = .ok (.iload 4, 2) := by decide +kernel
theorem dX2_canPush_31 : decode cX2_canPush 31 = .ok (.aload_n 0, 1) := by decide +kernel
theorem dX2_canPush_32 : decode cX2_canPush 32 = .ok (.getfield 25, 3) := by decide +kernel
theorem dX2_canPush_35 : decode cX2_canPush 35 = .ok (.if_icmp .ge 74, 3) := by decide +kernel
theorem dX2_canPush_38 : decode cX2_canPush 38 = .ok (.aload_n 0, 1) := by decide +kernel
theorem dX2_canPush_39 : decode cX2_canPush 39 = .ok (.getfield 21, 3) := by decide +kernel
theorem dX2_canPush_42 : decode cX2_canPush 42 = .ok (.ifCond .le 67, 3) := by decide +kernel
theorem dX2_canPush_45 : decode cX2_canPush 45 = .ok (.iload 4, 2) := by decide +kernel
theorem dX2_canPush_47 : decode cX2_canPush 47 = .ok (.aload_n 0, 1) := by decide +kernel
theorem dX2_canPush_48 : decode cX2_canPush 48 = .ok (.getfield 21, 3) := by decide +kernel
theorem dX2_canPush_51 : decode cX2_canPush 51 = .ok (.irem, 1) := by decide +kernel
theorem dX2_canPush_52 : decode cX2_canPush 52 = .ok (.iload_n 2, 1) := by decide +kernel
theorem dX2_canPush_53 : decode cX2_canPush 53 = .ok (.iadd, 1) := by decide +kernel
theorem dX2_canPush_54 : decode cX2_canPush 54 = .ok (.istore 5, 2) := by decide +kernel
theorem dX2_canPush_56 : decode cX2_canPush 56 = .ok (.iload 4, 2) := by decide +kernel
theorem dX2_canPush_58 : decode cX2_canPush 58 = .ok (.iload_n 3, 1) := by decide +kernel
theorem dX2_canPush_59 : decode cX2_canPush 59 = .ok (.aload_n 0, 1) := by decide +kernel
theorem dX2_canPush_60 : decode cX2_canPush 60 = .ok (.getfield 21, 3) := by decide +kernel
theorem dX2_canPush_63 : decode cX2_canPush 63 = .ok (.imul, 1) := by decide +kernel
theorem dX2_canPush_64 : decode cX2_canPush 64 = .ok (.iadd, 1) := by decide +kernel
theorem dX2_canPush_65 : decode cX2_canPush 65 = .ok (.iload_n 2, 1) := by decide +kernel
theorem dX2_canPush_66 : decode cX2_canPush 66 = .ok (.iadd, 1) := by decide +kernel
theorem dX2_canPush_67 : decode cX2_canPush 67 = .ok (.istore 6, 2) := by decide +kernel
theorem dX2_canPush_69 : decode cX2_canPush 69 = .ok (.iload_n 1, 1) := by decide +kernel
theorem dX2_canPush_70 : decode cX2_canPush 70 = .ok (.iload 4, 2) := by decide +kernel
theorem dX2_canPush_72 : decode cX2_canPush 72 = .ok (.iushr, 1) := by decide +kernel
theorem dX2_canPush_73 : decode cX2_canPush 73 = .ok (.iconst 1, 1) := by decide +kernel
theorem dX2_canPush_74 : decode cX2_canPush 74 = .ok (.iand, 1) := by decide +kernel
theorem dX2_canPush_75 : decode cX2_canPush 75 = .ok (.ifCond .eq 28, 3) := by decide +kernel
theorem dX2_canPush_78 : decode cX2_canPush 78 = .ok (.iload 5, 2) := by decide +kernel
theorem dX2_canPush_80 : decode cX2_canPush 80 = .ok (.ifCond .lt 21, 3) := by decide +kernel
theorem dX2_canPush_83 : decode cX2_canPush 83 = .ok (.iload 5, 2) := by decide +kernel
theorem dX2_canPush_85 : decode cX2_canPush 85 = .ok (.aload_n 0, 1) := by decide +kernel
theorem dX2_canPush_86 : decode cX2_canPush 86 = .ok (.getfield 21, 3) := by decide +kernel
theorem dX2_canPush_89 : decode cX2_canPush 89 = .ok (.if_icmp .ge 12, 3) := by decide +kernel
theorem dX2_canPush_92 : decode cX2_canPush 92 = .ok (.aload_n 0, 1) := by decide +kernel
theorem dX2_canPush_93 : decode cX2_canPush 93 = .ok (.iload 6, 2) := by decide +kernel
theorem dX2_canPush_95 : decode cX2_canPush 95 = .ok (.invokevirtual 41, 3) := by decide +kernel
theorem dX2_canPush_98 : decode cX2_canPush 98 = .ok (.ifCond .ne 5, 3) := by decide +kernel
theorem dX2_canPush_101 : decode cX2_canPush 101 = .ok (.iconst 0, 1) := by decide +kernel
theorem dX2_canPush_102 : decode cX2_canPush 102 = .ok (.ireturn, 1) := by decide +kernel
theorem dX2_canPush_103 : decode cX2_canPush 103 = .ok (.iinc 4 1, 3) := by decide +kernel
theorem dX2_canPush_106 : decode cX2_canPush 106 = .ok (.goto (-77), 3) := by decide +kernel
theorem dX2_canPush_109 : decode cX2_canPush 109 = .ok (.iconst 1, 1) := by decide +kernel
theorem dX2_canPush_110 : decode cX2_canPush 110 = .ok (.ireturn, 1) := by decide +kernel
theorem dX2_onBoard_0 : decode cX2_onBoard 0 = .ok (.iconst 1, 1) := by decide +kernel
theorem dX2_onBoard_1 : decode cX2_onBoard 1 = .ok (.aload_n 0, 1) := by decide +kernel
theorem dX2_onBoard_2 : decode cX2_onBoard 2 = .ok (.getfield 21, 3) := by decide +kernel
theorem dX2_onBoard_5 : decode cX2_onBoard 5 = .ok (.ishl, 1) := by decide +kernel
theorem dX2_onBoard_6 : decode cX2_onBoard 6 = .ok (.iconst 1, 1) := by decide +kernel
theorem dX2_onBoard_7 : decode cX2_onBoard 7 = .ok (.isub, 1) := by decide +kernel
theorem dX2_onBoard_8 : decode cX2_onBoard 8 = .ok (.istore_n 2, 1) := by decide +kernel
theorem dX2_onBoard_9 : decode cX2_onBoard 9 = .ok (.iconst 0, 1) := by decide +kernel
theorem dX2_onBoard_10 : decode cX2_onBoard 10 = .ok (.istore_n 3, 1) := by decide +kernel
theorem dX2_onBoard_11 : decode cX2_onBoard 11 = .ok (.iconst 0, 1) := by decide +kernel
theorem dX2_onBoard_12 : decode cX2_onBoard 12 = .ok (.istore 4, 2) := by decide +kernel
theorem dX2_onBoard_14 : decode cX2_onBoard 14 = .ok (.iload 4, 2) := by decide +kernel
theorem dX2_onBoard_16 : decode cX2_onBoard 16 = .ok (.iconst 4, 1) := by decide +kernel
theorem dX2_onBoard_17 : decode cX2_onBoard 17 = .ok (.if_icmp .ge 28, 3) := by decide +kernel
theorem dX2_onBoard_20 : decode cX2_onBoard 20 = .ok (.iload_n 3, 1) := by decide +kernel
theorem dX2_onBoard_21 : decode cX2_onBoard 21 = .ok (.iload_n 1, 1) := by decide +kernel
theorem dX2_onBoard_22 : decode cX2_onBoard 22 = .ok (.iload 4, 2) := by decide +kernel
theorem dX2_onBoard_24 : decode cX2_onBoard 24 = .ok (.aload_n 0, 1) := by decide +kernel
theorem dX2_onBoard_25 : decode cX2_onBoard 25 = .ok (.getfield 21, 3) := by decide +kernel
theorem dX2_onBoard_28 : decode cX2_onBoard 28 = .ok (.imul, 1) := by decide +kernel
theorem dX2_onBoard_29 : decode cX2_onBoard 29 = .ok (.iushr, 1) := by decide +kernel
theorem dX2_onBoard_30 : decode cX2_onBoard 30 = .ok (.iload_n 2, 1) := by decide +kernel
theorem dX2_onBoard_31 : decode cX2_onBoard 31 = .ok (.iand, 1) := by decide +kernel
theorem dX2_onBoard_32 : decode cX2_onBoard 32 = .ok (.iload 4, 2) := by decide +kernel
theorem dX2_onBoard_34 : decode cX2_onBoard 34 = .ok (.iconst 4, 1) := by decide +kernel
theorem dX2_onBoard_35 : decode cX2_onBoard 35 = .ok (.imul, 1) := by decide +kernel
theorem dX2_onBoard_36 : decode cX2_onBoard 36 = .ok (.ishl, 1) := by decide +kernel
theorem dX2_onBoard_37 : decode cX2_onBoard 37 = .ok (.ior, 1) := by decide +kernel
theorem dX2_onBoard_38 : decode cX2_onBoard 38 = .ok (.istore_n 3, 1) := by decide +kernel
theorem dX2_onBoard_39 : decode cX2_onBoard 39 = .ok (.iinc 4 1, 3) := by decide +kernel
theorem dX2_onBoard_42 : decode cX2_onBoard 42 = .ok (.goto (-28), 3) := by decide +kernel
theorem dX2_onBoard_45 : decode cX2_onBoard 45 = .ok (.iload_n 3, 1) := by decide +kernel
theorem dX2_onBoard_46 : decode cX2_onBoard 46 = .ok (.ireturn, 1) := by decide +kernel
theorem dX2_cornered_0 : decode cX2_cornered 0 = .ok (.iload_n 0, 1) := by decide +kernel
theorem dX2_cornered_1 : decode cX2_cornered 1 = .ok (.istore_n 1, 1) := by decide +kernel
theorem dX2_cornered_2 : decode cX2_cornered 2 = .ok (.iconst 0, 1) := by decide +kernel
theorem dX2_cornered_3 : decode cX2_cornered 3 = .ok (.istore_n 2, 1) := by decide +kernel
theorem dX2_cornered_4 : decode cX2_cornered 4 = .ok (.iload_n 2, 1) := by decide +kernel
theorem dX2_cornered_5 : decode cX2_cornered 5 = .ok (.iconst 4, 1) := by decide +kernel
theorem dX2_cornered_6 : decode cX2_cornered 6 = .ok (.if_icmp .ge 20, 3) := by decide +kernel
theorem dX2_cornered_9 : decode cX2_cornered 9 = .ok (.iload_n 1, 1) := by decide +kernel
theorem dX2_cornered_10 : decode cX2_cornered 10 = .ok (.bipush 15, 2) := by decide +kernel
theorem dX2_cornered_12 : decode cX2_cornered 12 = .ok (.iand, 1) := by decide +kernel
theorem dX2_cornered_13 : decode cX2_cornered 13 = .ok (.ifCond .ne 13, 3) := by decide +kernel
theorem dX2_cornered_16 : decode cX2_cornered 16 = .ok (.iload_n 1, 1) := by decide +kernel
theorem dX2_cornered_17 : decode cX2_cornered 17 = .ok (.iconst 4, 1) := by decide +kernel
theorem dX2_cornered_18 : decode cX2_cornered 18 = .ok (.iushr, 1) := by decide +kernel
theorem dX2_cornered_19 : decode cX2_cornered 19 = .ok (.istore_n 1, 1) := by decide +kernel
theorem dX2_cornered_20 : decode cX2_cornered 20 = .ok (.iinc 2 1, 3) := by decide +kernel
theorem dX2_cornered_23 : decode cX2_cornered 23 = .ok (.goto (-19), 3) := by decide +kernel
theorem dX2_cornered_26 : decode cX2_cornered 26 = .ok (.iconst 0, 1) := by decide +kernel
theorem dX2_cornered_27 : decode cX2_cornered 27 = .ok (.istore_n 2, 1) := by decide +kernel
theorem dX2_cornered_28 : decode cX2_cornered 28 = .ok (.iload_n 2, 1) := by decide +kernel
theorem dX2_cornered_29 : decode cX2_cornered 29 = .ok (.iconst 4, 1) := by decide +kernel
theorem dX2_cornered_30 : decode cX2_cornered 30 = .ok (.if_icmp .ge 21, 3) := by decide +kernel
theorem dX2_cornered_33 : decode cX2_cornered 33 = .ok (.iload_n 1, 1) := by decide +kernel
theorem dX2_cornered_34 : decode cX2_cornered 34 = .ok (.sipush 4369, 3) := by decide +kernel
theorem dX2_cornered_37 : decode cX2_cornered 37 = .ok (.iand, 1) := by decide +kernel
theorem dX2_cornered_38 : decode cX2_cornered 38 = .ok (.ifCond .ne 13, 3) := by decide +kernel
theorem dX2_cornered_41 : decode cX2_cornered 41 = .ok (.iload_n 1, 1) := by decide +kernel
theorem dX2_cornered_42 : decode cX2_cornered 42 = .ok (.iconst 1, 1) := by decide +kernel
theorem dX2_cornered_43 : decode cX2_cornered 43 = .ok (.iushr, 1) := by decide +kernel
theorem dX2_cornered_44 : decode cX2_cornered 44 = .ok (.istore_n 1, 1) := by decide +kernel
theorem dX2_cornered_45 : decode cX2_cornered 45 = .ok (.iinc 2 1, 3) := by decide +kernel
theorem dX2_cornered_48 : decode cX2_cornered 48 = .ok (.goto (-20), 3) := by decide +kernel
theorem dX2_cornered_51 : decode cX2_cornered 51 = .ok (.iload_n 1, 1) := by decide +kernel
theorem dX2_cornered_52 : decode cX2_cornered 52 = .ok (.ireturn, 1) := by decide +kernel
theorem dX2_turned_0 : decode cX2_turned 0 = .ok (.iconst 0, 1) := by decide +kernel
theorem dX2_turned_1 : decode cX2_turned 1 = .ok (.istore_n 1, 1) := by decide +kernel
theorem dX2_turned_2 : decode cX2_turned 2 = .ok (.iconst 0, 1) := by decide +kernel
theorem dX2_turned_3 : decode cX2_turned 3 = .ok (.istore_n 2, 1) := by decide +kernel
theorem dX2_turned_4 : decode cX2_turned 4 = .ok (.iload_n 2, 1) := by decide +kernel
theorem dX2_turned_5 : decode cX2_turned 5 = .ok (.iconst 4, 1) := by decide +kernel
theorem dX2_turned_6 : decode cX2_turned 6 = .ok (.if_icmp .ge 48, 3) := by decide +kernel
theorem dX2_turned_9 : decode cX2_turned 9 = .ok (.iconst 0, 1) := by decide +kernel
theorem dX2_turned_10 : decode cX2_turned 10 = .ok (.istore_n 3, 1) := by decide +kernel
theorem dX2_turned_11 : decode cX2_turned 11 = .ok (.iload_n 3, 1) := by decide +kernel
theorem dX2_turned_12 : decode cX2_turned 12 = .ok (.iconst 4, 1) := by decide +kernel
theorem dX2_turned_13 : decode cX2_turned 13 = .ok (.if_icmp .ge 35, 3) := by decide +kernel
theorem dX2_turned_16 : decode cX2_turned 16 = .ok (.iload_n 0, 1) := by decide +kernel
theorem dX2_turned_17 : decode cX2_turned 17 = .ok (.iload_n 2, 1) := by decide +kernel
theorem dX2_turned_18 : decode cX2_turned 18 = .ok (.iconst 4, 1) := by decide +kernel
theorem dX2_turned_19 : decode cX2_turned 19 = .ok (.imul, 1) := by decide +kernel
theorem dX2_turned_20 : decode cX2_turned 20 = .ok (.iload_n 3, 1) := by decide +kernel
theorem dX2_turned_21 : decode cX2_turned 21 = .ok (.iadd, 1) := by decide +kernel
theorem dX2_turned_22 : decode cX2_turned 22 = .ok (.iushr, 1) := by decide +kernel
theorem dX2_turned_23 : decode cX2_turned 23 = .ok (.iconst 1, 1) := by decide +kernel
theorem dX2_turned_24 : decode cX2_turned 24 = .ok (.iand, 1) := by decide +kernel
theorem dX2_turned_25 : decode cX2_turned 25 = .ok (.ifCond .eq 17, 3) := by decide +kernel
theorem dX2_turned_28 : decode cX2_turned 28 = .ok (.iload_n 1, 1) := by decide +kernel
theorem dX2_turned_29 : decode cX2_turned 29 = .ok (.iconst 1, 1) := by decide +kernel
theorem dX2_turned_30 : decode cX2_turned 30 = .ok (.iload_n 3, 1) := by decide +kernel
theorem dX2_turned_31 : decode cX2_turned 31 = .ok (.iconst 4, 1) := by decide +kernel
theorem dX2_turned_32 : decode cX2_turned 32 = .ok (.imul, 1) := by decide +kernel
theorem dX2_turned_33 : decode cX2_turned 33 = .ok (.iconst 4, 1) := by decide +kernel
theorem dX2_turned_34 : decode cX2_turned 34 = .ok (.iadd, 1) := by decide +kernel
theorem dX2_turned_35 : decode cX2_turned 35 = .ok (.iconst 1, 1) := by decide +kernel
theorem dX2_turned_36 : decode cX2_turned 36 = .ok (.isub, 1) := by decide +kernel
theorem dX2_turned_37 : decode cX2_turned 37 = .ok (.iload_n 2, 1) := by decide +kernel
theorem dX2_turned_38 : decode cX2_turned 38 = .ok (.isub, 1) := by decide +kernel
theorem dX2_turned_39 : decode cX2_turned 39 = .ok (.ishl, 1) := by decide +kernel
theorem dX2_turned_40 : decode cX2_turned 40 = .ok (.ior, 1) := by decide +kernel
theorem dX2_turned_41 : decode cX2_turned 41 = .ok (.istore_n 1, 1) := by decide +kernel
theorem dX2_turned_42 : decode cX2_turned 42 = .ok (.iinc 3 1, 3) := by decide +kernel
theorem dX2_turned_45 : decode cX2_turned 45 = .ok (.goto (-34), 3) := by decide +kernel
theorem dX2_turned_48 : decode cX2_turned 48 = .ok (.iinc 2 1, 3) := by decide +kernel
theorem dX2_turned_51 : decode cX2_turned 51 = .ok (.goto (-47), 3) := by decide +kernel
theorem dX2_turned_54 : decode cX2_turned 54 = .ok (.iload_n 1, 1) := by decide +kernel
theorem dX2_turned_55 : decode cX2_turned 55 = .ok (.ireturn, 1) := by decide +kernel
theorem dX3_init_0 : decode cX3_init 0 = .ok (.aload_n 0, 1) := by decide +kernel
theorem dX3_init_1 : decode cX3_init 1 = .ok (.invokespecial 3, 3) := by decide +kernel
theorem dX3_init_4 : decode cX3_init 4 = .ok (.aload_n 0, 1) := by decide +kernel
theorem dX3_init_5 : decode cX3_init 5 = .ok (.iload_n 1, 1) := by decide +kernel
theorem dX3_init_6 : decode cX3_init 6 = .ok (.putfield 9, 3) := by decide +kernel
theorem dX3_init_9 : decode cX3_init 9 = .ok (.aload_n 0, 1) := by decide +kernel
theorem dX3_init_10 : decode cX3_init 10 = .ok (.aload_n 2, 1) := by decide +kernel
theorem dX3_init_11 : decode cX3_init 11 = .ok (.putfield 15, 3) := by decide +kernel
theorem dX3_init_14 : decode cX3_init 14 = .ok (.return_, 1) := by decide +kernel
theorem dX3_is_0 : decode cX3_is 0 = .ok (.aload_n 0, 1) := by decide +kernel
theorem dX3_is_1 : decode cX3_is 1 = .ok (.getfield 9, 3) := by decide +kernel
theorem dX3_is_4 : decode cX3_is 4 = .ok (.istore_n 2, 1) := by decide +kernel
theorem dX3_is_5 : decode cX3_is 5 = .ok (.iconst 0, 1) := by decide +kernel
theorem dX3_is_6 : decode cX3_is 6 = .ok (.istore_n 3, 1) := by decide +kernel
theorem dX3_is_7 : decode cX3_is 7 = .ok (.iload_n 3, 1) := by decide +kernel
theorem dX3_is_8 : decode cX3_is 8 = .ok (.getstatic 19, 3) := by decide +kernel
theorem dX3_is_11 : decode cX3_is 11 = .ok (.arraylength, 1) := by decide +kernel
theorem dX3_is_12 : decode cX3_is 12 = .ok (.if_icmp .ge 36, 3) := by decide +kernel
theorem dX3_is_15 : decode cX3_is 15 = .ok (.iload_n 2, 1) := by decide +kernel
theorem dX3_is_16 : decode cX3_is 16 = .ok (.iload_n 1, 1) := by decide +kernel
theorem dX3_is_17 : decode cX3_is 17 = .ok (.if_icmp .ne 5, 3) := by decide +kernel
theorem dX3_is_20 : decode cX3_is 20 = .ok (.iconst 1, 1) := by decide +kernel
theorem dX3_is_21 : decode cX3_is 21 = .ok (.ireturn, 1) := by decide +kernel
theorem dX3_is_22 : decode cX3_is 22 = .ok (.iload_n 2, 1) := by decide +kernel
theorem dX3_is_23 : decode cX3_is 23 = .ok (.ifCond .lt 11, 3) := by decide +kernel
theorem dX3_is_26 : decode cX3_is 26 = .ok (.iload_n 2, 1) := by decide +kernel
theorem dX3_is_27 : decode cX3_is 27 = .ok (.getstatic 19, 3) := by decide +kernel
theorem dX3_is_30 : decode cX3_is 30 = .ok (.arraylength, 1) := by decide +kernel
theorem dX3_is_31 : decode cX3_is 31 = .ok (.if_icmp .lt 5, 3) := by decide +kernel
theorem dX3_is_34 : decode cX3_is 34 = .ok (.iconst 0, 1) := by decide +kernel
theorem dX3_is_35 : decode cX3_is 35 = .ok (.ireturn, 1) := by decide +kernel
theorem dX3_is_36 : decode cX3_is 36 = .ok (.getstatic 19, 3) := by decide +kernel
theorem dX3_is_39 : decode cX3_is 39 = .ok (.iload_n 2, 1) := by decide +kernel
theorem dX3_is_40 : decode cX3_is 40 = .ok (.iaload, 1) := by decide +kernel
theorem dX3_is_41 : decode cX3_is 41 = .ok (.istore_n 2, 1) := by decide +kernel
theorem dX3_is_42 : decode cX3_is 42 = .ok (.iinc 3 1, 3) := by decide +kernel
theorem dX3_is_45 : decode cX3_is 45 = .ok (.goto (-38), 3) := by decide +kernel
theorem dX3_is_48 : decode cX3_is 48 = .ok (.iconst 0, 1) := by decide +kernel
theorem dX3_is_49 : decode cX3_is 49 = .ok (.ireturn, 1) := by decide +kernel
theorem dX3_matches_0 : decode cX3_matches 0 = .ok (.aload_n 1, 1) := by decide +kernel
theorem dX3_matches_1 : decode cX3_matches 1 = .ok (.iload_n 2, 1) := by decide +kernel
theorem dX3_matches_2 : decode cX3_matches 2 = .ok (.invokevirtual 23, 3) := by decide +kernel
theorem dX3_matches_5 : decode cX3_matches 5 = .ok (.istore 5, 2) := by decide +kernel
theorem dX3_matches_7 : decode cX3_matches 7 = .ok (.aload_n 3, 1) := by decide +kernel
theorem dX3_matches_8 : decode cX3_matches 8 = .ok (.iload 4, 2) := by decide +kernel
theorem dX3_matches_10 : decode cX3_matches 10 = .ok (.invokevirtual 23, 3) := by decide +kernel
theorem dX3_matches_13 : decode cX3_matches 13 = .ok (.istore 6, 2) := by decide +kernel
theorem dX3_matches_15 : decode cX3_matches 15 = .ok (.aload_n 0, 1) := by decide +kernel
theorem dX3_matches_16 : decode cX3_matches 16 = .ok (.getfield 9, 3) := by decide +kernel
theorem dX3_matches_19 : decode cX3_matches 19 = .ok (.tableswitch 123 1 5 #[33, 46, 66, 56, 87], 33) := by decide +kernel
theorem dX3_matches_52 : decode cX3_matches 52 = .ok (.iload 5, 2) := by decide +kernel
theorem dX3_matches_54 : decode cX3_matches 54 = .ok (.iload 6, 2) := by decide +kernel
theorem dX3_matches_56 : decode cX3_matches 56 = .ok (.if_icmp .ne 7, 3) := by decide +kernel
theorem dX3_matches_59 : decode cX3_matches 59 = .ok (.iconst 1, 1) := by decide +kernel
theorem dX3_matches_60 : decode cX3_matches 60 = .ok (.goto 4, 3) := by decide +kernel
theorem dX3_matches_63 : decode cX3_matches 63 = .ok (.iconst 0, 1) := by decide +kernel
theorem dX3_matches_64 : decode cX3_matches 64 = .ok (.ireturn, 1) := by decide +kernel
theorem dX3_matches_65 : decode cX3_matches 65 = .ok (.aload_n 0, 1) := by decide +kernel
theorem dX3_matches_66 : decode cX3_matches 66 = .ok (.iload 5, 2) := by decide +kernel
theorem dX3_matches_68 : decode cX3_matches 68 = .ok (.iload 6, 2) := by decide +kernel
theorem dX3_matches_70 : decode cX3_matches 70 = .ok (.iconst 0, 1) := by decide +kernel
theorem dX3_matches_71 : decode cX3_matches 71 = .ok (.invokevirtual 29, 3) := by decide +kernel
theorem dX3_matches_74 : decode cX3_matches 74 = .ok (.ireturn, 1) := by decide +kernel
theorem dX3_matches_75 : decode cX3_matches 75 = .ok (.aload_n 0, 1) := by decide +kernel
theorem dX3_matches_76 : decode cX3_matches 76 = .ok (.iload 5, 2) := by decide +kernel
theorem dX3_matches_78 : decode cX3_matches 78 = .ok (.iload 6, 2) := by decide +kernel
theorem dX3_matches_80 : decode cX3_matches 80 = .ok (.iconst 3, 1) := by decide +kernel
theorem dX3_matches_81 : decode cX3_matches 81 = .ok (.invokevirtual 29, 3) := by decide +kernel
theorem dX3_matches_84 : decode cX3_matches 84 = .ok (.ireturn, 1) := by decide +kernel
theorem dX3_matches_85 : decode cX3_matches 85 = .ok (.aload_n 1, 1) := by decide +kernel
theorem dX3_matches_86 : decode cX3_matches 86 = .ok (.iload 5, 2) := by decide +kernel
theorem dX3_matches_88 : decode cX3_matches 88 = .ok (.invokevirtual 33, 3) := by decide +kernel
theorem dX3_matches_91 : decode cX3_matches 91 = .ok (.aload_n 3, 1) := by decide +kernel
theorem dX3_matches_92 : decode cX3_matches 92 = .ok (.iload 6, 2) := by decide +kernel
theorem dX3_matches_94 : decode cX3_matches 94 = .ok (.invokevirtual 33, 3) := by decide +kernel
theorem dX3_matches_97 : decode cX3_matches 97 = .ok (.if_icmp .ne 7, 3) := by decide +kernel
theorem dX3_matches_100 : decode cX3_matches 100 = .ok (.iconst 1, 1) := by decide +kernel
theorem dX3_matches_101 : decode cX3_matches 101 = .ok (.goto 4, 3) := by decide +kernel
theorem dX3_matches_104 : decode cX3_matches 104 = .ok (.iconst 0, 1) := by decide +kernel
theorem dX3_matches_105 : decode cX3_matches 105 = .ok (.ireturn, 1) := by decide +kernel
theorem dX3_matches_106 : decode cX3_matches 106 = .ok (.aload_n 1, 1) := by decide +kernel
theorem dX3_matches_107 : decode cX3_matches 107 = .ok (.iload 5, 2) := by decide +kernel
theorem dX3_matches_109 : decode cX3_matches 109 = .ok (.invokevirtual 33, 3) := by decide +kernel
theorem dX3_matches_112 : decode cX3_matches 112 = .ok (.aload_n 3, 1) := by decide +kernel
theorem dX3_matches_113 : decode cX3_matches 113 = .ok (.iload 6, 2) := by decide +kernel
theorem dX3_matches_115 : decode cX3_matches 115 = .ok (.invokevirtual 33, 3) := by decide +kernel
theorem dX3_matches_118 : decode cX3_matches 118 = .ok (.if_icmp .ne 22, 3) := by decide +kernel
theorem dX3_matches_121 : decode cX3_matches 121 = .ok (.aload_n 1, 1) := by decide +kernel
theorem dX3_matches_122 : decode cX3_matches 122 = .ok (.iload 5, 2) := by decide +kernel
theorem dX3_matches_124 : decode cX3_matches 124 = .ok (.invokevirtual 36, 3) := by decide +kernel
theorem dX3_matches_127 : decode cX3_matches 127 = .ok (.aload_n 3, 1) := by decide +kernel
theorem dX3_matches_128 : decode cX3_matches 128 = .ok (.iload 6, 2) := by decide +kernel
theorem dX3_matches_130 : decode cX3_matches 130 = .ok (.invokevirtual 36, 3) := by decide +kernel
theorem dX3_matches_133 : decode cX3_matches 133 = .ok (.if_icmp .ne 7, 3) := by decide +kernel
theorem dX3_matches_136 : decode cX3_matches 136 = .ok (.iconst 1, 1) := by decide +kernel
theorem dX3_matches_137 : decode cX3_matches 137 = .ok (.goto 4, 3) := by decide +kernel
theorem dX3_matches_140 : decode cX3_matches 140 = .ok (.iconst 0, 1) := by decide +kernel
theorem dX3_matches_141 : decode cX3_matches 141 = .ok (.ireturn, 1) := by decide +kernel
theorem dX3_matches_142 : decode cX3_matches 142 = .ok (.iload 5, 2) := by decide +kernel
theorem dX3_matches_144 : decode cX3_matches 144 = .ok (.iload 6, 2) := by decide +kernel
theorem dX3_matches_146 : decode cX3_matches 146 = .ok (.iand, 1) := by decide +kernel
theorem dX3_matches_147 : decode cX3_matches 147 = .ok (.ifCond .eq 7, 3) := by decide +kernel
theorem dX3_matches_150 : decode cX3_matches 150 = .ok (.iconst 1, 1) := by decide +kernel
theorem dX3_matches_151 : decode cX3_matches 151 = .ok (.goto 4, 3) := by decide +kernel
theorem dX3_matches_154 : decode cX3_matches 154 = .ok (.iconst 0, 1) := by decide +kernel
theorem dX3_matches_155 : decode cX3_matches 155 = .ok (.ireturn, 1) := by decide +kernel
theorem dX3_areAlike_0 : decode cX3_areAlike 0 = .ok (.iload_n 1, 1) := by decide +kernel
theorem dX3_areAlike_1 : decode cX3_areAlike 1 = .ok (.invokestatic 39, 3) := by decide +kernel
theorem dX3_areAlike_4 : decode cX3_areAlike 4 = .ok (.iload_n 2, 1) := by decide +kernel
theorem dX3_areAlike_5 : decode cX3_areAlike 5 = .ok (.invokestatic 39, 3) := by decide +kernel
theorem dX3_areAlike_8 : decode cX3_areAlike 8 = .ok (.if_icmp .eq 5, 3) := by decide +kernel
theorem dX3_areAlike_11 : decode cX3_areAlike 11 = .ok (.iconst 0, 1) := by decide +kernel
theorem dX3_areAlike_12 : decode cX3_areAlike 12 = .ok (.ireturn, 1) := by decide +kernel
theorem dX3_areAlike_13 : decode cX3_areAlike 13 = .ok (.aload_n 0, 1) := by decide +kernel
theorem dX3_areAlike_14 : decode cX3_areAlike 14 = .ok (.getfield 15, 3) := by decide +kernel
theorem dX3_areAlike_17 : decode cX3_areAlike 17 = .ok (.iload_n 1, 1) := by decide +kernel
theorem dX3_areAlike_18 : decode cX3_areAlike 18 = .ok (.invokevirtual 44, 3) := by decide +kernel
theorem dX3_areAlike_21 : decode cX3_areAlike 21 = .ok (.invokestatic 49, 3) := by decide +kernel
theorem dX3_areAlike_24 : decode cX3_areAlike 24 = .ok (.istore 4, 2) := by decide +kernel
theorem dX3_areAlike_26 : decode cX3_areAlike 26 = .ok (.aload_n 0, 1) := by decide +kernel
theorem dX3_areAlike_27 : decode cX3_areAlike 27 = .ok (.getfield 15, 3) := by decide +kernel
theorem dX3_areAlike_30 : decode cX3_areAlike 30 = .ok (.iload_n 2, 1) := by decide +kernel
theorem dX3_areAlike_31 : decode cX3_areAlike 31 = .ok (.invokevirtual 44, 3) := by decide +kernel
theorem dX3_areAlike_34 : decode cX3_areAlike 34 = .ok (.invokestatic 49, 3) := by decide +kernel
theorem dX3_areAlike_37 : decode cX3_areAlike 37 = .ok (.istore 5, 2) := by decide +kernel
theorem dX3_areAlike_39 : decode cX3_areAlike 39 = .ok (.iconst 0, 1) := by decide +kernel
theorem dX3_areAlike_40 : decode cX3_areAlike 40 = .ok (.istore 6, 2) := by decide +kernel
theorem dX3_areAlike_42 : decode cX3_areAlike 42 = .ok (.iload 6, 2) := by decide +kernel
theorem dX3_areAlike_44 : decode cX3_areAlike 44 = .ok (.iload_n 3, 1) := by decide +kernel
theorem dX3_areAlike_45 : decode cX3_areAlike 45 = .ok (.if_icmp .ge 26, 3) := by decide +kernel
theorem dX3_areAlike_48 : decode cX3_areAlike 48 = .ok (.iload 4, 2) := by decide +kernel
theorem dX3_areAlike_50 : decode cX3_areAlike 50 = .ok (.iload 5, 2) := by decide +kernel
theorem dX3_areAlike_52 : decode cX3_areAlike 52 = .ok (.if_icmp .eq 19, 3) := by decide +kernel
theorem dX3_areAlike_55 : decode cX3_areAlike 55 = .ok (.iload 4, 2) := by decide +kernel
theorem dX3_areAlike_57 : decode cX3_areAlike 57 = .ok (.invokestatic 52, 3) := by decide +kernel
theorem dX3_areAlike_60 : decode cX3_areAlike 60 = .ok (.invokestatic 49, 3) := by decide +kernel
theorem dX3_areAlike_63 : decode cX3_areAlike 63 = .ok (.istore 4, 2) := by decide +kernel
theorem dX3_areAlike_65 : decode cX3_areAlike 65 = .ok (.iinc 6 1, 3) := by decide +kernel
theorem dX3_areAlike_68 : decode cX3_areAlike 68 = .ok (.goto (-26), 3) := by decide +kernel
theorem dX3_areAlike_71 : decode cX3_areAlike 71 = .ok (.iload 4, 2) := by decide +kernel
theorem dX3_areAlike_73 : decode cX3_areAlike 73 = .ok (.iload 5, 2) := by decide +kernel
theorem dX3_areAlike_75 : decode cX3_areAlike 75 = .ok (.if_icmp .ne 7, 3) := by decide +kernel
theorem dX3_areAlike_78 : decode cX3_areAlike 78 = .ok (.iconst 1, 1) := by decide +kernel
theorem dX3_areAlike_79 : decode cX3_areAlike 79 = .ok (.goto 4, 3) := by decide +kernel
theorem dX3_areAlike_82 : decode cX3_areAlike 82 = .ok (.iconst 0, 1) := by decide +kernel
theorem dX3_areAlike_83 : decode cX3_areAlike 83 = .ok (.ireturn, 1) := by decide +kernel
theorem dX3_allMatching_0 : decode cX3_allMatching 0 = .ok (.iconst 0, 1) := by decide +kernel
theorem dX3_allMatching_1 : decode cX3_allMatching 1 = .ok (.istore 4, 2) := by decide +kernel
theorem dX3_allMatching_3 : decode cX3_allMatching 3 = .ok (.iconst 0, 1) := by decide +kernel
theorem dX3_allMatching_4 : decode cX3_allMatching 4 = .ok (.istore 5, 2) := by decide +kernel
theorem dX3_allMatching_6 : decode cX3_allMatching 6 = .ok (.iload 5, 2) := by decide +kernel
theorem dX3_allMatching_8 : decode cX3_allMatching 8 = .ok (.aload_n 3, 1) := by decide +kernel
theorem dX3_allMatching_9 : decode cX3_allMatching 9 = .ok (.getfield 55, 3) := by decide +kernel
theorem dX3_allMatching_12 : decode cX3_allMatching 12 = .ok (.if_icmp .ge 30, 3) := by decide +kernel
theorem dX3_allMatching_15 : decode cX3_allMatching 15 = .ok (.aload_n 0, 1) := by decide +kernel
theorem dX3_allMatching_16 : decode cX3_allMatching 16 = .ok (.aload_n 1, 1) := by decide +kernel
theorem dX3_allMatching_17 : decode cX3_allMatching 17 = .ok (.iload_n 2, 1) := by decide +kernel
theorem dX3_allMatching_18 : decode cX3_allMatching 18 = .ok (.aload_n 3, 1) := by decide +kernel
theorem dX3_allMatching_19 : decode cX3_allMatching 19 = .ok (.iload 5, 2) := by decide +kernel
theorem dX3_allMatching_21 : decode cX3_allMatching 21 = .ok (.invokevirtual 58, 3) := by decide +kernel
theorem dX3_allMatching_24 : decode cX3_allMatching 24 = .ok (.ifCond .eq 12, 3) := by decide +kernel
theorem dX3_allMatching_27 : decode cX3_allMatching 27 = .ok (.iload 4, 2) := by decide +kernel
theorem dX3_allMatching_29 : decode cX3_allMatching 29 = .ok (.iconst 1, 1) := by decide +kernel
theorem dX3_allMatching_30 : decode cX3_allMatching 30 = .ok (.iload 5, 2) := by decide +kernel
theorem dX3_allMatching_32 : decode cX3_allMatching 32 = .ok (.ishl, 1) := by decide +kernel
theorem dX3_allMatching_33 : decode cX3_allMatching 33 = .ok (.ior, 1) := by decide +kernel
theorem dX3_allMatching_34 : decode cX3_allMatching 34 = .ok (.istore 4, 2) := by decide +kernel
theorem dX3_allMatching_36 : decode cX3_allMatching 36 = .ok (.iinc 5 1, 3) := by decide +kernel
theorem dX3_allMatching_39 : decode cX3_allMatching 39 = .ok (.goto (-33), 3) := by decide +kernel
theorem dX3_allMatching_42 : decode cX3_allMatching 42 = .ok (.iload 4, 2) := by decide +kernel
theorem dX3_allMatching_44 : decode cX3_allMatching 44 = .ok (.ireturn, 1) := by decide +kernel
theorem dX3_isFair_0 : decode cX3_isFair 0 = .ok (.aload_n 1, 1) := by decide +kernel
theorem dX3_isFair_1 : decode cX3_isFair 1 = .ok (.getfield 55, 3) := by decide +kernel
theorem dX3_isFair_4 : decode cX3_isFair 4 = .ok (.aload_n 2, 1) := by decide +kernel
theorem dX3_isFair_5 : decode cX3_isFair 5 = .ok (.getfield 55, 3) := by decide +kernel
theorem dX3_isFair_8 : decode cX3_isFair 8 = .ok (.if_icmp .eq 5, 3) := by decide +kernel
theorem dX3_isFair_11 : decode cX3_isFair 11 = .ok (.iconst 0, 1) := by decide +kernel
theorem dX3_isFair_12 : decode cX3_isFair 12 = .ok (.ireturn, 1) := by decide +kernel
theorem dX3_isFair_13 : decode cX3_isFair 13 = .ok (.iconst 0, 1) := by decide +kernel
theorem dX3_isFair_14 : decode cX3_isFair 14 = .ok (.istore_n 3, 1) := by decide +kernel
theorem dX3_isFair_15 : decode cX3_isFair 15 = .ok (.iconst 0, 1) := by decide +kernel
theorem dX3_isFair_16 : decode cX3_isFair 16 = .ok (.istore 4, 2) := by decide +kernel
theorem dX3_isFair_18 : decode cX3_isFair 18 = .ok (.iload 4, 2) := by decide +kernel
theorem dX3_isFair_20 : decode cX3_isFair 20 = .ok (.aload_n 1, 1) := by decide +kernel
theorem dX3_isFair_21 : decode cX3_isFair 21 = .ok (.getfield 55, 3) := by decide +kernel
theorem dX3_isFair_24 : decode cX3_isFair 24 = .ok (.if_icmp .ge 35, 3) := by decide +kernel
theorem dX3_isFair_27 : decode cX3_isFair 27 = .ok (.aload_n 0, 1) := by decide +kernel
theorem dX3_isFair_28 : decode cX3_isFair 28 = .ok (.aload_n 1, 1) := by decide +kernel
theorem dX3_isFair_29 : decode cX3_isFair 29 = .ok (.iload 4, 2) := by decide +kernel
theorem dX3_isFair_31 : decode cX3_isFair 31 = .ok (.aload_n 2, 1) := by decide +kernel
theorem dX3_isFair_32 : decode cX3_isFair 32 = .ok (.invokevirtual 62, 3) := by decide +kernel
theorem dX3_isFair_35 : decode cX3_isFair 35 = .ok (.istore 5, 2) := by decide +kernel
theorem dX3_isFair_37 : decode cX3_isFair 37 = .ok (.iload 5, 2) := by decide +kernel
theorem dX3_isFair_39 : decode cX3_isFair 39 = .ok (.invokestatic 39, 3) := by decide +kernel
theorem dX3_isFair_42 : decode cX3_isFair 42 = .ok (.iconst 1, 1) := by decide +kernel
theorem dX3_isFair_43 : decode cX3_isFair 43 = .ok (.if_icmp .eq 5, 3) := by decide +kernel
theorem dX3_isFair_46 : decode cX3_isFair 46 = .ok (.iconst 0, 1) := by decide +kernel
theorem dX3_isFair_47 : decode cX3_isFair 47 = .ok (.ireturn, 1) := by decide +kernel
theorem dX3_isFair_48 : decode cX3_isFair 48 = .ok (.iload_n 3, 1) := by decide +kernel
theorem dX3_isFair_49 : decode cX3_isFair 49 = .ok (.iload 5, 2) := by decide +kernel
theorem dX3_isFair_51 : decode cX3_isFair 51 = .ok (.ior, 1) := by decide +kernel
theorem dX3_isFair_52 : decode cX3_isFair 52 = .ok (.istore_n 3, 1) := by decide +kernel
theorem dX3_isFair_53 : decode cX3_isFair 53 = .ok (.iinc 4 1, 3) := by decide +kernel
theorem dX3_isFair_56 : decode cX3_isFair 56 = .ok (.goto (-38), 3) := by decide +kernel
theorem dX3_isFair_59 : decode cX3_isFair 59 = .ok (.iload_n 3, 1) := by decide +kernel
theorem dX3_isFair_60 : decode cX3_isFair 60 = .ok (.iconst 1, 1) := by decide +kernel
theorem dX3_isFair_61 : decode cX3_isFair 61 = .ok (.aload_n 2, 1) := by decide +kernel
theorem dX3_isFair_62 : decode cX3_isFair 62 = .ok (.getfield 55, 3) := by decide +kernel
theorem dX3_isFair_65 : decode cX3_isFair 65 = .ok (.ishl, 1) := by decide +kernel
theorem dX3_isFair_66 : decode cX3_isFair 66 = .ok (.iconst 1, 1) := by decide +kernel
theorem dX3_isFair_67 : decode cX3_isFair 67 = .ok (.isub, 1) := by decide +kernel
theorem dX3_isFair_68 : decode cX3_isFair 68 = .ok (.if_icmp .ne 7, 3) := by decide +kernel
theorem dX3_isFair_71 : decode cX3_isFair 71 = .ok (.iconst 1, 1) := by decide +kernel
theorem dX3_isFair_72 : decode cX3_isFair 72 = .ok (.goto 4, 3) := by decide +kernel
theorem dX3_isFair_75 : decode cX3_isFair 75 = .ok (.iconst 0, 1) := by decide +kernel
theorem dX3_isFair_76 : decode cX3_isFair 76 = .ok (.ireturn, 1) := by decide +kernel
theorem dX3_tells_0 : decode cX3_tells 0 = .ok (.iload_n 1, 1) := by decide +kernel
theorem dX3_tells_1 : decode cX3_tells 1 = .ok (.tableswitch 78 1 4 #[31, 36, 69, 55], 31) := by decide +kernel
theorem dX3_tells_32 : decode cX3_tells 32 = .ok (.aload_n 2, 1) := by decide +kernel
theorem dX3_tells_33 : decode cX3_tells 33 = .ok (.invokevirtual 66, 3) := by decide +kernel
theorem dX3_tells_36 : decode cX3_tells 36 = .ok (.ireturn, 1) := by decide +kernel
theorem dX3_tells_37 : decode cX3_tells 37 = .ok (.aload_n 0, 1) := by decide +kernel
theorem dX3_tells_38 : decode cX3_tells 38 = .ok (.aload_n 2, 1) := by decide +kernel
theorem dX3_tells_39 : decode cX3_tells 39 = .ok (.aload_n 0, 1) := by decide +kernel
theorem dX3_tells_40 : decode cX3_tells 40 = .ok (.getfield 9, 3) := by decide +kernel
theorem dX3_tells_43 : decode cX3_tells 43 = .ok (.iconst 4, 1) := by decide +kernel
theorem dX3_tells_44 : decode cX3_tells 44 = .ok (.if_icmp .ne 7, 3) := by decide +kernel
theorem dX3_tells_47 : decode cX3_tells 47 = .ok (.iconst 3, 1) := by decide +kernel
theorem dX3_tells_48 : decode cX3_tells 48 = .ok (.goto 4, 3) := by decide +kernel
theorem dX3_tells_51 : decode cX3_tells 51 = .ok (.iconst 0, 1) := by decide +kernel
theorem dX3_tells_52 : decode cX3_tells 52 = .ok (.invokevirtual 70, 3) := by decide +kernel
theorem dX3_tells_55 : decode cX3_tells 55 = .ok (.ireturn, 1) := by decide +kernel
theorem dX3_tells_56 : decode cX3_tells 56 = .ok (.aload_n 0, 1) := by decide +kernel
theorem dX3_tells_57 : decode cX3_tells 57 = .ok (.aload_n 2, 1) := by decide +kernel
theorem dX3_tells_58 : decode cX3_tells 58 = .ok (.iconst 3, 1) := by decide +kernel
theorem dX3_tells_59 : decode cX3_tells 59 = .ok (.invokevirtual 70, 3) := by decide +kernel
theorem dX3_tells_62 : decode cX3_tells 62 = .ok (.aload_n 0, 1) := by decide +kernel
theorem dX3_tells_63 : decode cX3_tells 63 = .ok (.aload_n 2, 1) := by decide +kernel
theorem dX3_tells_64 : decode cX3_tells 64 = .ok (.iconst 0, 1) := by decide +kernel
theorem dX3_tells_65 : decode cX3_tells 65 = .ok (.invokevirtual 70, 3) := by decide +kernel
theorem dX3_tells_68 : decode cX3_tells 68 = .ok (.isub, 1) := by decide +kernel
theorem dX3_tells_69 : decode cX3_tells 69 = .ok (.ireturn, 1) := by decide +kernel
theorem dX3_tells_70 : decode cX3_tells 70 = .ok (.aload_n 2, 1) := by decide +kernel
theorem dX3_tells_71 : decode cX3_tells 71 = .ok (.aload_n 2, 1) := by decide +kernel
theorem dX3_tells_72 : decode cX3_tells 72 = .ok (.getfield 74, 3) := by decide +kernel
theorem dX3_tells_75 : decode cX3_tells 75 = .ok (.invokevirtual 33, 3) := by decide +kernel
theorem dX3_tells_78 : decode cX3_tells 78 = .ok (.ireturn, 1) := by decide +kernel
theorem dX3_tells_79 : decode cX3_tells 79 = .ok (.aload_n 2, 1) := by decide +kernel
theorem dX3_tells_80 : decode cX3_tells 80 = .ok (.aload_n 2, 1) := by decide +kernel
theorem dX3_tells_81 : decode cX3_tells 81 = .ok (.getfield 74, 3) := by decide +kernel
theorem dX3_tells_84 : decode cX3_tells 84 = .ok (.invokevirtual 36, 3) := by decide +kernel
theorem dX3_tells_87 : decode cX3_tells 87 = .ok (.ireturn, 1) := by decide +kernel
theorem dX3_alikePairs_0 : decode cX3_alikePairs 0 = .ok (.iconst 0, 1) := by decide +kernel
theorem dX3_alikePairs_1 : decode cX3_alikePairs 1 = .ok (.istore_n 3, 1) := by decide +kernel
theorem dX3_alikePairs_2 : decode cX3_alikePairs 2 = .ok (.iconst 0, 1) := by decide +kernel
theorem dX3_alikePairs_3 : decode cX3_alikePairs 3 = .ok (.istore 4, 2) := by decide +kernel
theorem dX3_alikePairs_5 : decode cX3_alikePairs 5 = .ok (.iload 4, 2) := by decide +kernel
theorem dX3_alikePairs_7 : decode cX3_alikePairs 7 = .ok (.aload_n 1, 1) := by decide +kernel
theorem dX3_alikePairs_8 : decode cX3_alikePairs 8 = .ok (.getfield 55, 3) := by decide +kernel
theorem dX3_alikePairs_11 : decode cX3_alikePairs 11 = .ok (.if_icmp .ge 53, 3) := by decide +kernel
theorem dX3_alikePairs_14 : decode cX3_alikePairs 14 = .ok (.iload 4, 2) := by decide +kernel
theorem dX3_alikePairs_16 : decode cX3_alikePairs 16 = .ok (.iconst 1, 1) := by decide +kernel
theorem dX3_alikePairs_17 : decode cX3_alikePairs 17 = .ok (.iadd, 1) := by decide +kernel
theorem dX3_alikePairs_18 : decode cX3_alikePairs 18 = .ok (.istore 5, 2) := by decide +kernel
theorem dX3_alikePairs_20 : decode cX3_alikePairs 20 = .ok (.iload 5, 2) := by decide +kernel
theorem dX3_alikePairs_22 : decode cX3_alikePairs 22 = .ok (.aload_n 1, 1) := by decide +kernel
theorem dX3_alikePairs_23 : decode cX3_alikePairs 23 = .ok (.getfield 55, 3) := by decide +kernel
theorem dX3_alikePairs_26 : decode cX3_alikePairs 26 = .ok (.if_icmp .ge 32, 3) := by decide +kernel
theorem dX3_alikePairs_29 : decode cX3_alikePairs 29 = .ok (.aload_n 0, 1) := by decide +kernel
theorem dX3_alikePairs_30 : decode cX3_alikePairs 30 = .ok (.aload_n 1, 1) := by decide +kernel
theorem dX3_alikePairs_31 : decode cX3_alikePairs 31 = .ok (.iload 4, 2) := by decide +kernel
theorem dX3_alikePairs_33 : decode cX3_alikePairs 33 = .ok (.invokevirtual 23, 3) := by decide +kernel
theorem dX3_alikePairs_36 : decode cX3_alikePairs 36 = .ok (.aload_n 1, 1) := by decide +kernel
theorem dX3_alikePairs_37 : decode cX3_alikePairs 37 = .ok (.iload 5, 2) := by decide +kernel
theorem dX3_alikePairs_39 : decode cX3_alikePairs 39 = .ok (.invokevirtual 23, 3) := by decide +kernel
theorem dX3_alikePairs_42 : decode cX3_alikePairs 42 = .ok (.iload_n 2, 1) := by decide +kernel
theorem dX3_alikePairs_43 : decode cX3_alikePairs 43 = .ok (.invokevirtual 29, 3) := by decide +kernel
theorem dX3_alikePairs_46 : decode cX3_alikePairs 46 = .ok (.ifCond .eq 6, 3) := by decide +kernel
theorem dX3_alikePairs_49 : decode cX3_alikePairs 49 = .ok (.iinc 3 1, 3) := by decide +kernel
theorem dX3_alikePairs_52 : decode cX3_alikePairs 52 = .ok (.iinc 5 1, 3) := by decide +kernel
theorem dX3_alikePairs_55 : decode cX3_alikePairs 55 = .ok (.goto (-35), 3) := by decide +kernel
theorem dX3_alikePairs_58 : decode cX3_alikePairs 58 = .ok (.iinc 4 1, 3) := by decide +kernel
theorem dX3_alikePairs_61 : decode cX3_alikePairs 61 = .ok (.goto (-56), 3) := by decide +kernel
theorem dX3_alikePairs_64 : decode cX3_alikePairs 64 = .ok (.iload_n 3, 1) := by decide +kernel
theorem dX3_alikePairs_65 : decode cX3_alikePairs 65 = .ok (.ireturn, 1) := by decide +kernel
theorem dX4_init_0 : decode cX4_init 0 = .ok (.aload_n 0, 1) := by decide +kernel
theorem dX4_init_1 : decode cX4_init 1 = .ok (.invokespecial 3, 3) := by decide +kernel
theorem dX4_init_4 : decode cX4_init 4 = .ok (.aload_n 0, 1) := by decide +kernel
theorem dX4_init_5 : decode cX4_init 5 = .ok (.bipush 16, 2) := by decide +kernel
theorem dX4_init_7 : decode cX4_init 7 = .ok (.newarray .int, 2) := by decide +kernel
theorem dX4_init_9 : decode cX4_init 9 = .ok (.putfield 9, 3) := by decide +kernel
theorem dX4_init_12 : decode cX4_init 12 = .ok (.aload_n 0, 1) := by decide +kernel
theorem dX4_init_13 : decode cX4_init 13 = .ok (.iconst 4, 1) := by decide +kernel
theorem dX4_init_14 : decode cX4_init 14 = .ok (.newarray .int, 2) := by decide +kernel
theorem dX4_init_16 : decode cX4_init 16 = .ok (.putfield 15, 3) := by decide +kernel
theorem dX4_init_19 : decode cX4_init 19 = .ok (.aload_n 0, 1) := by decide +kernel
theorem dX4_init_20 : decode cX4_init 20 = .ok (.bipush 6, 2) := by decide +kernel
theorem dX4_init_22 : decode cX4_init 22 = .ok (.newarray .int, 2) := by decide +kernel
theorem dX4_init_24 : decode cX4_init 24 = .ok (.putfield 18, 3) := by decide +kernel
theorem dX4_init_27 : decode cX4_init 27 = .ok (.return_, 1) := by decide +kernel
theorem dX4_faultOf_0 : decode cX4_faultOf 0 = .ok (.aload_n 0, 1) := by decide +kernel
theorem dX4_faultOf_1 : decode cX4_faultOf 1 = .ok (.iconst 0, 1) := by decide +kernel
theorem dX4_faultOf_2 : decode cX4_faultOf 2 = .ok (.putfield 21, 3) := by decide +kernel
theorem dX4_faultOf_5 : decode cX4_faultOf 5 = .ok (.aload_n 0, 1) := by decide +kernel
theorem dX4_faultOf_6 : decode cX4_faultOf 6 = .ok (.iconst 0, 1) := by decide +kernel
theorem dX4_faultOf_7 : decode cX4_faultOf 7 = .ok (.putfield 25, 3) := by decide +kernel
theorem dX4_faultOf_10 : decode cX4_faultOf 10 = .ok (.aload_n 0, 1) := by decide +kernel
theorem dX4_faultOf_11 : decode cX4_faultOf 11 = .ok (.iconst 0, 1) := by decide +kernel
theorem dX4_faultOf_12 : decode cX4_faultOf 12 = .ok (.putfield 28, 3) := by decide +kernel
theorem dX4_faultOf_15 : decode cX4_faultOf 15 = .ok (.aload_n 0, 1) := by decide +kernel
theorem dX4_faultOf_16 : decode cX4_faultOf 16 = .ok (.iconst 0, 1) := by decide +kernel
theorem dX4_faultOf_17 : decode cX4_faultOf 17 = .ok (.putfield 31, 3) := by decide +kernel
theorem dX4_faultOf_20 : decode cX4_faultOf 20 = .ok (.aload_n 0, 1) := by decide +kernel
theorem dX4_faultOf_21 : decode cX4_faultOf 21 = .ok (.aload_n 1, 1) := by decide +kernel
theorem dX4_faultOf_22 : decode cX4_faultOf 22 = .ok (.invokevirtual 34, 3) := by decide +kernel
theorem dX4_faultOf_25 : decode cX4_faultOf 25 = .ok (.aload_n 0, 1) := by decide +kernel
theorem dX4_faultOf_26 : decode cX4_faultOf 26 = .ok (.aload_n 1, 1) := by decide +kernel
theorem dX4_faultOf_27 : decode cX4_faultOf 27 = .ok (.invokevirtual 38, 3) := by decide +kernel
theorem dX4_faultOf_30 : decode cX4_faultOf 30 = .ok (.ifCond .eq 11, 3) := by decide +kernel
theorem dX4_faultOf_33 : decode cX4_faultOf 33 = .ok (.aload_n 0, 1) := by decide +kernel
theorem dX4_faultOf_34 : decode cX4_faultOf 34 = .ok (.aload_n 1, 1) := by decide +kernel
theorem dX4_faultOf_35 : decode cX4_faultOf 35 = .ok (.invokevirtual 42, 3) := by decide +kernel
theorem dX4_faultOf_38 : decode cX4_faultOf 38 = .ok (.ifCond .ne 8, 3) := by decide +kernel
theorem dX4_faultOf_41 : decode cX4_faultOf 41 = .ok (.aload_n 0, 1) := by decide +kernel
theorem dX4_faultOf_42 : decode cX4_faultOf 42 = .ok (.getfield 21, 3) := by decide +kernel
theorem dX4_faultOf_45 : decode cX4_faultOf 45 = .ok (.ireturn, 1) := by decide +kernel
theorem dX4_faultOf_46 : decode cX4_faultOf 46 = .ok (.aload_n 0, 1) := by decide +kernel
theorem dX4_faultOf_47 : decode cX4_faultOf 47 = .ok (.aload_n 1, 1) := by decide +kernel
theorem dX4_faultOf_48 : decode cX4_faultOf 48 = .ok (.invokevirtual 45, 3) := by decide +kernel
theorem dX4_faultOf_51 : decode cX4_faultOf 51 = .ok (.aload_n 0, 1) := by decide +kernel
theorem dX4_faultOf_52 : decode cX4_faultOf 52 = .ok (.aload_n 1, 1) := by decide +kernel
theorem dX4_faultOf_53 : decode cX4_faultOf 53 = .ok (.invokevirtual 34, 3) := by decide +kernel
theorem dX4_faultOf_56 : decode cX4_faultOf 56 = .ok (.aload_n 0, 1) := by decide +kernel
theorem dX4_faultOf_57 : decode cX4_faultOf 57 = .ok (.getfield 21, 3) := by decide +kernel
theorem dX4_faultOf_60 : decode cX4_faultOf 60 = .ok (.aload_n 1, 1) := by decide +kernel
theorem dX4_faultOf_61 : decode cX4_faultOf 61 = .ok (.invokevirtual 48, 3) := by decide +kernel
theorem dX4_faultOf_64 : decode cX4_faultOf 64 = .ok (.if_icmp .ge 10, 3) := by decide +kernel
theorem dX4_faultOf_67 : decode cX4_faultOf 67 = .ok (.aload_n 0, 1) := by decide +kernel
theorem dX4_faultOf_68 : decode cX4_faultOf 68 = .ok (.getfield 21, 3) := by decide +kernel
theorem dX4_faultOf_71 : decode cX4_faultOf 71 = .ok (.goto 5, 3) := by decide +kernel
theorem dX4_faultOf_74 : decode cX4_faultOf 74 = .ok (.bipush (-9), 2) := by decide +kernel
theorem dX4_faultOf_76 : decode cX4_faultOf 76 = .ok (.ireturn, 1) := by decide +kernel
theorem dX4_depthAt_0 : decode cX4_depthAt 0 = .ok (.iload_n 1, 1) := by decide +kernel
theorem dX4_depthAt_1 : decode cX4_depthAt 1 = .ok (.ifCond .lt 21, 3) := by decide +kernel
theorem dX4_depthAt_4 : decode cX4_depthAt 4 = .ok (.iload_n 1, 1) := by decide +kernel
theorem dX4_depthAt_5 : decode cX4_depthAt 5 = .ok (.aload_n 0, 1) := by decide +kernel
theorem dX4_depthAt_6 : decode cX4_depthAt 6 = .ok (.getfield 9, 3) := by decide +kernel
theorem dX4_depthAt_9 : decode cX4_depthAt 9 = .ok (.arraylength, 1) := by decide +kernel
theorem dX4_depthAt_10 : decode cX4_depthAt 10 = .ok (.if_icmp .ge 12, 3) := by decide +kernel
theorem dX4_depthAt_13 : decode cX4_depthAt 13 = .ok (.aload_n 0, 1) := by decide +kernel
theorem dX4_depthAt_14 : decode cX4_depthAt 14 = .ok (.getfield 9, 3) := by decide +kernel
theorem dX4_depthAt_17 : decode cX4_depthAt 17 = .ok (.iload_n 1, 1) := by decide +kernel
theorem dX4_depthAt_18 : decode cX4_depthAt 18 = .ok (.iaload, 1) := by decide +kernel
theorem dX4_depthAt_19 : decode cX4_depthAt 19 = .ok (.goto 4, 3) := by decide +kernel
theorem dX4_depthAt_22 : decode cX4_depthAt 22 = .ok (.iconst 0, 1) := by decide +kernel
theorem dX4_depthAt_23 : decode cX4_depthAt 23 = .ok (.ireturn, 1) := by decide +kernel
theorem dX4_gardenerAt_0 : decode cX4_gardenerAt 0 = .ok (.iload_n 1, 1) := by decide +kernel
theorem dX4_gardenerAt_1 : decode cX4_gardenerAt 1 = .ok (.ifCond .lt 21, 3) := by decide +kernel
theorem dX4_gardenerAt_4 : decode cX4_gardenerAt 4 = .ok (.iload_n 1, 1) := by decide +kernel
theorem dX4_gardenerAt_5 : decode cX4_gardenerAt 5 = .ok (.aload_n 0, 1) := by decide +kernel
theorem dX4_gardenerAt_6 : decode cX4_gardenerAt 6 = .ok (.getfield 15, 3) := by decide +kernel
theorem dX4_gardenerAt_9 : decode cX4_gardenerAt 9 = .ok (.arraylength, 1) := by decide +kernel
theorem dX4_gardenerAt_10 : decode cX4_gardenerAt 10 = .ok (.if_icmp .ge 12, 3) := by decide +kernel
theorem dX4_gardenerAt_13 : decode cX4_gardenerAt 13 = .ok (.aload_n 0, 1) := by decide +kernel
theorem dX4_gardenerAt_14 : decode cX4_gardenerAt 14 = .ok (.getfield 15, 3) := by decide +kernel
theorem dX4_gardenerAt_17 : decode cX4_gardenerAt 17 = .ok (.iload_n 1, 1) := by decide +kernel
theorem dX4_gardenerAt_18 : decode cX4_gardenerAt 18 = .ok (.iaload, 1) := by decide +kernel
theorem dX4_gardenerAt_19 : decode cX4_gardenerAt 19 = .ok (.goto 4, 3) := by decide +kernel
theorem dX4_gardenerAt_22 : decode cX4_gardenerAt 22 = .ok (.iconst 0, 1) := by decide +kernel
theorem dX4_gardenerAt_23 : decode cX4_gardenerAt 23 = .ok (.ireturn, 1) := by decide +kernel
theorem dX4_kindAt_0 : decode cX4_kindAt 0 = .ok (.iload_n 1, 1) := by decide +kernel
theorem dX4_kindAt_1 : decode cX4_kindAt 1 = .ok (.ifCond .lt 21, 3) := by decide +kernel
theorem dX4_kindAt_4 : decode cX4_kindAt 4 = .ok (.iload_n 1, 1) := by decide +kernel
theorem dX4_kindAt_5 : decode cX4_kindAt 5 = .ok (.aload_n 0, 1) := by decide +kernel
theorem dX4_kindAt_6 : decode cX4_kindAt 6 = .ok (.getfield 18, 3) := by decide +kernel
theorem dX4_kindAt_9 : decode cX4_kindAt 9 = .ok (.arraylength, 1) := by decide +kernel
theorem dX4_kindAt_10 : decode cX4_kindAt 10 = .ok (.if_icmp .ge 12, 3) := by decide +kernel
theorem dX4_kindAt_13 : decode cX4_kindAt 13 = .ok (.aload_n 0, 1) := by decide +kernel
theorem dX4_kindAt_14 : decode cX4_kindAt 14 = .ok (.getfield 18, 3) := by decide +kernel
theorem dX4_kindAt_17 : decode cX4_kindAt 17 = .ok (.iload_n 1, 1) := by decide +kernel
theorem dX4_kindAt_18 : decode cX4_kindAt 18 = .ok (.iaload, 1) := by decide +kernel
theorem dX4_kindAt_19 : decode cX4_kindAt 19 = .ok (.goto 4, 3) := by decide +kernel
theorem dX4_kindAt_22 : decode cX4_kindAt 22 = .ok (.iconst 0, 1) := by decide +kernel
theorem dX4_kindAt_23 : decode cX4_kindAt 23 = .ok (.ireturn, 1) := by decide +kernel
theorem dX4_sign_0 : decode cX4_sign 0 = .ok (.aload_n 1, 1) := by decide +kernel
theorem dX4_sign_1 : decode cX4_sign 1 = .ok (.aload_n 0, 1) := by decide +kernel
theorem dX4_sign_2 : decode cX4_sign 2 = .ok (.getfield 21, 3) := by decide +kernel
theorem dX4_sign_5 : decode cX4_sign 5 = .ok (.invokevirtual 54, 3) := by decide +kernel
theorem dX4_sign_8 : decode cX4_sign 8 = .ok (.ifCond .eq 14, 3) := by decide +kernel
theorem dX4_sign_11 : decode cX4_sign 11 = .ok (.aload_n 1, 1) := by decide +kernel
theorem dX4_sign_12 : decode cX4_sign 12 = .ok (.aload_n 0, 1) := by decide +kernel
theorem dX4_sign_13 : decode cX4_sign 13 = .ok (.getfield 21, 3) := by decide +kernel
theorem dX4_sign_16 : decode cX4_sign 16 = .ok (.invokevirtual 58, 3) := by decide +kernel
theorem dX4_sign_19 : decode cX4_sign 19 = .ok (.goto 6, 3) := by decide +kernel
theorem dX4_sign_22 : decode cX4_sign 22 = .ok (.sipush 1000, 3) := by decide +kernel
theorem dX4_sign_25 : decode cX4_sign 25 = .ok (.ireturn, 1) := by decide +kernel
theorem dX4_figure_0 : decode cX4_figure 0 = .ok (.aload_n 0, 1) := by decide +kernel
theorem dX4_figure_1 : decode cX4_figure 1 = .ok (.aload_n 1, 1) := by decide +kernel
theorem dX4_figure_2 : decode cX4_figure 2 = .ok (.invokevirtual 62, 3) := by decide +kernel
theorem dX4_figure_5 : decode cX4_figure 5 = .ok (.bipush 48, 2) := by decide +kernel
theorem dX4_figure_7 : decode cX4_figure 7 = .ok (.isub, 1) := by decide +kernel
theorem dX4_figure_8 : decode cX4_figure 8 = .ok (.istore_n 3, 1) := by decide +kernel
theorem dX4_figure_9 : decode cX4_figure 9 = .ok (.iload_n 3, 1) := by decide +kernel
theorem dX4_figure_10 : decode cX4_figure 10 = .ok (.ifCond .lt 12, 3) := by decide +kernel
theorem dX4_figure_13 : decode cX4_figure 13 = .ok (.iload_n 3, 1) := by decide +kernel
theorem dX4_figure_14 : decode cX4_figure 14 = .ok (.iload_n 2, 1) := by decide +kernel
theorem dX4_figure_15 : decode cX4_figure 15 = .ok (.if_icmp .gt 7, 3) := by decide +kernel
theorem dX4_figure_18 : decode cX4_figure 18 = .ok (.iload_n 3, 1) := by decide +kernel
theorem dX4_figure_19 : decode cX4_figure 19 = .ok (.goto 4, 3) := by decide +kernel
theorem dX4_figure_22 : decode cX4_figure 22 = .ok (.iconst (-1), 1) := by decide +kernel
theorem dX4_figure_23 : decode cX4_figure 23 = .ok (.ireturn, 1) := by decide +kernel
theorem dX4_skipBlanks_0 : decode cX4_skipBlanks 0 = .ok (.aload_n 0, 1) := by decide +kernel
theorem dX4_skipBlanks_1 : decode cX4_skipBlanks 1 = .ok (.getfield 21, 3) := by decide +kernel
theorem dX4_skipBlanks_4 : decode cX4_skipBlanks 4 = .ok (.aload_n 1, 1) := by decide +kernel
theorem dX4_skipBlanks_5 : decode cX4_skipBlanks 5 = .ok (.invokevirtual 48, 3) := by decide +kernel
theorem dX4_skipBlanks_8 : decode cX4_skipBlanks 8 = .ok (.if_icmp .ge 26, 3) := by decide +kernel
theorem dX4_skipBlanks_11 : decode cX4_skipBlanks 11 = .ok (.aload_n 0, 1) := by decide +kernel
theorem dX4_skipBlanks_12 : decode cX4_skipBlanks 12 = .ok (.aload_n 1, 1) := by decide +kernel
theorem dX4_skipBlanks_13 : decode cX4_skipBlanks 13 = .ok (.invokevirtual 62, 3) := by decide +kernel
theorem dX4_skipBlanks_16 : decode cX4_skipBlanks 16 = .ok (.bipush 32, 2) := by decide +kernel
theorem dX4_skipBlanks_18 : decode cX4_skipBlanks 18 = .ok (.if_icmp .ne 16, 3) := by decide +kernel
theorem dX4_skipBlanks_21 : decode cX4_skipBlanks 21 = .ok (.aload_n 0, 1) := by decide +kernel
theorem dX4_skipBlanks_22 : decode cX4_skipBlanks 22 = .ok (.dup, 1) := by decide +kernel
theorem dX4_skipBlanks_23 : decode cX4_skipBlanks 23 = .ok (.getfield 21, 3) := by decide +kernel
theorem dX4_skipBlanks_26 : decode cX4_skipBlanks 26 = .ok (.iconst 1, 1) := by decide +kernel
theorem dX4_skipBlanks_27 : decode cX4_skipBlanks 27 = .ok (.iadd, 1) := by decide +kernel
theorem dX4_skipBlanks_28 : decode cX4_skipBlanks 28 = .ok (.putfield 21, 3) := by decide +kernel
theorem dX4_skipBlanks_31 : decode cX4_skipBlanks 31 = .ok (.goto (-31), 3) := by decide +kernel
theorem dX4_skipBlanks_34 : decode cX4_skipBlanks 34 = .ok (.return_, 1) := by decide +kernel
theorem dX4_readLines_0 : decode cX4_readLines 0 = .ok (.iconst 0, 1) := by decide +kernel
theorem dX4_readLines_1 : decode cX4_readLines 1 = .ok (.istore_n 2, 1) := by decide +kernel
theorem dX4_readLines_2 : decode cX4_readLines 2 = .ok (.iload_n 2, 1) := by decide +kernel
theorem dX4_readLines_3 : decode cX4_readLines 3 = .ok (.iconst 4, 1) := by decide +kernel
theorem dX4_readLines_4 : decode cX4_readLines 4 = .ok (.if_icmp .ge 77, 3) := by decide +kernel
theorem dX4_readLines_7 : decode cX4_readLines 7 = .ok (.aload_n 0, 1) := by decide +kernel
theorem dX4_readLines_8 : decode cX4_readLines 8 = .ok (.aload_n 1, 1) := by decide +kernel
theorem dX4_readLines_9 : decode cX4_readLines 9 = .ok (.iload_n 2, 1) := by decide +kernel
theorem dX4_readLines_10 : decode cX4_readLines 10 = .ok (.invokevirtual 66, 3) := by decide +kernel
theorem dX4_readLines_13 : decode cX4_readLines 13 = .ok (.ifCond .ne 5, 3) := by decide +kernel
theorem dX4_readLines_16 : decode cX4_readLines 16 = .ok (.iconst 0, 1) := by decide +kernel
theorem dX4_readLines_17 : decode cX4_readLines 17 = .ok (.ireturn, 1) := by decide +kernel
theorem dX4_readLines_18 : decode cX4_readLines 18 = .ok (.aload_n 0, 1) := by decide +kernel
theorem dX4_readLines_19 : decode cX4_readLines 19 = .ok (.iload_n 2, 1) := by decide +kernel
theorem dX4_readLines_20 : decode cX4_readLines 20 = .ok (.iconst 1, 1) := by decide +kernel
theorem dX4_readLines_21 : decode cX4_readLines 21 = .ok (.iadd, 1) := by decide +kernel
theorem dX4_readLines_22 : decode cX4_readLines 22 = .ok (.putfield 25, 3) := by decide +kernel
theorem dX4_readLines_25 : decode cX4_readLines 25 = .ok (.aload_n 0, 1) := by decide +kernel
theorem dX4_readLines_26 : decode cX4_readLines 26 = .ok (.aload_n 1, 1) := by decide +kernel
theorem dX4_readLines_27 : decode cX4_readLines 27 = .ok (.invokevirtual 62, 3) := by decide +kernel
theorem dX4_readLines_30 : decode cX4_readLines 30 = .ok (.istore_n 3, 1) := by decide +kernel
theorem dX4_readLines_31 : decode cX4_readLines 31 = .ok (.iload_n 3, 1) := by decide +kernel
theorem dX4_readLines_32 : decode cX4_readLines 32 = .ok (.bipush 61, 2) := by decide +kernel
theorem dX4_readLines_34 : decode cX4_readLines 34 = .ok (.if_icmp .ne 15, 3) := by decide +kernel
theorem dX4_readLines_37 : decode cX4_readLines 37 = .ok (.aload_n 0, 1) := by decide +kernel
theorem dX4_readLines_38 : decode cX4_readLines 38 = .ok (.dup, 1) := by decide +kernel
theorem dX4_readLines_39 : decode cX4_readLines 39 = .ok (.getfield 21, 3) := by decide +kernel
theorem dX4_readLines_42 : decode cX4_readLines 42 = .ok (.iconst 1, 1) := by decide +kernel
theorem dX4_readLines_43 : decode cX4_readLines 43 = .ok (.iadd, 1) := by decide +kernel
theorem dX4_readLines_44 : decode cX4_readLines 44 = .ok (.putfield 21, 3) := by decide +kernel
theorem dX4_readLines_47 : decode cX4_readLines 47 = .ok (.iconst 1, 1) := by decide +kernel
theorem dX4_readLines_48 : decode cX4_readLines 48 = .ok (.ireturn, 1) := by decide +kernel
theorem dX4_readLines_49 : decode cX4_readLines 49 = .ok (.iload_n 3, 1) := by decide +kernel
theorem dX4_readLines_50 : decode cX4_readLines 50 = .ok (.bipush 47, 2) := by decide +kernel
theorem dX4_readLines_52 : decode cX4_readLines 52 = .ok (.if_icmp .ne 11, 3) := by decide +kernel
theorem dX4_readLines_55 : decode cX4_readLines 55 = .ok (.aload_n 0, 1) := by decide +kernel
theorem dX4_readLines_56 : decode cX4_readLines 56 = .ok (.getfield 25, 3) := by decide +kernel
theorem dX4_readLines_59 : decode cX4_readLines 59 = .ok (.iconst 4, 1) := by decide +kernel
theorem dX4_readLines_60 : decode cX4_readLines 60 = .ok (.if_icmp .ne 5, 3) := by decide +kernel
theorem dX4_readLines_63 : decode cX4_readLines 63 = .ok (.iconst 0, 1) := by decide +kernel
theorem dX4_readLines_64 : decode cX4_readLines 64 = .ok (.ireturn, 1) := by decide +kernel
theorem dX4_readLines_65 : decode cX4_readLines 65 = .ok (.aload_n 0, 1) := by decide +kernel
theorem dX4_readLines_66 : decode cX4_readLines 66 = .ok (.dup, 1) := by decide +kernel
theorem dX4_readLines_67 : decode cX4_readLines 67 = .ok (.getfield 21, 3) := by decide +kernel
theorem dX4_readLines_70 : decode cX4_readLines 70 = .ok (.iconst 1, 1) := by decide +kernel
theorem dX4_readLines_71 : decode cX4_readLines 71 = .ok (.iadd, 1) := by decide +kernel
theorem dX4_readLines_72 : decode cX4_readLines 72 = .ok (.putfield 21, 3) := by decide +kernel
theorem dX4_readLines_75 : decode cX4_readLines 75 = .ok (.iinc 2 1, 3) := by decide +kernel
theorem dX4_readLines_78 : decode cX4_readLines 78 = .ok (.goto (-76), 3) := by decide +kernel
theorem dX4_readLines_81 : decode cX4_readLines 81 = .ok (.iconst 0, 1) := by decide +kernel
theorem dX4_readLines_82 : decode cX4_readLines 82 = .ok (.ireturn, 1) := by decide +kernel
theorem dX4_readLine_0 : decode cX4_readLine 0 = .ok (.iload_n 2, 1) := by decide +kernel
theorem dX4_readLine_1 : decode cX4_readLine 1 = .ok (.ifCond .ne 7, 3) := by decide +kernel
theorem dX4_readLine_4 : decode cX4_readLine 4 = .ok (.iconst 4, 1) := by decide +kernel
theorem dX4_readLine_5 : decode cX4_readLine 5 = .ok (.goto 7, 3) := by decide +kernel
theorem dX4_readLine_8 : decode cX4_readLine 8 = .ok (.aload_n 0, 1) := by decide +kernel
theorem dX4_readLine_9 : decode cX4_readLine 9 = .ok (.getfield 28, 3) := by decide +kernel
theorem dX4_readLine_12 : decode cX4_readLine 12 = .ok (.istore_n 3, 1) := by decide +kernel
theorem dX4_readLine_13 : decode cX4_readLine 13 = .ok (.iconst 0, 1) := by decide +kernel
theorem dX4_readLine_14 : decode cX4_readLine 14 = .ok (.istore 4, 2) := by decide +kernel
theorem dX4_readLine_16 : decode cX4_readLine 16 = .ok (.iload 4, 2) := by decide +kernel
theorem dX4_readLine_18 : decode cX4_readLine 18 = .ok (.iload_n 3, 1) := by decide +kernel
theorem dX4_readLine_19 : decode cX4_readLine 19 = .ok (.if_icmp .ge 62, 3) := by decide +kernel
theorem dX4_readLine_22 : decode cX4_readLine 22 = .ok (.aload_n 0, 1) := by decide +kernel
theorem dX4_readLine_23 : decode cX4_readLine 23 = .ok (.aload_n 1, 1) := by decide +kernel
theorem dX4_readLine_24 : decode cX4_readLine 24 = .ok (.iconst 5, 1) := by decide +kernel
theorem dX4_readLine_25 : decode cX4_readLine 25 = .ok (.invokevirtual 70, 3) := by decide +kernel
theorem dX4_readLine_28 : decode cX4_readLine 28 = .ok (.ifCond .lt 53, 3) := by decide +kernel
theorem dX4_readLine_31 : decode cX4_readLine 31 = .ok (.iload_n 2, 1) := by decide +kernel
theorem dX4_readLine_32 : decode cX4_readLine 32 = .ok (.aload_n 0, 1) := by decide +kernel
theorem dX4_readLine_33 : decode cX4_readLine 33 = .ok (.getfield 28, 3) := by decide +kernel
theorem dX4_readLine_36 : decode cX4_readLine 36 = .ok (.imul, 1) := by decide +kernel
theorem dX4_readLine_37 : decode cX4_readLine 37 = .ok (.iload 4, 2) := by decide +kernel
theorem dX4_readLine_39 : decode cX4_readLine 39 = .ok (.iadd, 1) := by decide +kernel
theorem dX4_readLine_40 : decode cX4_readLine 40 = .ok (.istore 5, 2) := by decide +kernel
theorem dX4_readLine_42 : decode cX4_readLine 42 = .ok (.iload 5, 2) := by decide +kernel
theorem dX4_readLine_44 : decode cX4_readLine 44 = .ok (.aload_n 0, 1) := by decide +kernel
theorem dX4_readLine_45 : decode cX4_readLine 45 = .ok (.getfield 9, 3) := by decide +kernel
theorem dX4_readLine_48 : decode cX4_readLine 48 = .ok (.arraylength, 1) := by decide +kernel
theorem dX4_readLine_49 : decode cX4_readLine 49 = .ok (.if_icmp .ge 16, 3) := by decide +kernel
theorem dX4_readLine_52 : decode cX4_readLine 52 = .ok (.aload_n 0, 1) := by decide +kernel
theorem dX4_readLine_53 : decode cX4_readLine 53 = .ok (.getfield 9, 3) := by decide +kernel
theorem dX4_readLine_56 : decode cX4_readLine 56 = .ok (.iload 5, 2) := by decide +kernel
theorem dX4_readLine_58 : decode cX4_readLine 58 = .ok (.aload_n 0, 1) := by decide +kernel
theorem dX4_readLine_59 : decode cX4_readLine 59 = .ok (.aload_n 1, 1) := by decide +kernel
theorem dX4_readLine_60 : decode cX4_readLine 60 = .ok (.iconst 5, 1) := by decide +kernel
theorem dX4_readLine_61 : decode cX4_readLine 61 = .ok (.invokevirtual 70, 3) := by decide +kernel
theorem dX4_readLine_64 : decode cX4_readLine 64 = .ok (.iastore, 1) := by decide +kernel
theorem dX4_readLine_65 : decode cX4_readLine 65 = .ok (.iinc 4 1, 3) := by decide +kernel
theorem dX4_readLine_68 : decode cX4_readLine 68 = .ok (.aload_n 0, 1) := by decide +kernel
theorem dX4_readLine_69 : decode cX4_readLine 69 = .ok (.dup, 1) := by decide +kernel
theorem dX4_readLine_70 : decode cX4_readLine 70 = .ok (.getfield 21, 3) := by decide +kernel
theorem dX4_readLine_73 : decode cX4_readLine 73 = .ok (.iconst 1, 1) := by decide +kernel
theorem dX4_readLine_74 : decode cX4_readLine 74 = .ok (.iadd, 1) := by decide +kernel
theorem dX4_readLine_75 : decode cX4_readLine 75 = .ok (.putfield 21, 3) := by decide +kernel
theorem dX4_readLine_78 : decode cX4_readLine 78 = .ok (.goto (-62), 3) := by decide +kernel
theorem dX4_readLine_81 : decode cX4_readLine 81 = .ok (.iload_n 2, 1) := by decide +kernel
theorem dX4_readLine_82 : decode cX4_readLine 82 = .ok (.ifCond .ne 9, 3) := by decide +kernel
theorem dX4_readLine_85 : decode cX4_readLine 85 = .ok (.aload_n 0, 1) := by decide +kernel
theorem dX4_readLine_86 : decode cX4_readLine 86 = .ok (.iload 4, 2) := by decide +kernel
theorem dX4_readLine_88 : decode cX4_readLine 88 = .ok (.putfield 28, 3) := by decide +kernel
theorem dX4_readLine_91 : decode cX4_readLine 91 = .ok (.iload 4, 2) := by decide +kernel
theorem dX4_readLine_93 : decode cX4_readLine 93 = .ok (.iconst 2, 1) := by decide +kernel
theorem dX4_readLine_94 : decode cX4_readLine 94 = .ok (.if_icmp .lt 16, 3) := by decide +kernel
theorem dX4_readLine_97 : decode cX4_readLine 97 = .ok (.iload 4, 2) := by decide +kernel
theorem dX4_readLine_99 : decode cX4_readLine 99 = .ok (.aload_n 0, 1) := by decide +kernel
theorem dX4_readLine_100 : decode cX4_readLine 100 = .ok (.getfield 28, 3) := by decide +kernel
theorem dX4_readLine_103 : decode cX4_readLine 103 = .ok (.if_icmp .ne 7, 3) := by decide +kernel
theorem dX4_readLine_106 : decode cX4_readLine 106 = .ok (.iconst 1, 1) := by decide +kernel
theorem dX4_readLine_107 : decode cX4_readLine 107 = .ok (.goto 4, 3) := by decide +kernel
theorem dX4_readLine_110 : decode cX4_readLine 110 = .ok (.iconst 0, 1) := by decide +kernel
theorem dX4_readLine_111 : decode cX4_readLine 111 = .ok (.ireturn, 1) := by decide +kernel
theorem dX4_readGardens_0 : decode cX4_readGardens 0 = .ok (.iconst 0, 1) := by decide +kernel
theorem dX4_readGardens_1 : decode cX4_readGardens 1 = .ok (.istore_n 2, 1) := by decide +kernel
theorem dX4_readGardens_2 : decode cX4_readGardens 2 = .ok (.iload_n 2, 1) := by decide +kernel
theorem dX4_readGardens_3 : decode cX4_readGardens 3 = .ok (.aload_n 0, 1) := by decide +kernel
theorem dX4_readGardens_4 : decode cX4_readGardens 4 = .ok (.getfield 28, 3) := by decide +kernel
theorem dX4_readGardens_7 : decode cX4_readGardens 7 = .ok (.if_icmp .ge 48, 3) := by decide +kernel
theorem dX4_readGardens_10 : decode cX4_readGardens 10 = .ok (.iload_n 2, 1) := by decide +kernel
theorem dX4_readGardens_11 : decode cX4_readGardens 11 = .ok (.aload_n 0, 1) := by decide +kernel
theorem dX4_readGardens_12 : decode cX4_readGardens 12 = .ok (.getfield 15, 3) := by decide +kernel
theorem dX4_readGardens_15 : decode cX4_readGardens 15 = .ok (.arraylength, 1) := by decide +kernel
theorem dX4_readGardens_16 : decode cX4_readGardens 16 = .ok (.if_icmp .ge 39, 3) := by decide +kernel
theorem dX4_readGardens_19 : decode cX4_readGardens 19 = .ok (.aload_n 0, 1) := by decide +kernel
theorem dX4_readGardens_20 : decode cX4_readGardens 20 = .ok (.aload_n 1, 1) := by decide +kernel
theorem dX4_readGardens_21 : decode cX4_readGardens 21 = .ok (.iconst 3, 1) := by decide +kernel
theorem dX4_readGardens_22 : decode cX4_readGardens 22 = .ok (.invokevirtual 70, 3) := by decide +kernel
theorem dX4_readGardens_25 : decode cX4_readGardens 25 = .ok (.istore_n 3, 1) := by decide +kernel
theorem dX4_readGardens_26 : decode cX4_readGardens 26 = .ok (.iload_n 3, 1) := by decide +kernel
theorem dX4_readGardens_27 : decode cX4_readGardens 27 = .ok (.ifCond .ge 5, 3) := by decide +kernel
theorem dX4_readGardens_30 : decode cX4_readGardens 30 = .ok (.iconst 0, 1) := by decide +kernel
theorem dX4_readGardens_31 : decode cX4_readGardens 31 = .ok (.ireturn, 1) := by decide +kernel
theorem dX4_readGardens_32 : decode cX4_readGardens 32 = .ok (.aload_n 0, 1) := by decide +kernel
theorem dX4_readGardens_33 : decode cX4_readGardens 33 = .ok (.getfield 15, 3) := by decide +kernel
theorem dX4_readGardens_36 : decode cX4_readGardens 36 = .ok (.iload_n 2, 1) := by decide +kernel
theorem dX4_readGardens_37 : decode cX4_readGardens 37 = .ok (.iload_n 3, 1) := by decide +kernel
theorem dX4_readGardens_38 : decode cX4_readGardens 38 = .ok (.iastore, 1) := by decide +kernel
theorem dX4_readGardens_39 : decode cX4_readGardens 39 = .ok (.aload_n 0, 1) := by decide +kernel
theorem dX4_readGardens_40 : decode cX4_readGardens 40 = .ok (.dup, 1) := by decide +kernel
theorem dX4_readGardens_41 : decode cX4_readGardens 41 = .ok (.getfield 21, 3) := by decide +kernel
theorem dX4_readGardens_44 : decode cX4_readGardens 44 = .ok (.iconst 1, 1) := by decide +kernel
theorem dX4_readGardens_45 : decode cX4_readGardens 45 = .ok (.iadd, 1) := by decide +kernel
theorem dX4_readGardens_46 : decode cX4_readGardens 46 = .ok (.putfield 21, 3) := by decide +kernel
theorem dX4_readGardens_49 : decode cX4_readGardens 49 = .ok (.iinc 2 1, 3) := by decide +kernel
theorem dX4_readGardens_52 : decode cX4_readGardens 52 = .ok (.goto (-50), 3) := by decide +kernel
theorem dX4_readGardens_55 : decode cX4_readGardens 55 = .ok (.iconst 1, 1) := by decide +kernel
theorem dX4_readGardens_56 : decode cX4_readGardens 56 = .ok (.ireturn, 1) := by decide +kernel
theorem dX4_readLaws_0 : decode cX4_readLaws 0 = .ok (.iconst 0, 1) := by decide +kernel
theorem dX4_readLaws_1 : decode cX4_readLaws 1 = .ok (.istore_n 2, 1) := by decide +kernel
theorem dX4_readLaws_2 : decode cX4_readLaws 2 = .ok (.iload_n 2, 1) := by decide +kernel
theorem dX4_readLaws_3 : decode cX4_readLaws 3 = .ok (.aload_n 0, 1) := by decide +kernel
theorem dX4_readLaws_4 : decode cX4_readLaws 4 = .ok (.getfield 18, 3) := by decide +kernel
theorem dX4_readLaws_7 : decode cX4_readLaws 7 = .ok (.arraylength, 1) := by decide +kernel
theorem dX4_readLaws_8 : decode cX4_readLaws 8 = .ok (.if_icmp .ge 47, 3) := by decide +kernel
theorem dX4_readLaws_11 : decode cX4_readLaws 11 = .ok (.aload_n 0, 1) := by decide +kernel
theorem dX4_readLaws_12 : decode cX4_readLaws 12 = .ok (.aload_n 1, 1) := by decide +kernel
theorem dX4_readLaws_13 : decode cX4_readLaws 13 = .ok (.invokevirtual 62, 3) := by decide +kernel
theorem dX4_readLaws_16 : decode cX4_readLaws 16 = .ok (.invokestatic 74, 3) := by decide +kernel
theorem dX4_readLaws_19 : decode cX4_readLaws 19 = .ok (.istore_n 3, 1) := by decide +kernel
theorem dX4_readLaws_20 : decode cX4_readLaws 20 = .ok (.iload_n 3, 1) := by decide +kernel
theorem dX4_readLaws_21 : decode cX4_readLaws 21 = .ok (.ifCond .ge 4, 3) := by decide +kernel
theorem dX4_readLaws_24 : decode cX4_readLaws 24 = .ok (.return_, 1) := by decide +kernel
theorem dX4_readLaws_25 : decode cX4_readLaws 25 = .ok (.aload_n 0, 1) := by decide +kernel
theorem dX4_readLaws_26 : decode cX4_readLaws 26 = .ok (.getfield 18, 3) := by decide +kernel
theorem dX4_readLaws_29 : decode cX4_readLaws 29 = .ok (.iload_n 2, 1) := by decide +kernel
theorem dX4_readLaws_30 : decode cX4_readLaws 30 = .ok (.iload_n 3, 1) := by decide +kernel
theorem dX4_readLaws_31 : decode cX4_readLaws 31 = .ok (.iastore, 1) := by decide +kernel
theorem dX4_readLaws_32 : decode cX4_readLaws 32 = .ok (.aload_n 0, 1) := by decide +kernel
theorem dX4_readLaws_33 : decode cX4_readLaws 33 = .ok (.iload_n 2, 1) := by decide +kernel
theorem dX4_readLaws_34 : decode cX4_readLaws 34 = .ok (.iconst 1, 1) := by decide +kernel
theorem dX4_readLaws_35 : decode cX4_readLaws 35 = .ok (.iadd, 1) := by decide +kernel
theorem dX4_readLaws_36 : decode cX4_readLaws 36 = .ok (.putfield 31, 3) := by decide +kernel
theorem dX4_readLaws_39 : decode cX4_readLaws 39 = .ok (.aload_n 0, 1) := by decide +kernel
theorem dX4_readLaws_40 : decode cX4_readLaws 40 = .ok (.dup, 1) := by decide +kernel
theorem dX4_readLaws_41 : decode cX4_readLaws 41 = .ok (.getfield 21, 3) := by decide +kernel
theorem dX4_readLaws_44 : decode cX4_readLaws 44 = .ok (.iconst 1, 1) := by decide +kernel
theorem dX4_readLaws_45 : decode cX4_readLaws 45 = .ok (.iadd, 1) := by decide +kernel
theorem dX4_readLaws_46 : decode cX4_readLaws 46 = .ok (.putfield 21, 3) := by decide +kernel
theorem dX4_readLaws_49 : decode cX4_readLaws 49 = .ok (.iinc 2 1, 3) := by decide +kernel
theorem dX4_readLaws_52 : decode cX4_readLaws 52 = .ok (.goto (-50), 3) := by decide +kernel
theorem dX4_readLaws_55 : decode cX4_readLaws 55 = .ok (.return_, 1) := by decide +kernel
theorem dX4_kindBy_0 : decode cX4_kindBy 0 = .ok (.iconst 0, 1) := by decide +kernel
theorem dX4_kindBy_1 : decode cX4_kindBy 1 = .ok (.istore_n 1, 1) := by decide +kernel
theorem dX4_kindBy_2 : decode cX4_kindBy 2 = .ok (.iload_n 1, 1) := by decide +kernel
theorem dX4_kindBy_3 : decode cX4_kindBy 3 = .ok (.getstatic 77, 3) := by decide +kernel
theorem dX4_kindBy_6 : decode cX4_kindBy 6 = .ok (.arraylength, 1) := by decide +kernel
theorem dX4_kindBy_7 : decode cX4_kindBy 7 = .ok (.if_icmp .ge 20, 3) := by decide +kernel
theorem dX4_kindBy_10 : decode cX4_kindBy 10 = .ok (.getstatic 77, 3) := by decide +kernel
theorem dX4_kindBy_13 : decode cX4_kindBy 13 = .ok (.iload_n 1, 1) := by decide +kernel
theorem dX4_kindBy_14 : decode cX4_kindBy 14 = .ok (.iaload, 1) := by decide +kernel
theorem dX4_kindBy_15 : decode cX4_kindBy 15 = .ok (.iload_n 0, 1) := by decide +kernel
theorem dX4_kindBy_16 : decode cX4_kindBy 16 = .ok (.if_icmp .ne 5, 3) := by decide +kernel
theorem dX4_kindBy_19 : decode cX4_kindBy 19 = .ok (.iload_n 1, 1) := by decide +kernel
theorem dX4_kindBy_20 : decode cX4_kindBy 20 = .ok (.ireturn, 1) := by decide +kernel
theorem dX4_kindBy_21 : decode cX4_kindBy 21 = .ok (.iinc 1 1, 3) := by decide +kernel
theorem dX4_kindBy_24 : decode cX4_kindBy 24 = .ok (.goto (-22), 3) := by decide +kernel
theorem dX4_kindBy_27 : decode cX4_kindBy 27 = .ok (.iconst (-1), 1) := by decide +kernel
theorem dX4_kindBy_28 : decode cX4_kindBy 28 = .ok (.ireturn, 1) := by decide +kernel
theorem dX5_init_0 : decode cX5_init 0 = .ok (.aload_n 0, 1) := by decide +kernel
theorem dX5_init_1 : decode cX5_init 1 = .ok (.invokespecial 3, 3) := by decide +kernel
theorem dX5_init_4 : decode cX5_init 4 = .ok (.aload_n 0, 1) := by decide +kernel
theorem dX5_init_5 : decode cX5_init 5 = .ok (.iconst (-1), 1) := by decide +kernel
theorem dX5_init_6 : decode cX5_init 6 = .ok (.putfield 9, 3) := by decide +kernel
theorem dX5_init_9 : decode cX5_init 9 = .ok (.aload_n 0, 1) := by decide +kernel
theorem dX5_init_10 : decode cX5_init 10 = .ok (.iconst 0, 1) := by decide +kernel
theorem dX5_init_11 : decode cX5_init 11 = .ok (.iload_n 1, 1) := by decide +kernel
theorem dX5_init_12 : decode cX5_init 12 = .ok (.invokestatic 15, 3) := by decide +kernel
theorem dX5_init_15 : decode cX5_init 15 = .ok (.newarray .int, 2) := by decide +kernel
theorem dX5_init_17 : decode cX5_init 17 = .ok (.putfield 21, 3) := by decide +kernel
theorem dX5_init_20 : decode cX5_init 20 = .ok (.return_, 1) := by decide +kernel
theorem dX5_most_0 : decode cX5_most 0 = .ok (.aload_n 0, 1) := by decide +kernel
theorem dX5_most_1 : decode cX5_most 1 = .ok (.getfield 21, 3) := by decide +kernel
theorem dX5_most_4 : decode cX5_most 4 = .ok (.arraylength, 1) := by decide +kernel
theorem dX5_most_5 : decode cX5_most 5 = .ok (.ireturn, 1) := by decide +kernel
theorem dX5_size_0 : decode cX5_size 0 = .ok (.aload_n 0, 1) := by decide +kernel
theorem dX5_size_1 : decode cX5_size 1 = .ok (.getfield 9, 3) := by decide +kernel
theorem dX5_size_4 : decode cX5_size 4 = .ok (.ireturn, 1) := by decide +kernel
theorem dX5_isMissing_0 : decode cX5_isMissing 0 = .ok (.aload_n 0, 1) := by decide +kernel
theorem dX5_isMissing_1 : decode cX5_isMissing 1 = .ok (.getfield 9, 3) := by decide +kernel
theorem dX5_isMissing_4 : decode cX5_isMissing 4 = .ok (.ifCond .ge 7, 3) := by decide +kernel
theorem dX5_isMissing_7 : decode cX5_isMissing 7 = .ok (.iconst 1, 1) := by decide +kernel
theorem dX5_isMissing_8 : decode cX5_isMissing 8 = .ok (.goto 4, 3) := by decide +kernel
theorem dX5_isMissing_11 : decode cX5_isMissing 11 = .ok (.iconst 0, 1) := by decide +kernel
theorem dX5_isMissing_12 : decode cX5_isMissing 12 = .ok (.ireturn, 1) := by decide +kernel
theorem dX5_has_0 : decode cX5_has 0 = .ok (.iload_n 1, 1) := by decide +kernel
theorem dX5_has_1 : decode cX5_has 1 = .ok (.ifCond .lt 24, 3) := by decide +kernel
theorem dX5_has_4 : decode cX5_has 4 = .ok (.iload_n 1, 1) := by decide +kernel
theorem dX5_has_5 : decode cX5_has 5 = .ok (.aload_n 0, 1) := by decide +kernel
theorem dX5_has_6 : decode cX5_has 6 = .ok (.getfield 9, 3) := by decide +kernel
theorem dX5_has_9 : decode cX5_has 9 = .ok (.if_icmp .ge 16, 3) := by decide +kernel
theorem dX5_has_12 : decode cX5_has 12 = .ok (.iload_n 1, 1) := by decide +kernel
theorem dX5_has_13 : decode cX5_has 13 = .ok (.aload_n 0, 1) := by decide +kernel
theorem dX5_has_14 : decode cX5_has 14 = .ok (.getfield 21, 3) := by decide +kernel
theorem dX5_has_17 : decode cX5_has 17 = .ok (.arraylength, 1) := by decide +kernel
theorem dX5_has_18 : decode cX5_has 18 = .ok (.if_icmp .ge 7, 3) := by decide +kernel
theorem dX5_has_21 : decode cX5_has 21 = .ok (.iconst 1, 1) := by decide +kernel
theorem dX5_has_22 : decode cX5_has 22 = .ok (.goto 4, 3) := by decide +kernel
theorem dX5_has_25 : decode cX5_has 25 = .ok (.iconst 0, 1) := by decide +kernel
theorem dX5_has_26 : decode cX5_has 26 = .ok (.ireturn, 1) := by decide +kernel
theorem dX5_spans_0 : decode cX5_spans 0 = .ok (.iload_n 1, 1) := by decide +kernel
theorem dX5_spans_1 : decode cX5_spans 1 = .ok (.ifCond .lt 21, 3) := by decide +kernel
theorem dX5_spans_4 : decode cX5_spans 4 = .ok (.iload_n 2, 1) := by decide +kernel
theorem dX5_spans_5 : decode cX5_spans 5 = .ok (.ifCond .lt 17, 3) := by decide +kernel
theorem dX5_spans_8 : decode cX5_spans 8 = .ok (.iload_n 1, 1) := by decide +kernel
theorem dX5_spans_9 : decode cX5_spans 9 = .ok (.aload_n 0, 1) := by decide +kernel
theorem dX5_spans_10 : decode cX5_spans 10 = .ok (.getfield 9, 3) := by decide +kernel
theorem dX5_spans_13 : decode cX5_spans 13 = .ok (.iload_n 2, 1) := by decide +kernel
theorem dX5_spans_14 : decode cX5_spans 14 = .ok (.isub, 1) := by decide +kernel
theorem dX5_spans_15 : decode cX5_spans 15 = .ok (.if_icmp .gt 7, 3) := by decide +kernel
theorem dX5_spans_18 : decode cX5_spans 18 = .ok (.iconst 1, 1) := by decide +kernel
theorem dX5_spans_19 : decode cX5_spans 19 = .ok (.goto 4, 3) := by decide +kernel
theorem dX5_spans_22 : decode cX5_spans 22 = .ok (.iconst 0, 1) := by decide +kernel
theorem dX5_spans_23 : decode cX5_spans 23 = .ok (.ireturn, 1) := by decide +kernel
theorem dX5_get_0 : decode cX5_get 0 = .ok (.aload_n 0, 1) := by decide +kernel
theorem dX5_get_1 : decode cX5_get 1 = .ok (.iload_n 1, 1) := by decide +kernel
theorem dX5_get_2 : decode cX5_get 2 = .ok (.invokevirtual 25, 3) := by decide +kernel
theorem dX5_get_5 : decode cX5_get 5 = .ok (.ifCond .eq 12, 3) := by decide +kernel
theorem dX5_get_8 : decode cX5_get 8 = .ok (.aload_n 0, 1) := by decide +kernel
theorem dX5_get_9 : decode cX5_get 9 = .ok (.getfield 21, 3) := by decide +kernel
theorem dX5_get_12 : decode cX5_get 12 = .ok (.iload_n 1, 1) := by decide +kernel
theorem dX5_get_13 : decode cX5_get 13 = .ok (.iaload, 1) := by decide +kernel
theorem dX5_get_14 : decode cX5_get 14 = .ok (.goto 4, 3) := by decide +kernel
theorem dX5_get_17 : decode cX5_get 17 = .ok (.iconst 0, 1) := by decide +kernel
theorem dX5_get_18 : decode cX5_get 18 = .ok (.ireturn, 1) := by decide +kernel
theorem dX5_set_0 : decode cX5_set 0 = .ok (.aload_n 0, 1) := by decide +kernel
theorem dX5_set_1 : decode cX5_set 1 = .ok (.iload_n 1, 1) := by decide +kernel
theorem dX5_set_2 : decode cX5_set 2 = .ok (.invokevirtual 25, 3) := by decide +kernel
theorem dX5_set_5 : decode cX5_set 5 = .ok (.ifCond .eq 10, 3) := by decide +kernel
theorem dX5_set_8 : decode cX5_set 8 = .ok (.aload_n 0, 1) := by decide +kernel
theorem dX5_set_9 : decode cX5_set 9 = .ok (.getfield 21, 3) := by decide +kernel
theorem dX5_set_12 : decode cX5_set 12 = .ok (.iload_n 1, 1) := by decide +kernel
theorem dX5_set_13 : decode cX5_set 13 = .ok (.iload_n 2, 1) := by decide +kernel
theorem dX5_set_14 : decode cX5_set 14 = .ok (.iastore, 1) := by decide +kernel
theorem dX5_set_15 : decode cX5_set 15 = .ok (.return_, 1) := by decide +kernel
theorem dX5_renew_0 : decode cX5_renew 0 = .ok (.aload_n 0, 1) := by decide +kernel
theorem dX5_renew_1 : decode cX5_renew 1 = .ok (.iconst 0, 1) := by decide +kernel
theorem dX5_renew_2 : decode cX5_renew 2 = .ok (.iload_n 1, 1) := by decide +kernel
theorem dX5_renew_3 : decode cX5_renew 3 = .ok (.aload_n 0, 1) := by decide +kernel
theorem dX5_renew_4 : decode cX5_renew 4 = .ok (.getfield 21, 3) := by decide +kernel
theorem dX5_renew_7 : decode cX5_renew 7 = .ok (.arraylength, 1) := by decide +kernel
theorem dX5_renew_8 : decode cX5_renew 8 = .ok (.invokestatic 29, 3) := by decide +kernel
theorem dX5_renew_11 : decode cX5_renew 11 = .ok (.invokestatic 15, 3) := by decide +kernel
theorem dX5_renew_14 : decode cX5_renew 14 = .ok (.putfield 9, 3) := by decide +kernel
theorem dX5_renew_17 : decode cX5_renew 17 = .ok (.iconst 0, 1) := by decide +kernel
theorem dX5_renew_18 : decode cX5_renew 18 = .ok (.istore_n 3, 1) := by decide +kernel
theorem dX5_renew_19 : decode cX5_renew 19 = .ok (.iload_n 3, 1) := by decide +kernel
theorem dX5_renew_20 : decode cX5_renew 20 = .ok (.aload_n 0, 1) := by decide +kernel
theorem dX5_renew_21 : decode cX5_renew 21 = .ok (.getfield 9, 3) := by decide +kernel
theorem dX5_renew_24 : decode cX5_renew 24 = .ok (.if_icmp .ge 25, 3) := by decide +kernel
theorem dX5_renew_27 : decode cX5_renew 27 = .ok (.iload_n 3, 1) := by decide +kernel
theorem dX5_renew_28 : decode cX5_renew 28 = .ok (.aload_n 0, 1) := by decide +kernel
theorem dX5_renew_29 : decode cX5_renew 29 = .ok (.getfield 21, 3) := by decide +kernel
theorem dX5_renew_32 : decode cX5_renew 32 = .ok (.arraylength, 1) := by decide +kernel
theorem dX5_renew_33 : decode cX5_renew 33 = .ok (.if_icmp .ge 16, 3) := by decide +kernel
theorem dX5_renew_36 : decode cX5_renew 36 = .ok (.aload_n 0, 1) := by decide +kernel
theorem dX5_renew_37 : decode cX5_renew 37 = .ok (.getfield 21, 3) := by decide +kernel
theorem dX5_renew_40 : decode cX5_renew 40 = .ok (.iload_n 3, 1) := by decide +kernel
theorem dX5_renew_41 : decode cX5_renew 41 = .ok (.iload_n 2, 1) := by decide +kernel
theorem dX5_renew_42 : decode cX5_renew 42 = .ok (.iastore, 1) := by decide +kernel
theorem dX5_renew_43 : decode cX5_renew 43 = .ok (.iinc 3 1, 3) := by decide +kernel
theorem dX5_renew_46 : decode cX5_renew 46 = .ok (.goto (-27), 3) := by decide +kernel
theorem dX5_renew_49 : decode cX5_renew 49 = .ok (.return_, 1) := by decide +kernel
theorem dX5_remove_0 : decode cX5_remove 0 = .ok (.aload_n 0, 1) := by decide +kernel
theorem dX5_remove_1 : decode cX5_remove 1 = .ok (.iconst (-1), 1) := by decide +kernel
theorem dX5_remove_2 : decode cX5_remove 2 = .ok (.putfield 9, 3) := by decide +kernel
theorem dX5_remove_5 : decode cX5_remove 5 = .ok (.return_, 1) := by decide +kernel
theorem dX5_take_0 : decode cX5_take 0 = .ok (.aload_n 2, 1) := by decide +kernel
theorem dX5_take_1 : decode cX5_take 1 = .ok (.iload_n 3, 1) := by decide +kernel
theorem dX5_take_2 : decode cX5_take 2 = .ok (.iload 4, 2) := by decide +kernel
theorem dX5_take_4 : decode cX5_take 4 = .ok (.invokevirtual 32, 3) := by decide +kernel
theorem dX5_take_7 : decode cX5_take 7 = .ok (.ifCond .eq 28, 3) := by decide +kernel
theorem dX5_take_10 : decode cX5_take 10 = .ok (.aload_n 0, 1) := by decide +kernel
theorem dX5_take_11 : decode cX5_take 11 = .ok (.iload_n 1, 1) := by decide +kernel
theorem dX5_take_12 : decode cX5_take 12 = .ok (.iload 4, 2) := by decide +kernel
theorem dX5_take_14 : decode cX5_take 14 = .ok (.invokevirtual 32, 3) := by decide +kernel
theorem dX5_take_17 : decode cX5_take 17 = .ok (.ifCond .eq 18, 3) := by decide +kernel
theorem dX5_take_20 : decode cX5_take 20 = .ok (.aload_n 2, 1) := by decide +kernel
theorem dX5_take_21 : decode cX5_take 21 = .ok (.getfield 21, 3) := by decide +kernel
theorem dX5_take_24 : decode cX5_take 24 = .ok (.iload_n 3, 1) := by decide +kernel
theorem dX5_take_25 : decode cX5_take 25 = .ok (.aload_n 0, 1) := by decide +kernel
theorem dX5_take_26 : decode cX5_take 26 = .ok (.getfield 21, 3) := by decide +kernel
theorem dX5_take_29 : decode cX5_take 29 = .ok (.iload_n 1, 1) := by decide +kernel
theorem dX5_take_30 : decode cX5_take 30 = .ok (.iload 4, 2) := by decide +kernel
theorem dX5_take_32 : decode cX5_take 32 = .ok (.invokestatic 36, 3) := by decide +kernel
theorem dX5_take_35 : decode cX5_take 35 = .ok (.return_, 1) := by decide +kernel
theorem dX5_sum_0 : decode cX5_sum 0 = .ok (.lconst 0, 1) := by decide +kernel
theorem dX5_sum_1 : decode cX5_sum 1 = .ok (.lstore_n 1, 1) := by decide +kernel
theorem dX5_sum_2 : decode cX5_sum 2 = .ok (.iconst 0, 1) := by decide +kernel
theorem dX5_sum_3 : decode cX5_sum 3 = .ok (.istore_n 3, 1) := by decide +kernel
theorem dX5_sum_4 : decode cX5_sum 4 = .ok (.iload_n 3, 1) := by decide +kernel
theorem dX5_sum_5 : decode cX5_sum 5 = .ok (.aload_n 0, 1) := by decide +kernel
theorem dX5_sum_6 : decode cX5_sum 6 = .ok (.getfield 9, 3) := by decide +kernel
theorem dX5_sum_9 : decode cX5_sum 9 = .ok (.if_icmp .ge 28, 3) := by decide +kernel
theorem dX5_sum_12 : decode cX5_sum 12 = .ok (.iload_n 3, 1) := by decide +kernel
theorem dX5_sum_13 : decode cX5_sum 13 = .ok (.aload_n 0, 1) := by decide +kernel
theorem dX5_sum_14 : decode cX5_sum 14 = .ok (.getfield 21, 3) := by decide +kernel
theorem dX5_sum_17 : decode cX5_sum 17 = .ok (.arraylength, 1) := by decide +kernel
theorem dX5_sum_18 : decode cX5_sum 18 = .ok (.if_icmp .ge 19, 3) := by decide +kernel
theorem dX5_sum_21 : decode cX5_sum 21 = .ok (.lload_n 1, 1) := by decide +kernel
theorem dX5_sum_22 : decode cX5_sum 22 = .ok (.aload_n 0, 1) := by decide +kernel
theorem dX5_sum_23 : decode cX5_sum 23 = .ok (.getfield 21, 3) := by decide +kernel
theorem dX5_sum_26 : decode cX5_sum 26 = .ok (.iload_n 3, 1) := by decide +kernel
theorem dX5_sum_27 : decode cX5_sum 27 = .ok (.iaload, 1) := by decide +kernel
theorem dX5_sum_28 : decode cX5_sum 28 = .ok (.i2l, 1) := by decide +kernel
theorem dX5_sum_29 : decode cX5_sum 29 = .ok (.ladd, 1) := by decide +kernel
theorem dX5_sum_30 : decode cX5_sum 30 = .ok (.lstore_n 1, 1) := by decide +kernel
theorem dX5_sum_31 : decode cX5_sum 31 = .ok (.iinc 3 1, 3) := by decide +kernel
theorem dX5_sum_34 : decode cX5_sum 34 = .ok (.goto (-30), 3) := by decide +kernel
theorem dX5_sum_37 : decode cX5_sum 37 = .ok (.lload_n 1, 1) := by decide +kernel
theorem dX5_sum_38 : decode cX5_sum 38 = .ok (.lreturn, 1) := by decide +kernel
theorem dX5_digestOnto_0 : decode cX5_digestOnto 0 = .ok (.ldc2_w 42, 3) := by decide +kernel
theorem dX5_digestOnto_3 : decode cX5_digestOnto 3 = .ok (.lload_n 1, 1) := by decide +kernel
theorem dX5_digestOnto_4 : decode cX5_digestOnto 4 = .ok (.lmul, 1) := by decide +kernel
theorem dX5_digestOnto_5 : decode cX5_digestOnto 5 = .ok (.aload_n 0, 1) := by decide +kernel
theorem dX5_digestOnto_6 : decode cX5_digestOnto 6 = .ok (.getfield 9, 3) := by decide +kernel
theorem dX5_digestOnto_9 : decode cX5_digestOnto 9 = .ok (.i2l, 1) := by decide +kernel
theorem dX5_digestOnto_10 : decode cX5_digestOnto 10 = .ok (.ladd, 1) := by decide +kernel
theorem dX5_digestOnto_11 : decode cX5_digestOnto 11 = .ok (.lstore_n 3, 1) := by decide +kernel
theorem dX5_digestOnto_12 : decode cX5_digestOnto 12 = .ok (.iconst 0, 1) := by decide +kernel
theorem dX5_digestOnto_13 : decode cX5_digestOnto 13 = .ok (.istore 5, 2) := by decide +kernel
theorem dX5_digestOnto_15 : decode cX5_digestOnto 15 = .ok (.iload 5, 2) := by decide +kernel
theorem dX5_digestOnto_17 : decode cX5_digestOnto 17 = .ok (.aload_n 0, 1) := by decide +kernel
theorem dX5_digestOnto_18 : decode cX5_digestOnto 18 = .ok (.getfield 9, 3) := by decide +kernel
theorem dX5_digestOnto_21 : decode cX5_digestOnto 21 = .ok (.if_icmp .ge 34, 3) := by decide +kernel
theorem dX5_digestOnto_24 : decode cX5_digestOnto 24 = .ok (.iload 5, 2) := by decide +kernel
theorem dX5_digestOnto_26 : decode cX5_digestOnto 26 = .ok (.aload_n 0, 1) := by decide +kernel
theorem dX5_digestOnto_27 : decode cX5_digestOnto 27 = .ok (.getfield 21, 3) := by decide +kernel
theorem dX5_digestOnto_30 : decode cX5_digestOnto 30 = .ok (.arraylength, 1) := by decide +kernel
theorem dX5_digestOnto_31 : decode cX5_digestOnto 31 = .ok (.if_icmp .ge 24, 3) := by decide +kernel
theorem dX5_digestOnto_34 : decode cX5_digestOnto 34 = .ok (.ldc2_w 42, 3) := by decide +kernel
theorem dX5_digestOnto_37 : decode cX5_digestOnto 37 = .ok (.lload_n 3, 1) := by decide +kernel
theorem dX5_digestOnto_38 : decode cX5_digestOnto 38 = .ok (.lmul, 1) := by decide +kernel
theorem dX5_digestOnto_39 : decode cX5_digestOnto 39 = .ok (.aload_n 0, 1) := by decide +kernel
theorem dX5_digestOnto_40 : decode cX5_digestOnto 40 = .ok (.getfield 21, 3) := by decide +kernel
theorem dX5_digestOnto_43 : decode cX5_digestOnto 43 = .ok (.iload 5, 2) := by decide +kernel
theorem dX5_digestOnto_45 : decode cX5_digestOnto 45 = .ok (.iaload, 1) := by decide +kernel
theorem dX5_digestOnto_46 : decode cX5_digestOnto 46 = .ok (.i2l, 1) := by decide +kernel
theorem dX5_digestOnto_47 : decode cX5_digestOnto 47 = .ok (.ladd, 1) := by decide +kernel
theorem dX5_digestOnto_48 : decode cX5_digestOnto 48 = .ok (.lstore_n 3, 1) := by decide +kernel
theorem dX5_digestOnto_49 : decode cX5_digestOnto 49 = .ok (.iinc 5 1, 3) := by decide +kernel
theorem dX5_digestOnto_52 : decode cX5_digestOnto 52 = .ok (.goto (-37), 3) := by decide +kernel
theorem dX5_digestOnto_55 : decode cX5_digestOnto 55 = .ok (.lload_n 3, 1) := by decide +kernel
theorem dX5_digestOnto_56 : decode cX5_digestOnto 56 = .ok (.lreturn, 1) := by decide +kernel
theorem dX6_init_0 : decode cX6_init 0 = .ok (.aload_n 0, 1) := by decide +kernel
theorem dX6_init_1 : decode cX6_init 1 = .ok (.invokespecial 3, 3) := by decide +kernel
theorem dX6_init_4 : decode cX6_init 4 = .ok (.aload_n 0, 1) := by decide +kernel
theorem dX6_init_5 : decode cX6_init 5 = .ok (.iconst 3, 1) := by decide +kernel
theorem dX6_init_6 : decode cX6_init 6 = .ok (.newarray .int, 2) := by decide +kernel
theorem dX6_init_8 : decode cX6_init 8 = .ok (.putfield 9, 3) := by decide +kernel
theorem dX6_init_11 : decode cX6_init 11 = .ok (.aload_n 0, 1) := by decide +kernel
theorem dX6_init_12 : decode cX6_init 12 = .ok (.aload_n 1, 1) := by decide +kernel
theorem dX6_init_13 : decode cX6_init 13 = .ok (.putfield 15, 3) := by decide +kernel
theorem dX6_init_16 : decode cX6_init 16 = .ok (.aload_n 0, 1) := by decide +kernel
theorem dX6_init_17 : decode cX6_init 17 = .ok (.new 19, 3) := by decide +kernel
theorem dX6_init_20 : decode cX6_init 20 = .ok (.dup, 1) := by decide +kernel
theorem dX6_init_21 : decode cX6_init 21 = .ok (.aload_n 1, 1) := by decide +kernel
theorem dX6_init_22 : decode cX6_init 22 = .ok (.invokespecial 21, 3) := by decide +kernel
theorem dX6_init_25 : decode cX6_init 25 = .ok (.putfield 24, 3) := by decide +kernel
theorem dX6_init_28 : decode cX6_init 28 = .ok (.return_, 1) := by decide +kernel
theorem dX6_want_0 : decode cX6_want 0 = .ok (.aload_n 0, 1) := by decide +kernel
theorem dX6_want_1 : decode cX6_want 1 = .ok (.aload_n 1, 1) := by decide +kernel
theorem dX6_want_2 : decode cX6_want 2 = .ok (.putfield 28, 3) := by decide +kernel
theorem dX6_want_5 : decode cX6_want 5 = .ok (.aload_n 0, 1) := by decide +kernel
theorem dX6_want_6 : decode cX6_want 6 = .ok (.aload_n 2, 1) := by decide +kernel
theorem dX6_want_7 : decode cX6_want 7 = .ok (.putfield 32, 3) := by decide +kernel
theorem dX6_want_10 : decode cX6_want 10 = .ok (.aload_n 0, 1) := by decide +kernel
theorem dX6_want_11 : decode cX6_want 11 = .ok (.iload_n 3, 1) := by decide +kernel
theorem dX6_want_12 : decode cX6_want 12 = .ok (.putfield 35, 3) := by decide +kernel
theorem dX6_want_15 : decode cX6_want 15 = .ok (.aload_n 0, 1) := by decide +kernel
theorem dX6_want_16 : decode cX6_want 16 = .ok (.iload 4, 2) := by decide +kernel
theorem dX6_want_18 : decode cX6_want 18 = .ok (.putfield 39, 3) := by decide +kernel
theorem dX6_want_21 : decode cX6_want 21 = .ok (.return_, 1) := by decide +kernel
theorem dX6_moveAt_0 : decode cX6_moveAt 0 = .ok (.iload_n 1, 1) := by decide +kernel
theorem dX6_moveAt_1 : decode cX6_moveAt 1 = .ok (.ifCond .lt 21, 3) := by decide +kernel
theorem dX6_moveAt_4 : decode cX6_moveAt 4 = .ok (.iload_n 1, 1) := by decide +kernel
theorem dX6_moveAt_5 : decode cX6_moveAt 5 = .ok (.aload_n 0, 1) := by decide +kernel
theorem dX6_moveAt_6 : decode cX6_moveAt 6 = .ok (.getfield 9, 3) := by decide +kernel
theorem dX6_moveAt_9 : decode cX6_moveAt 9 = .ok (.arraylength, 1) := by decide +kernel
theorem dX6_moveAt_10 : decode cX6_moveAt 10 = .ok (.if_icmp .ge 12, 3) := by decide +kernel
theorem dX6_moveAt_13 : decode cX6_moveAt 13 = .ok (.aload_n 0, 1) := by decide +kernel
theorem dX6_moveAt_14 : decode cX6_moveAt 14 = .ok (.getfield 9, 3) := by decide +kernel
theorem dX6_moveAt_17 : decode cX6_moveAt 17 = .ok (.iload_n 1, 1) := by decide +kernel
theorem dX6_moveAt_18 : decode cX6_moveAt 18 = .ok (.iaload, 1) := by decide +kernel
theorem dX6_moveAt_19 : decode cX6_moveAt 19 = .ok (.goto 4, 3) := by decide +kernel
theorem dX6_moveAt_22 : decode cX6_moveAt 22 = .ok (.iconst 0, 1) := by decide +kernel
theorem dX6_moveAt_23 : decode cX6_moveAt 23 = .ok (.ireturn, 1) := by decide +kernel
theorem dX6_fewestMoves_0 : decode cX6_fewestMoves 0 = .ok (.aload_n 0, 1) := by decide +kernel
theorem dX6_fewestMoves_1 : decode cX6_fewestMoves 1 = .ok (.getfield 15, 3) := by decide +kernel
theorem dX6_fewestMoves_4 : decode cX6_fewestMoves 4 = .ok (.aload_n 0, 1) := by decide +kernel
theorem dX6_fewestMoves_5 : decode cX6_fewestMoves 5 = .ok (.getfield 39, 3) := by decide +kernel
theorem dX6_fewestMoves_8 : decode cX6_fewestMoves 8 = .ok (.invokevirtual 42, 3) := by decide +kernel
theorem dX6_fewestMoves_11 : decode cX6_fewestMoves 11 = .ok (.ifCond .ne 6, 3) := by decide +kernel
theorem dX6_fewestMoves_14 : decode cX6_fewestMoves 14 = .ok (.bipush (-9), 2) := by decide +kernel
theorem dX6_fewestMoves_16 : decode cX6_fewestMoves 16 = .ok (.ireturn, 1) := by decide +kernel
theorem dX6_fewestMoves_17 : decode cX6_fewestMoves 17 = .ok (.aload_n 0, 1) := by decide +kernel
theorem dX6_fewestMoves_18 : decode cX6_fewestMoves 18 = .ok (.getfield 24, 3) := by decide +kernel
theorem dX6_fewestMoves_21 : decode cX6_fewestMoves 21 = .ok (.aload_n 1, 1) := by decide +kernel
theorem dX6_fewestMoves_22 : decode cX6_fewestMoves 22 = .ok (.invokevirtual 48, 3) := by decide +kernel
theorem dX6_fewestMoves_25 : decode cX6_fewestMoves 25 = .ok (.iconst 0, 1) := by decide +kernel
theorem dX6_fewestMoves_26 : decode cX6_fewestMoves 26 = .ok (.istore_n 2, 1) := by decide +kernel
theorem dX6_fewestMoves_27 : decode cX6_fewestMoves 27 = .ok (.iload_n 2, 1) := by decide +kernel
theorem dX6_fewestMoves_28 : decode cX6_fewestMoves 28 = .ok (.iconst 3, 1) := by decide +kernel
theorem dX6_fewestMoves_29 : decode cX6_fewestMoves 29 = .ok (.if_icmp .gt 21, 3) := by decide +kernel
theorem dX6_fewestMoves_32 : decode cX6_fewestMoves 32 = .ok (.aload_n 0, 1) := by decide +kernel
theorem dX6_fewestMoves_33 : decode cX6_fewestMoves 33 = .ok (.iconst 0, 1) := by decide +kernel
theorem dX6_fewestMoves_34 : decode cX6_fewestMoves 34 = .ok (.iconst 0, 1) := by decide +kernel
theorem dX6_fewestMoves_35 : decode cX6_fewestMoves 35 = .ok (.iload_n 2, 1) := by decide +kernel
theorem dX6_fewestMoves_36 : decode cX6_fewestMoves 36 = .ok (.invokevirtual 52, 3) := by decide +kernel
theorem dX6_fewestMoves_39 : decode cX6_fewestMoves 39 = .ok (.ifCond .eq 5, 3) := by decide +kernel
theorem dX6_fewestMoves_42 : decode cX6_fewestMoves 42 = .ok (.iload_n 2, 1) := by decide +kernel
theorem dX6_fewestMoves_43 : decode cX6_fewestMoves 43 = .ok (.ireturn, 1) := by decide +kernel
theorem dX6_fewestMoves_44 : decode cX6_fewestMoves 44 = .ok (.iinc 2 1, 3) := by decide +kernel
theorem dX6_fewestMoves_47 : decode cX6_fewestMoves 47 = .ok (.goto (-20), 3) := by decide +kernel
theorem dX6_fewestMoves_50 : decode cX6_fewestMoves 50 = .ok (.bipush (-9), 2) := by decide +kernel
theorem dX6_fewestMoves_52 : decode cX6_fewestMoves 52 = .ok (.ireturn, 1) := by decide +kernel
theorem dX6_succeeds_0 : decode cX6_succeeds 0 = .ok (.iload_n 1, 1) := by decide +kernel
theorem dX6_succeeds_1 : decode cX6_succeeds 1 = .ok (.iload_n 3, 1) := by decide +kernel
theorem dX6_succeeds_2 : decode cX6_succeeds 2 = .ok (.if_icmp .ge 12, 3) := by decide +kernel
theorem dX6_succeeds_5 : decode cX6_succeeds 5 = .ok (.iload_n 1, 1) := by decide +kernel
theorem dX6_succeeds_6 : decode cX6_succeeds 6 = .ok (.aload_n 0, 1) := by decide +kernel
theorem dX6_succeeds_7 : decode cX6_succeeds 7 = .ok (.getfield 9, 3) := by decide +kernel
theorem dX6_succeeds_10 : decode cX6_succeeds 10 = .ok (.arraylength, 1) := by decide +kernel
theorem dX6_succeeds_11 : decode cX6_succeeds 11 = .ok (.if_icmp .lt 8, 3) := by decide +kernel
theorem dX6_succeeds_14 : decode cX6_succeeds 14 = .ok (.aload_n 0, 1) := by decide +kernel
theorem dX6_succeeds_15 : decode cX6_succeeds 15 = .ok (.invokevirtual 56, 3) := by decide +kernel
theorem dX6_succeeds_18 : decode cX6_succeeds 18 = .ok (.ireturn, 1) := by decide +kernel
theorem dX6_succeeds_19 : decode cX6_succeeds 19 = .ok (.iload_n 2, 1) := by decide +kernel
theorem dX6_succeeds_20 : decode cX6_succeeds 20 = .ok (.istore 4, 2) := by decide +kernel
theorem dX6_succeeds_22 : decode cX6_succeeds 22 = .ok (.iload 4, 2) := by decide +kernel
theorem dX6_succeeds_24 : decode cX6_succeeds 24 = .ok (.iconst 2, 1) := by decide +kernel
theorem dX6_succeeds_25 : decode cX6_succeeds 25 = .ok (.aload_n 0, 1) := by decide +kernel
theorem dX6_succeeds_26 : decode cX6_succeeds 26 = .ok (.getfield 15, 3) := by decide +kernel
theorem dX6_succeeds_29 : decode cX6_succeeds 29 = .ok (.getfield 60, 3) := by decide +kernel
theorem dX6_succeeds_32 : decode cX6_succeeds 32 = .ok (.imul, 1) := by decide +kernel
theorem dX6_succeeds_33 : decode cX6_succeeds 33 = .ok (.if_icmp .ge 142, 3) := by decide +kernel
theorem dX6_succeeds_36 : decode cX6_succeeds 36 = .ok (.iload 4, 2) := by decide +kernel
theorem dX6_succeeds_38 : decode cX6_succeeds 38 = .ok (.aload_n 0, 1) := by decide +kernel
theorem dX6_succeeds_39 : decode cX6_succeeds 39 = .ok (.getfield 15, 3) := by decide +kernel
theorem dX6_succeeds_42 : decode cX6_succeeds 42 = .ok (.getfield 60, 3) := by decide +kernel
theorem dX6_succeeds_45 : decode cX6_succeeds 45 = .ok (.if_icmp .lt 7, 3) := by decide +kernel
theorem dX6_succeeds_48 : decode cX6_succeeds 48 = .ok (.iconst 1, 1) := by decide +kernel
theorem dX6_succeeds_49 : decode cX6_succeeds 49 = .ok (.goto 4, 3) := by decide +kernel
theorem dX6_succeeds_52 : decode cX6_succeeds 52 = .ok (.iconst 0, 1) := by decide +kernel
theorem dX6_succeeds_53 : decode cX6_succeeds 53 = .ok (.istore 5, 2) := by decide +kernel
theorem dX6_succeeds_55 : decode cX6_succeeds 55 = .ok (.iload 5, 2) := by decide +kernel
theorem dX6_succeeds_57 : decode cX6_succeeds 57 = .ok (.ifCond .eq 16, 3) := by decide +kernel
theorem dX6_succeeds_60 : decode cX6_succeeds 60 = .ok (.iload 4, 2) := by decide +kernel
theorem dX6_succeeds_62 : decode cX6_succeeds 62 = .ok (.aload_n 0, 1) := by decide +kernel
theorem dX6_succeeds_63 : decode cX6_succeeds 63 = .ok (.getfield 15, 3) := by decide +kernel
theorem dX6_succeeds_66 : decode cX6_succeeds 66 = .ok (.getfield 60, 3) := by decide +kernel
theorem dX6_succeeds_69 : decode cX6_succeeds 69 = .ok (.isub, 1) := by decide +kernel
theorem dX6_succeeds_70 : decode cX6_succeeds 70 = .ok (.goto 5, 3) := by decide +kernel
theorem dX6_succeeds_73 : decode cX6_succeeds 73 = .ok (.iload 4, 2) := by decide +kernel
theorem dX6_succeeds_75 : decode cX6_succeeds 75 = .ok (.istore 6, 2) := by decide +kernel
theorem dX6_succeeds_77 : decode cX6_succeeds 77 = .ok (.iload 5, 2) := by decide +kernel
theorem dX6_succeeds_79 : decode cX6_succeeds 79 = .ok (.ifCond .eq 7, 3) := by decide +kernel
theorem dX6_succeeds_82 : decode cX6_succeeds 82 = .ok (.iconst (-1), 1) := by decide +kernel
theorem dX6_succeeds_83 : decode cX6_succeeds 83 = .ok (.goto 4, 3) := by decide +kernel
theorem dX6_succeeds_86 : decode cX6_succeeds 86 = .ok (.iconst 1, 1) := by decide +kernel
theorem dX6_succeeds_87 : decode cX6_succeeds 87 = .ok (.istore 7, 2) := by decide +kernel
theorem dX6_succeeds_89 : decode cX6_succeeds 89 = .ok (.aload_n 0, 1) := by decide +kernel
theorem dX6_succeeds_90 : decode cX6_succeeds 90 = .ok (.getfield 24, 3) := by decide +kernel
theorem dX6_succeeds_93 : decode cX6_succeeds 93 = .ok (.iload 6, 2) := by decide +kernel
theorem dX6_succeeds_95 : decode cX6_succeeds 95 = .ok (.iload 7, 2) := by decide +kernel
theorem dX6_succeeds_97 : decode cX6_succeeds 97 = .ok (.invokevirtual 63, 3) := by decide +kernel
theorem dX6_succeeds_100 : decode cX6_succeeds 100 = .ok (.ifCond .ne 6, 3) := by decide +kernel
theorem dX6_succeeds_103 : decode cX6_succeeds 103 = .ok (.goto 66, 3) := by decide +kernel
theorem dX6_succeeds_106 : decode cX6_succeeds 106 = .ok (.aload_n 0, 1) := by decide +kernel
theorem dX6_succeeds_107 : decode cX6_succeeds 107 = .ok (.getfield 9, 3) := by decide +kernel
theorem dX6_succeeds_110 : decode cX6_succeeds 110 = .ok (.iload_n 1, 1) := by decide +kernel
theorem dX6_succeeds_111 : decode cX6_succeeds 111 = .ok (.iload 5, 2) := by decide +kernel
theorem dX6_succeeds_113 : decode cX6_succeeds 113 = .ok (.ifCond .eq 11, 3) := by decide +kernel
theorem dX6_succeeds_116 : decode cX6_succeeds 116 = .ok (.iload 6, 2) := by decide +kernel
theorem dX6_succeeds_118 : decode cX6_succeeds 118 = .ok (.bipush 100, 2) := by decide +kernel
theorem dX6_succeeds_120 : decode cX6_succeeds 120 = .ok (.iadd, 1) := by decide +kernel
theorem dX6_succeeds_121 : decode cX6_succeeds 121 = .ok (.goto 5, 3) := by decide +kernel
theorem dX6_succeeds_124 : decode cX6_succeeds 124 = .ok (.iload 6, 2) := by decide +kernel
theorem dX6_succeeds_126 : decode cX6_succeeds 126 = .ok (.iastore, 1) := by decide +kernel
theorem dX6_succeeds_127 : decode cX6_succeeds 127 = .ok (.aload_n 0, 1) := by decide +kernel
theorem dX6_succeeds_128 : decode cX6_succeeds 128 = .ok (.getfield 24, 3) := by decide +kernel
theorem dX6_succeeds_131 : decode cX6_succeeds 131 = .ok (.iload 6, 2) := by decide +kernel
theorem dX6_succeeds_133 : decode cX6_succeeds 133 = .ok (.iload 7, 2) := by decide +kernel
theorem dX6_succeeds_135 : decode cX6_succeeds 135 = .ok (.invokevirtual 67, 3) := by decide +kernel
theorem dX6_succeeds_138 : decode cX6_succeeds 138 = .ok (.aload_n 0, 1) := by decide +kernel
theorem dX6_succeeds_139 : decode cX6_succeeds 139 = .ok (.iload_n 1, 1) := by decide +kernel
theorem dX6_succeeds_140 : decode cX6_succeeds 140 = .ok (.iconst 1, 1) := by decide +kernel
theorem dX6_succeeds_141 : decode cX6_succeeds 141 = .ok (.iadd, 1) := by decide +kernel
theorem dX6_succeeds_142 : decode cX6_succeeds 142 = .ok (.iload 4, 2) := by decide +kernel
theorem dX6_succeeds_144 : decode cX6_succeeds 144 = .ok (.iload_n 3, 1) := by decide +kernel
theorem dX6_succeeds_145 : decode cX6_succeeds 145 = .ok (.invokevirtual 52, 3) := by decide +kernel
theorem dX6_succeeds_148 : decode cX6_succeeds 148 = .ok (.istore 8, 2) := by decide +kernel
theorem dX6_succeeds_150 : decode cX6_succeeds 150 = .ok (.aload_n 0, 1) := by decide +kernel
theorem dX6_succeeds_151 : decode cX6_succeeds 151 = .ok (.getfield 24, 3) := by decide +kernel
theorem dX6_succeeds_154 : decode cX6_succeeds 154 = .ok (.iload 6, 2) := by decide +kernel
theorem dX6_succeeds_156 : decode cX6_succeeds 156 = .ok (.iload 7, 2) := by decide +kernel
theorem dX6_succeeds_158 : decode cX6_succeeds 158 = .ok (.ineg, 1) := by decide +kernel
theorem dX6_succeeds_159 : decode cX6_succeeds 159 = .ok (.invokevirtual 67, 3) := by decide +kernel
theorem dX6_succeeds_162 : decode cX6_succeeds 162 = .ok (.iload 8, 2) := by decide +kernel
theorem dX6_succeeds_164 : decode cX6_succeeds 164 = .ok (.ifCond .eq 5, 3) := by decide +kernel
theorem dX6_succeeds_167 : decode cX6_succeeds 167 = .ok (.iconst 1, 1) := by decide +kernel
theorem dX6_succeeds_168 : decode cX6_succeeds 168 = .ok (.ireturn, 1) := by decide +kernel
theorem dX6_succeeds_169 : decode cX6_succeeds 169 = .ok (.iinc 4 1, 3) := by decide +kernel
theorem dX6_succeeds_172 : decode cX6_succeeds 172 = .ok (.goto (-150), 3) := by decide +kernel
theorem dX6_succeeds_175 : decode cX6_succeeds 175 = .ok (.iconst 0, 1) := by decide +kernel
theorem dX6_succeeds_176 : decode cX6_succeeds 176 = .ok (.ireturn, 1) := by decide +kernel
theorem dX6_isStolen_0 : decode cX6_isStolen 0 = .ok (.aload_n 0, 1) := by decide +kernel
theorem dX6_isStolen_1 : decode cX6_isStolen 1 = .ok (.getfield 28, 3) := by decide +kernel
theorem dX6_isStolen_4 : decode cX6_isStolen 4 = .ok (.ifnull 10, 3) := by decide +kernel
theorem dX6_isStolen_7 : decode cX6_isStolen 7 = .ok (.aload_n 0, 1) := by decide +kernel
theorem dX6_isStolen_8 : decode cX6_isStolen 8 = .ok (.getfield 32, 3) := by decide +kernel
theorem dX6_isStolen_11 : decode cX6_isStolen 11 = .ok (.ifnonnull 5, 3) := by decide +kernel
theorem dX6_isStolen_14 : decode cX6_isStolen 14 = .ok (.iconst 0, 1) := by decide +kernel
theorem dX6_isStolen_15 : decode cX6_isStolen 15 = .ok (.ireturn, 1) := by decide +kernel
theorem dX6_isStolen_16 : decode cX6_isStolen 16 = .ok (.aload_n 0, 1) := by decide +kernel
theorem dX6_isStolen_17 : decode cX6_isStolen 17 = .ok (.getfield 24, 3) := by decide +kernel
theorem dX6_isStolen_20 : decode cX6_isStolen 20 = .ok (.invokevirtual 71, 3) := by decide +kernel
theorem dX6_isStolen_23 : decode cX6_isStolen 23 = .ok (.iconst 0, 1) := by decide +kernel
theorem dX6_isStolen_24 : decode cX6_isStolen 24 = .ok (.istore_n 1, 1) := by decide +kernel
theorem dX6_isStolen_25 : decode cX6_isStolen 25 = .ok (.iload_n 1, 1) := by decide +kernel
theorem dX6_isStolen_26 : decode cX6_isStolen 26 = .ok (.aload_n 0, 1) := by decide +kernel
theorem dX6_isStolen_27 : decode cX6_isStolen 27 = .ok (.getfield 24, 3) := by decide +kernel
theorem dX6_isStolen_30 : decode cX6_isStolen 30 = .ok (.getfield 74, 3) := by decide +kernel
theorem dX6_isStolen_33 : decode cX6_isStolen 33 = .ok (.if_icmp .ge 56, 3) := by decide +kernel
theorem dX6_isStolen_36 : decode cX6_isStolen 36 = .ok (.aload_n 0, 1) := by decide +kernel
theorem dX6_isStolen_37 : decode cX6_isStolen 37 = .ok (.getfield 28, 3) := by decide +kernel
theorem dX6_isStolen_40 : decode cX6_isStolen 40 = .ok (.aload_n 0, 1) := by decide +kernel
theorem dX6_isStolen_41 : decode cX6_isStolen 41 = .ok (.getfield 32, 3) := by decide +kernel
theorem dX6_isStolen_44 : decode cX6_isStolen 44 = .ok (.aload_n 0, 1) := by decide +kernel
theorem dX6_isStolen_45 : decode cX6_isStolen 45 = .ok (.getfield 35, 3) := by decide +kernel
theorem dX6_isStolen_48 : decode cX6_isStolen 48 = .ok (.aload_n 0, 1) := by decide +kernel
theorem dX6_isStolen_49 : decode cX6_isStolen 49 = .ok (.getfield 24, 3) := by decide +kernel
theorem dX6_isStolen_52 : decode cX6_isStolen 52 = .ok (.iload_n 1, 1) := by decide +kernel
theorem dX6_isStolen_53 : decode cX6_isStolen 53 = .ok (.invokevirtual 77, 3) := by decide +kernel
theorem dX6_isStolen_56 : decode cX6_isStolen 56 = .ok (.ifCond .eq 27, 3) := by decide +kernel
theorem dX6_isStolen_59 : decode cX6_isStolen 59 = .ok (.aload_n 0, 1) := by decide +kernel
theorem dX6_isStolen_60 : decode cX6_isStolen 60 = .ok (.getfield 15, 3) := by decide +kernel
theorem dX6_isStolen_63 : decode cX6_isStolen 63 = .ok (.aload_n 0, 1) := by decide +kernel
theorem dX6_isStolen_64 : decode cX6_isStolen 64 = .ok (.getfield 24, 3) := by decide +kernel
theorem dX6_isStolen_67 : decode cX6_isStolen 67 = .ok (.iload_n 1, 1) := by decide +kernel
theorem dX6_isStolen_68 : decode cX6_isStolen 68 = .ok (.invokevirtual 83, 3) := by decide +kernel
theorem dX6_isStolen_71 : decode cX6_isStolen 71 = .ok (.invokevirtual 86, 3) := by decide +kernel
theorem dX6_isStolen_74 : decode cX6_isStolen 74 = .ok (.aload_n 0, 1) := by decide +kernel
theorem dX6_isStolen_75 : decode cX6_isStolen 75 = .ok (.getfield 39, 3) := by decide +kernel
theorem dX6_isStolen_78 : decode cX6_isStolen 78 = .ok (.if_icmp .ne 5, 3) := by decide +kernel
theorem dX6_isStolen_81 : decode cX6_isStolen 81 = .ok (.iconst 1, 1) := by decide +kernel
theorem dX6_isStolen_82 : decode cX6_isStolen 82 = .ok (.ireturn, 1) := by decide +kernel
theorem dX6_isStolen_83 : decode cX6_isStolen 83 = .ok (.iinc 1 1, 3) := by decide +kernel
theorem dX6_isStolen_86 : decode cX6_isStolen 86 = .ok (.goto (-61), 3) := by decide +kernel
theorem dX6_isStolen_89 : decode cX6_isStolen 89 = .ok (.iconst 0, 1) := by decide +kernel
theorem dX6_isStolen_90 : decode cX6_isStolen 90 = .ok (.ireturn, 1) := by decide +kernel
theorem dX7_wrongIn_0 : decode cX7_wrongIn 0 = .ok (.aload_n 0, 1) := by decide +kernel
theorem dX7_wrongIn_1 : decode cX7_wrongIn 1 = .ok (.invokevirtual 9, 3) := by decide +kernel
theorem dX7_wrongIn_4 : decode cX7_wrongIn 4 = .ok (.ifCond .eq 5, 3) := by decide +kernel
theorem dX7_wrongIn_7 : decode cX7_wrongIn 7 = .ok (.iconst 1, 1) := by decide +kernel
theorem dX7_wrongIn_8 : decode cX7_wrongIn 8 = .ok (.ireturn, 1) := by decide +kernel
theorem dX7_wrongIn_9 : decode cX7_wrongIn 9 = .ok (.aload_n 0, 1) := by decide +kernel
theorem dX7_wrongIn_10 : decode cX7_wrongIn 10 = .ok (.invokevirtual 15, 3) := by decide +kernel
theorem dX7_wrongIn_13 : decode cX7_wrongIn 13 = .ok (.iconst 3, 1) := by decide +kernel
theorem dX7_wrongIn_14 : decode cX7_wrongIn 14 = .ok (.irem, 1) := by decide +kernel
theorem dX7_wrongIn_15 : decode cX7_wrongIn 15 = .ok (.ifCond .eq 5, 3) := by decide +kernel
theorem dX7_wrongIn_18 : decode cX7_wrongIn 18 = .ok (.iconst 5, 1) := by decide +kernel
theorem dX7_wrongIn_19 : decode cX7_wrongIn 19 = .ok (.ireturn, 1) := by decide +kernel
theorem dX7_wrongIn_20 : decode cX7_wrongIn 20 = .ok (.iconst 0, 1) := by decide +kernel
theorem dX7_wrongIn_21 : decode cX7_wrongIn 21 = .ok (.istore_n 2, 1) := by decide +kernel
theorem dX7_wrongIn_22 : decode cX7_wrongIn 22 = .ok (.iload_n 2, 1) := by decide +kernel
theorem dX7_wrongIn_23 : decode cX7_wrongIn 23 = .ok (.aload_n 0, 1) := by decide +kernel
theorem dX7_wrongIn_24 : decode cX7_wrongIn 24 = .ok (.invokevirtual 15, 3) := by decide +kernel
theorem dX7_wrongIn_27 : decode cX7_wrongIn 27 = .ok (.if_icmp .ge 60, 3) := by decide +kernel
theorem dX7_wrongIn_30 : decode cX7_wrongIn 30 = .ok (.aload_n 0, 1) := by decide +kernel
theorem dX7_wrongIn_31 : decode cX7_wrongIn 31 = .ok (.iload_n 2, 1) := by decide +kernel
theorem dX7_wrongIn_32 : decode cX7_wrongIn 32 = .ok (.iconst 1, 1) := by decide +kernel
theorem dX7_wrongIn_33 : decode cX7_wrongIn 33 = .ok (.iadd, 1) := by decide +kernel
theorem dX7_wrongIn_34 : decode cX7_wrongIn 34 = .ok (.invokevirtual 19, 3) := by decide +kernel
theorem dX7_wrongIn_37 : decode cX7_wrongIn 37 = .ok (.istore_n 3, 1) := by decide +kernel
theorem dX7_wrongIn_38 : decode cX7_wrongIn 38 = .ok (.aload_n 0, 1) := by decide +kernel
theorem dX7_wrongIn_39 : decode cX7_wrongIn 39 = .ok (.iload_n 2, 1) := by decide +kernel
theorem dX7_wrongIn_40 : decode cX7_wrongIn 40 = .ok (.iconst 2, 1) := by decide +kernel
theorem dX7_wrongIn_41 : decode cX7_wrongIn 41 = .ok (.iadd, 1) := by decide +kernel
theorem dX7_wrongIn_42 : decode cX7_wrongIn 42 = .ok (.invokevirtual 19, 3) := by decide +kernel
theorem dX7_wrongIn_45 : decode cX7_wrongIn 45 = .ok (.istore 4, 2) := by decide +kernel
theorem dX7_wrongIn_47 : decode cX7_wrongIn 47 = .ok (.aload_n 1, 1) := by decide +kernel
theorem dX7_wrongIn_48 : decode cX7_wrongIn 48 = .ok (.aload_n 0, 1) := by decide +kernel
theorem dX7_wrongIn_49 : decode cX7_wrongIn 49 = .ok (.iload_n 2, 1) := by decide +kernel
theorem dX7_wrongIn_50 : decode cX7_wrongIn 50 = .ok (.invokevirtual 19, 3) := by decide +kernel
theorem dX7_wrongIn_53 : decode cX7_wrongIn 53 = .ok (.invokevirtual 23, 3) := by decide +kernel
theorem dX7_wrongIn_56 : decode cX7_wrongIn 56 = .ok (.ifCond .eq 23, 3) := by decide +kernel
theorem dX7_wrongIn_59 : decode cX7_wrongIn 59 = .ok (.iload_n 3, 1) := by decide +kernel
theorem dX7_wrongIn_60 : decode cX7_wrongIn 60 = .ok (.ifCond .lt 19, 3) := by decide +kernel
theorem dX7_wrongIn_63 : decode cX7_wrongIn 63 = .ok (.iload_n 3, 1) := by decide +kernel
theorem dX7_wrongIn_64 : decode cX7_wrongIn 64 = .ok (.iconst 5, 1) := by decide +kernel
theorem dX7_wrongIn_65 : decode cX7_wrongIn 65 = .ok (.if_icmp .gt 14, 3) := by decide +kernel
theorem dX7_wrongIn_68 : decode cX7_wrongIn 68 = .ok (.iload 4, 2) := by decide +kernel
theorem dX7_wrongIn_70 : decode cX7_wrongIn 70 = .ok (.ifCond .lt 9, 3) := by decide +kernel
theorem dX7_wrongIn_73 : decode cX7_wrongIn 73 = .ok (.iload 4, 2) := by decide +kernel
theorem dX7_wrongIn_75 : decode cX7_wrongIn 75 = .ok (.iconst 2, 1) := by decide +kernel
theorem dX7_wrongIn_76 : decode cX7_wrongIn 76 = .ok (.if_icmp .le 5, 3) := by decide +kernel
theorem dX7_wrongIn_79 : decode cX7_wrongIn 79 = .ok (.iconst 3, 1) := by decide +kernel
theorem dX7_wrongIn_80 : decode cX7_wrongIn 80 = .ok (.ireturn, 1) := by decide +kernel
theorem dX7_wrongIn_81 : decode cX7_wrongIn 81 = .ok (.iinc 2 3, 3) := by decide +kernel
theorem dX7_wrongIn_84 : decode cX7_wrongIn 84 = .ok (.goto (-62), 3) := by decide +kernel
theorem dX7_wrongIn_87 : decode cX7_wrongIn 87 = .ok (.iconst 0, 1) := by decide +kernel
theorem dX7_wrongIn_88 : decode cX7_wrongIn 88 = .ok (.ireturn, 1) := by decide +kernel
theorem dX7_liarsOf_0 : decode cX7_liarsOf 0 = .ok (.iconst 0, 1) := by decide +kernel
theorem dX7_liarsOf_1 : decode cX7_liarsOf 1 = .ok (.istore_n 2, 1) := by decide +kernel
theorem dX7_liarsOf_2 : decode cX7_liarsOf 2 = .ok (.iconst 0, 1) := by decide +kernel
theorem dX7_liarsOf_3 : decode cX7_liarsOf 3 = .ok (.istore_n 3, 1) := by decide +kernel
theorem dX7_liarsOf_4 : decode cX7_liarsOf 4 = .ok (.iload_n 3, 1) := by decide +kernel
theorem dX7_liarsOf_5 : decode cX7_liarsOf 5 = .ok (.aload_n 0, 1) := by decide +kernel
theorem dX7_liarsOf_6 : decode cX7_liarsOf 6 = .ok (.invokevirtual 15, 3) := by decide +kernel
theorem dX7_liarsOf_9 : decode cX7_liarsOf 9 = .ok (.if_icmp .ge 29, 3) := by decide +kernel
theorem dX7_liarsOf_12 : decode cX7_liarsOf 12 = .ok (.aload_n 0, 1) := by decide +kernel
theorem dX7_liarsOf_13 : decode cX7_liarsOf 13 = .ok (.iload_n 3, 1) := by decide +kernel
theorem dX7_liarsOf_14 : decode cX7_liarsOf 14 = .ok (.aload_n 1, 1) := by decide +kernel
theorem dX7_liarsOf_15 : decode cX7_liarsOf 15 = .ok (.aload_n 0, 1) := by decide +kernel
theorem dX7_liarsOf_16 : decode cX7_liarsOf 16 = .ok (.iload_n 3, 1) := by decide +kernel
theorem dX7_liarsOf_17 : decode cX7_liarsOf 17 = .ok (.invokevirtual 19, 3) := by decide +kernel
theorem dX7_liarsOf_20 : decode cX7_liarsOf 20 = .ok (.invokevirtual 31, 3) := by decide +kernel
theorem dX7_liarsOf_23 : decode cX7_liarsOf 23 = .ok (.invokestatic 36, 3) := by decide +kernel
theorem dX7_liarsOf_26 : decode cX7_liarsOf 26 = .ok (.ifCond .eq 6, 3) := by decide +kernel
theorem dX7_liarsOf_29 : decode cX7_liarsOf 29 = .ok (.iinc 2 1, 3) := by decide +kernel
theorem dX7_liarsOf_32 : decode cX7_liarsOf 32 = .ok (.iinc 3 3, 3) := by decide +kernel
theorem dX7_liarsOf_35 : decode cX7_liarsOf 35 = .ok (.goto (-31), 3) := by decide +kernel
theorem dX7_liarsOf_38 : decode cX7_liarsOf 38 = .ok (.iload_n 2, 1) := by decide +kernel
theorem dX7_liarsOf_39 : decode cX7_liarsOf 39 = .ok (.ireturn, 1) := by decide +kernel
theorem dX7_firstLiar_0 : decode cX7_firstLiar 0 = .ok (.iconst 0, 1) := by decide +kernel
theorem dX7_firstLiar_1 : decode cX7_firstLiar 1 = .ok (.istore_n 2, 1) := by decide +kernel
theorem dX7_firstLiar_2 : decode cX7_firstLiar 2 = .ok (.iload_n 2, 1) := by decide +kernel
theorem dX7_firstLiar_3 : decode cX7_firstLiar 3 = .ok (.aload_n 0, 1) := by decide +kernel
theorem dX7_firstLiar_4 : decode cX7_firstLiar 4 = .ok (.invokevirtual 15, 3) := by decide +kernel
theorem dX7_firstLiar_7 : decode cX7_firstLiar 7 = .ok (.if_icmp .ge 30, 3) := by decide +kernel
theorem dX7_firstLiar_10 : decode cX7_firstLiar 10 = .ok (.aload_n 0, 1) := by decide +kernel
theorem dX7_firstLiar_11 : decode cX7_firstLiar 11 = .ok (.iload_n 2, 1) := by decide +kernel
theorem dX7_firstLiar_12 : decode cX7_firstLiar 12 = .ok (.aload_n 1, 1) := by decide +kernel
theorem dX7_firstLiar_13 : decode cX7_firstLiar 13 = .ok (.aload_n 0, 1) := by decide +kernel
theorem dX7_firstLiar_14 : decode cX7_firstLiar 14 = .ok (.iload_n 2, 1) := by decide +kernel
theorem dX7_firstLiar_15 : decode cX7_firstLiar 15 = .ok (.invokevirtual 19, 3) := by decide +kernel
theorem dX7_firstLiar_18 : decode cX7_firstLiar 18 = .ok (.invokevirtual 31, 3) := by decide +kernel
theorem dX7_firstLiar_21 : decode cX7_firstLiar 21 = .ok (.invokestatic 36, 3) := by decide +kernel
theorem dX7_firstLiar_24 : decode cX7_firstLiar 24 = .ok (.ifCond .eq 7, 3) := by decide +kernel
theorem dX7_firstLiar_27 : decode cX7_firstLiar 27 = .ok (.iload_n 2, 1) := by decide +kernel
theorem dX7_firstLiar_28 : decode cX7_firstLiar 28 = .ok (.iconst 3, 1) := by decide +kernel
theorem dX7_firstLiar_29 : decode cX7_firstLiar 29 = .ok (.idiv, 1) := by decide +kernel
theorem dX7_firstLiar_30 : decode cX7_firstLiar 30 = .ok (.ireturn, 1) := by decide +kernel
theorem dX7_firstLiar_31 : decode cX7_firstLiar 31 = .ok (.iinc 2 3, 3) := by decide +kernel
theorem dX7_firstLiar_34 : decode cX7_firstLiar 34 = .ok (.goto (-32), 3) := by decide +kernel
theorem dX7_firstLiar_37 : decode cX7_firstLiar 37 = .ok (.bipush (-9), 2) := by decide +kernel
theorem dX7_firstLiar_39 : decode cX7_firstLiar 39 = .ok (.ireturn, 1) := by decide +kernel
theorem dX7_groundsBy_0 : decode cX7_groundsBy 0 = .ok (.lconst 1, 1) := by decide +kernel
theorem dX7_groundsBy_1 : decode cX7_groundsBy 1 = .ok (.lstore_n 2, 1) := by decide +kernel
theorem dX7_groundsBy_2 : decode cX7_groundsBy 2 = .ok (.iconst 0, 1) := by decide +kernel
theorem dX7_groundsBy_3 : decode cX7_groundsBy 3 = .ok (.istore 4, 2) := by decide +kernel
theorem dX7_groundsBy_5 : decode cX7_groundsBy 5 = .ok (.iload 4, 2) := by decide +kernel
theorem dX7_groundsBy_7 : decode cX7_groundsBy 7 = .ok (.aload_n 1, 1) := by decide +kernel
theorem dX7_groundsBy_8 : decode cX7_groundsBy 8 = .ok (.getfield 40, 3) := by decide +kernel
theorem dX7_groundsBy_11 : decode cX7_groundsBy 11 = .ok (.if_icmp .ge 28, 3) := by decide +kernel
theorem dX7_groundsBy_14 : decode cX7_groundsBy 14 = .ok (.aload_n 0, 1) := by decide +kernel
theorem dX7_groundsBy_15 : decode cX7_groundsBy 15 = .ok (.iload 4, 2) := by decide +kernel
theorem dX7_groundsBy_17 : decode cX7_groundsBy 17 = .ok (.invokestatic 44, 3) := by decide +kernel
theorem dX7_groundsBy_20 : decode cX7_groundsBy 20 = .ok (.ifCond .eq 13, 3) := by decide +kernel
theorem dX7_groundsBy_23 : decode cX7_groundsBy 23 = .ok (.lload_n 2, 1) := by decide +kernel
theorem dX7_groundsBy_24 : decode cX7_groundsBy 24 = .ok (.aload_n 0, 1) := by decide +kernel
theorem dX7_groundsBy_25 : decode cX7_groundsBy 25 = .ok (.iload 4, 2) := by decide +kernel
theorem dX7_groundsBy_27 : decode cX7_groundsBy 27 = .ok (.invokestatic 48, 3) := by decide +kernel
theorem dX7_groundsBy_30 : decode cX7_groundsBy 30 = .ok (.i2l, 1) := by decide +kernel
theorem dX7_groundsBy_31 : decode cX7_groundsBy 31 = .ok (.lmul, 1) := by decide +kernel
theorem dX7_groundsBy_32 : decode cX7_groundsBy 32 = .ok (.lstore_n 2, 1) := by decide +kernel
theorem dX7_groundsBy_33 : decode cX7_groundsBy 33 = .ok (.iinc 4 1, 3) := by decide +kernel
theorem dX7_groundsBy_36 : decode cX7_groundsBy 36 = .ok (.goto (-31), 3) := by decide +kernel
theorem dX7_groundsBy_39 : decode cX7_groundsBy 39 = .ok (.lload_n 2, 1) := by decide +kernel
theorem dX7_groundsBy_40 : decode cX7_groundsBy 40 = .ok (.lreturn, 1) := by decide +kernel
theorem dX7_speaksOf_0 : decode cX7_speaksOf 0 = .ok (.iconst 0, 1) := by decide +kernel
theorem dX7_speaksOf_1 : decode cX7_speaksOf 1 = .ok (.istore_n 2, 1) := by decide +kernel
theorem dX7_speaksOf_2 : decode cX7_speaksOf 2 = .ok (.iload_n 2, 1) := by decide +kernel
theorem dX7_speaksOf_3 : decode cX7_speaksOf 3 = .ok (.aload_n 0, 1) := by decide +kernel
theorem dX7_speaksOf_4 : decode cX7_speaksOf 4 = .ok (.invokevirtual 15, 3) := by decide +kernel
theorem dX7_speaksOf_7 : decode cX7_speaksOf 7 = .ok (.if_icmp .ge 20, 3) := by decide +kernel
theorem dX7_speaksOf_10 : decode cX7_speaksOf 10 = .ok (.aload_n 0, 1) := by decide +kernel
theorem dX7_speaksOf_11 : decode cX7_speaksOf 11 = .ok (.iload_n 2, 1) := by decide +kernel
theorem dX7_speaksOf_12 : decode cX7_speaksOf 12 = .ok (.invokevirtual 19, 3) := by decide +kernel
theorem dX7_speaksOf_15 : decode cX7_speaksOf 15 = .ok (.iload_n 1, 1) := by decide +kernel
theorem dX7_speaksOf_16 : decode cX7_speaksOf 16 = .ok (.if_icmp .ne 5, 3) := by decide +kernel
theorem dX7_speaksOf_19 : decode cX7_speaksOf 19 = .ok (.iconst 1, 1) := by decide +kernel
theorem dX7_speaksOf_20 : decode cX7_speaksOf 20 = .ok (.ireturn, 1) := by decide +kernel
theorem dX7_speaksOf_21 : decode cX7_speaksOf 21 = .ok (.iinc 2 3, 3) := by decide +kernel
theorem dX7_speaksOf_24 : decode cX7_speaksOf 24 = .ok (.goto (-22), 3) := by decide +kernel
theorem dX7_speaksOf_27 : decode cX7_speaksOf 27 = .ok (.iconst 0, 1) := by decide +kernel
theorem dX7_speaksOf_28 : decode cX7_speaksOf 28 = .ok (.ireturn, 1) := by decide +kernel
theorem dX7_depthsBy_0 : decode cX7_depthsBy 0 = .ok (.iconst 0, 1) := by decide +kernel
theorem dX7_depthsBy_1 : decode cX7_depthsBy 1 = .ok (.istore_n 2, 1) := by decide +kernel
theorem dX7_depthsBy_2 : decode cX7_depthsBy 2 = .ok (.iconst 0, 1) := by decide +kernel
theorem dX7_depthsBy_3 : decode cX7_depthsBy 3 = .ok (.istore_n 3, 1) := by decide +kernel
theorem dX7_depthsBy_4 : decode cX7_depthsBy 4 = .ok (.iload_n 3, 1) := by decide +kernel
theorem dX7_depthsBy_5 : decode cX7_depthsBy 5 = .ok (.iconst 5, 1) := by decide +kernel
theorem dX7_depthsBy_6 : decode cX7_depthsBy 6 = .ok (.if_icmp .gt 70, 3) := by decide +kernel
theorem dX7_depthsBy_9 : decode cX7_depthsBy 9 = .ok (.iconst 0, 1) := by decide +kernel
theorem dX7_depthsBy_10 : decode cX7_depthsBy 10 = .ok (.istore 4, 2) := by decide +kernel
theorem dX7_depthsBy_12 : decode cX7_depthsBy 12 = .ok (.iconst 0, 1) := by decide +kernel
theorem dX7_depthsBy_13 : decode cX7_depthsBy 13 = .ok (.istore 5, 2) := by decide +kernel
theorem dX7_depthsBy_15 : decode cX7_depthsBy 15 = .ok (.iload 5, 2) := by decide +kernel
theorem dX7_depthsBy_17 : decode cX7_depthsBy 17 = .ok (.aload_n 0, 1) := by decide +kernel
theorem dX7_depthsBy_18 : decode cX7_depthsBy 18 = .ok (.invokevirtual 15, 3) := by decide +kernel
theorem dX7_depthsBy_21 : decode cX7_depthsBy 21 = .ok (.if_icmp .ge 41, 3) := by decide +kernel
theorem dX7_depthsBy_24 : decode cX7_depthsBy 24 = .ok (.iload 4, 2) := by decide +kernel
theorem dX7_depthsBy_26 : decode cX7_depthsBy 26 = .ok (.ifCond .ne 36, 3) := by decide +kernel
theorem dX7_depthsBy_29 : decode cX7_depthsBy 29 = .ok (.aload_n 0, 1) := by decide +kernel
theorem dX7_depthsBy_30 : decode cX7_depthsBy 30 = .ok (.iload 5, 2) := by decide +kernel
theorem dX7_depthsBy_32 : decode cX7_depthsBy 32 = .ok (.invokevirtual 19, 3) := by decide +kernel
theorem dX7_depthsBy_35 : decode cX7_depthsBy 35 = .ok (.iload_n 1, 1) := by decide +kernel
theorem dX7_depthsBy_36 : decode cX7_depthsBy 36 = .ok (.if_icmp .ne 17, 3) := by decide +kernel
theorem dX7_depthsBy_39 : decode cX7_depthsBy 39 = .ok (.aload_n 0, 1) := by decide +kernel
theorem dX7_depthsBy_40 : decode cX7_depthsBy 40 = .ok (.iload 5, 2) := by decide +kernel
theorem dX7_depthsBy_42 : decode cX7_depthsBy 42 = .ok (.iload_n 3, 1) := by decide +kernel
theorem dX7_depthsBy_43 : decode cX7_depthsBy 43 = .ok (.invokestatic 36, 3) := by decide +kernel
theorem dX7_depthsBy_46 : decode cX7_depthsBy 46 = .ok (.ifCond .eq 7, 3) := by decide +kernel
theorem dX7_depthsBy_49 : decode cX7_depthsBy 49 = .ok (.iconst 1, 1) := by decide +kernel
theorem dX7_depthsBy_50 : decode cX7_depthsBy 50 = .ok (.goto 4, 3) := by decide +kernel
theorem dX7_depthsBy_53 : decode cX7_depthsBy 53 = .ok (.iconst 0, 1) := by decide +kernel
theorem dX7_depthsBy_54 : decode cX7_depthsBy 54 = .ok (.istore 4, 2) := by decide +kernel
theorem dX7_depthsBy_56 : decode cX7_depthsBy 56 = .ok (.iinc 5 3, 3) := by decide +kernel
theorem dX7_depthsBy_59 : decode cX7_depthsBy 59 = .ok (.goto (-44), 3) := by decide +kernel
theorem dX7_depthsBy_62 : decode cX7_depthsBy 62 = .ok (.iload 4, 2) := by decide +kernel
theorem dX7_depthsBy_64 : decode cX7_depthsBy 64 = .ok (.ifCond .ne 6, 3) := by decide +kernel
theorem dX7_depthsBy_67 : decode cX7_depthsBy 67 = .ok (.iinc 2 1, 3) := by decide +kernel
theorem dX7_depthsBy_70 : decode cX7_depthsBy 70 = .ok (.iinc 3 1, 3) := by decide +kernel
theorem dX7_depthsBy_73 : decode cX7_depthsBy 73 = .ok (.goto (-69), 3) := by decide +kernel
theorem dX7_depthsBy_76 : decode cX7_depthsBy 76 = .ok (.iload_n 2, 1) := by decide +kernel
theorem dX7_depthsBy_77 : decode cX7_depthsBy 77 = .ok (.ireturn, 1) := by decide +kernel
theorem dX7_isLie_0 : decode cX7_isLie 0 = .ok (.aload_n 0, 1) := by decide +kernel
theorem dX7_isLie_1 : decode cX7_isLie 1 = .ok (.iload_n 1, 1) := by decide +kernel
theorem dX7_isLie_2 : decode cX7_isLie 2 = .ok (.iconst 1, 1) := by decide +kernel
theorem dX7_isLie_3 : decode cX7_isLie 3 = .ok (.iadd, 1) := by decide +kernel
theorem dX7_isLie_4 : decode cX7_isLie 4 = .ok (.invokevirtual 19, 3) := by decide +kernel
theorem dX7_isLie_7 : decode cX7_isLie 7 = .ok (.istore_n 3, 1) := by decide +kernel
theorem dX7_isLie_8 : decode cX7_isLie 8 = .ok (.aload_n 0, 1) := by decide +kernel
theorem dX7_isLie_9 : decode cX7_isLie 9 = .ok (.iload_n 1, 1) := by decide +kernel
theorem dX7_isLie_10 : decode cX7_isLie 10 = .ok (.iconst 2, 1) := by decide +kernel
theorem dX7_isLie_11 : decode cX7_isLie 11 = .ok (.iadd, 1) := by decide +kernel
theorem dX7_isLie_12 : decode cX7_isLie 12 = .ok (.invokevirtual 19, 3) := by decide +kernel
theorem dX7_isLie_15 : decode cX7_isLie 15 = .ok (.lookupswitch 47 #[(0, 25), (1, 36)], 25) := by decide +kernel
theorem dX7_isLie_40 : decode cX7_isLie 40 = .ok (.iload_n 2, 1) := by decide +kernel
theorem dX7_isLie_41 : decode cX7_isLie 41 = .ok (.iload_n 3, 1) := by decide +kernel
theorem dX7_isLie_42 : decode cX7_isLie 42 = .ok (.if_icmp .eq 7, 3) := by decide +kernel
theorem dX7_isLie_45 : decode cX7_isLie 45 = .ok (.iconst 1, 1) := by decide +kernel
theorem dX7_isLie_46 : decode cX7_isLie 46 = .ok (.goto 4, 3) := by decide +kernel
theorem dX7_isLie_49 : decode cX7_isLie 49 = .ok (.iconst 0, 1) := by decide +kernel
theorem dX7_isLie_50 : decode cX7_isLie 50 = .ok (.ireturn, 1) := by decide +kernel
theorem dX7_isLie_51 : decode cX7_isLie 51 = .ok (.iload_n 2, 1) := by decide +kernel
theorem dX7_isLie_52 : decode cX7_isLie 52 = .ok (.iload_n 3, 1) := by decide +kernel
theorem dX7_isLie_53 : decode cX7_isLie 53 = .ok (.if_icmp .ge 7, 3) := by decide +kernel
theorem dX7_isLie_56 : decode cX7_isLie 56 = .ok (.iconst 1, 1) := by decide +kernel
theorem dX7_isLie_57 : decode cX7_isLie 57 = .ok (.goto 4, 3) := by decide +kernel
theorem dX7_isLie_60 : decode cX7_isLie 60 = .ok (.iconst 0, 1) := by decide +kernel
theorem dX7_isLie_61 : decode cX7_isLie 61 = .ok (.ireturn, 1) := by decide +kernel
theorem dX7_isLie_62 : decode cX7_isLie 62 = .ok (.iload_n 2, 1) := by decide +kernel
theorem dX7_isLie_63 : decode cX7_isLie 63 = .ok (.iload_n 3, 1) := by decide +kernel
theorem dX7_isLie_64 : decode cX7_isLie 64 = .ok (.if_icmp .le 7, 3) := by decide +kernel
theorem dX7_isLie_67 : decode cX7_isLie 67 = .ok (.iconst 1, 1) := by decide +kernel
theorem dX7_isLie_68 : decode cX7_isLie 68 = .ok (.goto 4, 3) := by decide +kernel
theorem dX7_isLie_71 : decode cX7_isLie 71 = .ok (.iconst 0, 1) := by decide +kernel
theorem dX7_isLie_72 : decode cX7_isLie 72 = .ok (.ireturn, 1) := by decide +kernel
theorem dJ6_bitCount_0f7a4_0 : decode cJ6_bitCount_0f7a4 0 = .ok (.iload_n 0, 1) := by decide +kernel
theorem dJ6_bitCount_0f7a4_1 : decode cJ6_bitCount_0f7a4 1 = .ok (.iload_n 0, 1) := by decide +kernel
theorem dJ6_bitCount_0f7a4_2 : decode cJ6_bitCount_0f7a4 2 = .ok (.iconst 1, 1) := by decide +kernel
theorem dJ6_bitCount_0f7a4_3 : decode cJ6_bitCount_0f7a4 3 = .ok (.iushr, 1) := by decide +kernel
theorem dJ6_bitCount_0f7a4_4 : decode cJ6_bitCount_0f7a4 4 = .ok (.ldc_w 265, 3) := by decide +kernel
theorem dJ6_bitCount_0f7a4_7 : decode cJ6_bitCount_0f7a4 7 = .ok (.iand, 1) := by decide +kernel
theorem dJ6_bitCount_0f7a4_8 : decode cJ6_bitCount_0f7a4 8 = .ok (.isub, 1) := by decide +kernel
theorem dJ6_bitCount_0f7a4_9 : decode cJ6_bitCount_0f7a4 9 = .ok (.istore_n 0, 1) := by decide +kernel
theorem dJ6_bitCount_0f7a4_10 : decode cJ6_bitCount_0f7a4 10 = .ok (.iload_n 0, 1) := by decide +kernel
theorem dJ6_bitCount_0f7a4_11 : decode cJ6_bitCount_0f7a4 11 = .ok (.ldc_w 266, 3) := by decide +kernel
theorem dJ6_bitCount_0f7a4_14 : decode cJ6_bitCount_0f7a4 14 = .ok (.iand, 1) := by decide +kernel
theorem dJ6_bitCount_0f7a4_15 : decode cJ6_bitCount_0f7a4 15 = .ok (.iload_n 0, 1) := by decide +kernel
theorem dJ6_bitCount_0f7a4_16 : decode cJ6_bitCount_0f7a4 16 = .ok (.iconst 2, 1) := by decide +kernel
theorem dJ6_bitCount_0f7a4_17 : decode cJ6_bitCount_0f7a4 17 = .ok (.iushr, 1) := by decide +kernel
theorem dJ6_bitCount_0f7a4_18 : decode cJ6_bitCount_0f7a4 18 = .ok (.ldc_w 266, 3) := by decide +kernel
theorem dJ6_bitCount_0f7a4_21 : decode cJ6_bitCount_0f7a4 21 = .ok (.iand, 1) := by decide +kernel
theorem dJ6_bitCount_0f7a4_22 : decode cJ6_bitCount_0f7a4 22 = .ok (.iadd, 1) := by decide +kernel
theorem dJ6_bitCount_0f7a4_23 : decode cJ6_bitCount_0f7a4 23 = .ok (.istore_n 0, 1) := by decide +kernel
theorem dJ6_bitCount_0f7a4_24 : decode cJ6_bitCount_0f7a4 24 = .ok (.iload_n 0, 1) := by decide +kernel
theorem dJ6_bitCount_0f7a4_25 : decode cJ6_bitCount_0f7a4 25 = .ok (.iload_n 0, 1) := by decide +kernel
theorem dJ6_bitCount_0f7a4_26 : decode cJ6_bitCount_0f7a4 26 = .ok (.iconst 4, 1) := by decide +kernel
theorem dJ6_bitCount_0f7a4_27 : decode cJ6_bitCount_0f7a4 27 = .ok (.iushr, 1) := by decide +kernel
theorem dJ6_bitCount_0f7a4_28 : decode cJ6_bitCount_0f7a4 28 = .ok (.iadd, 1) := by decide +kernel
theorem dJ6_bitCount_0f7a4_29 : decode cJ6_bitCount_0f7a4 29 = .ok (.ldc_w 267, 3) := by decide +kernel
theorem dJ6_bitCount_0f7a4_32 : decode cJ6_bitCount_0f7a4 32 = .ok (.iand, 1) := by decide +kernel
theorem dJ6_bitCount_0f7a4_33 : decode cJ6_bitCount_0f7a4 33 = .ok (.istore_n 0, 1) := by decide +kernel
theorem dJ6_bitCount_0f7a4_34 : decode cJ6_bitCount_0f7a4 34 = .ok (.iload_n 0, 1) := by decide +kernel
theorem dJ6_bitCount_0f7a4_35 : decode cJ6_bitCount_0f7a4 35 = .ok (.iload_n 0, 1) := by decide +kernel
theorem dJ6_bitCount_0f7a4_36 : decode cJ6_bitCount_0f7a4 36 = .ok (.bipush 8, 2) := by decide +kernel
theorem dJ6_bitCount_0f7a4_38 : decode cJ6_bitCount_0f7a4 38 = .ok (.iushr, 1) := by decide +kernel
theorem dJ6_bitCount_0f7a4_39 : decode cJ6_bitCount_0f7a4 39 = .ok (.iadd, 1) := by decide +kernel
theorem dJ6_bitCount_0f7a4_40 : decode cJ6_bitCount_0f7a4 40 = .ok (.istore_n 0, 1) := by decide +kernel
theorem dJ6_bitCount_0f7a4_41 : decode cJ6_bitCount_0f7a4 41 = .ok (.iload_n 0, 1) := by decide +kernel
theorem dJ6_bitCount_0f7a4_42 : decode cJ6_bitCount_0f7a4 42 = .ok (.iload_n 0, 1) := by decide +kernel
theorem dJ6_bitCount_0f7a4_43 : decode cJ6_bitCount_0f7a4 43 = .ok (.bipush 16, 2) := by decide +kernel
theorem dJ6_bitCount_0f7a4_45 : decode cJ6_bitCount_0f7a4 45 = .ok (.iushr, 1) := by decide +kernel
theorem dJ6_bitCount_0f7a4_46 : decode cJ6_bitCount_0f7a4 46 = .ok (.iadd, 1) := by decide +kernel
theorem dJ6_bitCount_0f7a4_47 : decode cJ6_bitCount_0f7a4 47 = .ok (.istore_n 0, 1) := by decide +kernel
theorem dJ6_bitCount_0f7a4_48 : decode cJ6_bitCount_0f7a4 48 = .ok (.iload_n 0, 1) := by decide +kernel
theorem dJ6_bitCount_0f7a4_49 : decode cJ6_bitCount_0f7a4 49 = .ok (.bipush 63, 2) := by decide +kernel
theorem dJ6_bitCount_0f7a4_51 : decode cJ6_bitCount_0f7a4 51 = .ok (.iand, 1) := by decide +kernel
theorem dJ6_bitCount_0f7a4_52 : decode cJ6_bitCount_0f7a4 52 = .ok (.ireturn, 1) := by decide +kernel
theorem dJ9_abs_0f7a4_0 : decode cJ9_abs_0f7a4 0 = .ok (.iload_n 0, 1) := by decide +kernel
theorem dJ9_abs_0f7a4_1 : decode cJ9_abs_0f7a4 1 = .ok (.ifCond .ge 8, 3) := by decide +kernel
theorem dJ9_abs_0f7a4_4 : decode cJ9_abs_0f7a4 4 = .ok (.iload_n 0, 1) := by decide +kernel
theorem dJ9_abs_0f7a4_5 : decode cJ9_abs_0f7a4 5 = .ok (.ineg, 1) := by decide +kernel
theorem dJ9_abs_0f7a4_6 : decode cJ9_abs_0f7a4 6 = .ok (.goto 4, 3) := by decide +kernel
theorem dJ9_abs_0f7a4_9 : decode cJ9_abs_0f7a4 9 = .ok (.iload_n 0, 1) := by decide +kernel
theorem dJ9_abs_0f7a4_10 : decode cJ9_abs_0f7a4 10 = .ok (.ireturn, 1) := by decide +kernel
theorem dJ9_abs_067f4_0 : decode cJ9_abs_067f4 0 = .ok (.lload_n 0, 1) := by decide +kernel
theorem dJ9_abs_067f4_1 : decode cJ9_abs_067f4 1 = .ok (.lconst 0, 1) := by decide +kernel
theorem dJ9_abs_067f4_2 : decode cJ9_abs_067f4 2 = .ok (.lcmp, 1) := by decide +kernel
theorem dJ9_abs_067f4_3 : decode cJ9_abs_067f4 3 = .ok (.ifCond .ge 8, 3) := by decide +kernel
theorem dJ9_abs_067f4_6 : decode cJ9_abs_067f4 6 = .ok (.lload_n 0, 1) := by decide +kernel
theorem dJ9_abs_067f4_7 : decode cJ9_abs_067f4 7 = .ok (.lneg, 1) := by decide +kernel
theorem dJ9_abs_067f4_8 : decode cJ9_abs_067f4 8 = .ok (.goto 4, 3) := by decide +kernel
theorem dJ9_abs_067f4_11 : decode cJ9_abs_067f4 11 = .ok (.lload_n 0, 1) := by decide +kernel
theorem dJ9_abs_067f4_12 : decode cJ9_abs_067f4 12 = .ok (.lreturn, 1) := by decide +kernel
theorem dJ9_max_7cf53_0 : decode cJ9_max_7cf53 0 = .ok (.iload_n 0, 1) := by decide +kernel
theorem dJ9_max_7cf53_1 : decode cJ9_max_7cf53 1 = .ok (.iload_n 1, 1) := by decide +kernel
theorem dJ9_max_7cf53_2 : decode cJ9_max_7cf53 2 = .ok (.if_icmp .lt 7, 3) := by decide +kernel
theorem dJ9_max_7cf53_5 : decode cJ9_max_7cf53 5 = .ok (.iload_n 0, 1) := by decide +kernel
theorem dJ9_max_7cf53_6 : decode cJ9_max_7cf53 6 = .ok (.goto 4, 3) := by decide +kernel
theorem dJ9_max_7cf53_9 : decode cJ9_max_7cf53 9 = .ok (.iload_n 1, 1) := by decide +kernel
theorem dJ9_max_7cf53_10 : decode cJ9_max_7cf53 10 = .ok (.ireturn, 1) := by decide +kernel
theorem dJ9_min_7cf53_0 : decode cJ9_min_7cf53 0 = .ok (.iload_n 0, 1) := by decide +kernel
theorem dJ9_min_7cf53_1 : decode cJ9_min_7cf53 1 = .ok (.iload_n 1, 1) := by decide +kernel
theorem dJ9_min_7cf53_2 : decode cJ9_min_7cf53 2 = .ok (.if_icmp .gt 7, 3) := by decide +kernel
theorem dJ9_min_7cf53_5 : decode cJ9_min_7cf53 5 = .ok (.iload_n 0, 1) := by decide +kernel
theorem dJ9_min_7cf53_6 : decode cJ9_min_7cf53 6 = .ok (.goto 4, 3) := by decide +kernel
theorem dJ9_min_7cf53_9 : decode cJ9_min_7cf53 9 = .ok (.iload_n 1, 1) := by decide +kernel
theorem dJ9_min_7cf53_10 : decode cJ9_min_7cf53 10 = .ok (.ireturn, 1) := by decide +kernel
end
