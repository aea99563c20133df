-- ===== PART A: goes FIRST, ahead of the names: the tables' words, and 'selects' of the private methods out of them =====
/-- a private method of a class that the tables say can be made, by its rows of tables_1 -/
def lw_okq (q : MethodName × Nat) : Prop := (q.1.cls ≠ "java/lang/invoke/MethodHandle" ∧ q.1.cls ≠ "java/lang/invoke/VarHandle") ∧ Cond.instantiable q.1.cls q.2 ∈ tables_1 ∧ Cond.privateMethod q.1 ∈ tables_1 ∧ Cond.instanceMethod q.1 ∈ tables_1
theorem lw_p0 : lw_okq (⟨"FerriedInWords$Reader", "split", "()V"⟩, 10) := ⟨⟨by decide +kernel, by decide +kernel⟩, List.mem_of_getElem? (i := 185) (by decide +kernel), List.mem_of_getElem? (i := 280) (by decide +kernel), List.mem_of_getElem? (i := 281) (by decide +kernel)⟩
theorem lw_p1 : lw_okq (⟨"FerriedInWords$Reader", "splitOff", "(I)I"⟩, 10) := ⟨⟨by decide +kernel, by decide +kernel⟩, List.mem_of_getElem? (i := 185) (by decide +kernel), List.mem_of_getElem? (i := 284) (by decide +kernel), List.mem_of_getElem? (i := 285) (by decide +kernel)⟩
theorem lw_p2 : lw_okq (⟨"FerriedInWords$Reader", "splitWord", "(I)I"⟩, 10) := ⟨⟨by decide +kernel, by decide +kernel⟩, List.mem_of_getElem? (i := 185) (by decide +kernel), List.mem_of_getElem? (i := 288) (by decide +kernel), List.mem_of_getElem? (i := 289) (by decide +kernel)⟩
theorem lw_p3 : lw_okq (⟨"FerriedInWords$Reader", "nameCode", "(II)I"⟩, 10) := ⟨⟨by decide +kernel, by decide +kernel⟩, List.mem_of_getElem? (i := 185) (by decide +kernel), List.mem_of_getElem? (i := 292) (by decide +kernel), List.mem_of_getElem? (i := 293) (by decide +kernel)⟩
theorem lw_p4 : lw_okq (⟨"FerriedInWords$Reader", "isWord", "(Ljava/lang/String;II)Z"⟩, 10) := ⟨⟨by decide +kernel, by decide +kernel⟩, List.mem_of_getElem? (i := 185) (by decide +kernel), List.mem_of_getElem? (i := 297) (by decide +kernel), List.mem_of_getElem? (i := 298) (by decide +kernel)⟩
theorem lw_p5 : lw_okq (⟨"FerriedInWords$Reader", "keyToken", "(II)I"⟩, 10) := ⟨⟨by decide +kernel, by decide +kernel⟩, List.mem_of_getElem? (i := 185) (by decide +kernel), List.mem_of_getElem? (i := 308) (by decide +kernel), List.mem_of_getElem? (i := 309) (by decide +kernel)⟩
theorem lw_p6 : lw_okq (⟨"FerriedInWords$Reader", "addToken", "(III)V"⟩, 10) := ⟨⟨by decide +kernel, by decide +kernel⟩, List.mem_of_getElem? (i := 185) (by decide +kernel), List.mem_of_getElem? (i := 318) (by decide +kernel), List.mem_of_getElem? (i := 319) (by decide +kernel)⟩
theorem lw_p7 : lw_okq (⟨"FerriedInWords$Reader", "splitNumber", "(I)I"⟩, 10) := ⟨⟨by decide +kernel, by decide +kernel⟩, List.mem_of_getElem? (i := 185) (by decide +kernel), List.mem_of_getElem? (i := 322) (by decide +kernel), List.mem_of_getElem? (i := 323) (by decide +kernel)⟩
theorem lw_p8 : lw_okq (⟨"FerriedInWords$Reader", "readPart", "(II)V"⟩, 10) := ⟨⟨by decide +kernel, by decide +kernel⟩, List.mem_of_getElem? (i := 185) (by decide +kernel), List.mem_of_getElem? (i := 332) (by decide +kernel), List.mem_of_getElem? (i := 333) (by decide +kernel)⟩
theorem lw_p9 : lw_okq (⟨"FerriedInWords$Reader", "expect", "(I)V"⟩, 10) := ⟨⟨by decide +kernel, by decide +kernel⟩, List.mem_of_getElem? (i := 185) (by decide +kernel), List.mem_of_getElem? (i := 336) (by decide +kernel), List.mem_of_getElem? (i := 337) (by decide +kernel)⟩
theorem lw_p10 : lw_okq (⟨"FerriedInWords$Reader", "advance", "()V"⟩, 10) := ⟨⟨by decide +kernel, by decide +kernel⟩, List.mem_of_getElem? (i := 185) (by decide +kernel), List.mem_of_getElem? (i := 340) (by decide +kernel), List.mem_of_getElem? (i := 341) (by decide +kernel)⟩
theorem lw_p11 : lw_okq (⟨"FerriedInWords$Reader", "fail", "()V"⟩, 10) := ⟨⟨by decide +kernel, by decide +kernel⟩, List.mem_of_getElem? (i := 185) (by decide +kernel), List.mem_of_getElem? (i := 344) (by decide +kernel), List.mem_of_getElem? (i := 345) (by decide +kernel)⟩
theorem lw_p12 : lw_okq (⟨"FerriedInWords$Reader", "readOrs", "(I)V"⟩, 10) := ⟨⟨by decide +kernel, by decide +kernel⟩, List.mem_of_getElem? (i := 185) (by decide +kernel), List.mem_of_getElem? (i := 348) (by decide +kernel), List.mem_of_getElem? (i := 349) (by decide +kernel)⟩
theorem lw_p13 : lw_okq (⟨"FerriedInWords$Reader", "readAnds", "(I)V"⟩, 10) := ⟨⟨by decide +kernel, by decide +kernel⟩, List.mem_of_getElem? (i := 185) (by decide +kernel), List.mem_of_getElem? (i := 352) (by decide +kernel), List.mem_of_getElem? (i := 353) (by decide +kernel)⟩
theorem lw_p14 : lw_okq (⟨"FerriedInWords$Reader", "readNot", "(I)V"⟩, 10) := ⟨⟨by decide +kernel, by decide +kernel⟩, List.mem_of_getElem? (i := 185) (by decide +kernel), List.mem_of_getElem? (i := 356) (by decide +kernel), List.mem_of_getElem? (i := 357) (by decide +kernel)⟩
theorem lw_p15 : lw_okq (⟨"FerriedInWords$Reader", "opens", "(I)Z"⟩, 10) := ⟨⟨by decide +kernel, by decide +kernel⟩, List.mem_of_getElem? (i := 185) (by decide +kernel), List.mem_of_getElem? (i := 360) (by decide +kernel), List.mem_of_getElem? (i := 361) (by decide +kernel)⟩
def lw_privs_1 : List (MethodName × Nat) := [(⟨"FerriedInWords$Reader", "split", "()V"⟩, 10), (⟨"FerriedInWords$Reader", "splitOff", "(I)I"⟩, 10), (⟨"FerriedInWords$Reader", "splitWord", "(I)I"⟩, 10), (⟨"FerriedInWords$Reader", "nameCode", "(II)I"⟩, 10), (⟨"FerriedInWords$Reader", "isWord", "(Ljava/lang/String;II)Z"⟩, 10), (⟨"FerriedInWords$Reader", "keyToken", "(II)I"⟩, 10), (⟨"FerriedInWords$Reader", "addToken", "(III)V"⟩, 10), (⟨"FerriedInWords$Reader", "splitNumber", "(I)I"⟩, 10), (⟨"FerriedInWords$Reader", "readPart", "(II)V"⟩, 10), (⟨"FerriedInWords$Reader", "expect", "(I)V"⟩, 10), (⟨"FerriedInWords$Reader", "advance", "()V"⟩, 10), (⟨"FerriedInWords$Reader", "fail", "()V"⟩, 10), (⟨"FerriedInWords$Reader", "readOrs", "(I)V"⟩, 10), (⟨"FerriedInWords$Reader", "readAnds", "(I)V"⟩, 10), (⟨"FerriedInWords$Reader", "readNot", "(I)V"⟩, 10), (⟨"FerriedInWords$Reader", "opens", "(I)Z"⟩, 10)]
theorem lw_r1 : ∀ q ∈ lw_privs_1, lw_okq q := List.forall_mem_cons.mpr ⟨lw_p0, List.forall_mem_cons.mpr ⟨lw_p1, List.forall_mem_cons.mpr ⟨lw_p2, List.forall_mem_cons.mpr ⟨lw_p3, List.forall_mem_cons.mpr ⟨lw_p4, List.forall_mem_cons.mpr ⟨lw_p5, List.forall_mem_cons.mpr ⟨lw_p6, List.forall_mem_cons.mpr ⟨lw_p7, List.forall_mem_cons.mpr ⟨lw_p8, List.forall_mem_cons.mpr ⟨lw_p9, List.forall_mem_cons.mpr ⟨lw_p10, List.forall_mem_cons.mpr ⟨lw_p11, List.forall_mem_cons.mpr ⟨lw_p12, List.forall_mem_cons.mpr ⟨lw_p13, List.forall_mem_cons.mpr ⟨lw_p14, List.forall_mem_cons.mpr ⟨lw_p15, fun _ h => absurd h List.not_mem_nil⟩⟩⟩⟩⟩⟩⟩⟩⟩⟩⟩⟩⟩⟩⟩⟩
theorem lw_p16 : lw_okq (⟨"FerriedInWords$Reader", "readSum", "(I)V"⟩, 10) := ⟨⟨by decide +kernel, by decide +kernel⟩, List.mem_of_getElem? (i := 185) (by decide +kernel), List.mem_of_getElem? (i := 368) (by decide +kernel), List.mem_of_getElem? (i := 369) (by decide +kernel)⟩
theorem lw_p17 : lw_okq (⟨"FerriedInWords$Reader", "readTerm", "(I)V"⟩, 10) := ⟨⟨by decide +kernel, by decide +kernel⟩, List.mem_of_getElem? (i := 185) (by decide +kernel), List.mem_of_getElem? (i := 372) (by decide +kernel), List.mem_of_getElem? (i := 373) (by decide +kernel)⟩
theorem lw_p18 : lw_okq (⟨"FerriedInWords$Reader", "readOne", "(I)V"⟩, 10) := ⟨⟨by decide +kernel, by decide +kernel⟩, List.mem_of_getElem? (i := 185) (by decide +kernel), List.mem_of_getElem? (i := 376) (by decide +kernel), List.mem_of_getElem? (i := 377) (by decide +kernel)⟩
theorem lw_p19 : lw_okq (⟨"FerriedInWords", "telling", "(LFerriedInWords$Crossing;LFerriedInWords$One;I)I"⟩, 13) := ⟨⟨by decide +kernel, by decide +kernel⟩, List.mem_of_getElem? (i := 22) (by decide +kernel), List.mem_of_getElem? (i := 459) (by decide +kernel), List.mem_of_getElem? (i := 460) (by decide +kernel)⟩
theorem lw_p20 : lw_okq (⟨"FerriedInWords", "kindOf", "(LFerriedInWords$One;)LFerriedInWords$Teller;"⟩, 13) := ⟨⟨by decide +kernel, by decide +kernel⟩, List.mem_of_getElem? (i := 22) (by decide +kernel), List.mem_of_getElem? (i := 463) (by decide +kernel), List.mem_of_getElem? (i := 464) (by decide +kernel)⟩
theorem lw_p21 : lw_okq (⟨"FerriedInWords", "keeping", "(LFerriedInWords$Crossing;LFerriedInWords$One;I)I"⟩, 13) := ⟨⟨by decide +kernel, by decide +kernel⟩, List.mem_of_getElem? (i := 22) (by decide +kernel), List.mem_of_getElem? (i := 467) (by decide +kernel), List.mem_of_getElem? (i := 468) (by decide +kernel)⟩
theorem lw_p22 : lw_okq (⟨"FerriedInWords", "ruleOf", "(LFerriedInWords$Crossing;)LFerriedInWords$Text;"⟩, 13) := ⟨⟨by decide +kernel, by decide +kernel⟩, List.mem_of_getElem? (i := 22) (by decide +kernel), List.mem_of_getElem? (i := 471) (by decide +kernel), List.mem_of_getElem? (i := 472) (by decide +kernel)⟩
theorem lw_p23 : lw_okq (⟨"FerriedInWords", "tiring", "(LFerriedInWords$Crossing;LFerriedInWords$One;I)I"⟩, 13) := ⟨⟨by decide +kernel, by decide +kernel⟩, List.mem_of_getElem? (i := 22) (by decide +kernel), List.mem_of_getElem? (i := 553) (by decide +kernel), List.mem_of_getElem? (i := 554) (by decide +kernel)⟩
theorem lw_p24 : lw_okq (⟨"FerriedInWords", "learning", "(LFerriedInWords$Crossing;LFerriedInWords$One;I)Z"⟩, 13) := ⟨⟨by decide +kernel, by decide +kernel⟩, List.mem_of_getElem? (i := 22) (by decide +kernel), List.mem_of_getElem? (i := 580) (by decide +kernel), List.mem_of_getElem? (i := 581) (by decide +kernel)⟩
theorem lw_p25 : lw_okq (⟨"FerriedInWords", "toldByRow", "(LFerriedInWords$Sheet;I)I"⟩, 13) := ⟨⟨by decide +kernel, by decide +kernel⟩, List.mem_of_getElem? (i := 22) (by decide +kernel), List.mem_of_getElem? (i := 626) (by decide +kernel), List.mem_of_getElem? (i := 627) (by decide +kernel)⟩
theorem lw_p26 : lw_okq (⟨"FerriedInWords", "passDay", "(LFerriedInWords$Crossing;)I"⟩, 13) := ⟨⟨by decide +kernel, by decide +kernel⟩, List.mem_of_getElem? (i := 22) (by decide +kernel), List.mem_of_getElem? (i := 638) (by decide +kernel), List.mem_of_getElem? (i := 639) (by decide +kernel)⟩
theorem lw_p27 : lw_okq (⟨"FerriedInWords", "tellTruly", "(LFerriedInWords$Crossing;LFerriedInWords$One;I)I"⟩, 13) := ⟨⟨by decide +kernel, by decide +kernel⟩, List.mem_of_getElem? (i := 22) (by decide +kernel), List.mem_of_getElem? (i := 646) (by decide +kernel), List.mem_of_getElem? (i := 647) (by decide +kernel)⟩
theorem lw_p28 : lw_okq (⟨"FerriedInWords", "isAskedOfRun", "(I)Z"⟩, 13) := ⟨⟨by decide +kernel, by decide +kernel⟩, List.mem_of_getElem? (i := 22) (by decide +kernel), List.mem_of_getElem? (i := 655) (by decide +kernel), List.mem_of_getElem? (i := 656) (by decide +kernel)⟩
theorem lw_p29 : lw_okq (⟨"FerriedInWords", "toldByAll", "(LFerriedInWords$Crossing;I)I"⟩, 13) := ⟨⟨by decide +kernel, by decide +kernel⟩, List.mem_of_getElem? (i := 22) (by decide +kernel), List.mem_of_getElem? (i := 671) (by decide +kernel), List.mem_of_getElem? (i := 672) (by decide +kernel)⟩
theorem lw_p30 : lw_okq (⟨"FerriedInWords", "tryRows", "(IIIII)V"⟩, 13) := ⟨⟨by decide +kernel, by decide +kernel⟩, List.mem_of_getElem? (i := 22) (by decide +kernel), List.mem_of_getElem? (i := 679) (by decide +kernel), List.mem_of_getElem? (i := 680) (by decide +kernel)⟩
theorem lw_p31 : lw_okq (⟨"FerriedInWords", "toldWithMore", "(II)I"⟩, 13) := ⟨⟨by decide +kernel, by decide +kernel⟩, List.mem_of_getElem? (i := 22) (by decide +kernel), List.mem_of_getElem? (i := 687) (by decide +kernel), List.mem_of_getElem? (i := 688) (by decide +kernel)⟩
def lw_privs_2 : List (MethodName × Nat) := [(⟨"FerriedInWords$Reader", "readSum", "(I)V"⟩, 10), (⟨"FerriedInWords$Reader", "readTerm", "(I)V"⟩, 10), (⟨"FerriedInWords$Reader", "readOne", "(I)V"⟩, 10), (⟨"FerriedInWords", "telling", "(LFerriedInWords$Crossing;LFerriedInWords$One;I)I"⟩, 13), (⟨"FerriedInWords", "kindOf", "(LFerriedInWords$One;)LFerriedInWords$Teller;"⟩, 13), (⟨"FerriedInWords", "keeping", "(LFerriedInWords$Crossing;LFerriedInWords$One;I)I"⟩, 13), (⟨"FerriedInWords", "ruleOf", "(LFerriedInWords$Crossing;)LFerriedInWords$Text;"⟩, 13), (⟨"FerriedInWords", "tiring", "(LFerriedInWords$Crossing;LFerriedInWords$One;I)I"⟩, 13), (⟨"FerriedInWords", "learning", "(LFerriedInWords$Crossing;LFerriedInWords$One;I)Z"⟩, 13), (⟨"FerriedInWords", "toldByRow", "(LFerriedInWords$Sheet;I)I"⟩, 13), (⟨"FerriedInWords", "passDay", "(LFerriedInWords$Crossing;)I"⟩, 13), (⟨"FerriedInWords", "tellTruly", "(LFerriedInWords$Crossing;LFerriedInWords$One;I)I"⟩, 13), (⟨"FerriedInWords", "isAskedOfRun", "(I)Z"⟩, 13), (⟨"FerriedInWords", "toldByAll", "(LFerriedInWords$Crossing;I)I"⟩, 13), (⟨"FerriedInWords", "tryRows", "(IIIII)V"⟩, 13), (⟨"FerriedInWords", "toldWithMore", "(II)I"⟩, 13)]
theorem lw_r2 : ∀ q ∈ lw_privs_2, lw_okq q := List.forall_mem_cons.mpr ⟨lw_p16, List.forall_mem_cons.mpr ⟨lw_p17, List.forall_mem_cons.mpr ⟨lw_p18, List.forall_mem_cons.mpr ⟨lw_p19, List.forall_mem_cons.mpr ⟨lw_p20, List.forall_mem_cons.mpr ⟨lw_p21, List.forall_mem_cons.mpr ⟨lw_p22, List.forall_mem_cons.mpr ⟨lw_p23, List.forall_mem_cons.mpr ⟨lw_p24, List.forall_mem_cons.mpr ⟨lw_p25, List.forall_mem_cons.mpr ⟨lw_p26, List.forall_mem_cons.mpr ⟨lw_p27, List.forall_mem_cons.mpr ⟨lw_p28, List.forall_mem_cons.mpr ⟨lw_p29, List.forall_mem_cons.mpr ⟨lw_p30, List.forall_mem_cons.mpr ⟨lw_p31, fun _ h => absurd h List.not_mem_nil⟩⟩⟩⟩⟩⟩⟩⟩⟩⟩⟩⟩⟩⟩⟩⟩
theorem lw_p32 : lw_okq (⟨"FerriedInWords", "firstOtherwise", "(LFerriedInWords$Sheet;I)I"⟩, 13) := ⟨⟨by decide +kernel, by decide +kernel⟩, List.mem_of_getElem? (i := 22) (by decide +kernel), List.mem_of_getElem? (i := 710) (by decide +kernel), List.mem_of_getElem? (i := 711) (by decide +kernel)⟩
theorem lw_p33 : lw_okq (⟨"FerriedInWords", "suiting", "(LFerriedInWords$Sheet;IIII)I"⟩, 13) := ⟨⟨by decide +kernel, by decide +kernel⟩, List.mem_of_getElem? (i := 22) (by decide +kernel), List.mem_of_getElem? (i := 714) (by decide +kernel), List.mem_of_getElem? (i := 715) (by decide +kernel)⟩
theorem lw_p34 : lw_okq (⟨"FerriedInWords", "vary", "(III)V"⟩, 13) := ⟨⟨by decide +kernel, by decide +kernel⟩, List.mem_of_getElem? (i := 22) (by decide +kernel), List.mem_of_getElem? (i := 718) (by decide +kernel), List.mem_of_getElem? (i := 719) (by decide +kernel)⟩
theorem lw_p35 : lw_okq (⟨"FerriedInWords", "offOfDrawn", "(II)I"⟩, 13) := ⟨⟨by decide +kernel, by decide +kernel⟩, List.mem_of_getElem? (i := 22) (by decide +kernel), List.mem_of_getElem? (i := 739) (by decide +kernel), List.mem_of_getElem? (i := 740) (by decide +kernel)⟩
theorem lw_p36 : lw_okq (⟨"FerriedInWordsModel", "spell", "(IIIIIIIII)V"⟩, 45) := ⟨⟨by decide +kernel, by decide +kernel⟩, List.mem_of_getElem? (i := 813) (by decide +kernel), List.mem_of_getElem? (i := 819) (by decide +kernel), List.mem_of_getElem? (i := 820) (by decide +kernel)⟩
theorem lw_p37 : lw_okq (⟨"FerriedInWordsModel", "isOf", "(II)Z"⟩, 45) := ⟨⟨by decide +kernel, by decide +kernel⟩, List.mem_of_getElem? (i := 813) (by decide +kernel), List.mem_of_getElem? (i := 967) (by decide +kernel), List.mem_of_getElem? (i := 968) (by decide +kernel)⟩
theorem lw_p38 : lw_okq (⟨"FerriedInWordsModel", "isOne", "(I)Z"⟩, 45) := ⟨⟨by decide +kernel, by decide +kernel⟩, List.mem_of_getElem? (i := 813) (by decide +kernel), List.mem_of_getElem? (i := 971) (by decide +kernel), List.mem_of_getElem? (i := 972) (by decide +kernel)⟩
theorem lw_p39 : lw_okq (⟨"FerriedInWordsModel", "lays", "(III)V"⟩, 45) := ⟨⟨by decide +kernel, by decide +kernel⟩, List.mem_of_getElem? (i := 813) (by decide +kernel), List.mem_of_getElem? (i := 983) (by decide +kernel), List.mem_of_getElem? (i := 984) (by decide +kernel)⟩
theorem lw_p40 : lw_okq (⟨"FerriedInWordsModel", "read", "(II)I"⟩, 45) := ⟨⟨by decide +kernel, by decide +kernel⟩, List.mem_of_getElem? (i := 813) (by decide +kernel), List.mem_of_getElem? (i := 1009) (by decide +kernel), List.mem_of_getElem? (i := 1010) (by decide +kernel)⟩
theorem lw_p41 : lw_okq (⟨"FerriedInWordsModel", "next", "()V"⟩, 45) := ⟨⟨by decide +kernel, by decide +kernel⟩, List.mem_of_getElem? (i := 813) (by decide +kernel), List.mem_of_getElem? (i := 1013) (by decide +kernel), List.mem_of_getElem? (i := 1014) (by decide +kernel)⟩
theorem lw_p42 : lw_okq (⟨"FerriedInWordsModel", "byteAt", "(I)I"⟩, 45) := ⟨⟨by decide +kernel, by decide +kernel⟩, List.mem_of_getElem? (i := 813) (by decide +kernel), List.mem_of_getElem? (i := 1017) (by decide +kernel), List.mem_of_getElem? (i := 1018) (by decide +kernel)⟩
theorem lw_p43 : lw_okq (⟨"FerriedInWordsModel", "isWord", "(IIIIIIII)Z"⟩, 45) := ⟨⟨by decide +kernel, by decide +kernel⟩, List.mem_of_getElem? (i := 813) (by decide +kernel), List.mem_of_getElem? (i := 1026) (by decide +kernel), List.mem_of_getElem? (i := 1027) (by decide +kernel)⟩
theorem lw_p44 : lw_okq (⟨"FerriedInWordsModel", "isLetter", "(II)Z"⟩, 45) := ⟨⟨by decide +kernel, by decide +kernel⟩, List.mem_of_getElem? (i := 813) (by decide +kernel), List.mem_of_getElem? (i := 1030) (by decide +kernel), List.mem_of_getElem? (i := 1031) (by decide +kernel)⟩
theorem lw_p45 : lw_okq (⟨"FerriedInWordsModel", "part", "(Z)I"⟩, 45) := ⟨⟨by decide +kernel, by decide +kernel⟩, List.mem_of_getElem? (i := 813) (by decide +kernel), List.mem_of_getElem? (i := 1034) (by decide +kernel), List.mem_of_getElem? (i := 1035) (by decide +kernel)⟩
theorem lw_p46 : lw_okq (⟨"FerriedInWordsModel", "fail", "()V"⟩, 45) := ⟨⟨by decide +kernel, by decide +kernel⟩, List.mem_of_getElem? (i := 813) (by decide +kernel), List.mem_of_getElem? (i := 1038) (by decide +kernel), List.mem_of_getElem? (i := 1039) (by decide +kernel)⟩
theorem lw_p47 : lw_okq (⟨"FerriedInWordsModel", "either", "()I"⟩, 45) := ⟨⟨by decide +kernel, by decide +kernel⟩, List.mem_of_getElem? (i := 813) (by decide +kernel), List.mem_of_getElem? (i := 1042) (by decide +kernel), List.mem_of_getElem? (i := 1043) (by decide +kernel)⟩
def lw_privs_3 : List (MethodName × Nat) := [(⟨"FerriedInWords", "firstOtherwise", "(LFerriedInWords$Sheet;I)I"⟩, 13), (⟨"FerriedInWords", "suiting", "(LFerriedInWords$Sheet;IIII)I"⟩, 13), (⟨"FerriedInWords", "vary", "(III)V"⟩, 13), (⟨"FerriedInWords", "offOfDrawn", "(II)I"⟩, 13), (⟨"FerriedInWordsModel", "spell", "(IIIIIIIII)V"⟩, 45), (⟨"FerriedInWordsModel", "isOf", "(II)Z"⟩, 45), (⟨"FerriedInWordsModel", "isOne", "(I)Z"⟩, 45), (⟨"FerriedInWordsModel", "lays", "(III)V"⟩, 45), (⟨"FerriedInWordsModel", "read", "(II)I"⟩, 45), (⟨"FerriedInWordsModel", "next", "()V"⟩, 45), (⟨"FerriedInWordsModel", "byteAt", "(I)I"⟩, 45), (⟨"FerriedInWordsModel", "isWord", "(IIIIIIII)Z"⟩, 45), (⟨"FerriedInWordsModel", "isLetter", "(II)Z"⟩, 45), (⟨"FerriedInWordsModel", "part", "(Z)I"⟩, 45), (⟨"FerriedInWordsModel", "fail", "()V"⟩, 45), (⟨"FerriedInWordsModel", "either", "()I"⟩, 45)]
theorem lw_r3 : ∀ q ∈ lw_privs_3, lw_okq q := List.forall_mem_cons.mpr ⟨lw_p32, List.forall_mem_cons.mpr ⟨lw_p33, List.forall_mem_cons.mpr ⟨lw_p34, List.forall_mem_cons.mpr ⟨lw_p35, List.forall_mem_cons.mpr ⟨lw_p36, List.forall_mem_cons.mpr ⟨lw_p37, List.forall_mem_cons.mpr ⟨lw_p38, List.forall_mem_cons.mpr ⟨lw_p39, List.forall_mem_cons.mpr ⟨lw_p40, List.forall_mem_cons.mpr ⟨lw_p41, List.forall_mem_cons.mpr ⟨lw_p42, List.forall_mem_cons.mpr ⟨lw_p43, List.forall_mem_cons.mpr ⟨lw_p44, List.forall_mem_cons.mpr ⟨lw_p45, List.forall_mem_cons.mpr ⟨lw_p46, List.forall_mem_cons.mpr ⟨lw_p47, fun _ h => absurd h List.not_mem_nil⟩⟩⟩⟩⟩⟩⟩⟩⟩⟩⟩⟩⟩⟩⟩⟩
theorem lw_p48 : lw_okq (⟨"FerriedInWordsModel", "both", "()I"⟩, 45) := ⟨⟨by decide +kernel, by decide +kernel⟩, List.mem_of_getElem? (i := 813) (by decide +kernel), List.mem_of_getElem? (i := 1046) (by decide +kernel), List.mem_of_getElem? (i := 1047) (by decide +kernel)⟩
theorem lw_p49 : lw_okq (⟨"FerriedInWordsModel", "not", "()I"⟩, 45) := ⟨⟨by decide +kernel, by decide +kernel⟩, List.mem_of_getElem? (i := 813) (by decide +kernel), List.mem_of_getElem? (i := 1050) (by decide +kernel), List.mem_of_getElem? (i := 1051) (by decide +kernel)⟩
theorem lw_p50 : lw_okq (⟨"FerriedInWordsModel", "opens", "()Z"⟩, 45) := ⟨⟨by decide +kernel, by decide +kernel⟩, List.mem_of_getElem? (i := 813) (by decide +kernel), List.mem_of_getElem? (i := 1054) (by decide +kernel), List.mem_of_getElem? (i := 1055) (by decide +kernel)⟩
theorem lw_p51 : lw_okq (⟨"FerriedInWordsModel", "added", "()I"⟩, 45) := ⟨⟨by decide +kernel, by decide +kernel⟩, List.mem_of_getElem? (i := 813) (by decide +kernel), List.mem_of_getElem? (i := 1058) (by decide +kernel), List.mem_of_getElem? (i := 1059) (by decide +kernel)⟩
theorem lw_p52 : lw_okq (⟨"FerriedInWordsModel", "term", "()I"⟩, 45) := ⟨⟨by decide +kernel, by decide +kernel⟩, List.mem_of_getElem? (i := 813) (by decide +kernel), List.mem_of_getElem? (i := 1062) (by decide +kernel), List.mem_of_getElem? (i := 1063) (by decide +kernel)⟩
theorem lw_p53 : lw_okq (⟨"FerriedInWordsModel", "atom", "()I"⟩, 45) := ⟨⟨by decide +kernel, by decide +kernel⟩, List.mem_of_getElem? (i := 813) (by decide +kernel), List.mem_of_getElem? (i := 1066) (by decide +kernel), List.mem_of_getElem? (i := 1067) (by decide +kernel)⟩
theorem lw_p54 : lw_okq (⟨"FerriedInWordsModel", "isSign", "(I)Z"⟩, 45) := ⟨⟨by decide +kernel, by decide +kernel⟩, List.mem_of_getElem? (i := 813) (by decide +kernel), List.mem_of_getElem? (i := 1070) (by decide +kernel), List.mem_of_getElem? (i := 1071) (by decide +kernel)⟩
theorem lw_p55 : lw_okq (⟨"FerriedInWordsModel", "name", "()I"⟩, 45) := ⟨⟨by decide +kernel, by decide +kernel⟩, List.mem_of_getElem? (i := 813) (by decide +kernel), List.mem_of_getElem? (i := 1074) (by decide +kernel), List.mem_of_getElem? (i := 1075) (by decide +kernel)⟩
theorem lw_p56 : lw_okq (⟨"FerriedInWordsModel", "tellsOf", "(II)I"⟩, 45) := ⟨⟨by decide +kernel, by decide +kernel⟩, List.mem_of_getElem? (i := 813) (by decide +kernel), List.mem_of_getElem? (i := 1089) (by decide +kernel), List.mem_of_getElem? (i := 1090) (by decide +kernel)⟩
theorem lw_p57 : lw_okq (⟨"FerriedInWordsModel", "wordsOf", "(I)I"⟩, 45) := ⟨⟨by decide +kernel, by decide +kernel⟩, List.mem_of_getElem? (i := 813) (by decide +kernel), List.mem_of_getElem? (i := 1093) (by decide +kernel), List.mem_of_getElem? (i := 1094) (by decide +kernel)⟩
theorem lw_p58 : lw_okq (⟨"FerriedInWordsModel", "keepsOf", "(II)I"⟩, 45) := ⟨⟨by decide +kernel, by decide +kernel⟩, List.mem_of_getElem? (i := 813) (by decide +kernel), List.mem_of_getElem? (i := 1097) (by decide +kernel), List.mem_of_getElem? (i := 1098) (by decide +kernel)⟩
theorem lw_p59 : lw_okq (⟨"FerriedInWordsModel", "says", "(III)I"⟩, 45) := ⟨⟨by decide +kernel, by decide +kernel⟩, List.mem_of_getElem? (i := 813) (by decide +kernel), List.mem_of_getElem? (i := 1101) (by decide +kernel), List.mem_of_getElem? (i := 1102) (by decide +kernel)⟩
theorem lw_p60 : lw_okq (⟨"FerriedInWordsModel", "tiresOf", "(II)I"⟩, 45) := ⟨⟨by decide +kernel, by decide +kernel⟩, List.mem_of_getElem? (i := 813) (by decide +kernel), List.mem_of_getElem? (i := 1111) (by decide +kernel), List.mem_of_getElem? (i := 1112) (by decide +kernel)⟩
theorem lw_p61 : lw_okq (⟨"FerriedInWordsModel", "learns", "(II)Z"⟩, 45) := ⟨⟨by decide +kernel, by decide +kernel⟩, List.mem_of_getElem? (i := 813) (by decide +kernel), List.mem_of_getElem? (i := 1115) (by decide +kernel), List.mem_of_getElem? (i := 1116) (by decide +kernel)⟩
theorem lw_p62 : lw_okq (⟨"FerriedInWordsModel", "passes", "()I"⟩, 45) := ⟨⟨by decide +kernel, by decide +kernel⟩, List.mem_of_getElem? (i := 813) (by decide +kernel), List.mem_of_getElem? (i := 1133) (by decide +kernel), List.mem_of_getElem? (i := 1134) (by decide +kernel)⟩
theorem lw_p63 : lw_okq (⟨"FerriedInWordsModel", "tellsTruly", "(II)I"⟩, 45) := ⟨⟨by decide +kernel, by decide +kernel⟩, List.mem_of_getElem? (i := 813) (by decide +kernel), List.mem_of_getElem? (i := 1137) (by decide +kernel), List.mem_of_getElem? (i := 1138) (by decide +kernel)⟩
def lw_privs_4 : List (MethodName × Nat) := [(⟨"FerriedInWordsModel", "both", "()I"⟩, 45), (⟨"FerriedInWordsModel", "not", "()I"⟩, 45), (⟨"FerriedInWordsModel", "opens", "()Z"⟩, 45), (⟨"FerriedInWordsModel", "added", "()I"⟩, 45), (⟨"FerriedInWordsModel", "term", "()I"⟩, 45), (⟨"FerriedInWordsModel", "atom", "()I"⟩, 45), (⟨"FerriedInWordsModel", "isSign", "(I)Z"⟩, 45), (⟨"FerriedInWordsModel", "name", "()I"⟩, 45), (⟨"FerriedInWordsModel", "tellsOf", "(II)I"⟩, 45), (⟨"FerriedInWordsModel", "wordsOf", "(I)I"⟩, 45), (⟨"FerriedInWordsModel", "keepsOf", "(II)I"⟩, 45), (⟨"FerriedInWordsModel", "says", "(III)I"⟩, 45), (⟨"FerriedInWordsModel", "tiresOf", "(II)I"⟩, 45), (⟨"FerriedInWordsModel", "learns", "(II)Z"⟩, 45), (⟨"FerriedInWordsModel", "passes", "()I"⟩, 45), (⟨"FerriedInWordsModel", "tellsTruly", "(II)I"⟩, 45)]
theorem lw_r4 : ∀ q ∈ lw_privs_4, lw_okq q := List.forall_mem_cons.mpr ⟨lw_p48, List.forall_mem_cons.mpr ⟨lw_p49, List.forall_mem_cons.mpr ⟨lw_p50, List.forall_mem_cons.mpr ⟨lw_p51, List.forall_mem_cons.mpr ⟨lw_p52, List.forall_mem_cons.mpr ⟨lw_p53, List.forall_mem_cons.mpr ⟨lw_p54, List.forall_mem_cons.mpr ⟨lw_p55, List.forall_mem_cons.mpr ⟨lw_p56, List.forall_mem_cons.mpr ⟨lw_p57, List.forall_mem_cons.mpr ⟨lw_p58, List.forall_mem_cons.mpr ⟨lw_p59, List.forall_mem_cons.mpr ⟨lw_p60, List.forall_mem_cons.mpr ⟨lw_p61, List.forall_mem_cons.mpr ⟨lw_p62, List.forall_mem_cons.mpr ⟨lw_p63, fun _ h => absurd h List.not_mem_nil⟩⟩⟩⟩⟩⟩⟩⟩⟩⟩⟩⟩⟩⟩⟩⟩
theorem lw_p64 : lw_okq (⟨"FerriedInWordsModel", "laysAside", "()V"⟩, 45) := ⟨⟨by decide +kernel, by decide +kernel⟩, List.mem_of_getElem? (i := 813) (by decide +kernel), List.mem_of_getElem? (i := 1148) (by decide +kernel), List.mem_of_getElem? (i := 1149) (by decide +kernel)⟩
theorem lw_p65 : lw_okq (⟨"FerriedInWordsModel", "laysBack", "()V"⟩, 45) := ⟨⟨by decide +kernel, by decide +kernel⟩, List.mem_of_getElem? (i := 813) (by decide +kernel), List.mem_of_getElem? (i := 1152) (by decide +kernel), List.mem_of_getElem? (i := 1153) (by decide +kernel)⟩
theorem lw_p66 : lw_okq (⟨"FerriedInWordsModel", "byAll", "(I)I"⟩, 45) := ⟨⟨by decide +kernel, by decide +kernel⟩, List.mem_of_getElem? (i := 813) (by decide +kernel), List.mem_of_getElem? (i := 1160) (by decide +kernel), List.mem_of_getElem? (i := 1161) (by decide +kernel)⟩
theorem lw_p67 : lw_okq (⟨"FerriedInWordsModel", "rowsFrom", "(IIIIII)V"⟩, 45) := ⟨⟨by decide +kernel, by decide +kernel⟩, List.mem_of_getElem? (i := 813) (by decide +kernel), List.mem_of_getElem? (i := 1168) (by decide +kernel), List.mem_of_getElem? (i := 1169) (by decide +kernel)⟩
theorem lw_p68 : lw_okq (⟨"FerriedInWordsModel", "firstOther", "(II)I"⟩, 45) := ⟨⟨by decide +kernel, by decide +kernel⟩, List.mem_of_getElem? (i := 813) (by decide +kernel), List.mem_of_getElem? (i := 1192) (by decide +kernel), List.mem_of_getElem? (i := 1193) (by decide +kernel)⟩
theorem lw_p69 : lw_okq (⟨"FerriedInWordsModel", "likeSet", "(I)I"⟩, 45) := ⟨⟨by decide +kernel, by decide +kernel⟩, List.mem_of_getElem? (i := 813) (by decide +kernel), List.mem_of_getElem? (i := 1196) (by decide +kernel), List.mem_of_getElem? (i := 1197) (by decide +kernel)⟩
theorem lw_p70 : lw_okq (⟨"FerriedInWordsModel", "offDrawn", "(II)I"⟩, 45) := ⟨⟨by decide +kernel, by decide +kernel⟩, List.mem_of_getElem? (i := 813) (by decide +kernel), List.mem_of_getElem? (i := 1215) (by decide +kernel), List.mem_of_getElem? (i := 1216) (by decide +kernel)⟩
def lw_privs_5 : List (MethodName × Nat) := [(⟨"FerriedInWordsModel", "laysAside", "()V"⟩, 45), (⟨"FerriedInWordsModel", "laysBack", "()V"⟩, 45), (⟨"FerriedInWordsModel", "byAll", "(I)I"⟩, 45), (⟨"FerriedInWordsModel", "rowsFrom", "(IIIIII)V"⟩, 45), (⟨"FerriedInWordsModel", "firstOther", "(II)I"⟩, 45), (⟨"FerriedInWordsModel", "likeSet", "(I)I"⟩, 45), (⟨"FerriedInWordsModel", "offDrawn", "(II)I"⟩, 45)]
theorem lw_r5 : ∀ q ∈ lw_privs_5, lw_okq q := List.forall_mem_cons.mpr ⟨lw_p64, List.forall_mem_cons.mpr ⟨lw_p65, List.forall_mem_cons.mpr ⟨lw_p66, List.forall_mem_cons.mpr ⟨lw_p67, List.forall_mem_cons.mpr ⟨lw_p68, List.forall_mem_cons.mpr ⟨lw_p69, List.forall_mem_cons.mpr ⟨lw_p70, fun _ h => absurd h List.not_mem_nil⟩⟩⟩⟩⟩⟩⟩
def lw_privs : List (MethodName × Nat) := lw_privs_1 ++ (lw_privs_2 ++ (lw_privs_3 ++ (lw_privs_4 ++ (lw_privs_5))))
def lw_tbl : List Cond := k2_sels lw_privs ++ tables_1
theorem lw_privs_ok : ∀ q ∈ lw_privs, lw_okq q := by
  show ∀ q ∈ lw_privs_1 ++ (lw_privs_2 ++ (lw_privs_3 ++ (lw_privs_4 ++ (lw_privs_5)))), lw_okq q
  exact List.forall_mem_append.mpr ⟨lw_r1, List.forall_mem_append.mpr ⟨lw_r2, List.forall_mem_append.mpr ⟨lw_r3, List.forall_mem_append.mpr ⟨lw_r4, lw_r5⟩⟩⟩⟩
-- ===== end of PART A; then your names; then what follows =====
def RX0 : String := "FerriedInWords$Crossing"
def TX0 : u_T := fun k => match k with
  | 0 => ("FerriedInWords$Crossing", "people", "[LFerriedInWords$One;", true)
  | 1 => ("FerriedInWords$Crossing", "jetty", "[I", true)
  | 2 => ("FerriedInWords$Crossing", "there", "I", false)
  | 3 => ("FerriedInWords$Crossing", "things", "I", false)
  | 4 => ("FerriedInWords$Crossing", "day", "I", false)
  | 5 => ("FerriedInWords$Crossing", "come", "I", false)
  | _ => ("FerriedInWords$Crossing", "rule", "I", false)
def tyX0 : Nat → FieldType := fun k => match k with
  | 0 => .array (.object "FerriedInWords$One")
  | 1 => .array .int
  | 2 => .int
  | 3 => .int
  | 4 => .int
  | 5 => .int
  | _ => .int
abbrev wsX00 : List Cond := u_ws RX0 TX0 7
theorem nmX0 : ∀ a, a < 7 → ∀ b, b < 7 → a ≠ b → (TX0 a).2.1 ≠ (TX0 b).2.1 := by decide +kernel
theorem tyX0_ok : ∀ k, k < 7 → parseFieldDescriptor (TX0 k).2.2.1 = some (tyX0 k) := by decide +kernel
abbrev cX0_init : ByteArray := prog_2_method_1_code
def yX0_init : MethodName := ⟨RX0, "<init>", "()V"⟩
abbrev cX0_isThere : ByteArray := prog_2_method_2_code
def yX0_isThere : MethodName := ⟨RX0, "isThere", "(I)Z"⟩
abbrev cX0_takeFirst : ByteArray := prog_2_method_3_code
def yX0_takeFirst : MethodName := ⟨RX0, "takeFirst", "()I"⟩
abbrev cX0_become : ByteArray := prog_2_method_4_code
def yX0_become : MethodName := ⟨RX0, "become", "(LFerriedInWords$Crossing;)V"⟩
def RX1 : String := "FerriedInWords$Engineer"
def TX1 : u_T := fun k => match k with
  | _ => ("", "", "", false)
def tyX1 : Nat → FieldType := fun k => match k with
  | _ => .int
abbrev wsX10 : List Cond := u_ws RX1 TX1 0
theorem nmX1 : ∀ a, a < 0 → ∀ b, b < 0 → a ≠ b → (TX1 a).2.1 ≠ (TX1 b).2.1 := by decide +kernel
theorem tyX1_ok : ∀ k, k < 0 → parseFieldDescriptor (TX1 k).2.2.1 = some (tyX1 k) := by decide +kernel
abbrev cX1_init : ByteArray := prog_3_method_1_code
def yX1_init : MethodName := ⟨RX1, "<init>", "()V"⟩
abbrev cX1_isUnder : ByteArray := prog_3_method_2_code
def yX1_isUnder : MethodName := ⟨RX1, "isUnder", "(I)Z"⟩
abbrev cX1_keptOf : ByteArray := prog_3_method_3_code
def yX1_keptOf : MethodName := ⟨RX1, "keptOf", "(II)I"⟩
abbrev cX1_wordsFor : ByteArray := prog_3_method_4_code
def yX1_wordsFor : MethodName := ⟨RX1, "wordsFor", "(LFerriedInWords$One;II)I"⟩
abbrev cX1_wearies : ByteArray := prog_3_method_5_code
def yX1_wearies : MethodName := ⟨RX1, "wearies", "(ILFerriedInWords$One;)I"⟩
abbrev cX1_takesIn : ByteArray := prog_3_method_6_code
def yX1_takesIn : MethodName := ⟨RX1, "takesIn", "(ZI)Z"⟩
def RX2 : String := "FerriedInWords$Father"
def TX2 : u_T := fun k => match k with
  | _ => ("", "", "", false)
def tyX2 : Nat → FieldType := fun k => match k with
  | _ => .int
abbrev wsX20 : List Cond := u_ws RX2 TX2 0
theorem nmX2 : ∀ a, a < 0 → ∀ b, b < 0 → a ≠ b → (TX2 a).2.1 ≠ (TX2 b).2.1 := by decide +kernel
theorem tyX2_ok : ∀ k, k < 0 → parseFieldDescriptor (TX2 k).2.2.1 = some (tyX2 k) := by decide +kernel
abbrev cX2_init : ByteArray := prog_4_method_1_code
def yX2_init : MethodName := ⟨RX2, "<init>", "()V"⟩
abbrev cX2_isUnder : ByteArray := prog_4_method_2_code
def yX2_isUnder : MethodName := ⟨RX2, "isUnder", "(I)Z"⟩
abbrev cX2_keptOf : ByteArray := prog_4_method_3_code
def yX2_keptOf : MethodName := ⟨RX2, "keptOf", "(II)I"⟩
abbrev cX2_wordsFor : ByteArray := prog_4_method_4_code
def yX2_wordsFor : MethodName := ⟨RX2, "wordsFor", "(LFerriedInWords$One;II)I"⟩
abbrev cX2_wearies : ByteArray := prog_4_method_5_code
def yX2_wearies : MethodName := ⟨RX2, "wearies", "(ILFerriedInWords$One;)I"⟩
abbrev cX2_takesIn : ByteArray := prog_4_method_6_code
def yX2_takesIn : MethodName := ⟨RX2, "takesIn", "(ZI)Z"⟩
def RX3 : String := "FerriedInWords$Liar"
def TX3 : u_T := fun k => match k with
  | _ => ("", "", "", false)
def tyX3 : Nat → FieldType := fun k => match k with
  | _ => .int
abbrev wsX30 : List Cond := u_ws RX3 TX3 0
theorem nmX3 : ∀ a, a < 0 → ∀ b, b < 0 → a ≠ b → (TX3 a).2.1 ≠ (TX3 b).2.1 := by decide +kernel
theorem tyX3_ok : ∀ k, k < 0 → parseFieldDescriptor (TX3 k).2.2.1 = some (tyX3 k) := by decide +kernel
abbrev cX3_init : ByteArray := prog_5_method_1_code
def yX3_init : MethodName := ⟨RX3, "<init>", "()V"⟩
abbrev cX3_isUnder : ByteArray := prog_5_method_2_code
def yX3_isUnder : MethodName := ⟨RX3, "isUnder", "(I)Z"⟩
abbrev cX3_wordsFor : ByteArray := prog_5_method_3_code
def yX3_wordsFor : MethodName := ⟨RX3, "wordsFor", "(LFerriedInWords$One;II)I"⟩
abbrev cX3_wearies : ByteArray := prog_5_method_4_code
def yX3_wearies : MethodName := ⟨RX3, "wearies", "(ILFerriedInWords$One;)I"⟩
abbrev cX3_takesIn : ByteArray := prog_5_method_5_code
def yX3_takesIn : MethodName := ⟨RX3, "takesIn", "(ZI)Z"⟩
def RX4 : String := "FerriedInWords$Lover"
def TX4 : u_T := fun k => match k with
  | _ => ("", "", "", false)
def tyX4 : Nat → FieldType := fun k => match k with
  | _ => .int
abbrev wsX40 : List Cond := u_ws RX4 TX4 0
theorem nmX4 : ∀ a, a < 0 → ∀ b, b < 0 → a ≠ b → (TX4 a).2.1 ≠ (TX4 b).2.1 := by decide +kernel
theorem tyX4_ok : ∀ k, k < 0 → parseFieldDescriptor (TX4 k).2.2.1 = some (tyX4 k) := by decide +kernel
abbrev cX4_init : ByteArray := prog_6_method_1_code
def yX4_init : MethodName := ⟨RX4, "<init>", "()V"⟩
abbrev cX4_isUnder : ByteArray := prog_6_method_2_code
def yX4_isUnder : MethodName := ⟨RX4, "isUnder", "(I)Z"⟩
abbrev cX4_keptOf : ByteArray := prog_6_method_3_code
def yX4_keptOf : MethodName := ⟨RX4, "keptOf", "(II)I"⟩
abbrev cX4_wordsFor : ByteArray := prog_6_method_4_code
def yX4_wordsFor : MethodName := ⟨RX4, "wordsFor", "(LFerriedInWords$One;II)I"⟩
abbrev cX4_wearies : ByteArray := prog_6_method_5_code
def yX4_wearies : MethodName := ⟨RX4, "wearies", "(ILFerriedInWords$One;)I"⟩
def RX5 : String := "FerriedInWords$One"
def TX5 : u_T := fun k => match k with
  | 0 => ("FerriedInWords$One", "kind", "I", false)
  | 1 => ("FerriedInWords$One", "number", "I", false)
  | 2 => ("FerriedInWords$One", "words", "I", false)
  | 3 => ("FerriedInWords$One", "memory", "I", false)
  | _ => ("FerriedInWords$One", "said", "I", false)
def tyX5 : Nat → FieldType := fun k => match k with
  | 0 => .int
  | 1 => .int
  | 2 => .int
  | 3 => .int
  | _ => .int
abbrev wsX50 : List Cond := u_ws RX5 TX5 5
theorem nmX5 : ∀ a, a < 5 → ∀ b, b < 5 → a ≠ b → (TX5 a).2.1 ≠ (TX5 b).2.1 := by decide +kernel
theorem tyX5_ok : ∀ k, k < 5 → parseFieldDescriptor (TX5 k).2.2.1 = some (tyX5 k) := by decide +kernel
abbrev cX5_init : ByteArray := prog_7_method_1_code
def yX5_init : MethodName := ⟨RX5, "<init>", "()V"⟩
abbrev cX5_worth : ByteArray := prog_7_method_2_code
def yX5_worth : MethodName := ⟨RX5, "worth", "(I)I"⟩
abbrev cX5_become : ByteArray := prog_7_method_3_code
def yX5_become : MethodName := ⟨RX5, "become", "(II)V"⟩
abbrev cX5_become_ : ByteArray := prog_7_method_4_code
def yX5_become_ : MethodName := ⟨RX5, "become", "(LFerriedInWords$One;)V"⟩
def RX6 : String := "FerriedInWords$Plain"
def TX6 : u_T := fun k => match k with
  | _ => ("", "", "", false)
def tyX6 : Nat → FieldType := fun k => match k with
  | _ => .int
abbrev wsX60 : List Cond := u_ws RX6 TX6 0
theorem nmX6 : ∀ a, a < 0 → ∀ b, b < 0 → a ≠ b → (TX6 a).2.1 ≠ (TX6 b).2.1 := by decide +kernel
theorem tyX6_ok : ∀ k, k < 0 → parseFieldDescriptor (TX6 k).2.2.1 = some (tyX6 k) := by decide +kernel
abbrev cX6_init : ByteArray := prog_8_method_1_code
def yX6_init : MethodName := ⟨RX6, "<init>", "()V"⟩
abbrev cX6_isUnder : ByteArray := prog_8_method_2_code
def yX6_isUnder : MethodName := ⟨RX6, "isUnder", "(I)Z"⟩
abbrev cX6_keptOf : ByteArray := prog_8_method_3_code
def yX6_keptOf : MethodName := ⟨RX6, "keptOf", "(II)I"⟩
abbrev cX6_wordsFor : ByteArray := prog_8_method_4_code
def yX6_wordsFor : MethodName := ⟨RX6, "wordsFor", "(LFerriedInWords$One;II)I"⟩
abbrev cX6_wearies : ByteArray := prog_8_method_5_code
def yX6_wearies : MethodName := ⟨RX6, "wearies", "(ILFerriedInWords$One;)I"⟩
abbrev cX6_takesIn : ByteArray := prog_8_method_6_code
def yX6_takesIn : MethodName := ⟨RX6, "takesIn", "(ZI)Z"⟩
def RX7 : String := "FerriedInWords$Reader"
def TX7 : u_T := fun k => match k with
  | 0 => ("FerriedInWords$Reader", "tape", "[I", true)
  | 1 => ("FerriedInWords$Reader", "size", "I", false)
  | 2 => ("FerriedInWords$Reader", "tokens", "[I", true)
  | 3 => ("FerriedInWords$Reader", "values", "[I", true)
  | 4 => ("FerriedInWords$Reader", "places", "[I", true)
  | 5 => ("FerriedInWords$Reader", "many", "I", false)
  | 6 => ("FerriedInWords$Reader", "at", "I", false)
  | 7 => ("FerriedInWords$Reader", "token", "I", false)
  | 8 => ("FerriedInWords$Reader", "fault", "I", false)
  | _ => ("FerriedInWords$Reader", "goal", "LFerriedInWords$Text;", false)
def tyX7 : Nat → FieldType := fun k => match k with
  | 0 => .array .int
  | 1 => .int
  | 2 => .array .int
  | 3 => .array .int
  | 4 => .array .int
  | 5 => .int
  | 6 => .int
  | 7 => .int
  | 8 => .int
  | _ => .object "FerriedInWords$Text"
abbrev wsX70 : List Cond := u_ws RX7 TX7 10
theorem nmX7 : ∀ a, a < 10 → ∀ b, b < 10 → a ≠ b → (TX7 a).2.1 ≠ (TX7 b).2.1 := by decide +kernel
theorem tyX7_ok : ∀ k, k < 10 → parseFieldDescriptor (TX7 k).2.2.1 = some (tyX7 k) := by decide +kernel
abbrev cX7_init : ByteArray := prog_9_method_1_code
def yX7_init : MethodName := ⟨RX7, "<init>", "(LFerriedInWords$Text;)V"⟩
abbrev cX7_put : ByteArray := prog_9_method_2_code
def yX7_put : MethodName := ⟨RX7, "put", "(I)Z"⟩
abbrev cX7_readInto : ByteArray := prog_9_method_3_code
def yX7_readInto : MethodName := ⟨RX7, "readInto", "(LFerriedInWords$Text;)I"⟩
abbrev cX7_readPart : ByteArray := prog_9_method_4_code
def yX7_readPart : MethodName := ⟨RX7, "readPart", "(II)V"⟩
abbrev cX7_readOrs : ByteArray := prog_9_method_5_code
def yX7_readOrs : MethodName := ⟨RX7, "readOrs", "(I)V"⟩
abbrev cX7_readAnds : ByteArray := prog_9_method_6_code
def yX7_readAnds : MethodName := ⟨RX7, "readAnds", "(I)V"⟩
abbrev cX7_readNot : ByteArray := prog_9_method_7_code
def yX7_readNot : MethodName := ⟨RX7, "readNot", "(I)V"⟩
abbrev cX7_readSum : ByteArray := prog_9_method_8_code
def yX7_readSum : MethodName := ⟨RX7, "readSum", "(I)V"⟩
abbrev cX7_readTerm : ByteArray := prog_9_method_9_code
def yX7_readTerm : MethodName := ⟨RX7, "readTerm", "(I)V"⟩
abbrev cX7_readOne : ByteArray := prog_9_method_10_code
def yX7_readOne : MethodName := ⟨RX7, "readOne", "(I)V"⟩
abbrev cX7_opens : ByteArray := prog_9_method_11_code
def yX7_opens : MethodName := ⟨RX7, "opens", "(I)Z"⟩
abbrev cX7_expect : ByteArray := prog_9_method_12_code
def yX7_expect : MethodName := ⟨RX7, "expect", "(I)V"⟩
abbrev cX7_fail : ByteArray := prog_9_method_13_code
def yX7_fail : MethodName := ⟨RX7, "fail", "()V"⟩
abbrev cX7_advance : ByteArray := prog_9_method_14_code
def yX7_advance : MethodName := ⟨RX7, "advance", "()V"⟩
abbrev cX7_split : ByteArray := prog_9_method_15_code
def yX7_split : MethodName := ⟨RX7, "split", "()V"⟩
abbrev cX7_addToken : ByteArray := prog_9_method_16_code
def yX7_addToken : MethodName := ⟨RX7, "addToken", "(III)V"⟩
abbrev cX7_splitOff : ByteArray := prog_9_method_17_code
def yX7_splitOff : MethodName := ⟨RX7, "splitOff", "(I)I"⟩
abbrev cX7_splitWord : ByteArray := prog_9_method_18_code
def yX7_splitWord : MethodName := ⟨RX7, "splitWord", "(I)I"⟩
abbrev cX7_splitNumber : ByteArray := prog_9_method_19_code
def yX7_splitNumber : MethodName := ⟨RX7, "splitNumber", "(I)I"⟩
abbrev cX7_isSign : ByteArray := prog_9_method_20_code
def yX7_isSign : MethodName := ⟨RX7, "isSign", "(I)Z"⟩
abbrev cX7_nameCode : ByteArray := prog_9_method_21_code
def yX7_nameCode : MethodName := ⟨RX7, "nameCode", "(II)I"⟩
abbrev cX7_keyToken : ByteArray := prog_9_method_22_code
def yX7_keyToken : MethodName := ⟨RX7, "keyToken", "(II)I"⟩
abbrev cX7_isWord : ByteArray := prog_9_method_23_code
def yX7_isWord : MethodName := ⟨RX7, "isWord", "(Ljava/lang/String;II)Z"⟩
def RX8 : String := "FerriedInWords$Sheet"
def TX8 : u_T := fun k => match k with
  | 0 => ("FerriedInWords$Sheet", "cells", "[I", true)
  | 1 => ("FerriedInWords$Sheet", "sort", "I", false)
  | _ => ("FerriedInWords$Sheet", "size", "I", false)
def tyX8 : Nat → FieldType := fun k => match k with
  | 0 => .array .int
  | 1 => .int
  | _ => .int
abbrev wsX80 : List Cond := u_ws RX8 TX8 3
theorem nmX8 : ∀ a, a < 3 → ∀ b, b < 3 → a ≠ b → (TX8 a).2.1 ≠ (TX8 b).2.1 := by decide +kernel
theorem tyX8_ok : ∀ k, k < 3 → parseFieldDescriptor (TX8 k).2.2.1 = some (tyX8 k) := by decide +kernel
abbrev cX8_init : ByteArray := prog_10_method_1_code
def yX8_init : MethodName := ⟨RX8, "<init>", "()V"⟩
abbrev cX8_isMissing : ByteArray := prog_10_method_2_code
def yX8_isMissing : MethodName := ⟨RX8, "isMissing", "()Z"⟩
abbrev cX8_has : ByteArray := prog_10_method_3_code
def yX8_has : MethodName := ⟨RX8, "has", "(II)Z"⟩
abbrev cX8_become : ByteArray := prog_10_method_4_code
def yX8_become : MethodName := ⟨RX8, "become", "(II)V"⟩
abbrev cX8_put : ByteArray := prog_10_method_5_code
def yX8_put : MethodName := ⟨RX8, "put", "(II)V"⟩
def RX9 : String := "FerriedInWords$Teller"
def TX9 : u_T := fun k => match k with
  | _ => ("", "", "", false)
def tyX9 : Nat → FieldType := fun k => match k with
  | _ => .int
abbrev wsX90 : List Cond := u_ws RX9 TX9 0
theorem nmX9 : ∀ a, a < 0 → ∀ b, b < 0 → a ≠ b → (TX9 a).2.1 ≠ (TX9 b).2.1 := by decide +kernel
theorem tyX9_ok : ∀ k, k < 0 → parseFieldDescriptor (TX9 k).2.2.1 = some (tyX9 k) := by decide +kernel
abbrev cX9_init : ByteArray := prog_11_method_1_code
def yX9_init : MethodName := ⟨RX9, "<init>", "()V"⟩
abbrev cX9_isUnder : ByteArray := prog_11_method_2_code
def yX9_isUnder : MethodName := ⟨RX9, "isUnder", "(I)Z"⟩
abbrev cX9_keptOf : ByteArray := prog_11_method_3_code
def yX9_keptOf : MethodName := ⟨RX9, "keptOf", "(II)I"⟩
abbrev cX9_wordsFor : ByteArray := prog_11_method_4_code
def yX9_wordsFor : MethodName := ⟨RX9, "wordsFor", "(LFerriedInWords$One;II)I"⟩
abbrev cX9_wearies : ByteArray := prog_11_method_5_code
def yX9_wearies : MethodName := ⟨RX9, "wearies", "(ILFerriedInWords$One;)I"⟩
abbrev cX9_takesIn : ByteArray := prog_11_method_6_code
def yX9_takesIn : MethodName := ⟨RX9, "takesIn", "(ZI)Z"⟩
def RX10 : String := "FerriedInWords$Text"
def TX10 : u_T := fun k => match k with
  | 0 => ("FerriedInWords$Text", "codes", "[I", true)
  | 1 => ("FerriedInWords$Text", "ends", "[I", true)
  | _ => ("FerriedInWords$Text", "size", "I", false)
def tyX10 : Nat → FieldType := fun k => match k with
  | 0 => .array .int
  | 1 => .array .int
  | _ => .int
abbrev wsX100 : List Cond := u_ws RX10 TX10 3
theorem nmX10 : ∀ a, a < 3 → ∀ b, b < 3 → a ≠ b → (TX10 a).2.1 ≠ (TX10 b).2.1 := by decide +kernel
theorem tyX10_ok : ∀ k, k < 3 → parseFieldDescriptor (TX10 k).2.2.1 = some (tyX10 k) := by decide +kernel
abbrev cX10_init : ByteArray := prog_12_method_1_code
def yX10_init : MethodName := ⟨RX10, "<init>", "()V"⟩
abbrev cX10_add : ByteArray := prog_12_method_2_code
def yX10_add : MethodName := ⟨RX10, "add", "(I)V"⟩
abbrev cX10_worth : ByteArray := prog_12_method_3_code
def yX10_worth : MethodName := ⟨RX10, "worth", "(ILFerriedInWords$One;II[I)I"⟩
abbrev cX10_named : ByteArray := prog_12_method_4_code
def yX10_named : MethodName := ⟨RX10, "named", "(ILFerriedInWords$One;II)I"⟩
abbrev cX10_ofOne : ByteArray := prog_12_method_5_code
def yX10_ofOne : MethodName := ⟨RX10, "ofOne", "(II)I"⟩
abbrev cX10_ofTwo : ByteArray := prog_12_method_6_code
def yX10_ofTwo : MethodName := ⟨RX10, "ofTwo", "(III)I"⟩
def RX11 : String := "FerriedInWords"
def TX11 : u_T := fun k => match k with
  | 0 => ("FerriedInWords", "kinds", "[LFerriedInWords$Teller;", true)
  | 1 => ("FerriedInWords", "now", "LFerriedInWords$Crossing;", true)
  | 2 => ("FerriedInWords", "kept", "LFerriedInWords$Crossing;", true)
  | 3 => ("FerriedInWords", "thought", "LFerriedInWords$Crossing;", true)
  | 4 => ("FerriedInWords", "hasImage", "Z", false)
  | 5 => ("FerriedInWords", "texts", "[LFerriedInWords$Text;", true)
  | 6 => ("FerriedInWords", "reader", "LFerriedInWords$Reader;", true)
  | 7 => ("FerriedInWords", "textsThere", "I", false)
  | 8 => ("FerriedInWords", "stack", "[I", true)
  | 9 => ("FerriedInWords", "sheets", "[LFerriedInWords$Sheet;", true)
  | 10 => ("FerriedInWords", "trail", "[I", true)
  | 11 => ("FerriedInWords", "bestRow", "I", false)
  | _ => ("FerriedInWords", "bestOff", "I", false)
def tyX11 : Nat → FieldType := fun k => match k with
  | 0 => .array (.object "FerriedInWords$Teller")
  | 1 => .object "FerriedInWords$Crossing"
  | 2 => .object "FerriedInWords$Crossing"
  | 3 => .object "FerriedInWords$Crossing"
  | 4 => .boolean
  | 5 => .array (.object "FerriedInWords$Text")
  | 6 => .object "FerriedInWords$Reader"
  | 7 => .int
  | 8 => .array .int
  | 9 => .array (.object "FerriedInWords$Sheet")
  | 10 => .array .int
  | 11 => .int
  | _ => .int
abbrev wsX110 : List Cond := u_ws RX11 TX11 13
theorem nmX11 : ∀ a, a < 13 → ∀ b, b < 13 → a ≠ b → (TX11 a).2.1 ≠ (TX11 b).2.1 := by decide +kernel
theorem tyX11_ok : ∀ k, k < 13 → parseFieldDescriptor (TX11 k).2.2.1 = some (tyX11 k) := by decide +kernel
abbrev cX11_init : ByteArray := prog_1_method_1_code
def yX11_init : MethodName := ⟨RX11, "<init>", "()V"⟩
abbrev cX11_set : ByteArray := prog_1_method_2_code
def yX11_set : MethodName := ⟨RX11, "set", "(III)I"⟩
abbrev cX11_person : ByteArray := prog_1_method_3_code
def yX11_person : MethodName := ⟨RX11, "person", "(IIII)I"⟩
abbrev cX11_told : ByteArray := prog_1_method_4_code
def yX11_told : MethodName := ⟨RX11, "told", "(II)I"⟩
abbrev cX11_brings : ByteArray := prog_1_method_5_code
def yX11_brings : MethodName := ⟨RX11, "brings", "(I)I"⟩
abbrev cX11_asks : ByteArray := prog_1_method_6_code
def yX11_asks : MethodName := ⟨RX11, "asks", "(III)I"⟩
abbrev cX11_most : ByteArray := prog_1_method_7_code
def yX11_most : MethodName := ⟨RX11, "most", "(I)I"⟩
abbrev cX11_isSet : ByteArray := prog_1_method_8_code
def yX11_isSet : MethodName := ⟨RX11, "isSet", "(I)Z"⟩
abbrev cX11_feed : ByteArray := prog_1_method_9_code
def yX11_feed : MethodName := ⟨RX11, "feed", "(I)I"⟩
abbrev cX11_text : ByteArray := prog_1_method_10_code
def yX11_text : MethodName := ⟨RX11, "text", "()I"⟩
abbrev cX11_force : ByteArray := prog_1_method_11_code
def yX11_force : MethodName := ⟨RX11, "force", "(I)I"⟩
abbrev cX11_ruleOf : ByteArray := prog_1_method_12_code
def yX11_ruleOf : MethodName := ⟨RX11, "ruleOf", "(LFerriedInWords$Crossing;)LFerriedInWords$Text;"⟩
abbrev cX11_over : ByteArray := prog_1_method_13_code
def yX11_over : MethodName := ⟨RX11, "over", "(III)I"⟩
abbrev cX11_day : ByteArray := prog_1_method_14_code
def yX11_day : MethodName := ⟨RX11, "day", "()I"⟩
abbrev cX11_run : ByteArray := prog_1_method_15_code
def yX11_run : MethodName := ⟨RX11, "run", "(II)I"⟩
abbrev cX11_isAskedOfRun : ByteArray := prog_1_method_16_code
def yX11_isAskedOfRun : MethodName := ⟨RX11, "isAskedOfRun", "(I)Z"⟩
abbrev cX11_kindOf : ByteArray := prog_1_method_17_code
def yX11_kindOf : MethodName := ⟨RX11, "kindOf", "(LFerriedInWords$One;)LFerriedInWords$Teller;"⟩
abbrev cX11_keeping : ByteArray := prog_1_method_18_code
def yX11_keeping : MethodName := ⟨RX11, "keeping", "(LFerriedInWords$Crossing;LFerriedInWords$One;I)I"⟩
abbrev cX11_telling : ByteArray := prog_1_method_19_code
def yX11_telling : MethodName := ⟨RX11, "telling", "(LFerriedInWords$Crossing;LFerriedInWords$One;I)I"⟩
abbrev cX11_tiring : ByteArray := prog_1_method_20_code
def yX11_tiring : MethodName := ⟨RX11, "tiring", "(LFerriedInWords$Crossing;LFerriedInWords$One;I)I"⟩
abbrev cX11_learning : ByteArray := prog_1_method_21_code
def yX11_learning : MethodName := ⟨RX11, "learning", "(LFerriedInWords$Crossing;LFerriedInWords$One;I)Z"⟩
abbrev cX11_toldByAll : ByteArray := prog_1_method_22_code
def yX11_toldByAll : MethodName := ⟨RX11, "toldByAll", "(LFerriedInWords$Crossing;I)I"⟩
abbrev cX11_toldByRow : ByteArray := prog_1_method_23_code
def yX11_toldByRow : MethodName := ⟨RX11, "toldByRow", "(LFerriedInWords$Sheet;I)I"⟩
abbrev cX11_passDay : ByteArray := prog_1_method_24_code
def yX11_passDay : MethodName := ⟨RX11, "passDay", "(LFerriedInWords$Crossing;)I"⟩
abbrev cX11_tellTruly : ByteArray := prog_1_method_25_code
def yX11_tellTruly : MethodName := ⟨RX11, "tellTruly", "(LFerriedInWords$Crossing;LFerriedInWords$One;I)I"⟩
abbrev cX11_off : ByteArray := prog_1_method_26_code
def yX11_off : MethodName := ⟨RX11, "off", "(II)I"⟩
abbrev cX11_lowest : ByteArray := prog_1_method_27_code
def yX11_lowest : MethodName := ⟨RX11, "lowest", "(I)I"⟩
abbrev cX11_within : ByteArray := prog_1_method_28_code
def yX11_within : MethodName := ⟨RX11, "within", "(II)I"⟩
abbrev cX11_fro : ByteArray := prog_1_method_29_code
def yX11_fro : MethodName := ⟨RX11, "fro", "(II)I"⟩
abbrev cX11_row : ByteArray := prog_1_method_30_code
def yX11_row : MethodName := ⟨RX11, "row", "(III)I"⟩
abbrev cX11_tryRows : ByteArray := prog_1_method_31_code
def yX11_tryRows : MethodName := ⟨RX11, "tryRows", "(IIIII)V"⟩
abbrev cX11_learn : ByteArray := prog_1_method_32_code
def yX11_learn : MethodName := ⟨RX11, "learn", "(II)I"⟩
abbrev cX11_toldWithMore : ByteArray := prog_1_method_33_code
def yX11_toldWithMore : MethodName := ⟨RX11, "toldWithMore", "(II)I"⟩
abbrev cX11_from : ByteArray := prog_1_method_34_code
def yX11_from : MethodName := ⟨RX11, "from", "(II)I"⟩
abbrev cX11_mean : ByteArray := prog_1_method_35_code
def yX11_mean : MethodName := ⟨RX11, "mean", "(I)J"⟩
abbrev cX11_inLowestTerms : ByteArray := prog_1_method_36_code
def yX11_inLowestTerms : MethodName := ⟨RX11, "inLowestTerms", "(III)J"⟩
abbrev cX11_commonDivisor : ByteArray := prog_1_method_37_code
def yX11_commonDivisor : MethodName := ⟨RX11, "commonDivisor", "(II)I"⟩
abbrev cX11_tells : ByteArray := prog_1_method_38_code
def yX11_tells : MethodName := ⟨RX11, "tells", "(III)I"⟩
abbrev cX11_suiting : ByteArray := prog_1_method_39_code
def yX11_suiting : MethodName := ⟨RX11, "suiting", "(LFerriedInWords$Sheet;IIII)I"⟩
abbrev cX11_vary : ByteArray := prog_1_method_40_code
def yX11_vary : MethodName := ⟨RX11, "vary", "(III)V"⟩
abbrev cX11_firstOtherwise : ByteArray := prog_1_method_41_code
def yX11_firstOtherwise : MethodName := ⟨RX11, "firstOtherwise", "(LFerriedInWords$Sheet;I)I"⟩
abbrev cX11_film : ByteArray := prog_1_method_42_code
def yX11_film : MethodName := ⟨RX11, "film", "(II)I"⟩
abbrev cX11_drawn : ByteArray := prog_1_method_43_code
def yX11_drawn : MethodName := ⟨RX11, "drawn", "(II)I"⟩
abbrev cX11_chance : ByteArray := prog_1_method_44_code
def yX11_chance : MethodName := ⟨RX11, "chance", "(IIII)J"⟩
abbrev cX11_offOfDrawn : ByteArray := prog_1_method_45_code
def yX11_offOfDrawn : MethodName := ⟨RX11, "offOfDrawn", "(II)I"⟩
abbrev cX11_image : ByteArray := prog_1_method_46_code
def yX11_image : MethodName := ⟨RX11, "image", "()I"⟩
abbrev cX11_back : ByteArray := prog_1_method_47_code
def yX11_back : MethodName := ⟨RX11, "back", "()I"⟩
abbrev cX11_count : ByteArray := prog_1_method_48_code
def yX11_count : MethodName := ⟨RX11, "count", "(I)I"⟩
abbrev cX11_sheet : ByteArray := prog_1_method_49_code
def yX11_sheet : MethodName := ⟨RX11, "sheet", "(III)I"⟩
abbrev cX11_cell : ByteArray := prog_1_method_50_code
def yX11_cell : MethodName := ⟨RX11, "cell", "(III)I"⟩
abbrev cX11_copy : ByteArray := prog_1_method_51_code
def yX11_copy : MethodName := ⟨RX11, "copy", "(IIIII)I"⟩
abbrev cX11_crew : ByteArray := prog_1_method_52_code
def yX11_crew : MethodName := ⟨RX11, "crew", "(IIII)I"⟩
abbrev cX11_taken : ByteArray := prog_1_method_53_code
def yX11_taken : MethodName := ⟨RX11, "taken", "(II)I"⟩
abbrev cX11_isSheet : ByteArray := prog_1_method_54_code
def yX11_isSheet : MethodName := ⟨RX11, "isSheet", "(I)Z"⟩
def RX12 : String := "FerriedInWordsModel"
def TX12 : u_T := fun k => match k with
  | 0 => ("FerriedInWordsModel", "thrown", "I", false)
  | 1 => ("FerriedInWordsModel", "texts", "[I", true)
  | 2 => ("FerriedInWordsModel", "textSize", "[I", true)
  | 3 => ("FerriedInWordsModel", "textCount", "I", false)
  | 4 => ("FerriedInWordsModel", "rule", "I", false)
  | 5 => ("FerriedInWordsModel", "tape", "[I", true)
  | 6 => ("FerriedInWordsModel", "taped", "I", false)
  | 7 => ("FerriedInWordsModel", "dayNow", "I", false)
  | 8 => ("FerriedInWordsModel", "rows", "[I", true)
  | 9 => ("FerriedInWordsModel", "many", "I", false)
  | 10 => ("FerriedInWordsModel", "jetty", "[I", true)
  | 11 => ("FerriedInWordsModel", "jettySize", "I", false)
  | 12 => ("FerriedInWordsModel", "comeOver", "I", false)
  | 13 => ("FerriedInWordsModel", "learnt", "I", false)
  | 14 => ("FerriedInWordsModel", "ofWords", "I", false)
  | 15 => ("FerriedInWordsModel", "ofMemory", "I", false)
  | 16 => ("FerriedInWordsModel", "ofNumber", "I", false)
  | 17 => ("FerriedInWordsModel", "ofDay", "I", false)
  | 18 => ("FerriedInWordsModel", "ofParts", "I", false)
  | 19 => ("FerriedInWordsModel", "ofSaid", "I", false)
  | 20 => ("FerriedInWordsModel", "textFrom", "I", false)
  | 21 => ("FerriedInWordsModel", "size", "I", false)
  | 22 => ("FerriedInWordsModel", "here", "I", false)
  | 23 => ("FerriedInWordsModel", "token", "I", false)
  | 24 => ("FerriedInWordsModel", "tokenAt", "I", false)
  | 25 => ("FerriedInWordsModel", "tokenWorth", "J", false)
  | 26 => ("FerriedInWordsModel", "open", "I", false)
  | 27 => ("FerriedInWordsModel", "bad", "Z", false)
  | 28 => ("FerriedInWordsModel", "fault", "I", false)
  | 29 => ("FerriedInWordsModel", "was", "[I", true)
  | 30 => ("FerriedInWordsModel", "trail", "[I", true)
  | 31 => ("FerriedInWordsModel", "bestRow", "I", false)
  | 32 => ("FerriedInWordsModel", "bestOff", "I", false)
  | 33 => ("FerriedInWordsModel", "bestSize", "I", false)
  | 34 => ("FerriedInWordsModel", "rowsKept", "[I", true)
  | 35 => ("FerriedInWordsModel", "jettyKept", "[I", true)
  | 36 => ("FerriedInWordsModel", "manyKept", "I", false)
  | 37 => ("FerriedInWordsModel", "jettySizeKept", "I", false)
  | 38 => ("FerriedInWordsModel", "comeKept", "I", false)
  | 39 => ("FerriedInWordsModel", "dayKept", "I", false)
  | 40 => ("FerriedInWordsModel", "ruleKept", "I", false)
  | 41 => ("FerriedInWordsModel", "isThere", "[Z", true)
  | 42 => ("FerriedInWordsModel", "sorts", "[I", true)
  | 43 => ("FerriedInWordsModel", "sheetSize", "[I", true)
  | _ => ("FerriedInWordsModel", "items", "[I", true)
def tyX12 : Nat → FieldType := fun k => match k with
  | 0 => .int
  | 1 => .array .int
  | 2 => .array .int
  | 3 => .int
  | 4 => .int
  | 5 => .array .int
  | 6 => .int
  | 7 => .int
  | 8 => .array .int
  | 9 => .int
  | 10 => .array .int
  | 11 => .int
  | 12 => .int
  | 13 => .int
  | 14 => .int
  | 15 => .int
  | 16 => .int
  | 17 => .int
  | 18 => .int
  | 19 => .int
  | 20 => .int
  | 21 => .int
  | 22 => .int
  | 23 => .int
  | 24 => .int
  | 25 => .long
  | 26 => .int
  | 27 => .boolean
  | 28 => .int
  | 29 => .array .int
  | 30 => .array .int
  | 31 => .int
  | 32 => .int
  | 33 => .int
  | 34 => .array .int
  | 35 => .array .int
  | 36 => .int
  | 37 => .int
  | 38 => .int
  | 39 => .int
  | 40 => .int
  | 41 => .array .boolean
  | 42 => .array .int
  | 43 => .array .int
  | _ => .array .int
abbrev wsX120 : List Cond := u_ws RX12 TX12 45
theorem nmX12 : ∀ a, a < 45 → ∀ b, b < 45 → a ≠ b → (TX12 a).2.1 ≠ (TX12 b).2.1 := by decide +kernel
theorem tyX12_ok : ∀ k, k < 45 → parseFieldDescriptor (TX12 k).2.2.1 = some (tyX12 k) := by decide +kernel
abbrev cX12_in : ByteArray := prog_14_method_2_code
def yX12_in : MethodName := ⟨RX12, "in", "(JJJ)Z"⟩
abbrev cX12_within : ByteArray := prog_14_method_3_code
def yX12_within : MethodName := ⟨RX12, "within", "(III)I"⟩
abbrev cX12_init : ByteArray := prog_14_method_4_code
def yX12_init : MethodName := ⟨RX12, "<init>", "()V"⟩
abbrev cX12_spell : ByteArray := prog_14_method_5_code
def yX12_spell : MethodName := ⟨RX12, "spell", "(IIIIIIIII)V"⟩
abbrev cX12_isOne : ByteArray := prog_14_method_6_code
def yX12_isOne : MethodName := ⟨RX12, "isOne", "(I)Z"⟩
abbrev cX12_isOf : ByteArray := prog_14_method_7_code
def yX12_isOf : MethodName := ⟨RX12, "isOf", "(II)Z"⟩
abbrev cX12_mostOf : ByteArray := prog_14_method_8_code
def yX12_mostOf : MethodName := ⟨RX12, "mostOf", "(I)I"⟩
abbrev cX12_set : ByteArray := prog_14_method_9_code
def yX12_set : MethodName := ⟨RX12, "set", "(III)I"⟩
abbrev cX12_lays : ByteArray := prog_14_method_10_code
def yX12_lays : MethodName := ⟨RX12, "lays", "(III)V"⟩
abbrev cX12_person : ByteArray := prog_14_method_11_code
def yX12_person : MethodName := ⟨RX12, "person", "(IIII)I"⟩
abbrev cX12_told : ByteArray := prog_14_method_12_code
def yX12_told : MethodName := ⟨RX12, "told", "(II)I"⟩
abbrev cX12_brings : ByteArray := prog_14_method_13_code
def yX12_brings : MethodName := ⟨RX12, "brings", "(I)I"⟩
abbrev cX12_feed : ByteArray := prog_14_method_14_code
def yX12_feed : MethodName := ⟨RX12, "feed", "(I)I"⟩
abbrev cX12_byteAt : ByteArray := prog_14_method_15_code
def yX12_byteAt : MethodName := ⟨RX12, "byteAt", "(I)I"⟩
abbrev cX12_next : ByteArray := prog_14_method_16_code
def yX12_next : MethodName := ⟨RX12, "next", "()V"⟩
abbrev cX12_fail : ByteArray := prog_14_method_17_code
def yX12_fail : MethodName := ⟨RX12, "fail", "()V"⟩
abbrev cX12_isLetter : ByteArray := prog_14_method_18_code
def yX12_isLetter : MethodName := ⟨RX12, "isLetter", "(II)Z"⟩
abbrev cX12_isWord : ByteArray := prog_14_method_19_code
def yX12_isWord : MethodName := ⟨RX12, "isWord", "(IIIIIIII)Z"⟩
abbrev cX12_isSign : ByteArray := prog_14_method_20_code
def yX12_isSign : MethodName := ⟨RX12, "isSign", "(I)Z"⟩
abbrev cX12_opens : ByteArray := prog_14_method_21_code
def yX12_opens : MethodName := ⟨RX12, "opens", "()Z"⟩
abbrev cX12_name : ByteArray := prog_14_method_22_code
def yX12_name : MethodName := ⟨RX12, "name", "()I"⟩
abbrev cX12_atom : ByteArray := prog_14_method_23_code
def yX12_atom : MethodName := ⟨RX12, "atom", "()I"⟩
abbrev cX12_term : ByteArray := prog_14_method_24_code
def yX12_term : MethodName := ⟨RX12, "term", "()I"⟩
abbrev cX12_added : ByteArray := prog_14_method_25_code
def yX12_added : MethodName := ⟨RX12, "added", "()I"⟩
abbrev cX12_not : ByteArray := prog_14_method_26_code
def yX12_not : MethodName := ⟨RX12, "not", "()I"⟩
abbrev cX12_both : ByteArray := prog_14_method_27_code
def yX12_both : MethodName := ⟨RX12, "both", "()I"⟩
abbrev cX12_either : ByteArray := prog_14_method_28_code
def yX12_either : MethodName := ⟨RX12, "either", "()I"⟩
abbrev cX12_part : ByteArray := prog_14_method_29_code
def yX12_part : MethodName := ⟨RX12, "part", "(Z)I"⟩
abbrev cX12_read : ByteArray := prog_14_method_30_code
def yX12_read : MethodName := ⟨RX12, "read", "(II)I"⟩
abbrev cX12_text : ByteArray := prog_14_method_31_code
def yX12_text : MethodName := ⟨RX12, "text", "()I"⟩
abbrev cX12_force : ByteArray := prog_14_method_32_code
def yX12_force : MethodName := ⟨RX12, "force", "(I)I"⟩
abbrev cX12_bitsOf : ByteArray := prog_14_method_33_code
def yX12_bitsOf : MethodName := ⟨RX12, "bitsOf", "(I)I"⟩
abbrev cX12_wordsOf : ByteArray := prog_14_method_34_code
def yX12_wordsOf : MethodName := ⟨RX12, "wordsOf", "(I)I"⟩
abbrev cX12_says : ByteArray := prog_14_method_35_code
def yX12_says : MethodName := ⟨RX12, "says", "(III)I"⟩
abbrev cX12_keepsOf : ByteArray := prog_14_method_36_code
def yX12_keepsOf : MethodName := ⟨RX12, "keepsOf", "(II)I"⟩
abbrev cX12_tellsOf : ByteArray := prog_14_method_37_code
def yX12_tellsOf : MethodName := ⟨RX12, "tellsOf", "(II)I"⟩
abbrev cX12_tiresOf : ByteArray := prog_14_method_38_code
def yX12_tiresOf : MethodName := ⟨RX12, "tiresOf", "(II)I"⟩
abbrev cX12_learns : ByteArray := prog_14_method_39_code
def yX12_learns : MethodName := ⟨RX12, "learns", "(II)Z"⟩
abbrev cX12_asks : ByteArray := prog_14_method_40_code
def yX12_asks : MethodName := ⟨RX12, "asks", "(III)I"⟩
abbrev cX12_byAll : ByteArray := prog_14_method_41_code
def yX12_byAll : MethodName := ⟨RX12, "byAll", "(I)I"⟩
abbrev cX12_off : ByteArray := prog_14_method_42_code
def yX12_off : MethodName := ⟨RX12, "off", "(II)I"⟩
abbrev cX12_over : ByteArray := prog_14_method_43_code
def yX12_over : MethodName := ⟨RX12, "over", "(III)I"⟩
abbrev cX12_tellsTruly : ByteArray := prog_14_method_44_code
def yX12_tellsTruly : MethodName := ⟨RX12, "tellsTruly", "(II)I"⟩
abbrev cX12_passes : ByteArray := prog_14_method_45_code
def yX12_passes : MethodName := ⟨RX12, "passes", "()I"⟩
abbrev cX12_day : ByteArray := prog_14_method_46_code
def yX12_day : MethodName := ⟨RX12, "day", "()I"⟩
abbrev cX12_laysAside : ByteArray := prog_14_method_47_code
def yX12_laysAside : MethodName := ⟨RX12, "laysAside", "()V"⟩
abbrev cX12_laysBack : ByteArray := prog_14_method_48_code
def yX12_laysBack : MethodName := ⟨RX12, "laysBack", "()V"⟩
abbrev cX12_run : ByteArray := prog_14_method_49_code
def yX12_run : MethodName := ⟨RX12, "run", "(II)I"⟩
abbrev cX12_fro : ByteArray := prog_14_method_50_code
def yX12_fro : MethodName := ⟨RX12, "fro", "(II)I"⟩
abbrev cX12_rowsFrom : ByteArray := prog_14_method_51_code
def yX12_rowsFrom : MethodName := ⟨RX12, "rowsFrom", "(IIIIII)V"⟩
abbrev cX12_row : ByteArray := prog_14_method_52_code
def yX12_row : MethodName := ⟨RX12, "row", "(III)I"⟩
abbrev cX12_learn : ByteArray := prog_14_method_53_code
def yX12_learn : MethodName := ⟨RX12, "learn", "(II)I"⟩
abbrev cX12_from : ByteArray := prog_14_method_54_code
def yX12_from : MethodName := ⟨RX12, "from", "(II)I"⟩
abbrev cX12_lowest : ByteArray := prog_14_method_55_code
def yX12_lowest : MethodName := ⟨RX12, "lowest", "(JJI)J"⟩
abbrev cX12_mean : ByteArray := prog_14_method_56_code
def yX12_mean : MethodName := ⟨RX12, "mean", "(I)J"⟩
abbrev cX12_firstOther : ByteArray := prog_14_method_57_code
def yX12_firstOther : MethodName := ⟨RX12, "firstOther", "(II)I"⟩
abbrev cX12_likeSet : ByteArray := prog_14_method_58_code
def yX12_likeSet : MethodName := ⟨RX12, "likeSet", "(I)I"⟩
abbrev cX12_tells : ByteArray := prog_14_method_59_code
def yX12_tells : MethodName := ⟨RX12, "tells", "(III)I"⟩
abbrev cX12_film : ByteArray := prog_14_method_60_code
def yX12_film : MethodName := ⟨RX12, "film", "(II)I"⟩
abbrev cX12_offDrawn : ByteArray := prog_14_method_61_code
def yX12_offDrawn : MethodName := ⟨RX12, "offDrawn", "(II)I"⟩
abbrev cX12_drawn : ByteArray := prog_14_method_62_code
def yX12_drawn : MethodName := ⟨RX12, "drawn", "(II)I"⟩
abbrev cX12_chance : ByteArray := prog_14_method_63_code
def yX12_chance : MethodName := ⟨RX12, "chance", "(IIII)J"⟩
abbrev cX12_image : ByteArray := prog_14_method_64_code
def yX12_image : MethodName := ⟨RX12, "image", "()I"⟩
abbrev cX12_back : ByteArray := prog_14_method_65_code
def yX12_back : MethodName := ⟨RX12, "back", "()I"⟩
abbrev cX12_count : ByteArray := prog_14_method_66_code
def yX12_count : MethodName := ⟨RX12, "count", "(I)I"⟩
abbrev cX12_isSheet : ByteArray := prog_14_method_67_code
def yX12_isSheet : MethodName := ⟨RX12, "isSheet", "(I)Z"⟩
abbrev cX12_sheet : ByteArray := prog_14_method_68_code
def yX12_sheet : MethodName := ⟨RX12, "sheet", "(III)I"⟩
abbrev cX12_cell : ByteArray := prog_14_method_69_code
def yX12_cell : MethodName := ⟨RX12, "cell", "(III)I"⟩
abbrev cX12_copy : ByteArray := prog_14_method_70_code
def yX12_copy : MethodName := ⟨RX12, "copy", "(IIIII)I"⟩
abbrev cX12_crew : ByteArray := prog_14_method_71_code
def yX12_crew : MethodName := ⟨RX12, "crew", "(IIII)I"⟩
abbrev cX12_above : ByteArray := prog_14_method_72_code
def yX12_above : MethodName := ⟨RX12, "above", "(I)I"⟩
abbrev cX12_taken : ByteArray := prog_14_method_73_code
def yX12_taken : MethodName := ⟨RX12, "taken", "(II)I"⟩
def RJ6 : String := "java/lang/Integer"
def TJ6 : u_T := fun k => match k with
  | _ => ("", "", "", false)
def tyJ6 : Nat → FieldType := fun k => match k with
  | _ => .int
abbrev wsJ60 : List Cond := u_ws RJ6 TJ6 0
theorem nmJ6 : ∀ a, a < 0 → ∀ b, b < 0 → a ≠ b → (TJ6 a).2.1 ≠ (TJ6 b).2.1 := by decide +kernel
theorem tyJ6_ok : ∀ k, k < 0 → parseFieldDescriptor (TJ6 k).2.2.1 = some (tyJ6 k) := by decide +kernel
abbrev cJ6_bitCount_0f7a4 : ByteArray := prog_15_method_49_code
def yJ6_bitCount_0f7a4 : MethodName := ⟨RJ6, "bitCount", "(I)I"⟩
def RJ9 : String := "java/lang/Math"
def TJ9 : u_T := fun k => match k with
  | _ => ("", "", "", false)
def tyJ9 : Nat → FieldType := fun k => match k with
  | _ => .int
abbrev wsJ90 : List Cond := u_ws RJ9 TJ9 0
theorem nmJ9 : ∀ a, a < 0 → ∀ b, b < 0 → a ≠ b → (TJ9 a).2.1 ≠ (TJ9 b).2.1 := by decide +kernel
theorem tyJ9_ok : ∀ k, k < 0 → parseFieldDescriptor (TJ9 k).2.2.1 = some (tyJ9 k) := by decide +kernel
abbrev cJ9_max_7cf53 : ByteArray := prog_16_method_65_code
def yJ9_max_7cf53 : MethodName := ⟨RJ9, "max", "(II)I"⟩
abbrev cJ9_min_7cf53 : ByteArray := prog_16_method_69_code
def yJ9_min_7cf53 : MethodName := ⟨RJ9, "min", "(II)I"⟩
def RJ0 : String := "java/lang/String"
def TJ0 : u_T := fun k => match k with
  | _ => ("", "", "", false)
def tyJ0 : Nat → FieldType := fun k => match k with
  | _ => .int
abbrev wsJ00 : List Cond := u_ws RJ0 TJ0 0
theorem nmJ0 : ∀ a, a < 0 → ∀ b, b < 0 → a ≠ b → (TJ0 a).2.1 ≠ (TJ0 b).2.1 := by decide +kernel
theorem tyJ0_ok : ∀ k, k < 0 → parseFieldDescriptor (TJ0 k).2.2.1 = some (tyJ0 k) := by decide +kernel
abbrev cJ0_length_8abf5 : ByteArray := prog_17_method_54_code
def yJ0_length_8abf5 : MethodName := ⟨RJ0, "length", "()I"⟩
abbrev cJ0_charAt_5068e : ByteArray := prog_17_method_56_code
def yJ0_charAt_5068e : MethodName := ⟨RJ0, "charAt", "(I)C"⟩
abbrev cJ0_coder_7d493 : ByteArray := prog_17_method_152_code
def yJ0_coder_7d493 : MethodName := ⟨RJ0, "coder", "()B"⟩
abbrev cJ0_isLatin1_aae02 : ByteArray := prog_17_method_154_code
def yJ0_isLatin1_aae02 : MethodName := ⟨RJ0, "isLatin1", "()Z"⟩
abbrev cJ0_checkIndex_df160 : ByteArray := prog_17_method_155_code
def yJ0_checkIndex_df160 : MethodName := ⟨RJ0, "checkIndex", "(II)V"⟩
def RJ1 : String := "java/lang/StringLatin1"
def TJ1 : u_T := fun k => match k with
  | _ => ("", "", "", false)
def tyJ1 : Nat → FieldType := fun k => match k with
  | _ => .int
abbrev wsJ10 : List Cond := u_ws RJ1 TJ1 0
theorem nmJ1 : ∀ a, a < 0 → ∀ b, b < 0 → a ≠ b → (TJ1 a).2.1 ≠ (TJ1 b).2.1 := by decide +kernel
theorem tyJ1_ok : ∀ k, k < 0 → parseFieldDescriptor (TJ1 k).2.2.1 = some (tyJ1 k) := by decide +kernel
abbrev cJ1_charAt_3b067 : ByteArray := prog_18_method_2_code
def yJ1_charAt_3b067 : MethodName := ⟨RJ1, "charAt", "([BI)C"⟩
def RJ2 : String := "java/lang/StringUTF16"
def TJ2 : u_T := fun k => match k with
  | _ => ("", "", "", false)
def tyJ2 : Nat → FieldType := fun k => match k with
  | _ => .int
abbrev wsJ20 : List Cond := u_ws RJ2 TJ2 0
theorem nmJ2 : ∀ a, a < 0 → ∀ b, b < 0 → a ≠ b → (TJ2 a).2.1 ≠ (TJ2 b).2.1 := by decide +kernel
theorem tyJ2_ok : ∀ k, k < 0 → parseFieldDescriptor (TJ2 k).2.2.1 = some (tyJ2 k) := by decide +kernel
abbrev cJ2_getChar_3b067 : ByteArray := prog_19_method_5_code
def yJ2_getChar_3b067 : MethodName := ⟨RJ2, "getChar", "([BI)C"⟩
abbrev cJ2_length_9d52b : ByteArray := prog_19_method_6_code
def yJ2_length_9d52b : MethodName := ⟨RJ2, "length", "([B)I"⟩
abbrev cJ2_charAt_3b067 : ByteArray := prog_19_method_83_code
def yJ2_charAt_3b067 : MethodName := ⟨RJ2, "charAt", "([BI)C"⟩
abbrev cJ2_checkIndex_2214a : ByteArray := prog_19_method_91_code
def yJ2_checkIndex_2214a : MethodName := ⟨RJ2, "checkIndex", "(I[B)V"⟩
def RJ10 : String := "java/lang/System"
def TJ10 : u_T := fun k => match k with
  | _ => ("", "", "", false)
def tyJ10 : Nat → FieldType := fun k => match k with
  | _ => .int
abbrev wsJ100 : List Cond := u_ws RJ10 TJ10 0
theorem nmJ10 : ∀ a, a < 0 → ∀ b, b < 0 → a ≠ b → (TJ10 a).2.1 ≠ (TJ10 b).2.1 := by decide +kernel
theorem tyJ10_ok : ∀ k, k < 0 → parseFieldDescriptor (TJ10 k).2.2.1 = some (tyJ10 k) := by decide +kernel
def RJ3 : String := "jdk/internal/util/Preconditions"
def TJ3 : u_T := fun k => match k with
  | _ => ("", "", "", false)
def tyJ3 : Nat → FieldType := fun k => match k with
  | _ => .int
abbrev wsJ30 : List Cond := u_ws RJ3 TJ3 0
theorem nmJ3 : ∀ a, a < 0 → ∀ b, b < 0 → a ≠ b → (TJ3 a).2.1 ≠ (TJ3 b).2.1 := by decide +kernel
theorem tyJ3_ok : ∀ k, k < 0 → parseFieldDescriptor (TJ3 k).2.2.1 = some (tyJ3 k) := by decide +kernel
abbrev cJ3_checkIndex_8e157 : ByteArray := prog_21_method_11_code
def yJ3_checkIndex_8e157 : MethodName := ⟨RJ3, "checkIndex", "(IILjava/util/function/BiFunction;)I"⟩
def RL : String := "FerriedInWordsLaw"
abbrev cL_law : ByteArray := code
def yL_law : MethodName := ⟨RL, "law", "([I)Z"⟩
abbrev vwCl : List vw_C := [(RX0, TX0, 7), (RX1, TX1, 0), (RX2, TX2, 0), (RX3, TX3, 0), (RX4, TX4, 0), (RX5, TX5, 5), (RX6, TX6, 0), (RX7, TX7, 10), (RX8, TX8, 3), (RX9, TX9, 0), (RX10, TX10, 3), (RX11, TX11, 13), (RX12, TX12, 45)]
