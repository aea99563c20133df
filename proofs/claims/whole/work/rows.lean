section
-- ===== PART A: goes FIRST, ahead of the names: the tables' words, and 'selects' of the private methods out of them =====
/-- a private method of a class that the tables say can be made, by its rows of tables_1 -/
def lw_okq (q : MethodName × Nat) : Prop := (q.1.cls ≠ "java/lang/invoke/MethodHandle" ∧ q.1.cls ≠ "java/lang/invoke/VarHandle") ∧ Cond.instantiable q.1.cls q.2 ∈ tables_1 ∧ Cond.privateMethod q.1 ∈ tables_1 ∧ Cond.instanceMethod q.1 ∈ tables_1
theorem lw_p0 : lw_okq (⟨"FerriedInWords$Reader", "split", "()V"⟩, 10) := ⟨⟨by decide +kernel, by decide +kernel⟩, List.mem_of_getElem? (i := 185) (by decide +kernel), List.mem_of_getElem? (i := 280) (by decide +kernel), List.mem_of_getElem? (i := 281) (by decide +kernel)⟩
theorem lw_p1 : lw_okq (⟨"FerriedInWords$Reader", "splitOff", "(I)I"⟩, 10) := ⟨⟨by decide +kernel, by decide +kernel⟩, List.mem_of_getElem? (i := 185) (by decide +kernel), List.mem_of_getElem? (i := 284) (by decide +kernel), List.mem_of_getElem? (i := 285) (by decide +kernel)⟩
theorem lw_p2 : lw_okq (⟨"FerriedInWords$Reader", "splitWord", "(I)I"⟩, 10) := ⟨⟨by decide +kernel, by decide +kernel⟩, List.mem_of_getElem? (i := 185) (by decide +kernel), List.mem_of_getElem? (i := 288) (by decide +kernel), List.mem_of_getElem? (i := 289) (by decide +kernel)⟩
theorem lw_p3 : lw_okq (⟨"FerriedInWords$Reader", "nameCode", "(II)I"⟩, 10) := ⟨⟨by decide +kernel, by decide +kernel⟩, List.mem_of_getElem? (i := 185) (by decide +kernel), List.mem_of_getElem? (i := 292) (by decide +kernel), List.mem_of_getElem? (i := 293) (by decide +kernel)⟩
theorem lw_p4 : lw_okq (⟨"FerriedInWords$Reader", "isWord", "(Ljava/lang/String;II)Z"⟩, 10) := ⟨⟨by decide +kernel, by decide +kernel⟩, List.mem_of_getElem? (i := 185) (by decide +kernel), List.mem_of_getElem? (i := 297) (by decide +kernel), List.mem_of_getElem? (i := 298) (by decide +kernel)⟩
theorem lw_p5 : lw_okq (⟨"FerriedInWords$Reader", "keyToken", "(II)I"⟩, 10) := ⟨⟨by decide +kernel, by decide +kernel⟩, List.mem_of_getElem? (i := 185) (by decide +kernel), List.mem_of_getElem? (i := 308) (by decide +kernel), List.mem_of_getElem? (i := 309) (by decide +kernel)⟩
theorem lw_p6 : lw_okq (⟨"FerriedInWords$Reader", "addToken", "(III)V"⟩, 10) := ⟨⟨by decide +kernel, by decide +kernel⟩, List.mem_of_getElem? (i := 185) (by decide +kernel), List.mem_of_getElem? (i := 318) (by decide +kernel), List.mem_of_getElem? (i := 319) (by decide +kernel)⟩
theorem lw_p7 : lw_okq (⟨"FerriedInWords$Reader", "splitNumber", "(I)I"⟩, 10) := ⟨⟨by decide +kernel, by decide +kernel⟩, List.mem_of_getElem? (i := 185) (by decide +kernel), List.mem_of_getElem? (i := 322) (by decide +kernel), List.mem_of_getElem? (i := 323) (by decide +kernel)⟩
theorem lw_p8 : lw_okq (⟨"FerriedInWords$Reader", "readPart", "(II)V"⟩, 10) := ⟨⟨by decide +kernel, by decide +kernel⟩, List.mem_of_getElem? (i := 185) (by decide +kernel), List.mem_of_getElem? (i := 332) (by decide +kernel), List.mem_of_getElem? (i := 333) (by decide +kernel)⟩
theorem lw_p9 : lw_okq (⟨"FerriedInWords$Reader", "expect", "(I)V"⟩, 10) := ⟨⟨by decide +kernel, by decide +kernel⟩, List.mem_of_getElem? (i := 185) (by decide +kernel), List.mem_of_getElem? (i := 336) (by decide +kernel), List.mem_of_getElem? (i := 337) (by decide +kernel)⟩
theorem lw_p10 : lw_okq (⟨"FerriedInWords$Reader", "advance", "()V"⟩, 10) := ⟨⟨by decide +kernel, by decide +kernel⟩, List.mem_of_getElem? (i := 185) (by decide +kernel), List.mem_of_getElem? (i := 340) (by decide +kernel), List.mem_of_getElem? (i := 341) (by decide +kernel)⟩
theorem lw_p11 : lw_okq (⟨"FerriedInWords$Reader", "fail", "()V"⟩, 10) := ⟨⟨by decide +kernel, by decide +kernel⟩, List.mem_of_getElem? (i := 185) (by decide +kernel), List.mem_of_getElem? (i := 344) (by decide +kernel), List.mem_of_getElem? (i := 345) (by decide +kernel)⟩
theorem lw_p12 : lw_okq (⟨"FerriedInWords$Reader", "readOrs", "(I)V"⟩, 10) := ⟨⟨by decide +kernel, by decide +kernel⟩, List.mem_of_getElem? (i := 185) (by decide +kernel), List.mem_of_getElem? (i := 348) (by decide +kernel), List.mem_of_getElem? (i := 349) (by decide +kernel)⟩
theorem lw_p13 : lw_okq (⟨"FerriedInWords$Reader", "readAnds", "(I)V"⟩, 10) := ⟨⟨by decide +kernel, by decide +kernel⟩, List.mem_of_getElem? (i := 185) (by decide +kernel), List.mem_of_getElem? (i := 352) (by decide +kernel), List.mem_of_getElem? (i := 353) (by decide +kernel)⟩
theorem lw_p14 : lw_okq (⟨"FerriedInWords$Reader", "readNot", "(I)V"⟩, 10) := ⟨⟨by decide +kernel, by decide +kernel⟩, List.mem_of_getElem? (i := 185) (by decide +kernel), List.mem_of_getElem? (i := 356) (by decide +kernel), List.mem_of_getElem? (i := 357) (by decide +kernel)⟩
theorem lw_p15 : lw_okq (⟨"FerriedInWords$Reader", "opens", "(I)Z"⟩, 10) := ⟨⟨by decide +kernel, by decide +kernel⟩, List.mem_of_getElem? (i := 185) (by decide +kernel), List.mem_of_getElem? (i := 360) (by decide +kernel), List.mem_of_getElem? (i := 361) (by decide +kernel)⟩
def lw_privs_1 : List (MethodName × Nat) := [(⟨"FerriedInWords$Reader", "split", "()V"⟩, 10), (⟨"FerriedInWords$Reader", "splitOff", "(I)I"⟩, 10), (⟨"FerriedInWords$Reader", "splitWord", "(I)I"⟩, 10), (⟨"FerriedInWords$Reader", "nameCode", "(II)I"⟩, 10), (⟨"FerriedInWords$Reader", "isWord", "(Ljava/lang/String;II)Z"⟩, 10), (⟨"FerriedInWords$Reader", "keyToken", "(II)I"⟩, 10), (⟨"FerriedInWords$Reader", "addToken", "(III)V"⟩, 10), (⟨"FerriedInWords$Reader", "splitNumber", "(I)I"⟩, 10), (⟨"FerriedInWords$Reader", "readPart", "(II)V"⟩, 10), (⟨"FerriedInWords$Reader", "expect", "(I)V"⟩, 10), (⟨"FerriedInWords$Reader", "advance", "()V"⟩, 10), (⟨"FerriedInWords$Reader", "fail", "()V"⟩, 10), (⟨"FerriedInWords$Reader", "readOrs", "(I)V"⟩, 10), (⟨"FerriedInWords$Reader", "readAnds", "(I)V"⟩, 10), (⟨"FerriedInWords$Reader", "readNot", "(I)V"⟩, 10), (⟨"FerriedInWords$Reader", "opens", "(I)Z"⟩, 10)]
theorem lw_r1 : ∀ q ∈ lw_privs_1, lw_okq q := List.forall_mem_cons.mpr ⟨lw_p0, List.forall_mem_cons.mpr ⟨lw_p1, List.forall_mem_cons.mpr ⟨lw_p2, List.forall_mem_cons.mpr ⟨lw_p3, List.forall_mem_cons.mpr ⟨lw_p4, List.forall_mem_cons.mpr ⟨lw_p5, List.forall_mem_cons.mpr ⟨lw_p6, List.forall_mem_cons.mpr ⟨lw_p7, List.forall_mem_cons.mpr ⟨lw_p8, List.forall_mem_cons.mpr ⟨lw_p9, List.forall_mem_cons.mpr ⟨lw_p10, List.forall_mem_cons.mpr ⟨lw_p11, List.forall_mem_cons.mpr ⟨lw_p12, List.forall_mem_cons.mpr ⟨lw_p13, List.forall_mem_cons.mpr ⟨lw_p14, List.forall_mem_cons.mpr ⟨lw_p15, fun _ h => absurd h List.not_mem_nil⟩⟩⟩⟩⟩⟩⟩⟩⟩⟩⟩⟩⟩⟩⟩⟩
theorem lw_p16 : lw_okq (⟨"FerriedInWords$Reader", "readSum", "(I)V"⟩, 10) := ⟨⟨by decide +kernel, by decide +kernel⟩, List.mem_of_getElem? (i := 185) (by decide +kernel), List.mem_of_getElem? (i := 368) (by decide +kernel), List.mem_of_getElem? (i := 369) (by decide +kernel)⟩
theorem lw_p17 : lw_okq (⟨"FerriedInWords$Reader", "readTerm", "(I)V"⟩, 10) := ⟨⟨by decide +kernel, by decide +kernel⟩, List.mem_of_getElem? (i := 185) (by decide +kernel), List.mem_of_getElem? (i := 372) (by decide +kernel), List.mem_of_getElem? (i := 373) (by decide +kernel)⟩
theorem lw_p18 : lw_okq (⟨"FerriedInWords$Reader", "readOne", "(I)V"⟩, 10) := ⟨⟨by decide +kernel, by decide +kernel⟩, List.mem_of_getElem? (i := 185) (by decide +kernel), List.mem_of_getElem? (i := 376) (by decide +kernel), List.mem_of_getElem? (i := 377) (by decide +kernel)⟩
theorem lw_p19 : lw_okq (⟨"FerriedInWords", "telling", "(LFerriedInWords$Crossing;LFerriedInWords$One;I)I"⟩, 13) := ⟨⟨by decide +kernel, by decide +kernel⟩, List.mem_of_getElem? (i := 22) (by decide +kernel), List.mem_of_getElem? (i := 459) (by decide +kernel), List.mem_of_getElem? (i := 460) (by decide +kernel)⟩
theorem lw_p20 : lw_okq (⟨"FerriedInWords", "kindOf", "(LFerriedInWords$One;)LFerriedInWords$Teller;"⟩, 13) := ⟨⟨by decide +kernel, by decide +kernel⟩, List.mem_of_getElem? (i := 22) (by decide +kernel), List.mem_of_getElem? (i := 463) (by decide +kernel), List.mem_of_getElem? (i := 464) (by decide +kernel)⟩
theorem lw_p21 : lw_okq (⟨"FerriedInWords", "keeping", "(LFerriedInWords$Crossing;LFerriedInWords$One;I)I"⟩, 13) := ⟨⟨by decide +kernel, by decide +kernel⟩, List.mem_of_getElem? (i := 22) (by decide +kernel), List.mem_of_getElem? (i := 467) (by decide +kernel), List.mem_of_getElem? (i := 468) (by decide +kernel)⟩
theorem lw_p22 : lw_okq (⟨"FerriedInWords", "ruleOf", "(LFerriedInWords$Crossing;)LFerriedInWords$Text;"⟩, 13) := ⟨⟨by decide +kernel, by decide +kernel⟩, List.mem_of_getElem? (i := 22) (by decide +kernel), List.mem_of_getElem? (i := 471) (by decide +kernel), List.mem_of_getElem? (i := 472) (by decide +kernel)⟩
theorem lw_p23 : lw_okq (⟨"FerriedInWords", "tiring", "(LFerriedInWords$Crossing;LFerriedInWords$One;I)I"⟩, 13) := ⟨⟨by decide +kernel, by decide +kernel⟩, List.mem_of_getElem? (i := 22) (by decide +kernel), List.mem_of_getElem? (i := 553) (by decide +kernel), List.mem_of_getElem? (i := 554) (by decide +kernel)⟩
theorem lw_p24 : lw_okq (⟨"FerriedInWords", "learning", "(LFerriedInWords$Crossing;LFerriedInWords$One;I)Z"⟩, 13) := ⟨⟨by decide +kernel, by decide +kernel⟩, List.mem_of_getElem? (i := 22) (by decide +kernel), List.mem_of_getElem? (i := 580) (by decide +kernel), List.mem_of_getElem? (i := 581) (by decide +kernel)⟩
theorem lw_p25 : lw_okq (⟨"FerriedInWords", "toldByRow", "(LFerriedInWords$Sheet;I)I"⟩, 13) := ⟨⟨by decide +kernel, by decide +kernel⟩, List.mem_of_getElem? (i := 22) (by decide +kernel), List.mem_of_getElem? (i := 626) (by decide +kernel), List.mem_of_getElem? (i := 627) (by decide +kernel)⟩
theorem lw_p26 : lw_okq (⟨"FerriedInWords", "passDay", "(LFerriedInWords$Crossing;)I"⟩, 13) := ⟨⟨by decide +kernel, by decide +kernel⟩, List.mem_of_getElem? (i := 22) (by decide +kernel), List.mem_of_getElem? (i := 638) (by decide +kernel), List.mem_of_getElem? (i := 639) (by decide +kernel)⟩
theorem lw_p27 : lw_okq (⟨"FerriedInWords", "tellTruly", "(LFerriedInWords$Crossing;LFerriedInWords$One;I)I"⟩, 13) := ⟨⟨by decide +kernel, by decide +kernel⟩, List.mem_of_getElem? (i := 22) (by decide +kernel), List.mem_of_getElem? (i := 646) (by decide +kernel), List.mem_of_getElem? (i := 647) (by decide +kernel)⟩
theorem lw_p28 : lw_okq (⟨"FerriedInWords", "isAskedOfRun", "(I)Z"⟩, 13) := ⟨⟨by decide +kernel, by decide +kernel⟩, List.mem_of_getElem? (i := 22) (by decide +kernel), List.mem_of_getElem? (i := 655) (by decide +kernel), List.mem_of_getElem? (i := 656) (by decide +kernel)⟩
theorem lw_p29 : lw_okq (⟨"FerriedInWords", "toldByAll", "(LFerriedInWords$Crossing;I)I"⟩, 13) := ⟨⟨by decide +kernel, by decide +kernel⟩, List.mem_of_getElem? (i := 22) (by decide +kernel), List.mem_of_getElem? (i := 671) (by decide +kernel), List.mem_of_getElem? (i := 672) (by decide +kernel)⟩
theorem lw_p30 : lw_okq (⟨"FerriedInWords", "tryRows", "(IIIII)V"⟩, 13) := ⟨⟨by decide +kernel, by decide +kernel⟩, List.mem_of_getElem? (i := 22) (by decide +kernel), List.mem_of_getElem? (i := 679) (by decide +kernel), List.mem_of_getElem? (i := 680) (by decide +kernel)⟩
theorem lw_p31 : lw_okq (⟨"FerriedInWords", "toldWithMore", "(II)I"⟩, 13) := ⟨⟨by decide +kernel, by decide +kernel⟩, List.mem_of_getElem? (i := 22) (by decide +kernel), List.mem_of_getElem? (i := 687) (by decide +kernel), List.mem_of_getElem? (i := 688) (by decide +kernel)⟩
def lw_privs_2 : List (MethodName × Nat) := [(⟨"FerriedInWords$Reader", "readSum", "(I)V"⟩, 10), (⟨"FerriedInWords$Reader", "readTerm", "(I)V"⟩, 10), (⟨"FerriedInWords$Reader", "readOne", "(I)V"⟩, 10), (⟨"FerriedInWords", "telling", "(LFerriedInWords$Crossing;LFerriedInWords$One;I)I"⟩, 13), (⟨"FerriedInWords", "kindOf", "(LFerriedInWords$One;)LFerriedInWords$Teller;"⟩, 13), (⟨"FerriedInWords", "keeping", "(LFerriedInWords$Crossing;LFerriedInWords$One;I)I"⟩, 13), (⟨"FerriedInWords", "ruleOf", "(LFerriedInWords$Crossing;)LFerriedInWords$Text;"⟩, 13), (⟨"FerriedInWords", "tiring", "(LFerriedInWords$Crossing;LFerriedInWords$One;I)I"⟩, 13), (⟨"FerriedInWords", "learning", "(LFerriedInWords$Crossing;LFerriedInWords$One;I)Z"⟩, 13), (⟨"FerriedInWords", "toldByRow", "(LFerriedInWords$Sheet;I)I"⟩, 13), (⟨"FerriedInWords", "passDay", "(LFerriedInWords$Crossing;)I"⟩, 13), (⟨"FerriedInWords", "tellTruly", "(LFerriedInWords$Crossing;LFerriedInWords$One;I)I"⟩, 13), (⟨"FerriedInWords", "isAskedOfRun", "(I)Z"⟩, 13), (⟨"FerriedInWords", "toldByAll", "(LFerriedInWords$Crossing;I)I"⟩, 13), (⟨"FerriedInWords", "tryRows", "(IIIII)V"⟩, 13), (⟨"FerriedInWords", "toldWithMore", "(II)I"⟩, 13)]
theorem lw_r2 : ∀ q ∈ lw_privs_2, lw_okq q := List.forall_mem_cons.mpr ⟨lw_p16, List.forall_mem_cons.mpr ⟨lw_p17, List.forall_mem_cons.mpr ⟨lw_p18, List.forall_mem_cons.mpr ⟨lw_p19, List.forall_mem_cons.mpr ⟨lw_p20, List.forall_mem_cons.mpr ⟨lw_p21, List.forall_mem_cons.mpr ⟨lw_p22, List.forall_mem_cons.mpr ⟨lw_p23, List.forall_mem_cons.mpr ⟨lw_p24, List.forall_mem_cons.mpr ⟨lw_p25, List.forall_mem_cons.mpr ⟨lw_p26, List.forall_mem_cons.mpr ⟨lw_p27, List.forall_mem_cons.mpr ⟨lw_p28, List.forall_mem_cons.mpr ⟨lw_p29, List.forall_mem_cons.mpr ⟨lw_p30, List.forall_mem_cons.mpr ⟨lw_p31, fun _ h => absurd h List.not_mem_nil⟩⟩⟩⟩⟩⟩⟩⟩⟩⟩⟩⟩⟩⟩⟩⟩
theorem lw_p32 : lw_okq (⟨"FerriedInWords", "firstOtherwise", "(LFerriedInWords$Sheet;I)I"⟩, 13) := ⟨⟨by decide +kernel, by decide +kernel⟩, List.mem_of_getElem? (i := 22) (by decide +kernel), List.mem_of_getElem? (i := 710) (by decide +kernel), List.mem_of_getElem? (i := 711) (by decide +kernel)⟩
theorem lw_p33 : lw_okq (⟨"FerriedInWords", "suiting", "(LFerriedInWords$Sheet;IIII)I"⟩, 13) := ⟨⟨by decide +kernel, by decide +kernel⟩, List.mem_of_getElem? (i := 22) (by decide +kernel), List.mem_of_getElem? (i := 714) (by decide +kernel), List.mem_of_getElem? (i := 715) (by decide +kernel)⟩
theorem lw_p34 : lw_okq (⟨"FerriedInWords", "vary", "(III)V"⟩, 13) := ⟨⟨by decide +kernel, by decide +kernel⟩, List.mem_of_getElem? (i := 22) (by decide +kernel), List.mem_of_getElem? (i := 718) (by decide +kernel), List.mem_of_getElem? (i := 719) (by decide +kernel)⟩
theorem lw_p35 : lw_okq (⟨"FerriedInWords", "offOfDrawn", "(II)I"⟩, 13) := ⟨⟨by decide +kernel, by decide +kernel⟩, List.mem_of_getElem? (i := 22) (by decide +kernel), List.mem_of_getElem? (i := 739) (by decide +kernel), List.mem_of_getElem? (i := 740) (by decide +kernel)⟩
theorem lw_p36 : lw_okq (⟨"FerriedInWordsModel", "spell", "(IIIIIIIII)V"⟩, 45) := ⟨⟨by decide +kernel, by decide +kernel⟩, List.mem_of_getElem? (i := 813) (by decide +kernel), List.mem_of_getElem? (i := 819) (by decide +kernel), List.mem_of_getElem? (i := 820) (by decide +kernel)⟩
theorem lw_p37 : lw_okq (⟨"FerriedInWordsModel", "isOf", "(II)Z"⟩, 45) := ⟨⟨by decide +kernel, by decide +kernel⟩, List.mem_of_getElem? (i := 813) (by decide +kernel), List.mem_of_getElem? (i := 967) (by decide +kernel), List.mem_of_getElem? (i := 968) (by decide +kernel)⟩
theorem lw_p38 : lw_okq (⟨"FerriedInWordsModel", "isOne", "(I)Z"⟩, 45) := ⟨⟨by decide +kernel, by decide +kernel⟩, List.mem_of_getElem? (i := 813) (by decide +kernel), List.mem_of_getElem? (i := 971) (by decide +kernel), List.mem_of_getElem? (i := 972) (by decide +kernel)⟩
theorem lw_p39 : lw_okq (⟨"FerriedInWordsModel", "lays", "(III)V"⟩, 45) := ⟨⟨by decide +kernel, by decide +kernel⟩, List.mem_of_getElem? (i := 813) (by decide +kernel), List.mem_of_getElem? (i := 983) (by decide +kernel), List.mem_of_getElem? (i := 984) (by decide +kernel)⟩
theorem lw_p40 : lw_okq (⟨"FerriedInWordsModel", "read", "(II)I"⟩, 45) := ⟨⟨by decide +kernel, by decide +kernel⟩, List.mem_of_getElem? (i := 813) (by decide +kernel), List.mem_of_getElem? (i := 1009) (by decide +kernel), List.mem_of_getElem? (i := 1010) (by decide +kernel)⟩
theorem lw_p41 : lw_okq (⟨"FerriedInWordsModel", "next", "()V"⟩, 45) := ⟨⟨by decide +kernel, by decide +kernel⟩, List.mem_of_getElem? (i := 813) (by decide +kernel), List.mem_of_getElem? (i := 1013) (by decide +kernel), List.mem_of_getElem? (i := 1014) (by decide +kernel)⟩
theorem lw_p42 : lw_okq (⟨"FerriedInWordsModel", "byteAt", "(I)I"⟩, 45) := ⟨⟨by decide +kernel, by decide +kernel⟩, List.mem_of_getElem? (i := 813) (by decide +kernel), List.mem_of_getElem? (i := 1017) (by decide +kernel), List.mem_of_getElem? (i := 1018) (by decide +kernel)⟩
theorem lw_p43 : lw_okq (⟨"FerriedInWordsModel", "isWord", "(IIIIIIII)Z"⟩, 45) := ⟨⟨by decide +kernel, by decide +kernel⟩, List.mem_of_getElem? (i := 813) (by decide +kernel), List.mem_of_getElem? (i := 1026) (by decide +kernel), List.mem_of_getElem? (i := 1027) (by decide +kernel)⟩
theorem lw_p44 : lw_okq (⟨"FerriedInWordsModel", "isLetter", "(II)Z"⟩, 45) := ⟨⟨by decide +kernel, by decide +kernel⟩, List.mem_of_getElem? (i := 813) (by decide +kernel), List.mem_of_getElem? (i := 1030) (by decide +kernel), List.mem_of_getElem? (i := 1031) (by decide +kernel)⟩
theorem lw_p45 : lw_okq (⟨"FerriedInWordsModel", "part", "(Z)I"⟩, 45) := ⟨⟨by decide +kernel, by decide +kernel⟩, List.mem_of_getElem? (i := 813) (by decide +kernel), List.mem_of_getElem? (i := 1034) (by decide +kernel), List.mem_of_getElem? (i := 1035) (by decide +kernel)⟩
theorem lw_p46 : lw_okq (⟨"FerriedInWordsModel", "fail", "()V"⟩, 45) := ⟨⟨by decide +kernel, by decide +kernel⟩, List.mem_of_getElem? (i := 813) (by decide +kernel), List.mem_of_getElem? (i := 1038) (by decide +kernel), List.mem_of_getElem? (i := 1039) (by decide +kernel)⟩
theorem lw_p47 : lw_okq (⟨"FerriedInWordsModel", "either", "()I"⟩, 45) := ⟨⟨by decide +kernel, by decide +kernel⟩, List.mem_of_getElem? (i := 813) (by decide +kernel), List.mem_of_getElem? (i := 1042) (by decide +kernel), List.mem_of_getElem? (i := 1043) (by decide +kernel)⟩
def lw_privs_3 : List (MethodName × Nat) := [(⟨"FerriedInWords", "firstOtherwise", "(LFerriedInWords$Sheet;I)I"⟩, 13), (⟨"FerriedInWords", "suiting", "(LFerriedInWords$Sheet;IIII)I"⟩, 13), (⟨"FerriedInWords", "vary", "(III)V"⟩, 13), (⟨"FerriedInWords", "offOfDrawn", "(II)I"⟩, 13), (⟨"FerriedInWordsModel", "spell", "(IIIIIIIII)V"⟩, 45), (⟨"FerriedInWordsModel", "isOf", "(II)Z"⟩, 45), (⟨"FerriedInWordsModel", "isOne", "(I)Z"⟩, 45), (⟨"FerriedInWordsModel", "lays", "(III)V"⟩, 45), (⟨"FerriedInWordsModel", "read", "(II)I"⟩, 45), (⟨"FerriedInWordsModel", "next", "()V"⟩, 45), (⟨"FerriedInWordsModel", "byteAt", "(I)I"⟩, 45), (⟨"FerriedInWordsModel", "isWord", "(IIIIIIII)Z"⟩, 45), (⟨"FerriedInWordsModel", "isLetter", "(II)Z"⟩, 45), (⟨"FerriedInWordsModel", "part", "(Z)I"⟩, 45), (⟨"FerriedInWordsModel", "fail", "()V"⟩, 45), (⟨"FerriedInWordsModel", "either", "()I"⟩, 45)]
theorem lw_r3 : ∀ q ∈ lw_privs_3, lw_okq q := List.forall_mem_cons.mpr ⟨lw_p32, List.forall_mem_cons.mpr ⟨lw_p33, List.forall_mem_cons.mpr ⟨lw_p34, List.forall_mem_cons.mpr ⟨lw_p35, List.forall_mem_cons.mpr ⟨lw_p36, List.forall_mem_cons.mpr ⟨lw_p37, List.forall_mem_cons.mpr ⟨lw_p38, List.forall_mem_cons.mpr ⟨lw_p39, List.forall_mem_cons.mpr ⟨lw_p40, List.forall_mem_cons.mpr ⟨lw_p41, List.forall_mem_cons.mpr ⟨lw_p42, List.forall_mem_cons.mpr ⟨lw_p43, List.forall_mem_cons.mpr ⟨lw_p44, List.forall_mem_cons.mpr ⟨lw_p45, List.forall_mem_cons.mpr ⟨lw_p46, List.forall_mem_cons.mpr ⟨lw_p47, fun _ h => absurd h List.not_mem_nil⟩⟩⟩⟩⟩⟩⟩⟩⟩⟩⟩⟩⟩⟩⟩⟩
theorem lw_p48 : lw_okq (⟨"FerriedInWordsModel", "both", "()I"⟩, 45) := ⟨⟨by decide +kernel, by decide +kernel⟩, List.mem_of_getElem? (i := 813) (by decide +kernel), List.mem_of_getElem? (i := 1046) (by decide +kernel), List.mem_of_getElem? (i := 1047) (by decide +kernel)⟩
theorem lw_p49 : lw_okq (⟨"FerriedInWordsModel", "not", "()I"⟩, 45) := ⟨⟨by decide +kernel, by decide +kernel⟩, List.mem_of_getElem? (i := 813) (by decide +kernel), List.mem_of_getElem? (i := 1050) (by decide +kernel), List.mem_of_getElem? (i := 1051) (by decide +kernel)⟩
theorem lw_p50 : lw_okq (⟨"FerriedInWordsModel", "opens", "()Z"⟩, 45) := ⟨⟨by decide +kernel, by decide +kernel⟩, List.mem_of_getElem? (i := 813) (by decide +kernel), List.mem_of_getElem? (i := 1054) (by decide +kernel), List.mem_of_getElem? (i := 1055) (by decide +kernel)⟩
theorem lw_p51 : lw_okq (⟨"FerriedInWordsModel", "added", "()I"⟩, 45) := ⟨⟨by decide +kernel, by decide +kernel⟩, List.mem_of_getElem? (i := 813) (by decide +kernel), List.mem_of_getElem? (i := 1058) (by decide +kernel), List.mem_of_getElem? (i := 1059) (by decide +kernel)⟩
theorem lw_p52 : lw_okq (⟨"FerriedInWordsModel", "term", "()I"⟩, 45) := ⟨⟨by decide +kernel, by decide +kernel⟩, List.mem_of_getElem? (i := 813) (by decide +kernel), List.mem_of_getElem? (i := 1062) (by decide +kernel), List.mem_of_getElem? (i := 1063) (by decide +kernel)⟩
theorem lw_p53 : lw_okq (⟨"FerriedInWordsModel", "atom", "()I"⟩, 45) := ⟨⟨by decide +kernel, by decide +kernel⟩, List.mem_of_getElem? (i := 813) (by decide +kernel), List.mem_of_getElem? (i := 1066) (by decide +kernel), List.mem_of_getElem? (i := 1067) (by decide +kernel)⟩
theorem lw_p54 : lw_okq (⟨"FerriedInWordsModel", "isSign", "(I)Z"⟩, 45) := ⟨⟨by decide +kernel, by decide +kernel⟩, List.mem_of_getElem? (i := 813) (by decide +kernel), List.mem_of_getElem? (i := 1070) (by decide +kernel), List.mem_of_getElem? (i := 1071) (by decide +kernel)⟩
theorem lw_p55 : lw_okq (⟨"FerriedInWordsModel", "name", "()I"⟩, 45) := ⟨⟨by decide +kernel, by decide +kernel⟩, List.mem_of_getElem? (i := 813) (by decide +kernel), List.mem_of_getElem? (i := 1074) (by decide +kernel), List.mem_of_getElem? (i := 1075) (by decide +kernel)⟩
theorem lw_p56 : lw_okq (⟨"FerriedInWordsModel", "tellsOf", "(II)I"⟩, 45) := ⟨⟨by decide +kernel, by decide +kernel⟩, List.mem_of_getElem? (i := 813) (by decide +kernel), List.mem_of_getElem? (i := 1089) (by decide +kernel), List.mem_of_getElem? (i := 1090) (by decide +kernel)⟩
theorem lw_p57 : lw_okq (⟨"FerriedInWordsModel", "wordsOf", "(I)I"⟩, 45) := ⟨⟨by decide +kernel, by decide +kernel⟩, List.mem_of_getElem? (i := 813) (by decide +kernel), List.mem_of_getElem? (i := 1093) (by decide +kernel), List.mem_of_getElem? (i := 1094) (by decide +kernel)⟩
theorem lw_p58 : lw_okq (⟨"FerriedInWordsModel", "keepsOf", "(II)I"⟩, 45) := ⟨⟨by decide +kernel, by decide +kernel⟩, List.mem_of_getElem? (i := 813) (by decide +kernel), List.mem_of_getElem? (i := 1097) (by decide +kernel), List.mem_of_getElem? (i := 1098) (by decide +kernel)⟩
theorem lw_p59 : lw_okq (⟨"FerriedInWordsModel", "says", "(III)I"⟩, 45) := ⟨⟨by decide +kernel, by decide +kernel⟩, List.mem_of_getElem? (i := 813) (by decide +kernel), List.mem_of_getElem? (i := 1101) (by decide +kernel), List.mem_of_getElem? (i := 1102) (by decide +kernel)⟩
theorem lw_p60 : lw_okq (⟨"FerriedInWordsModel", "tiresOf", "(II)I"⟩, 45) := ⟨⟨by decide +kernel, by decide +kernel⟩, List.mem_of_getElem? (i := 813) (by decide +kernel), List.mem_of_getElem? (i := 1111) (by decide +kernel), List.mem_of_getElem? (i := 1112) (by decide +kernel)⟩
theorem lw_p61 : lw_okq (⟨"FerriedInWordsModel", "learns", "(II)Z"⟩, 45) := ⟨⟨by decide +kernel, by decide +kernel⟩, List.mem_of_getElem? (i := 813) (by decide +kernel), List.mem_of_getElem? (i := 1115) (by decide +kernel), List.mem_of_getElem? (i := 1116) (by decide +kernel)⟩
theorem lw_p62 : lw_okq (⟨"FerriedInWordsModel", "passes", "()I"⟩, 45) := ⟨⟨by decide +kernel, by decide +kernel⟩, List.mem_of_getElem? (i := 813) (by decide +kernel), List.mem_of_getElem? (i := 1133) (by decide +kernel), List.mem_of_getElem? (i := 1134) (by decide +kernel)⟩
theorem lw_p63 : lw_okq (⟨"FerriedInWordsModel", "tellsTruly", "(II)I"⟩, 45) := ⟨⟨by decide +kernel, by decide +kernel⟩, List.mem_of_getElem? (i := 813) (by decide +kernel), List.mem_of_getElem? (i := 1137) (by decide +kernel), List.mem_of_getElem? (i := 1138) (by decide +kernel)⟩
def lw_privs_4 : List (MethodName × Nat) := [(⟨"FerriedInWordsModel", "both", "()I"⟩, 45), (⟨"FerriedInWordsModel", "not", "()I"⟩, 45), (⟨"FerriedInWordsModel", "opens", "()Z"⟩, 45), (⟨"FerriedInWordsModel", "added", "()I"⟩, 45), (⟨"FerriedInWordsModel", "term", "()I"⟩, 45), (⟨"FerriedInWordsModel", "atom", "()I"⟩, 45), (⟨"FerriedInWordsModel", "isSign", "(I)Z"⟩, 45), (⟨"FerriedInWordsModel", "name", "()I"⟩, 45), (⟨"FerriedInWordsModel", "tellsOf", "(II)I"⟩, 45), (⟨"FerriedInWordsModel", "wordsOf", "(I)I"⟩, 45), (⟨"FerriedInWordsModel", "keepsOf", "(II)I"⟩, 45), (⟨"FerriedInWordsModel", "says", "(III)I"⟩, 45), (⟨"FerriedInWordsModel", "tiresOf", "(II)I"⟩, 45), (⟨"FerriedInWordsModel", "learns", "(II)Z"⟩, 45), (⟨"FerriedInWordsModel", "passes", "()I"⟩, 45), (⟨"FerriedInWordsModel", "tellsTruly", "(II)I"⟩, 45)]
theorem lw_r4 : ∀ q ∈ lw_privs_4, lw_okq q := List.forall_mem_cons.mpr ⟨lw_p48, List.forall_mem_cons.mpr ⟨lw_p49, List.forall_mem_cons.mpr ⟨lw_p50, List.forall_mem_cons.mpr ⟨lw_p51, List.forall_mem_cons.mpr ⟨lw_p52, List.forall_mem_cons.mpr ⟨lw_p53, List.forall_mem_cons.mpr ⟨lw_p54, List.forall_mem_cons.mpr ⟨lw_p55, List.forall_mem_cons.mpr ⟨lw_p56, List.forall_mem_cons.mpr ⟨lw_p57, List.forall_mem_cons.mpr ⟨lw_p58, List.forall_mem_cons.mpr ⟨lw_p59, List.forall_mem_cons.mpr ⟨lw_p60, List.forall_mem_cons.mpr ⟨lw_p61, List.forall_mem_cons.mpr ⟨lw_p62, List.forall_mem_cons.mpr ⟨lw_p63, fun _ h => absurd h List.not_mem_nil⟩⟩⟩⟩⟩⟩⟩⟩⟩⟩⟩⟩⟩⟩⟩⟩
theorem lw_p64 : lw_okq (⟨"FerriedInWordsModel", "laysAside", "()V"⟩, 45) := ⟨⟨by decide +kernel, by decide +kernel⟩, List.mem_of_getElem? (i := 813) (by decide +kernel), List.mem_of_getElem? (i := 1148) (by decide +kernel), List.mem_of_getElem? (i := 1149) (by decide +kernel)⟩
theorem lw_p65 : lw_okq (⟨"FerriedInWordsModel", "laysBack", "()V"⟩, 45) := ⟨⟨by decide +kernel, by decide +kernel⟩, List.mem_of_getElem? (i := 813) (by decide +kernel), List.mem_of_getElem? (i := 1152) (by decide +kernel), List.mem_of_getElem? (i := 1153) (by decide +kernel)⟩
theorem lw_p66 : lw_okq (⟨"FerriedInWordsModel", "byAll", "(I)I"⟩, 45) := ⟨⟨by decide +kernel, by decide +kernel⟩, List.mem_of_getElem? (i := 813) (by decide +kernel), List.mem_of_getElem? (i := 1160) (by decide +kernel), List.mem_of_getElem? (i := 1161) (by decide +kernel)⟩
theorem lw_p67 : lw_okq (⟨"FerriedInWordsModel", "rowsFrom", "(IIIIII)V"⟩, 45) := ⟨⟨by decide +kernel, by decide +kernel⟩, List.mem_of_getElem? (i := 813) (by decide +kernel), List.mem_of_getElem? (i := 1168) (by decide +kernel), List.mem_of_getElem? (i := 1169) (by decide +kernel)⟩
theorem lw_p68 : lw_okq (⟨"FerriedInWordsModel", "firstOther", "(II)I"⟩, 45) := ⟨⟨by decide +kernel, by decide +kernel⟩, List.mem_of_getElem? (i := 813) (by decide +kernel), List.mem_of_getElem? (i := 1192) (by decide +kernel), List.mem_of_getElem? (i := 1193) (by decide +kernel)⟩
theorem lw_p69 : lw_okq (⟨"FerriedInWordsModel", "likeSet", "(I)I"⟩, 45) := ⟨⟨by decide +kernel, by decide +kernel⟩, List.mem_of_getElem? (i := 813) (by decide +kernel), List.mem_of_getElem? (i := 1196) (by decide +kernel), List.mem_of_getElem? (i := 1197) (by decide +kernel)⟩
theorem lw_p70 : lw_okq (⟨"FerriedInWordsModel", "offDrawn", "(II)I"⟩, 45) := ⟨⟨by decide +kernel, by decide +kernel⟩, List.mem_of_getElem? (i := 813) (by decide +kernel), List.mem_of_getElem? (i := 1215) (by decide +kernel), List.mem_of_getElem? (i := 1216) (by decide +kernel)⟩
def lw_privs_5 : List (MethodName × Nat) := [(⟨"FerriedInWordsModel", "laysAside", "()V"⟩, 45), (⟨"FerriedInWordsModel", "laysBack", "()V"⟩, 45), (⟨"FerriedInWordsModel", "byAll", "(I)I"⟩, 45), (⟨"FerriedInWordsModel", "rowsFrom", "(IIIIII)V"⟩, 45), (⟨"FerriedInWordsModel", "firstOther", "(II)I"⟩, 45), (⟨"FerriedInWordsModel", "likeSet", "(I)I"⟩, 45), (⟨"FerriedInWordsModel", "offDrawn", "(II)I"⟩, 45)]
theorem lw_r5 : ∀ q ∈ lw_privs_5, lw_okq q := List.forall_mem_cons.mpr ⟨lw_p64, List.forall_mem_cons.mpr ⟨lw_p65, List.forall_mem_cons.mpr ⟨lw_p66, List.forall_mem_cons.mpr ⟨lw_p67, List.forall_mem_cons.mpr ⟨lw_p68, List.forall_mem_cons.mpr ⟨lw_p69, List.forall_mem_cons.mpr ⟨lw_p70, fun _ h => absurd h List.not_mem_nil⟩⟩⟩⟩⟩⟩⟩
def lw_privs : List (MethodName × Nat) := lw_privs_1 ++ (lw_privs_2 ++ (lw_privs_3 ++ (lw_privs_4 ++ (lw_privs_5))))
def lw_tbl : List Cond := k2_sels lw_privs ++ tables_1
theorem lw_privs_ok : ∀ q ∈ lw_privs, lw_okq q := by
  show ∀ q ∈ lw_privs_1 ++ (lw_privs_2 ++ (lw_privs_3 ++ (lw_privs_4 ++ (lw_privs_5)))), lw_okq q
  exact List.forall_mem_append.mpr ⟨lw_r1, List.forall_mem_append.mpr ⟨lw_r2, List.forall_mem_append.mpr ⟨lw_r3, List.forall_mem_append.mpr ⟨lw_r4, lw_r5⟩⟩⟩⟩
-- ===== end of PART A; then your names; then what follows =====
theorem goodIn_r {big : List Cond} (ws : List Cond) (ps : List Nat) (hp : ws = ps.filterMap (fun i => big[i]?)) (h : ws.all goodWord = true) : GoodIn big ws := by
  intro w hw
  have h1 := List.all_eq_true.mp h w hw
  rw [hp] at hw
  obtain ⟨i, -, hi⟩ := List.mem_filterMap.mp hw
  have hm : w ∈ big := by first | exact List.mem_of_getElem? hi | exact List.getElem?_mem hi
  exact ⟨hm, good_of_word h1⟩
theorem goodIn_app {big a b : List Cond} (ha : GoodIn big a) (hb : GoodIn big b) : GoodIn big (a ++ b) := fun w h => (List.mem_append.mp h).elim (ha w) (hb w)
theorem goodIn_ca {big a b : List Cond} {c : Cond} (ha : GoodIn big (c :: a)) (hb : GoodIn big b) : GoodIn big (c :: (a ++ b)) := fun w h => (List.mem_cons.mp h).elim (fun e => ha w (List.mem_cons.mpr (Or.inl e))) (fun h => (List.mem_append.mp h).elim (fun h => ha w (List.mem_cons.mpr (Or.inr h))) (hb w))
theorem goodIn_sub {big ws : List Cond} (hm : ∀ w ∈ ws, w ∈ big) (h : ws.all goodWord = true) : GoodIn big ws := fun w hw => ⟨hm w hw, good_of_word (List.all_eq_true.mp h w hw)⟩
def RX0 : String := "FerriedInWords$Crossing"
def TX0 : u_T := fun k => match k with
  | 0 => ("FerriedInWords$Crossing", "people", "[LFerriedInWords$One;", true)
  | 1 => ("FerriedInWords$Crossing", "jetty", "[I", true)
  | 2 => ("FerriedInWords$Crossing", "there", "I", false)
  | 3 => ("FerriedInWords$Crossing", "things", "I", false)
  | 4 => ("FerriedInWords$Crossing", "day", "I", false)
  | 5 => ("FerriedInWords$Crossing", "come", "I", false)
  | _ => ("FerriedInWords$Crossing", "rule", "I", false)
def tyX0 : Nat → FieldType := fun k => match k with
  | 0 => .array (.object "FerriedInWords$One")
  | 1 => .array .int
  | 2 => .int
  | 3 => .int
  | 4 => .int
  | 5 => .int
  | _ => .int
abbrev wsX00 : List Cond := u_ws RX0 TX0 7
theorem nmX0 : ∀ a, a < 7 → ∀ b, b < 7 → a ≠ b → (TX0 a).2.1 ≠ (TX0 b).2.1 := by decide +kernel
theorem tyX0_ok : ∀ k, k < 7 → parseFieldDescriptor (TX0 k).2.2.1 = some (tyX0 k) := by decide +kernel
abbrev cX0_init : ByteArray := prog_2_method_1_code
def yX0_init : MethodName := ⟨RX0, "<init>", "()V"⟩
abbrev cX0_isThere : ByteArray := prog_2_method_2_code
def yX0_isThere : MethodName := ⟨RX0, "isThere", "(I)Z"⟩
abbrev cX0_takeFirst : ByteArray := prog_2_method_3_code
def yX0_takeFirst : MethodName := ⟨RX0, "takeFirst", "()I"⟩
abbrev cX0_become : ByteArray := prog_2_method_4_code
def yX0_become : MethodName := ⟨RX0, "become", "(LFerriedInWords$Crossing;)V"⟩
def RX1 : String := "FerriedInWords$Engineer"
def TX1 : u_T := fun k => match k with
  | _ => ("", "", "", false)
def tyX1 : Nat → FieldType := fun k => match k with
  | _ => .int
abbrev wsX10 : List Cond := u_ws RX1 TX1 0
theorem nmX1 : ∀ a, a < 0 → ∀ b, b < 0 → a ≠ b → (TX1 a).2.1 ≠ (TX1 b).2.1 := by decide +kernel
theorem tyX1_ok : ∀ k, k < 0 → parseFieldDescriptor (TX1 k).2.2.1 = some (tyX1 k) := by decide +kernel
abbrev cX1_init : ByteArray := prog_3_method_1_code
def yX1_init : MethodName := ⟨RX1, "<init>", "()V"⟩
abbrev cX1_isUnder : ByteArray := prog_3_method_2_code
def yX1_isUnder : MethodName := ⟨RX1, "isUnder", "(I)Z"⟩
abbrev cX1_keptOf : ByteArray := prog_3_method_3_code
def yX1_keptOf : MethodName := ⟨RX1, "keptOf", "(II)I"⟩
abbrev cX1_wordsFor : ByteArray := prog_3_method_4_code
def yX1_wordsFor : MethodName := ⟨RX1, "wordsFor", "(LFerriedInWords$One;II)I"⟩
abbrev cX1_wearies : ByteArray := prog_3_method_5_code
def yX1_wearies : MethodName := ⟨RX1, "wearies", "(ILFerriedInWords$One;)I"⟩
abbrev cX1_takesIn : ByteArray := prog_3_method_6_code
def yX1_takesIn : MethodName := ⟨RX1, "takesIn", "(ZI)Z"⟩
def RX2 : String := "FerriedInWords$Father"
def TX2 : u_T := fun k => match k with
  | _ => ("", "", "", false)
def tyX2 : Nat → FieldType := fun k => match k with
  | _ => .int
abbrev wsX20 : List Cond := u_ws RX2 TX2 0
theorem nmX2 : ∀ a, a < 0 → ∀ b, b < 0 → a ≠ b → (TX2 a).2.1 ≠ (TX2 b).2.1 := by decide +kernel
theorem tyX2_ok : ∀ k, k < 0 → parseFieldDescriptor (TX2 k).2.2.1 = some (tyX2 k) := by decide +kernel
abbrev cX2_init : ByteArray := prog_4_method_1_code
def yX2_init : MethodName := ⟨RX2, "<init>", "()V"⟩
abbrev cX2_isUnder : ByteArray := prog_4_method_2_code
def yX2_isUnder : MethodName := ⟨RX2, "isUnder", "(I)Z"⟩
abbrev cX2_keptOf : ByteArray := prog_4_method_3_code
def yX2_keptOf : MethodName := ⟨RX2, "keptOf", "(II)I"⟩
abbrev cX2_wordsFor : ByteArray := prog_4_method_4_code
def yX2_wordsFor : MethodName := ⟨RX2, "wordsFor", "(LFerriedInWords$One;II)I"⟩
abbrev cX2_wearies : ByteArray := prog_4_method_5_code
def yX2_wearies : MethodName := ⟨RX2, "wearies", "(ILFerriedInWords$One;)I"⟩
abbrev cX2_takesIn : ByteArray := prog_4_method_6_code
def yX2_takesIn : MethodName := ⟨RX2, "takesIn", "(ZI)Z"⟩
def RX3 : String := "FerriedInWords$Liar"
def TX3 : u_T := fun k => match k with
  | _ => ("", "", "", false)
def tyX3 : Nat → FieldType := fun k => match k with
  | _ => .int
abbrev wsX30 : List Cond := u_ws RX3 TX3 0
theorem nmX3 : ∀ a, a < 0 → ∀ b, b < 0 → a ≠ b → (TX3 a).2.1 ≠ (TX3 b).2.1 := by decide +kernel
theorem tyX3_ok : ∀ k, k < 0 → parseFieldDescriptor (TX3 k).2.2.1 = some (tyX3 k) := by decide +kernel
abbrev cX3_init : ByteArray := prog_5_method_1_code
def yX3_init : MethodName := ⟨RX3, "<init>", "()V"⟩
abbrev cX3_isUnder : ByteArray := prog_5_method_2_code
def yX3_isUnder : MethodName := ⟨RX3, "isUnder", "(I)Z"⟩
abbrev cX3_wordsFor : ByteArray := prog_5_method_3_code
def yX3_wordsFor : MethodName := ⟨RX3, "wordsFor", "(LFerriedInWords$One;II)I"⟩
abbrev cX3_wearies : ByteArray := prog_5_method_4_code
def yX3_wearies : MethodName := ⟨RX3, "wearies", "(ILFerriedInWords$One;)I"⟩
abbrev cX3_takesIn : ByteArray := prog_5_method_5_code
def yX3_takesIn : MethodName := ⟨RX3, "takesIn", "(ZI)Z"⟩
def RX4 : String := "FerriedInWords$Lover"
def TX4 : u_T := fun k => match k with
  | _ => ("", "", "", false)
def tyX4 : Nat → FieldType := fun k => match k with
  | _ => .int
abbrev wsX40 : List Cond := u_ws RX4 TX4 0
theorem nmX4 : ∀ a, a < 0 → ∀ b, b < 0 → a ≠ b → (TX4 a).2.1 ≠ (TX4 b).2.1 := by decide +kernel
theorem tyX4_ok : ∀ k, k < 0 → parseFieldDescriptor (TX4 k).2.2.1 = some (tyX4 k) := by decide +kernel
abbrev cX4_init : ByteArray := prog_6_method_1_code
def yX4_init : MethodName := ⟨RX4, "<init>", "()V"⟩
abbrev cX4_isUnder : ByteArray := prog_6_method_2_code
def yX4_isUnder : MethodName := ⟨RX4, "isUnder", "(I)Z"⟩
abbrev cX4_keptOf : ByteArray := prog_6_method_3_code
def yX4_keptOf : MethodName := ⟨RX4, "keptOf", "(II)I"⟩
abbrev cX4_wordsFor : ByteArray := prog_6_method_4_code
def yX4_wordsFor : MethodName := ⟨RX4, "wordsFor", "(LFerriedInWords$One;II)I"⟩
abbrev cX4_wearies : ByteArray := prog_6_method_5_code
def yX4_wearies : MethodName := ⟨RX4, "wearies", "(ILFerriedInWords$One;)I"⟩
def RX5 : String := "FerriedInWords$One"
def TX5 : u_T := fun k => match k with
  | 0 => ("FerriedInWords$One", "kind", "I", false)
  | 1 => ("FerriedInWords$One", "number", "I", false)
  | 2 => ("FerriedInWords$One", "words", "I", false)
  | 3 => ("FerriedInWords$One", "memory", "I", false)
  | _ => ("FerriedInWords$One", "said", "I", false)
def tyX5 : Nat → FieldType := fun k => match k with
  | 0 => .int
  | 1 => .int
  | 2 => .int
  | 3 => .int
  | _ => .int
abbrev wsX50 : List Cond := u_ws RX5 TX5 5
theorem nmX5 : ∀ a, a < 5 → ∀ b, b < 5 → a ≠ b → (TX5 a).2.1 ≠ (TX5 b).2.1 := by decide +kernel
theorem tyX5_ok : ∀ k, k < 5 → parseFieldDescriptor (TX5 k).2.2.1 = some (tyX5 k) := by decide +kernel
abbrev cX5_init : ByteArray := prog_7_method_1_code
def yX5_init : MethodName := ⟨RX5, "<init>", "()V"⟩
abbrev cX5_worth : ByteArray := prog_7_method_2_code
def yX5_worth : MethodName := ⟨RX5, "worth", "(I)I"⟩
abbrev cX5_become : ByteArray := prog_7_method_3_code
def yX5_become : MethodName := ⟨RX5, "become", "(II)V"⟩
abbrev cX5_become_ : ByteArray := prog_7_method_4_code
def yX5_become_ : MethodName := ⟨RX5, "become", "(LFerriedInWords$One;)V"⟩
def RX6 : String := "FerriedInWords$Plain"
def TX6 : u_T := fun k => match k with
  | _ => ("", "", "", false)
def tyX6 : Nat → FieldType := fun k => match k with
  | _ => .int
abbrev wsX60 : List Cond := u_ws RX6 TX6 0
theorem nmX6 : ∀ a, a < 0 → ∀ b, b < 0 → a ≠ b → (TX6 a).2.1 ≠ (TX6 b).2.1 := by decide +kernel
theorem tyX6_ok : ∀ k, k < 0 → parseFieldDescriptor (TX6 k).2.2.1 = some (tyX6 k) := by decide +kernel
abbrev cX6_init : ByteArray := prog_8_method_1_code
def yX6_init : MethodName := ⟨RX6, "<init>", "()V"⟩
abbrev cX6_isUnder : ByteArray := prog_8_method_2_code
def yX6_isUnder : MethodName := ⟨RX6, "isUnder", "(I)Z"⟩
abbrev cX6_keptOf : ByteArray := prog_8_method_3_code
def yX6_keptOf : MethodName := ⟨RX6, "keptOf", "(II)I"⟩
abbrev cX6_wordsFor : ByteArray := prog_8_method_4_code
def yX6_wordsFor : MethodName := ⟨RX6, "wordsFor", "(LFerriedInWords$One;II)I"⟩
abbrev cX6_wearies : ByteArray := prog_8_method_5_code
def yX6_wearies : MethodName := ⟨RX6, "wearies", "(ILFerriedInWords$One;)I"⟩
abbrev cX6_takesIn : ByteArray := prog_8_method_6_code
def yX6_takesIn : MethodName := ⟨RX6, "takesIn", "(ZI)Z"⟩
def RX7 : String := "FerriedInWords$Reader"
def TX7 : u_T := fun k => match k with
  | 0 => ("FerriedInWords$Reader", "tape", "[I", true)
  | 1 => ("FerriedInWords$Reader", "size", "I", false)
  | 2 => ("FerriedInWords$Reader", "tokens", "[I", true)
  | 3 => ("FerriedInWords$Reader", "values", "[I", true)
  | 4 => ("FerriedInWords$Reader", "places", "[I", true)
  | 5 => ("FerriedInWords$Reader", "many", "I", false)
  | 6 => ("FerriedInWords$Reader", "at", "I", false)
  | 7 => ("FerriedInWords$Reader", "token", "I", false)
  | 8 => ("FerriedInWords$Reader", "fault", "I", false)
  | _ => ("FerriedInWords$Reader", "goal", "LFerriedInWords$Text;", false)
def tyX7 : Nat → FieldType := fun k => match k with
  | 0 => .array .int
  | 1 => .int
  | 2 => .array .int
  | 3 => .array .int
  | 4 => .array .int
  | 5 => .int
  | 6 => .int
  | 7 => .int
  | 8 => .int
  | _ => .object "FerriedInWords$Text"
abbrev wsX70 : List Cond := u_ws RX7 TX7 10
theorem nmX7 : ∀ a, a < 10 → ∀ b, b < 10 → a ≠ b → (TX7 a).2.1 ≠ (TX7 b).2.1 := by decide +kernel
theorem tyX7_ok : ∀ k, k < 10 → parseFieldDescriptor (TX7 k).2.2.1 = some (tyX7 k) := by decide +kernel
abbrev cX7_init : ByteArray := prog_9_method_1_code
def yX7_init : MethodName := ⟨RX7, "<init>", "(LFerriedInWords$Text;)V"⟩
abbrev cX7_put : ByteArray := prog_9_method_2_code
def yX7_put : MethodName := ⟨RX7, "put", "(I)Z"⟩
abbrev cX7_readInto : ByteArray := prog_9_method_3_code
def yX7_readInto : MethodName := ⟨RX7, "readInto", "(LFerriedInWords$Text;)I"⟩
abbrev cX7_readPart : ByteArray := prog_9_method_4_code
def yX7_readPart : MethodName := ⟨RX7, "readPart", "(II)V"⟩
abbrev cX7_readOrs : ByteArray := prog_9_method_5_code
def yX7_readOrs : MethodName := ⟨RX7, "readOrs", "(I)V"⟩
abbrev cX7_readAnds : ByteArray := prog_9_method_6_code
def yX7_readAnds : MethodName := ⟨RX7, "readAnds", "(I)V"⟩
abbrev cX7_readNot : ByteArray := prog_9_method_7_code
def yX7_readNot : MethodName := ⟨RX7, "readNot", "(I)V"⟩
abbrev cX7_readSum : ByteArray := prog_9_method_8_code
def yX7_readSum : MethodName := ⟨RX7, "readSum", "(I)V"⟩
abbrev cX7_readTerm : ByteArray := prog_9_method_9_code
def yX7_readTerm : MethodName := ⟨RX7, "readTerm", "(I)V"⟩
abbrev cX7_readOne : ByteArray := prog_9_method_10_code
def yX7_readOne : MethodName := ⟨RX7, "readOne", "(I)V"⟩
abbrev cX7_opens : ByteArray := prog_9_method_11_code
def yX7_opens : MethodName := ⟨RX7, "opens", "(I)Z"⟩
abbrev cX7_expect : ByteArray := prog_9_method_12_code
def yX7_expect : MethodName := ⟨RX7, "expect", "(I)V"⟩
abbrev cX7_fail : ByteArray := prog_9_method_13_code
def yX7_fail : MethodName := ⟨RX7, "fail", "()V"⟩
abbrev cX7_advance : ByteArray := prog_9_method_14_code
def yX7_advance : MethodName := ⟨RX7, "advance", "()V"⟩
abbrev cX7_split : ByteArray := prog_9_method_15_code
def yX7_split : MethodName := ⟨RX7, "split", "()V"⟩
abbrev cX7_addToken : ByteArray := prog_9_method_16_code
def yX7_addToken : MethodName := ⟨RX7, "addToken", "(III)V"⟩
abbrev cX7_splitOff : ByteArray := prog_9_method_17_code
def yX7_splitOff : MethodName := ⟨RX7, "splitOff", "(I)I"⟩
abbrev cX7_splitWord : ByteArray := prog_9_method_18_code
def yX7_splitWord : MethodName := ⟨RX7, "splitWord", "(I)I"⟩
abbrev cX7_splitNumber : ByteArray := prog_9_method_19_code
def yX7_splitNumber : MethodName := ⟨RX7, "splitNumber", "(I)I"⟩
abbrev cX7_isSign : ByteArray := prog_9_method_20_code
def yX7_isSign : MethodName := ⟨RX7, "isSign", "(I)Z"⟩
abbrev cX7_nameCode : ByteArray := prog_9_method_21_code
def yX7_nameCode : MethodName := ⟨RX7, "nameCode", "(II)I"⟩
abbrev cX7_keyToken : ByteArray := prog_9_method_22_code
def yX7_keyToken : MethodName := ⟨RX7, "keyToken", "(II)I"⟩
abbrev cX7_isWord : ByteArray := prog_9_method_23_code
def yX7_isWord : MethodName := ⟨RX7, "isWord", "(Ljava/lang/String;II)Z"⟩
def RX8 : String := "FerriedInWords$Sheet"
def TX8 : u_T := fun k => match k with
  | 0 => ("FerriedInWords$Sheet", "cells", "[I", true)
  | 1 => ("FerriedInWords$Sheet", "sort", "I", false)
  | _ => ("FerriedInWords$Sheet", "size", "I", false)
def tyX8 : Nat → FieldType := fun k => match k with
  | 0 => .array .int
  | 1 => .int
  | _ => .int
abbrev wsX80 : List Cond := u_ws RX8 TX8 3
theorem nmX8 : ∀ a, a < 3 → ∀ b, b < 3 → a ≠ b → (TX8 a).2.1 ≠ (TX8 b).2.1 := by decide +kernel
theorem tyX8_ok : ∀ k, k < 3 → parseFieldDescriptor (TX8 k).2.2.1 = some (tyX8 k) := by decide +kernel
abbrev cX8_init : ByteArray := prog_10_method_1_code
def yX8_init : MethodName := ⟨RX8, "<init>", "()V"⟩
abbrev cX8_isMissing : ByteArray := prog_10_method_2_code
def yX8_isMissing : MethodName := ⟨RX8, "isMissing", "()Z"⟩
abbrev cX8_has : ByteArray := prog_10_method_3_code
def yX8_has : MethodName := ⟨RX8, "has", "(II)Z"⟩
abbrev cX8_become : ByteArray := prog_10_method_4_code
def yX8_become : MethodName := ⟨RX8, "become", "(II)V"⟩
abbrev cX8_put : ByteArray := prog_10_method_5_code
def yX8_put : MethodName := ⟨RX8, "put", "(II)V"⟩
def RX9 : String := "FerriedInWords$Teller"
def TX9 : u_T := fun k => match k with
  | _ => ("", "", "", false)
def tyX9 : Nat → FieldType := fun k => match k with
  | _ => .int
abbrev wsX90 : List Cond := u_ws RX9 TX9 0
theorem nmX9 : ∀ a, a < 0 → ∀ b, b < 0 → a ≠ b → (TX9 a).2.1 ≠ (TX9 b).2.1 := by decide +kernel
theorem tyX9_ok : ∀ k, k < 0 → parseFieldDescriptor (TX9 k).2.2.1 = some (tyX9 k) := by decide +kernel
abbrev cX9_init : ByteArray := prog_11_method_1_code
def yX9_init : MethodName := ⟨RX9, "<init>", "()V"⟩
abbrev cX9_isUnder : ByteArray := prog_11_method_2_code
def yX9_isUnder : MethodName := ⟨RX9, "isUnder", "(I)Z"⟩
abbrev cX9_keptOf : ByteArray := prog_11_method_3_code
def yX9_keptOf : MethodName := ⟨RX9, "keptOf", "(II)I"⟩
abbrev cX9_wordsFor : ByteArray := prog_11_method_4_code
def yX9_wordsFor : MethodName := ⟨RX9, "wordsFor", "(LFerriedInWords$One;II)I"⟩
abbrev cX9_wearies : ByteArray := prog_11_method_5_code
def yX9_wearies : MethodName := ⟨RX9, "wearies", "(ILFerriedInWords$One;)I"⟩
abbrev cX9_takesIn : ByteArray := prog_11_method_6_code
def yX9_takesIn : MethodName := ⟨RX9, "takesIn", "(ZI)Z"⟩
def RX10 : String := "FerriedInWords$Text"
def TX10 : u_T := fun k => match k with
  | 0 => ("FerriedInWords$Text", "codes", "[I", true)
  | 1 => ("FerriedInWords$Text", "ends", "[I", true)
  | _ => ("FerriedInWords$Text", "size", "I", false)
def tyX10 : Nat → FieldType := fun k => match k with
  | 0 => .array .int
  | 1 => .array .int
  | _ => .int
abbrev wsX100 : List Cond := u_ws RX10 TX10 3
theorem nmX10 : ∀ a, a < 3 → ∀ b, b < 3 → a ≠ b → (TX10 a).2.1 ≠ (TX10 b).2.1 := by decide +kernel
theorem tyX10_ok : ∀ k, k < 3 → parseFieldDescriptor (TX10 k).2.2.1 = some (tyX10 k) := by decide +kernel
abbrev cX10_init : ByteArray := prog_12_method_1_code
def yX10_init : MethodName := ⟨RX10, "<init>", "()V"⟩
abbrev cX10_add : ByteArray := prog_12_method_2_code
def yX10_add : MethodName := ⟨RX10, "add", "(I)V"⟩
abbrev cX10_worth : ByteArray := prog_12_method_3_code
def yX10_worth : MethodName := ⟨RX10, "worth", "(ILFerriedInWords$One;II[I)I"⟩
abbrev cX10_named : ByteArray := prog_12_method_4_code
def yX10_named : MethodName := ⟨RX10, "named", "(ILFerriedInWords$One;II)I"⟩
abbrev cX10_ofOne : ByteArray := prog_12_method_5_code
def yX10_ofOne : MethodName := ⟨RX10, "ofOne", "(II)I"⟩
abbrev cX10_ofTwo : ByteArray := prog_12_method_6_code
def yX10_ofTwo : MethodName := ⟨RX10, "ofTwo", "(III)I"⟩
def RX11 : String := "FerriedInWords"
def TX11 : u_T := fun k => match k with
  | 0 => ("FerriedInWords", "kinds", "[LFerriedInWords$Teller;", true)
  | 1 => ("FerriedInWords", "now", "LFerriedInWords$Crossing;", true)
  | 2 => ("FerriedInWords", "kept", "LFerriedInWords$Crossing;", true)
  | 3 => ("FerriedInWords", "thought", "LFerriedInWords$Crossing;", true)
  | 4 => ("FerriedInWords", "hasImage", "Z", false)
  | 5 => ("FerriedInWords", "texts", "[LFerriedInWords$Text;", true)
  | 6 => ("FerriedInWords", "reader", "LFerriedInWords$Reader;", true)
  | 7 => ("FerriedInWords", "textsThere", "I", false)
  | 8 => ("FerriedInWords", "stack", "[I", true)
  | 9 => ("FerriedInWords", "sheets", "[LFerriedInWords$Sheet;", true)
  | 10 => ("FerriedInWords", "trail", "[I", true)
  | 11 => ("FerriedInWords", "bestRow", "I", false)
  | _ => ("FerriedInWords", "bestOff", "I", false)
def tyX11 : Nat → FieldType := fun k => match k with
  | 0 => .array (.object "FerriedInWords$Teller")
  | 1 => .object "FerriedInWords$Crossing"
  | 2 => .object "FerriedInWords$Crossing"
  | 3 => .object "FerriedInWords$Crossing"
  | 4 => .boolean
  | 5 => .array (.object "FerriedInWords$Text")
  | 6 => .object "FerriedInWords$Reader"
  | 7 => .int
  | 8 => .array .int
  | 9 => .array (.object "FerriedInWords$Sheet")
  | 10 => .array .int
  | 11 => .int
  | _ => .int
abbrev wsX110 : List Cond := u_ws RX11 TX11 13
theorem nmX11 : ∀ a, a < 13 → ∀ b, b < 13 → a ≠ b → (TX11 a).2.1 ≠ (TX11 b).2.1 := by decide +kernel
theorem tyX11_ok : ∀ k, k < 13 → parseFieldDescriptor (TX11 k).2.2.1 = some (tyX11 k) := by decide +kernel
abbrev cX11_init : ByteArray := prog_1_method_1_code
def yX11_init : MethodName := ⟨RX11, "<init>", "()V"⟩
abbrev cX11_set : ByteArray := prog_1_method_2_code
def yX11_set : MethodName := ⟨RX11, "set", "(III)I"⟩
abbrev cX11_person : ByteArray := prog_1_method_3_code
def yX11_person : MethodName := ⟨RX11, "person", "(IIII)I"⟩
abbrev cX11_told : ByteArray := prog_1_method_4_code
def yX11_told : MethodName := ⟨RX11, "told", "(II)I"⟩
abbrev cX11_brings : ByteArray := prog_1_method_5_code
def yX11_brings : MethodName := ⟨RX11, "brings", "(I)I"⟩
abbrev cX11_asks : ByteArray := prog_1_method_6_code
def yX11_asks : MethodName := ⟨RX11, "asks", "(III)I"⟩
abbrev cX11_most : ByteArray := prog_1_method_7_code
def yX11_most : MethodName := ⟨RX11, "most", "(I)I"⟩
abbrev cX11_isSet : ByteArray := prog_1_method_8_code
def yX11_isSet : MethodName := ⟨RX11, "isSet", "(I)Z"⟩
abbrev cX11_feed : ByteArray := prog_1_method_9_code
def yX11_feed : MethodName := ⟨RX11, "feed", "(I)I"⟩
abbrev cX11_text : ByteArray := prog_1_method_10_code
def yX11_text : MethodName := ⟨RX11, "text", "()I"⟩
abbrev cX11_force : ByteArray := prog_1_method_11_code
def yX11_force : MethodName := ⟨RX11, "force", "(I)I"⟩
abbrev cX11_ruleOf : ByteArray := prog_1_method_12_code
def yX11_ruleOf : MethodName := ⟨RX11, "ruleOf", "(LFerriedInWords$Crossing;)LFerriedInWords$Text;"⟩
abbrev cX11_over : ByteArray := prog_1_method_13_code
def yX11_over : MethodName := ⟨RX11, "over", "(III)I"⟩
abbrev cX11_day : ByteArray := prog_1_method_14_code
def yX11_day : MethodName := ⟨RX11, "day", "()I"⟩
abbrev cX11_run : ByteArray := prog_1_method_15_code
def yX11_run : MethodName := ⟨RX11, "run", "(II)I"⟩
abbrev cX11_isAskedOfRun : ByteArray := prog_1_method_16_code
def yX11_isAskedOfRun : MethodName := ⟨RX11, "isAskedOfRun", "(I)Z"⟩
abbrev cX11_kindOf : ByteArray := prog_1_method_17_code
def yX11_kindOf : MethodName := ⟨RX11, "kindOf", "(LFerriedInWords$One;)LFerriedInWords$Teller;"⟩
abbrev cX11_keeping : ByteArray := prog_1_method_18_code
def yX11_keeping : MethodName := ⟨RX11, "keeping", "(LFerriedInWords$Crossing;LFerriedInWords$One;I)I"⟩
abbrev cX11_telling : ByteArray := prog_1_method_19_code
def yX11_telling : MethodName := ⟨RX11, "telling", "(LFerriedInWords$Crossing;LFerriedInWords$One;I)I"⟩
abbrev cX11_tiring : ByteArray := prog_1_method_20_code
def yX11_tiring : MethodName := ⟨RX11, "tiring", "(LFerriedInWords$Crossing;LFerriedInWords$One;I)I"⟩
abbrev cX11_learning : ByteArray := prog_1_method_21_code
def yX11_learning : MethodName := ⟨RX11, "learning", "(LFerriedInWords$Crossing;LFerriedInWords$One;I)Z"⟩
abbrev cX11_toldByAll : ByteArray := prog_1_method_22_code
def yX11_toldByAll : MethodName := ⟨RX11, "toldByAll", "(LFerriedInWords$Crossing;I)I"⟩
abbrev cX11_toldByRow : ByteArray := prog_1_method_23_code
def yX11_toldByRow : MethodName := ⟨RX11, "toldByRow", "(LFerriedInWords$Sheet;I)I"⟩
abbrev cX11_passDay : ByteArray := prog_1_method_24_code
def yX11_passDay : MethodName := ⟨RX11, "passDay", "(LFerriedInWords$Crossing;)I"⟩
abbrev cX11_tellTruly : ByteArray := prog_1_method_25_code
def yX11_tellTruly : MethodName := ⟨RX11, "tellTruly", "(LFerriedInWords$Crossing;LFerriedInWords$One;I)I"⟩
abbrev cX11_off : ByteArray := prog_1_method_26_code
def yX11_off : MethodName := ⟨RX11, "off", "(II)I"⟩
abbrev cX11_lowest : ByteArray := prog_1_method_27_code
def yX11_lowest : MethodName := ⟨RX11, "lowest", "(I)I"⟩
abbrev cX11_within : ByteArray := prog_1_method_28_code
def yX11_within : MethodName := ⟨RX11, "within", "(II)I"⟩
abbrev cX11_fro : ByteArray := prog_1_method_29_code
def yX11_fro : MethodName := ⟨RX11, "fro", "(II)I"⟩
abbrev cX11_row : ByteArray := prog_1_method_30_code
def yX11_row : MethodName := ⟨RX11, "row", "(III)I"⟩
abbrev cX11_tryRows : ByteArray := prog_1_method_31_code
def yX11_tryRows : MethodName := ⟨RX11, "tryRows", "(IIIII)V"⟩
abbrev cX11_learn : ByteArray := prog_1_method_32_code
def yX11_learn : MethodName := ⟨RX11, "learn", "(II)I"⟩
abbrev cX11_toldWithMore : ByteArray := prog_1_method_33_code
def yX11_toldWithMore : MethodName := ⟨RX11, "toldWithMore", "(II)I"⟩
abbrev cX11_from : ByteArray := prog_1_method_34_code
def yX11_from : MethodName := ⟨RX11, "from", "(II)I"⟩
abbrev cX11_mean : ByteArray := prog_1_method_35_code
def yX11_mean : MethodName := ⟨RX11, "mean", "(I)J"⟩
abbrev cX11_inLowestTerms : ByteArray := prog_1_method_36_code
def yX11_inLowestTerms : MethodName := ⟨RX11, "inLowestTerms", "(III)J"⟩
abbrev cX11_commonDivisor : ByteArray := prog_1_method_37_code
def yX11_commonDivisor : MethodName := ⟨RX11, "commonDivisor", "(II)I"⟩
abbrev cX11_tells : ByteArray := prog_1_method_38_code
def yX11_tells : MethodName := ⟨RX11, "tells", "(III)I"⟩
abbrev cX11_suiting : ByteArray := prog_1_method_39_code
def yX11_suiting : MethodName := ⟨RX11, "suiting", "(LFerriedInWords$Sheet;IIII)I"⟩
abbrev cX11_vary : ByteArray := prog_1_method_40_code
def yX11_vary : MethodName := ⟨RX11, "vary", "(III)V"⟩
abbrev cX11_firstOtherwise : ByteArray := prog_1_method_41_code
def yX11_firstOtherwise : MethodName := ⟨RX11, "firstOtherwise", "(LFerriedInWords$Sheet;I)I"⟩
abbrev cX11_film : ByteArray := prog_1_method_42_code
def yX11_film : MethodName := ⟨RX11, "film", "(II)I"⟩
abbrev cX11_drawn : ByteArray := prog_1_method_43_code
def yX11_drawn : MethodName := ⟨RX11, "drawn", "(II)I"⟩
abbrev cX11_chance : ByteArray := prog_1_method_44_code
def yX11_chance : MethodName := ⟨RX11, "chance", "(IIII)J"⟩
abbrev cX11_offOfDrawn : ByteArray := prog_1_method_45_code
def yX11_offOfDrawn : MethodName := ⟨RX11, "offOfDrawn", "(II)I"⟩
abbrev cX11_image : ByteArray := prog_1_method_46_code
def yX11_image : MethodName := ⟨RX11, "image", "()I"⟩
abbrev cX11_back : ByteArray := prog_1_method_47_code
def yX11_back : MethodName := ⟨RX11, "back", "()I"⟩
abbrev cX11_count : ByteArray := prog_1_method_48_code
def yX11_count : MethodName := ⟨RX11, "count", "(I)I"⟩
abbrev cX11_sheet : ByteArray := prog_1_method_49_code
def yX11_sheet : MethodName := ⟨RX11, "sheet", "(III)I"⟩
abbrev cX11_cell : ByteArray := prog_1_method_50_code
def yX11_cell : MethodName := ⟨RX11, "cell", "(III)I"⟩
abbrev cX11_copy : ByteArray := prog_1_method_51_code
def yX11_copy : MethodName := ⟨RX11, "copy", "(IIIII)I"⟩
abbrev cX11_crew : ByteArray := prog_1_method_52_code
def yX11_crew : MethodName := ⟨RX11, "crew", "(IIII)I"⟩
abbrev cX11_taken : ByteArray := prog_1_method_53_code
def yX11_taken : MethodName := ⟨RX11, "taken", "(II)I"⟩
abbrev cX11_isSheet : ByteArray := prog_1_method_54_code
def yX11_isSheet : MethodName := ⟨RX11, "isSheet", "(I)Z"⟩
def RX12 : String := "FerriedInWordsModel"
def TX12 : u_T := fun k => match k with
  | 0 => ("FerriedInWordsModel", "thrown", "I", false)
  | 1 => ("FerriedInWordsModel", "texts", "[I", true)
  | 2 => ("FerriedInWordsModel", "textSize", "[I", true)
  | 3 => ("FerriedInWordsModel", "textCount", "I", false)
  | 4 => ("FerriedInWordsModel", "rule", "I", false)
  | 5 => ("FerriedInWordsModel", "tape", "[I", true)
  | 6 => ("FerriedInWordsModel", "taped", "I", false)
  | 7 => ("FerriedInWordsModel", "dayNow", "I", false)
  | 8 => ("FerriedInWordsModel", "rows", "[I", true)
  | 9 => ("FerriedInWordsModel", "many", "I", false)
  | 10 => ("FerriedInWordsModel", "jetty", "[I", true)
  | 11 => ("FerriedInWordsModel", "jettySize", "I", false)
  | 12 => ("FerriedInWordsModel", "comeOver", "I", false)
  | 13 => ("FerriedInWordsModel", "learnt", "I", false)
  | 14 => ("FerriedInWordsModel", "ofWords", "I", false)
  | 15 => ("FerriedInWordsModel", "ofMemory", "I", false)
  | 16 => ("FerriedInWordsModel", "ofNumber", "I", false)
  | 17 => ("FerriedInWordsModel", "ofDay", "I", false)
  | 18 => ("FerriedInWordsModel", "ofParts", "I", false)
  | 19 => ("FerriedInWordsModel", "ofSaid", "I", false)
  | 20 => ("FerriedInWordsModel", "textFrom", "I", false)
  | 21 => ("FerriedInWordsModel", "size", "I", false)
  | 22 => ("FerriedInWordsModel", "here", "I", false)
  | 23 => ("FerriedInWordsModel", "token", "I", false)
  | 24 => ("FerriedInWordsModel", "tokenAt", "I", false)
  | 25 => ("FerriedInWordsModel", "tokenWorth", "J", false)
  | 26 => ("FerriedInWordsModel", "open", "I", false)
  | 27 => ("FerriedInWordsModel", "bad", "Z", false)
  | 28 => ("FerriedInWordsModel", "fault", "I", false)
  | 29 => ("FerriedInWordsModel", "was", "[I", true)
  | 30 => ("FerriedInWordsModel", "trail", "[I", true)
  | 31 => ("FerriedInWordsModel", "bestRow", "I", false)
  | 32 => ("FerriedInWordsModel", "bestOff", "I", false)
  | 33 => ("FerriedInWordsModel", "bestSize", "I", false)
  | 34 => ("FerriedInWordsModel", "rowsKept", "[I", true)
  | 35 => ("FerriedInWordsModel", "jettyKept", "[I", true)
  | 36 => ("FerriedInWordsModel", "manyKept", "I", false)
  | 37 => ("FerriedInWordsModel", "jettySizeKept", "I", false)
  | 38 => ("FerriedInWordsModel", "comeKept", "I", false)
  | 39 => ("FerriedInWordsModel", "dayKept", "I", false)
  | 40 => ("FerriedInWordsModel", "ruleKept", "I", false)
  | 41 => ("FerriedInWordsModel", "isThere", "[Z", true)
  | 42 => ("FerriedInWordsModel", "sorts", "[I", true)
  | 43 => ("FerriedInWordsModel", "sheetSize", "[I", true)
  | _ => ("FerriedInWordsModel", "items", "[I", true)
def tyX12 : Nat → FieldType := fun k => match k with
  | 0 => .int
  | 1 => .array .int
  | 2 => .array .int
  | 3 => .int
  | 4 => .int
  | 5 => .array .int
  | 6 => .int
  | 7 => .int
  | 8 => .array .int
  | 9 => .int
  | 10 => .array .int
  | 11 => .int
  | 12 => .int
  | 13 => .int
  | 14 => .int
  | 15 => .int
  | 16 => .int
  | 17 => .int
  | 18 => .int
  | 19 => .int
  | 20 => .int
  | 21 => .int
  | 22 => .int
  | 23 => .int
  | 24 => .int
  | 25 => .long
  | 26 => .int
  | 27 => .boolean
  | 28 => .int
  | 29 => .array .int
  | 30 => .array .int
  | 31 => .int
  | 32 => .int
  | 33 => .int
  | 34 => .array .int
  | 35 => .array .int
  | 36 => .int
  | 37 => .int
  | 38 => .int
  | 39 => .int
  | 40 => .int
  | 41 => .array .boolean
  | 42 => .array .int
  | 43 => .array .int
  | _ => .array .int
abbrev wsX120 : List Cond := u_ws RX12 TX12 45
theorem nmX12 : ∀ a, a < 45 → ∀ b, b < 45 → a ≠ b → (TX12 a).2.1 ≠ (TX12 b).2.1 := by decide +kernel
theorem tyX12_ok : ∀ k, k < 45 → parseFieldDescriptor (TX12 k).2.2.1 = some (tyX12 k) := by decide +kernel
abbrev cX12_in : ByteArray := prog_14_method_2_code
def yX12_in : MethodName := ⟨RX12, "in", "(JJJ)Z"⟩
abbrev cX12_within : ByteArray := prog_14_method_3_code
def yX12_within : MethodName := ⟨RX12, "within", "(III)I"⟩
abbrev cX12_init : ByteArray := prog_14_method_4_code
def yX12_init : MethodName := ⟨RX12, "<init>", "()V"⟩
abbrev cX12_spell : ByteArray := prog_14_method_5_code
def yX12_spell : MethodName := ⟨RX12, "spell", "(IIIIIIIII)V"⟩
abbrev cX12_isOne : ByteArray := prog_14_method_6_code
def yX12_isOne : MethodName := ⟨RX12, "isOne", "(I)Z"⟩
abbrev cX12_isOf : ByteArray := prog_14_method_7_code
def yX12_isOf : MethodName := ⟨RX12, "isOf", "(II)Z"⟩
abbrev cX12_mostOf : ByteArray := prog_14_method_8_code
def yX12_mostOf : MethodName := ⟨RX12, "mostOf", "(I)I"⟩
abbrev cX12_set : ByteArray := prog_14_method_9_code
def yX12_set : MethodName := ⟨RX12, "set", "(III)I"⟩
abbrev cX12_lays : ByteArray := prog_14_method_10_code
def yX12_lays : MethodName := ⟨RX12, "lays", "(III)V"⟩
abbrev cX12_person : ByteArray := prog_14_method_11_code
def yX12_person : MethodName := ⟨RX12, "person", "(IIII)I"⟩
abbrev cX12_told : ByteArray := prog_14_method_12_code
def yX12_told : MethodName := ⟨RX12, "told", "(II)I"⟩
abbrev cX12_brings : ByteArray := prog_14_method_13_code
def yX12_brings : MethodName := ⟨RX12, "brings", "(I)I"⟩
abbrev cX12_feed : ByteArray := prog_14_method_14_code
def yX12_feed : MethodName := ⟨RX12, "feed", "(I)I"⟩
abbrev cX12_byteAt : ByteArray := prog_14_method_15_code
def yX12_byteAt : MethodName := ⟨RX12, "byteAt", "(I)I"⟩
abbrev cX12_next : ByteArray := prog_14_method_16_code
def yX12_next : MethodName := ⟨RX12, "next", "()V"⟩
abbrev cX12_fail : ByteArray := prog_14_method_17_code
def yX12_fail : MethodName := ⟨RX12, "fail", "()V"⟩
abbrev cX12_isLetter : ByteArray := prog_14_method_18_code
def yX12_isLetter : MethodName := ⟨RX12, "isLetter", "(II)Z"⟩
abbrev cX12_isWord : ByteArray := prog_14_method_19_code
def yX12_isWord : MethodName := ⟨RX12, "isWord", "(IIIIIIII)Z"⟩
abbrev cX12_isSign : ByteArray := prog_14_method_20_code
def yX12_isSign : MethodName := ⟨RX12, "isSign", "(I)Z"⟩
abbrev cX12_opens : ByteArray := prog_14_method_21_code
def yX12_opens : MethodName := ⟨RX12, "opens", "()Z"⟩
abbrev cX12_name : ByteArray := prog_14_method_22_code
def yX12_name : MethodName := ⟨RX12, "name", "()I"⟩
abbrev cX12_atom : ByteArray := prog_14_method_23_code
def yX12_atom : MethodName := ⟨RX12, "atom", "()I"⟩
abbrev cX12_term : ByteArray := prog_14_method_24_code
def yX12_term : MethodName := ⟨RX12, "term", "()I"⟩
abbrev cX12_added : ByteArray := prog_14_method_25_code
def yX12_added : MethodName := ⟨RX12, "added", "()I"⟩
abbrev cX12_not : ByteArray := prog_14_method_26_code
def yX12_not : MethodName := ⟨RX12, "not", "()I"⟩
abbrev cX12_both : ByteArray := prog_14_method_27_code
def yX12_both : MethodName := ⟨RX12, "both", "()I"⟩
abbrev cX12_either : ByteArray := prog_14_method_28_code
def yX12_either : MethodName := ⟨RX12, "either", "()I"⟩
abbrev cX12_part : ByteArray := prog_14_method_29_code
def yX12_part : MethodName := ⟨RX12, "part", "(Z)I"⟩
abbrev cX12_read : ByteArray := prog_14_method_30_code
def yX12_read : MethodName := ⟨RX12, "read", "(II)I"⟩
abbrev cX12_text : ByteArray := prog_14_method_31_code
def yX12_text : MethodName := ⟨RX12, "text", "()I"⟩
abbrev cX12_force : ByteArray := prog_14_method_32_code
def yX12_force : MethodName := ⟨RX12, "force", "(I)I"⟩
abbrev cX12_bitsOf : ByteArray := prog_14_method_33_code
def yX12_bitsOf : MethodName := ⟨RX12, "bitsOf", "(I)I"⟩
abbrev cX12_wordsOf : ByteArray := prog_14_method_34_code
def yX12_wordsOf : MethodName := ⟨RX12, "wordsOf", "(I)I"⟩
abbrev cX12_says : ByteArray := prog_14_method_35_code
def yX12_says : MethodName := ⟨RX12, "says", "(III)I"⟩
abbrev cX12_keepsOf : ByteArray := prog_14_method_36_code
def yX12_keepsOf : MethodName := ⟨RX12, "keepsOf", "(II)I"⟩
abbrev cX12_tellsOf : ByteArray := prog_14_method_37_code
def yX12_tellsOf : MethodName := ⟨RX12, "tellsOf", "(II)I"⟩
abbrev cX12_tiresOf : ByteArray := prog_14_method_38_code
def yX12_tiresOf : MethodName := ⟨RX12, "tiresOf", "(II)I"⟩
abbrev cX12_learns : ByteArray := prog_14_method_39_code
def yX12_learns : MethodName := ⟨RX12, "learns", "(II)Z"⟩
abbrev cX12_asks : ByteArray := prog_14_method_40_code
def yX12_asks : MethodName := ⟨RX12, "asks", "(III)I"⟩
abbrev cX12_byAll : ByteArray := prog_14_method_41_code
def yX12_byAll : MethodName := ⟨RX12, "byAll", "(I)I"⟩
abbrev cX12_off : ByteArray := prog_14_method_42_code
def yX12_off : MethodName := ⟨RX12, "off", "(II)I"⟩
abbrev cX12_over : ByteArray := prog_14_method_43_code
def yX12_over : MethodName := ⟨RX12, "over", "(III)I"⟩
abbrev cX12_tellsTruly : ByteArray := prog_14_method_44_code
def yX12_tellsTruly : MethodName := ⟨RX12, "tellsTruly", "(II)I"⟩
abbrev cX12_passes : ByteArray := prog_14_method_45_code
def yX12_passes : MethodName := ⟨RX12, "passes", "()I"⟩
abbrev cX12_day : ByteArray := prog_14_method_46_code
def yX12_day : MethodName := ⟨RX12, "day", "()I"⟩
abbrev cX12_laysAside : ByteArray := prog_14_method_47_code
def yX12_laysAside : MethodName := ⟨RX12, "laysAside", "()V"⟩
abbrev cX12_laysBack : ByteArray := prog_14_method_48_code
def yX12_laysBack : MethodName := ⟨RX12, "laysBack", "()V"⟩
abbrev cX12_run : ByteArray := prog_14_method_49_code
def yX12_run : MethodName := ⟨RX12, "run", "(II)I"⟩
abbrev cX12_fro : ByteArray := prog_14_method_50_code
def yX12_fro : MethodName := ⟨RX12, "fro", "(II)I"⟩
abbrev cX12_rowsFrom : ByteArray := prog_14_method_51_code
def yX12_rowsFrom : MethodName := ⟨RX12, "rowsFrom", "(IIIIII)V"⟩
abbrev cX12_row : ByteArray := prog_14_method_52_code
def yX12_row : MethodName := ⟨RX12, "row", "(III)I"⟩
abbrev cX12_learn : ByteArray := prog_14_method_53_code
def yX12_learn : MethodName := ⟨RX12, "learn", "(II)I"⟩
abbrev cX12_from : ByteArray := prog_14_method_54_code
def yX12_from : MethodName := ⟨RX12, "from", "(II)I"⟩
abbrev cX12_lowest : ByteArray := prog_14_method_55_code
def yX12_lowest : MethodName := ⟨RX12, "lowest", "(JJI)J"⟩
abbrev cX12_mean : ByteArray := prog_14_method_56_code
def yX12_mean : MethodName := ⟨RX12, "mean", "(I)J"⟩
abbrev cX12_firstOther : ByteArray := prog_14_method_57_code
def yX12_firstOther : MethodName := ⟨RX12, "firstOther", "(II)I"⟩
abbrev cX12_likeSet : ByteArray := prog_14_method_58_code
def yX12_likeSet : MethodName := ⟨RX12, "likeSet", "(I)I"⟩
abbrev cX12_tells : ByteArray := prog_14_method_59_code
def yX12_tells : MethodName := ⟨RX12, "tells", "(III)I"⟩
abbrev cX12_film : ByteArray := prog_14_method_60_code
def yX12_film : MethodName := ⟨RX12, "film", "(II)I"⟩
abbrev cX12_offDrawn : ByteArray := prog_14_method_61_code
def yX12_offDrawn : MethodName := ⟨RX12, "offDrawn", "(II)I"⟩
abbrev cX12_drawn : ByteArray := prog_14_method_62_code
def yX12_drawn : MethodName := ⟨RX12, "drawn", "(II)I"⟩
abbrev cX12_chance : ByteArray := prog_14_method_63_code
def yX12_chance : MethodName := ⟨RX12, "chance", "(IIII)J"⟩
abbrev cX12_image : ByteArray := prog_14_method_64_code
def yX12_image : MethodName := ⟨RX12, "image", "()I"⟩
abbrev cX12_back : ByteArray := prog_14_method_65_code
def yX12_back : MethodName := ⟨RX12, "back", "()I"⟩
abbrev cX12_count : ByteArray := prog_14_method_66_code
def yX12_count : MethodName := ⟨RX12, "count", "(I)I"⟩
abbrev cX12_isSheet : ByteArray := prog_14_method_67_code
def yX12_isSheet : MethodName := ⟨RX12, "isSheet", "(I)Z"⟩
abbrev cX12_sheet : ByteArray := prog_14_method_68_code
def yX12_sheet : MethodName := ⟨RX12, "sheet", "(III)I"⟩
abbrev cX12_cell : ByteArray := prog_14_method_69_code
def yX12_cell : MethodName := ⟨RX12, "cell", "(III)I"⟩
abbrev cX12_copy : ByteArray := prog_14_method_70_code
def yX12_copy : MethodName := ⟨RX12, "copy", "(IIIII)I"⟩
abbrev cX12_crew : ByteArray := prog_14_method_71_code
def yX12_crew : MethodName := ⟨RX12, "crew", "(IIII)I"⟩
abbrev cX12_above : ByteArray := prog_14_method_72_code
def yX12_above : MethodName := ⟨RX12, "above", "(I)I"⟩
abbrev cX12_taken : ByteArray := prog_14_method_73_code
def yX12_taken : MethodName := ⟨RX12, "taken", "(II)I"⟩
def RJ6 : String := "java/lang/Integer"
def TJ6 : u_T := fun k => match k with
  | _ => ("", "", "", false)
def tyJ6 : Nat → FieldType := fun k => match k with
  | _ => .int
abbrev wsJ60 : List Cond := u_ws RJ6 TJ6 0
theorem nmJ6 : ∀ a, a < 0 → ∀ b, b < 0 → a ≠ b → (TJ6 a).2.1 ≠ (TJ6 b).2.1 := by decide +kernel
theorem tyJ6_ok : ∀ k, k < 0 → parseFieldDescriptor (TJ6 k).2.2.1 = some (tyJ6 k) := by decide +kernel
abbrev cJ6_bitCount_0f7a4 : ByteArray := prog_15_method_49_code
def yJ6_bitCount_0f7a4 : MethodName := ⟨RJ6, "bitCount", "(I)I"⟩
def RJ9 : String := "java/lang/Math"
def TJ9 : u_T := fun k => match k with
  | _ => ("", "", "", false)
def tyJ9 : Nat → FieldType := fun k => match k with
  | _ => .int
abbrev wsJ90 : List Cond := u_ws RJ9 TJ9 0
theorem nmJ9 : ∀ a, a < 0 → ∀ b, b < 0 → a ≠ b → (TJ9 a).2.1 ≠ (TJ9 b).2.1 := by decide +kernel
theorem tyJ9_ok : ∀ k, k < 0 → parseFieldDescriptor (TJ9 k).2.2.1 = some (tyJ9 k) := by decide +kernel
abbrev cJ9_max_7cf53 : ByteArray := prog_16_method_65_code
def yJ9_max_7cf53 : MethodName := ⟨RJ9, "max", "(II)I"⟩
abbrev cJ9_min_7cf53 : ByteArray := prog_16_method_69_code
def yJ9_min_7cf53 : MethodName := ⟨RJ9, "min", "(II)I"⟩
def RJ0 : String := "java/lang/String"
def TJ0 : u_T := fun k => match k with
  | _ => ("", "", "", false)
def tyJ0 : Nat → FieldType := fun k => match k with
  | _ => .int
abbrev wsJ00 : List Cond := u_ws RJ0 TJ0 0
theorem nmJ0 : ∀ a, a < 0 → ∀ b, b < 0 → a ≠ b → (TJ0 a).2.1 ≠ (TJ0 b).2.1 := by decide +kernel
theorem tyJ0_ok : ∀ k, k < 0 → parseFieldDescriptor (TJ0 k).2.2.1 = some (tyJ0 k) := by decide +kernel
abbrev cJ0_length_8abf5 : ByteArray := prog_17_method_54_code
def yJ0_length_8abf5 : MethodName := ⟨RJ0, "length", "()I"⟩
abbrev cJ0_charAt_5068e : ByteArray := prog_17_method_56_code
def yJ0_charAt_5068e : MethodName := ⟨RJ0, "charAt", "(I)C"⟩
abbrev cJ0_coder_7d493 : ByteArray := prog_17_method_152_code
def yJ0_coder_7d493 : MethodName := ⟨RJ0, "coder", "()B"⟩
abbrev cJ0_isLatin1_aae02 : ByteArray := prog_17_method_154_code
def yJ0_isLatin1_aae02 : MethodName := ⟨RJ0, "isLatin1", "()Z"⟩
abbrev cJ0_checkIndex_df160 : ByteArray := prog_17_method_155_code
def yJ0_checkIndex_df160 : MethodName := ⟨RJ0, "checkIndex", "(II)V"⟩
def RJ1 : String := "java/lang/StringLatin1"
def TJ1 : u_T := fun k => match k with
  | _ => ("", "", "", false)
def tyJ1 : Nat → FieldType := fun k => match k with
  | _ => .int
abbrev wsJ10 : List Cond := u_ws RJ1 TJ1 0
theorem nmJ1 : ∀ a, a < 0 → ∀ b, b < 0 → a ≠ b → (TJ1 a).2.1 ≠ (TJ1 b).2.1 := by decide +kernel
theorem tyJ1_ok : ∀ k, k < 0 → parseFieldDescriptor (TJ1 k).2.2.1 = some (tyJ1 k) := by decide +kernel
abbrev cJ1_charAt_3b067 : ByteArray := prog_18_method_2_code
def yJ1_charAt_3b067 : MethodName := ⟨RJ1, "charAt", "([BI)C"⟩
def RJ2 : String := "java/lang/StringUTF16"
def TJ2 : u_T := fun k => match k with
  | _ => ("", "", "", false)
def tyJ2 : Nat → FieldType := fun k => match k with
  | _ => .int
abbrev wsJ20 : List Cond := u_ws RJ2 TJ2 0
theorem nmJ2 : ∀ a, a < 0 → ∀ b, b < 0 → a ≠ b → (TJ2 a).2.1 ≠ (TJ2 b).2.1 := by decide +kernel
theorem tyJ2_ok : ∀ k, k < 0 → parseFieldDescriptor (TJ2 k).2.2.1 = some (tyJ2 k) := by decide +kernel
abbrev cJ2_getChar_3b067 : ByteArray := prog_19_method_5_code
def yJ2_getChar_3b067 : MethodName := ⟨RJ2, "getChar", "([BI)C"⟩
abbrev cJ2_length_9d52b : ByteArray := prog_19_method_6_code
def yJ2_length_9d52b : MethodName := ⟨RJ2, "length", "([B)I"⟩
abbrev cJ2_charAt_3b067 : ByteArray := prog_19_method_83_code
def yJ2_charAt_3b067 : MethodName := ⟨RJ2, "charAt", "([BI)C"⟩
abbrev cJ2_checkIndex_2214a : ByteArray := prog_19_method_91_code
def yJ2_checkIndex_2214a : MethodName := ⟨RJ2, "checkIndex", "(I[B)V"⟩
def RJ10 : String := "java/lang/System"
def TJ10 : u_T := fun k => match k with
  | _ => ("", "", "", false)
def tyJ10 : Nat → FieldType := fun k => match k with
  | _ => .int
abbrev wsJ100 : List Cond := u_ws RJ10 TJ10 0
theorem nmJ10 : ∀ a, a < 0 → ∀ b, b < 0 → a ≠ b → (TJ10 a).2.1 ≠ (TJ10 b).2.1 := by decide +kernel
theorem tyJ10_ok : ∀ k, k < 0 → parseFieldDescriptor (TJ10 k).2.2.1 = some (tyJ10 k) := by decide +kernel
def RJ3 : String := "jdk/internal/util/Preconditions"
def TJ3 : u_T := fun k => match k with
  | _ => ("", "", "", false)
def tyJ3 : Nat → FieldType := fun k => match k with
  | _ => .int
abbrev wsJ30 : List Cond := u_ws RJ3 TJ3 0
theorem nmJ3 : ∀ a, a < 0 → ∀ b, b < 0 → a ≠ b → (TJ3 a).2.1 ≠ (TJ3 b).2.1 := by decide +kernel
theorem tyJ3_ok : ∀ k, k < 0 → parseFieldDescriptor (TJ3 k).2.2.1 = some (tyJ3 k) := by decide +kernel
abbrev cJ3_checkIndex_8e157 : ByteArray := prog_21_method_11_code
def yJ3_checkIndex_8e157 : MethodName := ⟨RJ3, "checkIndex", "(IILjava/util/function/BiFunction;)I"⟩
def RL : String := "FerriedInWordsLaw"
abbrev cL_law : ByteArray := code
def yL_law : MethodName := ⟨RL, "law", "([I)Z"⟩
def wsL_law_r1 : List Cond := [Cond.classLink RL 7 RX11, Cond.instantiable RX11 13, Cond.initialized RX11, Cond.classLink RL 10 RX12, Cond.instantiable RX12 45, Cond.initialized RX12, Cond.methodLink RL 9 yX11_init, Cond.instanceMethod yX11_init, Cond.code yX11_init cX11_init 2 none, Cond.methodLink RX11 1 objectInit, Cond.instanceMethod objectInit, Cond.code objectInit ⟨#[0xb1]⟩ 1 none, Cond.classLink RX11 9 RX9, Cond.fieldLink RX11 11 "FerriedInWords" "kinds" "[LFerriedInWords$Teller;", Cond.classLink RX11 15 RX0, Cond.instantiable RX0 7, Cond.initialized RX0, Cond.fieldLink RX11 18 "FerriedInWords" "now" "LFerriedInWords$Crossing;", Cond.fieldLink RX11 22 "FerriedInWords" "kept" "LFerriedInWords$Crossing;", Cond.fieldLink RX11 25 "FerriedInWords" "thought" "LFerriedInWords$Crossing;", Cond.classLink RX11 28 RX10, Cond.fieldLink RX11 30 "FerriedInWords" "texts" "[LFerriedInWords$Text;", Cond.arrayClass .int, Cond.fieldLink RX11 34 "FerriedInWords" "stack" "[I"]
def wsL_law_r2 : List Cond := [Cond.classLink RX11 38 RX8, Cond.fieldLink RX11 40 "FerriedInWords" "sheets" "[LFerriedInWords$Sheet;", Cond.fieldLink RX11 44 "FerriedInWords" "trail" "[I", Cond.instantiable RX9 0, Cond.initialized RX9, Cond.classLink RX11 48 RX2, Cond.instantiable RX2 0, Cond.initialized RX2, Cond.classLink RX11 51 RX1, Cond.instantiable RX1 0, Cond.initialized RX1, Cond.classLink RX11 54 RX3, Cond.instantiable RX3 0, Cond.initialized RX3, Cond.classLink RX11 57 RX4, Cond.instantiable RX4 0, Cond.initialized RX4, Cond.classLink RX11 60 RX6, Cond.instantiable RX6 0, Cond.initialized RX6, Cond.instantiable RX8 3, Cond.initialized RX8, Cond.instantiable RX10 3, Cond.initialized RX10]
def wsL_law_r3 : List Cond := [Cond.classLink RX11 65 RX7, Cond.instantiable RX7 10, Cond.initialized RX7, Cond.fieldLink RX11 70 "FerriedInWords" "reader" "LFerriedInWords$Reader;", Cond.fieldLink RX11 94 "FerriedInWords" "textsThere" "I", Cond.methodLink RX11 17 yX0_init, Cond.instanceMethod yX0_init, Cond.code yX0_init cX0_init 2 none, Cond.methodLink RX0 3 objectInit, Cond.classLink RX0 9 RX5, Cond.fieldLink RX0 11 "FerriedInWords$Crossing" "people" "[LFerriedInWords$One;", Cond.fieldLink RX0 17 "FerriedInWords$Crossing" "jetty" "[I", Cond.instantiable RX5 5, Cond.initialized RX5, Cond.instanceMethod yX5_init, Cond.code yX5_init cX5_init 1 none, Cond.methodLink RX5 3 objectInit, Cond.instanceMethod yX9_init, Cond.code yX9_init cX9_init 1 none, Cond.methodLink RX9 3 objectInit, Cond.instanceMethod yX2_init, Cond.code yX2_init cX2_init 1 none, Cond.instanceMethod yX1_init, Cond.code yX1_init cX1_init 1 none]
def wsL_law_r4 : List Cond := [Cond.instanceMethod yX3_init, Cond.code yX3_init cX3_init 1 none, Cond.instanceMethod yX4_init, Cond.code yX4_init cX4_init 1 none, Cond.instanceMethod yX6_init, Cond.code yX6_init cX6_init 1 none, Cond.instanceMethod yX8_init, Cond.code yX8_init cX8_init 1 none, Cond.methodLink RX8 3 objectInit, Cond.fieldLink RX8 9 "FerriedInWords$Sheet" "cells" "[I", Cond.fieldLink RX8 15 "FerriedInWords$Sheet" "sort" "I", Cond.instanceMethod yX10_init, Cond.code yX10_init cX10_init 1 none, Cond.methodLink RX10 3 objectInit, Cond.fieldLink RX10 9 "FerriedInWords$Text" "codes" "[I", Cond.fieldLink RX10 15 "FerriedInWords$Text" "ends" "[I", Cond.methodLink RX11 67 yX7_init, Cond.instanceMethod yX7_init, Cond.code yX7_init cX7_init 2 none, Cond.methodLink RX7 3 objectInit, Cond.fieldLink RX7 9 "FerriedInWords$Reader" "tape" "[I", Cond.fieldLink RX7 15 "FerriedInWords$Reader" "tokens" "[I", Cond.fieldLink RX7 18 "FerriedInWords$Reader" "values" "[I", Cond.fieldLink RX7 21 "FerriedInWords$Reader" "places" "[I"]
def wsL_law_r5 : List Cond := [Cond.fieldLink RX7 24 "FerriedInWords$Reader" "goal" "LFerriedInWords$Text;", Cond.methodLink RX11 76 yJ0_length_8abf5, Cond.instanceMethod yJ0_length_8abf5, Cond.selects RJ0 yJ0_length_8abf5 yJ0_length_8abf5, Cond.initialized RJ0, Cond.code yJ0_length_8abf5 cJ0_length_8abf5 1 (some .int), Cond.fieldLink RJ0 9 "java/lang/String" "value" "[B", Cond.methodLink RJ0 335 yJ0_coder_7d493, Cond.instanceMethod yJ0_coder_7d493, Cond.selects RJ0 yJ0_coder_7d493 yJ0_coder_7d493, Cond.code yJ0_coder_7d493 cJ0_coder_7d493 1 (some .byte), Cond.fieldLink RJ0 38 "java/lang/String" "COMPACT_STRINGS" "Z", Cond.fieldLink RJ0 15 "java/lang/String" "coder" "B", Cond.methodLink RX11 82 yJ0_charAt_5068e, Cond.instanceMethod yJ0_charAt_5068e, Cond.selects RJ0 yJ0_charAt_5068e yJ0_charAt_5068e, Cond.code yJ0_charAt_5068e cJ0_charAt_5068e 2 (some .char), Cond.methodLink RJ0 492 yJ0_isLatin1_aae02, Cond.instanceMethod yJ0_isLatin1_aae02, Cond.selects RJ0 yJ0_isLatin1_aae02 yJ0_isLatin1_aae02, Cond.code yJ0_isLatin1_aae02 cJ0_isLatin1_aae02 1 (some .boolean), Cond.methodLink RJ0 495 yJ1_charAt_3b067, Cond.static yJ1_charAt_3b067, Cond.initialized RJ1]
def wsL_law_r6 : List Cond := [Cond.code yJ1_charAt_3b067 cJ1_charAt_3b067 2 (some .char), Cond.methodLink RJ1 9 yJ0_checkIndex_df160, Cond.static yJ0_checkIndex_df160, Cond.code yJ0_checkIndex_df160 cJ0_checkIndex_df160 2 none, Cond.fieldLink RJ0 1053 "jdk/internal/util/Preconditions" "SIOOBE_FORMATTER" "Ljava/util/function/BiFunction;", Cond.methodLink RJ0 1059 yJ3_checkIndex_8e157, Cond.static yJ3_checkIndex_8e157, Cond.initialized RJ3, Cond.code yJ3_checkIndex_8e157 cJ3_checkIndex_8e157 3 (some .int), Cond.methodLink RJ0 498 yJ2_charAt_3b067, Cond.static yJ2_charAt_3b067, Cond.initialized RJ2, Cond.code yJ2_charAt_3b067 cJ2_charAt_3b067 2 (some .char), Cond.methodLink RJ2 67 yJ2_checkIndex_2214a, Cond.static yJ2_checkIndex_2214a, Cond.code yJ2_checkIndex_2214a cJ2_checkIndex_2214a 2 none, Cond.methodLink RJ2 48 yJ2_length_9d52b, Cond.static yJ2_length_9d52b, Cond.code yJ2_length_9d52b cJ2_length_9d52b 1 (some .int), Cond.methodLink RJ2 414 yJ0_checkIndex_df160, Cond.methodLink RJ2 71 yJ2_getChar_3b067, Cond.static yJ2_getChar_3b067, Cond.code yJ2_getChar_3b067 cJ2_getChar_3b067 2 (some .char), Cond.fieldLink RJ2 44 "java/lang/StringUTF16" "$assertionsDisabled" "Z"]
def wsL_law_r7 : List Cond := [Cond.fieldLink RJ2 59 "java/lang/StringUTF16" "HI_BYTE_SHIFT" "I", Cond.fieldLink RJ2 63 "java/lang/StringUTF16" "LO_BYTE_SHIFT" "I", Cond.methodLink RX11 86 yX7_put, Cond.instanceMethod yX7_put, Cond.selects RX7 yX7_put yX7_put, Cond.code yX7_put cX7_put 2 (some .boolean), Cond.fieldLink RX7 28 "FerriedInWords$Reader" "size" "I", Cond.methodLink RX11 90 yX7_readInto, Cond.instanceMethod yX7_readInto, Cond.selects RX7 yX7_readInto yX7_readInto, Cond.code yX7_readInto cX7_readInto 2 (some .int), Cond.fieldLink RX7 32 "FerriedInWords$Text" "size" "I", Cond.fieldLink RX7 38 "FerriedInWords$Reader" "fault" "I", Cond.fieldLink RX7 41 "FerriedInWords$Reader" "at" "I", Cond.fieldLink RX7 44 "FerriedInWords$Reader" "token" "I", Cond.methodLink RX7 35 yX7_split, Cond.instanceMethod yX7_split, Cond.selects RX7 yX7_split yX7_split, Cond.code yX7_split cX7_split 3 none, Cond.fieldLink RX7 89 "FerriedInWords$Reader" "many" "I", Cond.methodLink RX7 96 Lib.Math.max.name, Cond.static Lib.Math.max.name, Cond.initialized "java/lang/Math", Cond.code Lib.Math.max.name Lib.Math.max.code 2 (some .int)]
def wsL_law_r8 : List Cond := [Cond.methodLink RX7 92 yX7_splitOff, Cond.instanceMethod yX7_splitOff, Cond.selects RX7 yX7_splitOff yX7_splitOff, Cond.code yX7_splitOff cX7_splitOff 3 (some .int), Cond.methodLink RX7 106 yX7_splitWord, Cond.instanceMethod yX7_splitWord, Cond.selects RX7 yX7_splitWord yX7_splitWord, Cond.code yX7_splitWord cX7_splitWord 4 (some .int), Cond.methodLink RX7 115 yX7_nameCode, Cond.instanceMethod yX7_nameCode, Cond.selects RX7 yX7_nameCode yX7_nameCode, Cond.code yX7_nameCode cX7_nameCode 3 (some .int), Cond.methodLink RX7 123 yX7_isWord, Cond.instanceMethod yX7_isWord, Cond.selects RX7 yX7_isWord yX7_isWord, Cond.code yX7_isWord cX7_isWord 5 (some .boolean), Cond.methodLink RX7 149 yJ0_length_8abf5, Cond.methodLink RX7 155 yJ0_charAt_5068e, Cond.methodLink RX7 118 yX7_keyToken, Cond.instanceMethod yX7_keyToken, Cond.selects RX7 yX7_keyToken yX7_keyToken, Cond.code yX7_keyToken cX7_keyToken 3 (some .int), Cond.methodLink RX7 102 yX7_addToken, Cond.instanceMethod yX7_addToken]
def wsL_law_r9 : List Cond := [Cond.selects RX7 yX7_addToken yX7_addToken, Cond.code yX7_addToken cX7_addToken 4 none, Cond.methodLink RX7 109 yX7_splitNumber, Cond.instanceMethod yX7_splitNumber, Cond.selects RX7 yX7_splitNumber yX7_splitNumber, Cond.code yX7_splitNumber cX7_splitNumber 4 (some .int), Cond.methodLink RX7 112 yX7_isSign, Cond.static yX7_isSign, Cond.code yX7_isSign cX7_isSign 1 (some .boolean), Cond.methodLink RX7 47 yX7_readPart, Cond.instanceMethod yX7_readPart, Cond.selects RX7 yX7_readPart yX7_readPart, Cond.code yX7_readPart cX7_readPart 3 none, Cond.fieldLink RX7 58 "FerriedInWords$Text" "ends" "[I", Cond.methodLink RX7 51 yX7_expect, Cond.instanceMethod yX7_expect, Cond.selects RX7 yX7_expect yX7_expect, Cond.code yX7_expect cX7_expect 2 none, Cond.methodLink RX7 64 yX7_advance, Cond.instanceMethod yX7_advance, Cond.selects RX7 yX7_advance yX7_advance, Cond.code yX7_advance cX7_advance 1 none, Cond.methodLink RX7 86 yX7_fail, Cond.instanceMethod yX7_fail]
def wsL_law_r10 : List Cond := [Cond.selects RX7 yX7_fail yX7_fail, Cond.code yX7_fail cX7_fail 1 none, Cond.methodLink RX7 55 yX7_readOrs, Cond.instanceMethod yX7_readOrs, Cond.selects RX7 yX7_readOrs yX7_readOrs, Cond.code yX7_readOrs cX7_readOrs 3 none, Cond.methodLink RX7 61 yX7_readAnds, Cond.instanceMethod yX7_readAnds, Cond.selects RX7 yX7_readAnds yX7_readAnds, Cond.methodLink RX7 67 yX10_add, Cond.instanceMethod yX10_add, Cond.selects RX10 yX10_add yX10_add, Cond.code yX10_add cX10_add 2 none, Cond.fieldLink RX10 18 "FerriedInWords$Text" "size" "I", Cond.code yX7_readAnds cX7_readAnds 3 none, Cond.methodLink RX7 70 yX7_readNot, Cond.instanceMethod yX7_readNot, Cond.selects RX7 yX7_readNot yX7_readNot, Cond.code yX7_readNot cX7_readNot 3 none, Cond.methodLink RX7 73 yX7_opens, Cond.instanceMethod yX7_opens, Cond.selects RX7 yX7_opens yX7_opens, Cond.code yX7_opens cX7_opens 2 (some .boolean), Cond.methodLink RX7 77 yX7_readSum]
def wsL_law_r11 : List Cond := [Cond.instanceMethod yX7_readSum, Cond.selects RX7 yX7_readSum yX7_readSum, Cond.code yX7_readOne cX7_readOne 2 none, Cond.methodLink RX7 83 yX7_readOne, Cond.instanceMethod yX7_readOne, Cond.selects RX7 yX7_readOne yX7_readOne, Cond.code yX7_readSum cX7_readSum 4 none, Cond.methodLink RX7 80 yX7_readTerm, Cond.instanceMethod yX7_readTerm, Cond.selects RX7 yX7_readTerm yX7_readTerm, Cond.code yX7_readTerm cX7_readTerm 3 none, Cond.methodLink RL 12 yX12_init, Cond.instanceMethod yX12_init, Cond.code yX12_init cX12_init 1 none, Cond.methodLink RX12 7 objectInit, Cond.fieldLink RX12 13 "FerriedInWordsModel" "texts" "[I", Cond.fieldLink RX12 17 "FerriedInWordsModel" "textSize" "[I", Cond.fieldLink RX12 20 "FerriedInWordsModel" "tape" "[I", Cond.fieldLink RX12 23 "FerriedInWordsModel" "rows" "[I", Cond.fieldLink RX12 26 "FerriedInWordsModel" "jetty" "[I", Cond.fieldLink RX12 29 "FerriedInWordsModel" "was" "[I", Cond.fieldLink RX12 32 "FerriedInWordsModel" "trail" "[I", Cond.fieldLink RX12 35 "FerriedInWordsModel" "rowsKept" "[I", Cond.fieldLink RX12 38 "FerriedInWordsModel" "jettyKept" "[I"]
def wsL_law_r12 : List Cond := [Cond.fieldLink RX12 41 "FerriedInWordsModel" "manyKept" "I", Cond.arrayClass .boolean, Cond.fieldLink RX12 44 "FerriedInWordsModel" "isThere" "[Z", Cond.fieldLink RX12 48 "FerriedInWordsModel" "sorts" "[I", Cond.fieldLink RX12 51 "FerriedInWordsModel" "sheetSize" "[I", Cond.fieldLink RX12 54 "FerriedInWordsModel" "items" "[I", Cond.fieldLink RX12 61 "FerriedInWordsModel" "textCount" "I", Cond.methodLink RX12 57 yX12_spell, Cond.instanceMethod yX12_spell, Cond.selects RX12 yX12_spell yX12_spell, Cond.code yX12_spell cX12_spell 10 none, Cond.methodLink RL 13 yX11_set, Cond.instanceMethod yX11_set, Cond.selects RX11 yX11_set yX11_set, Cond.code yX11_set cX11_set 6 (some .int), Cond.fieldLink RX11 105 "FerriedInWords$Crossing" "day" "I", Cond.fieldLink RX11 108 "FerriedInWords$Crossing" "people" "[LFerriedInWords$One;", Cond.methodLink RX11 98 yX0_isThere, Cond.instanceMethod yX0_isThere, Cond.selects RX0 yX0_isThere yX0_isThere, Cond.code yX0_isThere cX0_isThere 2 (some .boolean), Cond.fieldLink RX0 22 "FerriedInWords$Crossing" "there" "I", Cond.methodLink RX11 101 yX11_most, Cond.static yX11_most]
def wsL_law_r13 : List Cond := [Cond.code yX11_most cX11_most 1 (some .int), Cond.methodLink RX11 112 yX5_worth, Cond.instanceMethod yX5_worth, Cond.selects RX5 yX5_worth yX5_worth, Cond.code yX5_worth cX5_worth 2 (some .int), Cond.fieldLink RX5 9 "FerriedInWords$One" "number" "I", Cond.fieldLink RX5 15 "FerriedInWords$One" "words" "I", Cond.fieldLink RX5 18 "FerriedInWords$One" "memory" "I", Cond.fieldLink RX5 21 "FerriedInWords$One" "said" "I", Cond.fieldLink RX5 24 "FerriedInWords$One" "kind" "I", Cond.methodLink RX11 117 yX5_become, Cond.instanceMethod yX5_become, Cond.selects RX5 yX5_become yX5_become, Cond.code yX5_become cX5_become 3 none, Cond.methodLink RL 17 yX12_set, Cond.instanceMethod yX12_set, Cond.selects RX12 yX12_set yX12_set, Cond.code yX12_set cX12_set 5 (some .int), Cond.constantLong RX12 78 (4), Cond.methodLink RX12 67 yX12_in, Cond.static yX12_in, Cond.code yX12_in cX12_in 6 (some .boolean), Cond.methodLink RX12 80 yX12_isOf, Cond.instanceMethod yX12_isOf]
def wsL_law_r14 : List Cond := [Cond.selects RX12 yX12_isOf yX12_isOf, Cond.code yX12_isOf cX12_isOf 3 (some .boolean), Cond.fieldLink RX12 71 "FerriedInWordsModel" "jettySize" "I", Cond.methodLink RX12 74 yX12_isOne, Cond.instanceMethod yX12_isOne, Cond.selects RX12 yX12_isOne yX12_isOne, Cond.code yX12_isOne cX12_isOne 2 (some .boolean), Cond.fieldLink RX12 64 "FerriedInWordsModel" "many" "I", Cond.methodLink RX12 84 yX12_mostOf, Cond.static yX12_mostOf, Cond.code yX12_mostOf cX12_mostOf 1 (some .int), Cond.methodLink RX12 88 yX12_told, Cond.instanceMethod yX12_told, Cond.selects RX12 yX12_told yX12_told, Cond.code yX12_told cX12_told 3 (some .int), Cond.constantLong RX12 110 (8), Cond.fieldLink RX12 96 "FerriedInWordsModel" "dayNow" "I", Cond.fieldLink RX12 112 "FerriedInWordsModel" "comeOver" "I", Cond.methodLink RX12 92 yX12_lays, Cond.instanceMethod yX12_lays, Cond.selects RX12 yX12_lays yX12_lays, Cond.code yX12_lays cX12_lays 4 none, Cond.fieldLink RX12 99 "FerriedInWordsModel" "rule" "I", Cond.methodLink RL 18 yX11_person]
def wsL_law_r15 : List Cond := [Cond.instanceMethod yX11_person, Cond.selects RX11 yX11_person yX11_person, Cond.code yX11_person cX11_person 6 (some .int), Cond.fieldLink RX11 124 "FerriedInWords$Crossing" "there" "I", Cond.fieldLink RX11 127 "FerriedInWords$One" "kind" "I", Cond.fieldLink RX11 130 "FerriedInWords$One" "number" "I", Cond.fieldLink RX11 133 "FerriedInWords$One" "words" "I", Cond.fieldLink RX11 136 "FerriedInWords$One" "memory" "I", Cond.fieldLink RX11 139 "FerriedInWords$One" "said" "I", Cond.methodLink RX11 121 yX11_isSet, Cond.static yX11_isSet, Cond.code yX11_isSet cX11_isSet 1 (some .boolean), Cond.methodLink RL 22 yX12_person, Cond.instanceMethod yX12_person, Cond.selects RX12 yX12_person yX12_person, Cond.code yX12_person cX12_person 6 (some .int), Cond.constantLong RX12 102 (5), Cond.constantLong RX12 104 (9), Cond.constantLong RX12 106 (1023), Cond.constantLong RX12 108 (99), Cond.methodLink RL 23 yX11_told, Cond.instanceMethod yX11_told, Cond.selects RX11 yX11_told yX11_told, Cond.code yX11_told cX11_told 3 (some .int)]
def wsL_law_r16 : List Cond := [Cond.fieldLink RX11 142 "FerriedInWords$Crossing" "things" "I", Cond.fieldLink RX11 145 "FerriedInWords$Crossing" "jetty" "[I", Cond.fieldLink RX11 148 "FerriedInWords$Crossing" "come" "I", Cond.methodLink RL 27 yX12_told, Cond.methodLink RL 28 yX11_brings, Cond.instanceMethod yX11_brings, Cond.selects RX11 yX11_brings yX11_brings, Cond.code yX11_brings cX11_brings 2 (some .int), Cond.methodLink RL 32 yX12_brings, Cond.instanceMethod yX12_brings, Cond.selects RX12 yX12_brings yX12_brings, Cond.code yX12_brings cX12_brings 2 (some .int), Cond.methodLink RL 33 yX11_asks, Cond.instanceMethod yX11_asks, Cond.selects RX11 yX11_asks yX11_asks, Cond.code yX11_asks cX11_asks 5 (some .int), Cond.methodLink RX11 151 yX11_telling, Cond.instanceMethod yX11_telling, Cond.selects RX11 yX11_telling yX11_telling, Cond.code yX11_telling cX11_telling 4 (some .int), Cond.methodLink RX11 200 yX11_kindOf, Cond.instanceMethod yX11_kindOf, Cond.selects RX11 yX11_kindOf yX11_kindOf, Cond.code yX11_kindOf cX11_kindOf 2 (some (.object "FerriedInWords$Teller"))]
def wsL_law_r17 : List Cond := [Cond.methodLink RX11 155 yX11_keeping, Cond.instanceMethod yX11_keeping, Cond.selects RX11 yX11_keeping yX11_keeping, Cond.code yX11_keeping cX11_keeping 4 (some .int), Cond.methodLink RX11 204 yX11_ruleOf, Cond.instanceMethod yX11_ruleOf, Cond.selects RX11 yX11_ruleOf yX11_ruleOf, Cond.code yX11_ruleOf cX11_ruleOf 2 (some (.object "FerriedInWords$Text")), Cond.fieldLink RX11 168 "FerriedInWords$Crossing" "rule" "I", Cond.methodLink RX11 208 yX10_worth, Cond.instanceMethod yX10_worth, Cond.selects RX10 yX10_worth yX10_worth, Cond.code yX10_worth cX10_worth 9 (some .int), Cond.methodLink RX10 22 yX10_named, Cond.static yX10_named, Cond.code yX10_named cX10_named 4 (some .int), Cond.fieldLink RX10 37 "FerriedInWords$One" "words" "I", Cond.fieldLink RX10 48 "FerriedInWords$One" "memory" "I", Cond.fieldLink RX10 51 "FerriedInWords$One" "number" "I", Cond.fieldLink RX10 54 "FerriedInWords$One" "said" "I", Cond.methodLink RX10 42 yJ6_bitCount_0f7a4, Cond.static yJ6_bitCount_0f7a4, Cond.initialized RJ6, Cond.code yJ6_bitCount_0f7a4 cJ6_bitCount_0f7a4 1 (some .int)]
def wsL_law_r18 : List Cond := [Cond.constant RJ6 265 (1431655765), Cond.constant RJ6 266 (858993459), Cond.constant RJ6 267 (252645135), Cond.methodLink RX10 26 yX10_ofOne, Cond.static yX10_ofOne, Cond.code yX10_ofOne cX10_ofOne 2 (some .int), Cond.methodLink RX10 30 yX10_ofTwo, Cond.static yX10_ofTwo, Cond.code yX10_ofTwo cX10_ofTwo 3 (some .int), Cond.static yX11_within, Cond.code yX11_within cX11_within 2 (some .int), Cond.methodLink RX11 243 Lib.Math.min.name, Cond.static Lib.Math.min.name, Cond.code Lib.Math.min.name Lib.Math.min.code 2 (some .int), Cond.methodLink RX11 238 Lib.Math.max.name, Cond.methodLink RX11 211 ⟨"FerriedInWords$Teller", "keptOf", "(II)I"⟩, Cond.sameMethod "FerriedInWords$Teller" "FerriedInWords$Teller" "keptOf" "(II)I", Cond.instanceMethod ⟨"FerriedInWords$Teller", "keptOf", "(II)I"⟩, Cond.selects RX1 ⟨"FerriedInWords$Teller", "keptOf", "(II)I"⟩ yX1_keptOf, Cond.instanceMethod yX1_keptOf, Cond.code yX1_keptOf cX1_keptOf 3 (some .int), Cond.methodLink RX1 13 yX9_keptOf, Cond.superclass RX1 RX9, Cond.instanceMethod yX9_keptOf]
def wsL_law_r19 : List Cond := [Cond.code yX9_keptOf cX9_keptOf 3 (some .int), Cond.selects RX2 ⟨"FerriedInWords$Teller", "keptOf", "(II)I"⟩ yX2_keptOf, Cond.instanceMethod yX2_keptOf, Cond.code yX2_keptOf cX2_keptOf 3 (some .int), Cond.methodLink RX2 13 yX9_keptOf, Cond.superclass RX2 RX9, Cond.selects RX3 ⟨"FerriedInWords$Teller", "keptOf", "(II)I"⟩ yX2_keptOf, Cond.selects RX4 ⟨"FerriedInWords$Teller", "keptOf", "(II)I"⟩ yX4_keptOf, Cond.instanceMethod yX4_keptOf, Cond.code yX4_keptOf cX4_keptOf 3 (some .int), Cond.methodLink RX4 13 yX1_keptOf, Cond.sameMethod "FerriedInWords$Engineer" "FerriedInWords$Engineer" "keptOf" "(II)I", Cond.superclass RX4 RX1, Cond.selects RX6 ⟨"FerriedInWords$Teller", "keptOf", "(II)I"⟩ yX6_keptOf, Cond.instanceMethod yX6_keptOf, Cond.code yX6_keptOf cX6_keptOf 3 (some .int), Cond.methodLink RX6 13 yX9_keptOf, Cond.superclass RX6 RX9, Cond.methodLink RX11 211 yX9_keptOf, Cond.selects RX9 yX9_keptOf yX9_keptOf, Cond.methodLink RX11 214 yX11_within, Cond.methodLink RX11 217 ⟨"FerriedInWords$Teller", "wordsFor", "(LFerriedInWords$One;II)I"⟩, Cond.sameMethod "FerriedInWords$Teller" "FerriedInWords$Teller" "wordsFor" "(LFerriedInWords$One;II)I", Cond.instanceMethod ⟨"FerriedInWords$Teller", "wordsFor", "(LFerriedInWords$One;II)I"⟩]
def wsL_law_r20 : List Cond := [Cond.selects RX1 ⟨"FerriedInWords$Teller", "wordsFor", "(LFerriedInWords$One;II)I"⟩ yX1_wordsFor, Cond.instanceMethod yX1_wordsFor, Cond.code yX1_wordsFor cX1_wordsFor 5 (some .int), Cond.methodLink RX1 17 yX9_wordsFor, Cond.instanceMethod yX9_wordsFor, Cond.code yX9_wordsFor cX9_wordsFor 8 (some .int), Cond.fieldLink RX9 9 "FerriedInWords$One" "words" "I", Cond.static yX11_lowest, Cond.code yX11_lowest cX11_lowest 1 (some .int), Cond.selects RX2 ⟨"FerriedInWords$Teller", "wordsFor", "(LFerriedInWords$One;II)I"⟩ yX2_wordsFor, Cond.instanceMethod yX2_wordsFor, Cond.code yX2_wordsFor cX2_wordsFor 4 (some .int), Cond.fieldLink RX2 21 "FerriedInWords$One" "number" "I", Cond.methodLink RX2 17 yX9_wordsFor, Cond.selects RX3 ⟨"FerriedInWords$Teller", "wordsFor", "(LFerriedInWords$One;II)I"⟩ yX3_wordsFor, Cond.instanceMethod yX3_wordsFor, Cond.code yX3_wordsFor cX3_wordsFor 4 (some .int), Cond.fieldLink RX3 17 "FerriedInWords$One" "number" "I", Cond.methodLink RX3 13 yX2_wordsFor, Cond.sameMethod "FerriedInWords$Father" "FerriedInWords$Father" "wordsFor" "(LFerriedInWords$One;II)I", Cond.superclass RX3 RX2, Cond.selects RX4 ⟨"FerriedInWords$Teller", "wordsFor", "(LFerriedInWords$One;II)I"⟩ yX4_wordsFor, Cond.instanceMethod yX4_wordsFor, Cond.code yX4_wordsFor cX4_wordsFor 5 (some .int)]
def wsL_law_r21 : List Cond := [Cond.fieldLink RX4 21 "FerriedInWords$One" "words" "I", Cond.methodLink RX4 17 yX1_wordsFor, Cond.sameMethod "FerriedInWords$Engineer" "FerriedInWords$Engineer" "wordsFor" "(LFerriedInWords$One;II)I", Cond.selects RX6 ⟨"FerriedInWords$Teller", "wordsFor", "(LFerriedInWords$One;II)I"⟩ yX6_wordsFor, Cond.instanceMethod yX6_wordsFor, Cond.code yX6_wordsFor cX6_wordsFor 4 (some .int), Cond.methodLink RX6 17 yX9_wordsFor, Cond.methodLink RX11 217 yX9_wordsFor, Cond.selects RX9 yX9_wordsFor yX9_wordsFor, Cond.methodLink RX11 158 yX11_tiring, Cond.instanceMethod yX11_tiring, Cond.selects RX11 yX11_tiring yX11_tiring, Cond.code yX11_tiring cX11_tiring 4 (some .int), Cond.methodLink RX11 221 ⟨"FerriedInWords$Teller", "wearies", "(ILFerriedInWords$One;)I"⟩, Cond.sameMethod "FerriedInWords$Teller" "FerriedInWords$Teller" "wearies" "(ILFerriedInWords$One;)I", Cond.instanceMethod ⟨"FerriedInWords$Teller", "wearies", "(ILFerriedInWords$One;)I"⟩, Cond.selects RX1 ⟨"FerriedInWords$Teller", "wearies", "(ILFerriedInWords$One;)I"⟩ yX1_wearies, Cond.instanceMethod yX1_wearies, Cond.code yX1_wearies cX1_wearies 3 (some .int), Cond.methodLink RX1 21 yX9_wearies, Cond.instanceMethod yX9_wearies, Cond.code yX9_wearies cX9_wearies 3 (some .int), Cond.selects RX2 ⟨"FerriedInWords$Teller", "wearies", "(ILFerriedInWords$One;)I"⟩ yX2_wearies, Cond.instanceMethod yX2_wearies]
def wsL_law_r22 : List Cond := [Cond.code yX2_wearies cX2_wearies 3 (some .int), Cond.selects RX3 ⟨"FerriedInWords$Teller", "wearies", "(ILFerriedInWords$One;)I"⟩ yX3_wearies, Cond.instanceMethod yX3_wearies, Cond.code yX3_wearies cX3_wearies 3 (some .int), Cond.selects RX4 ⟨"FerriedInWords$Teller", "wearies", "(ILFerriedInWords$One;)I"⟩ yX4_wearies, Cond.instanceMethod yX4_wearies, Cond.code yX4_wearies cX4_wearies 3 (some .int), Cond.methodLink RX4 31 yX1_wearies, Cond.sameMethod "FerriedInWords$Engineer" "FerriedInWords$Engineer" "wearies" "(ILFerriedInWords$One;)I", Cond.selects RX6 ⟨"FerriedInWords$Teller", "wearies", "(ILFerriedInWords$One;)I"⟩ yX6_wearies, Cond.instanceMethod yX6_wearies, Cond.code yX6_wearies cX6_wearies 3 (some .int), Cond.fieldLink RX6 23 "FerriedInWords$One" "said" "I", Cond.methodLink RX6 29 yX9_wearies, Cond.methodLink RX11 221 yX9_wearies, Cond.selects RX9 yX9_wearies yX9_wearies, Cond.methodLink RX11 161 yX11_learning, Cond.instanceMethod yX11_learning, Cond.selects RX11 yX11_learning yX11_learning, Cond.code yX11_learning cX11_learning 4 (some .boolean), Cond.methodLink RX11 225 ⟨"FerriedInWords$Teller", "takesIn", "(ZI)Z"⟩, Cond.sameMethod "FerriedInWords$Teller" "FerriedInWords$Teller" "takesIn" "(ZI)Z", Cond.instanceMethod ⟨"FerriedInWords$Teller", "takesIn", "(ZI)Z"⟩, Cond.selects RX1 ⟨"FerriedInWords$Teller", "takesIn", "(ZI)Z"⟩ yX1_takesIn]
def wsL_law_r23 : List Cond := [Cond.instanceMethod yX1_takesIn, Cond.code yX1_takesIn cX1_takesIn 3 (some .boolean), Cond.methodLink RX1 25 yJ6_bitCount_0f7a4, Cond.code yX9_takesIn cX9_takesIn 3 (some .boolean), Cond.selects RX2 ⟨"FerriedInWords$Teller", "takesIn", "(ZI)Z"⟩ yX2_takesIn, Cond.instanceMethod yX2_takesIn, Cond.code yX2_takesIn cX2_takesIn 3 (some .boolean), Cond.selects RX3 ⟨"FerriedInWords$Teller", "takesIn", "(ZI)Z"⟩ yX3_takesIn, Cond.instanceMethod yX3_takesIn, Cond.code yX3_takesIn cX3_takesIn 3 (some .boolean), Cond.selects RX4 ⟨"FerriedInWords$Teller", "takesIn", "(ZI)Z"⟩ yX1_takesIn, Cond.selects RX6 ⟨"FerriedInWords$Teller", "takesIn", "(ZI)Z"⟩ yX6_takesIn, Cond.instanceMethod yX6_takesIn, Cond.code yX6_takesIn cX6_takesIn 3 (some .boolean), Cond.methodLink RX11 225 yX9_takesIn, Cond.instanceMethod yX9_takesIn, Cond.selects RX9 yX9_takesIn yX9_takesIn, Cond.methodLink RL 36 yX12_asks, Cond.instanceMethod yX12_asks, Cond.selects RX12 yX12_asks yX12_asks, Cond.code yX12_asks cX12_asks 4 (some .int), Cond.constantLong RX12 252 (3), Cond.methodLink RX12 254 yX12_tellsOf, Cond.instanceMethod yX12_tellsOf]
def wsL_law_r24 : List Cond := [Cond.selects RX12 yX12_tellsOf yX12_tellsOf, Cond.code yX12_tellsOf cX12_tellsOf 8 (some .int), Cond.methodLink RX12 236 yX12_wordsOf, Cond.instanceMethod yX12_wordsOf, Cond.selects RX12 yX12_wordsOf yX12_wordsOf, Cond.code yX12_wordsOf cX12_wordsOf 2 (some .int), Cond.fieldLink RX12 233 "FerriedInWordsModel" "learnt" "I", Cond.methodLink RX12 249 yX12_keepsOf, Cond.instanceMethod yX12_keepsOf, Cond.selects RX12 yX12_keepsOf yX12_keepsOf, Cond.code yX12_keepsOf cX12_keepsOf 5 (some .int), Cond.methodLink RX12 246 yX12_says, Cond.instanceMethod yX12_says, Cond.selects RX12 yX12_says yX12_says, Cond.code yX12_says cX12_says 4 (some .int), Cond.fieldLink RX12 175 "FerriedInWordsModel" "ofWords" "I", Cond.fieldLink RX12 178 "FerriedInWordsModel" "ofMemory" "I", Cond.fieldLink RX12 181 "FerriedInWordsModel" "ofNumber" "I", Cond.fieldLink RX12 184 "FerriedInWordsModel" "ofDay" "I", Cond.fieldLink RX12 187 "FerriedInWordsModel" "ofParts" "I", Cond.fieldLink RX12 190 "FerriedInWordsModel" "ofSaid" "I", Cond.methodLink RX12 239 yX12_bitsOf, Cond.static yX12_bitsOf, Cond.code yX12_bitsOf cX12_bitsOf 3 (some .int)]
def wsL_law_r25 : List Cond := [Cond.methodLink RX12 230 yX12_read, Cond.instanceMethod yX12_read, Cond.selects RX12 yX12_read yX12_read, Cond.code yX12_read cX12_read 6 (some .int), Cond.fieldLink RX12 123 "FerriedInWordsModel" "textFrom" "I", Cond.fieldLink RX12 120 "FerriedInWordsModel" "size" "I", Cond.fieldLink RX12 126 "FerriedInWordsModel" "here" "I", Cond.fieldLink RX12 162 "FerriedInWordsModel" "open" "I", Cond.fieldLink RX12 152 "FerriedInWordsModel" "bad" "Z", Cond.fieldLink RX12 135 "FerriedInWordsModel" "token" "I", Cond.methodLink RX12 168 yX12_next, Cond.instanceMethod yX12_next, Cond.selects RX12 yX12_next yX12_next, Cond.code yX12_next cX12_next 3 none, Cond.fieldLink RX12 132 "FerriedInWordsModel" "tokenAt" "I", Cond.constantLong RX12 138 (97), Cond.constantLong RX12 140 (122), Cond.constantLong RX12 142 (48), Cond.constantLong RX12 144 (57), Cond.fieldLink RX12 146 "FerriedInWordsModel" "tokenWorth" "J", Cond.constantLong RX12 150 (10), Cond.methodLink RX12 129 yX12_byteAt, Cond.instanceMethod yX12_byteAt, Cond.selects RX12 yX12_byteAt yX12_byteAt]
def wsL_law_r26 : List Cond := [Cond.code yX12_byteAt cX12_byteAt 2 (some .int), Cond.methodLink RX12 171 yX12_isWord, Cond.instanceMethod yX12_isWord, Cond.selects RX12 yX12_isWord yX12_isWord, Cond.code yX12_isWord cX12_isWord 9 (some .boolean), Cond.methodLink RX12 159 yX12_isLetter, Cond.instanceMethod yX12_isLetter, Cond.selects RX12 yX12_isLetter yX12_isLetter, Cond.code yX12_isLetter cX12_isLetter 3 (some .boolean), Cond.methodLink RX12 226 yX12_part, Cond.instanceMethod yX12_part, Cond.selects RX12 yX12_part yX12_part, Cond.code yX12_part cX12_part 3 (some .int), Cond.methodLink RX12 165 yX12_fail, Cond.instanceMethod yX12_fail, Cond.selects RX12 yX12_fail yX12_fail, Cond.code yX12_fail cX12_fail 1 none, Cond.fieldLink RX12 156 "FerriedInWordsModel" "fault" "I", Cond.methodLink RX12 204 yX12_either, Cond.instanceMethod yX12_either, Cond.selects RX12 yX12_either yX12_either, Cond.code yX12_either cX12_either 3 (some .int), Cond.methodLink RX12 223 yX12_both, Cond.instanceMethod yX12_both]
def wsL_law_r27 : List Cond := [Cond.selects RX12 yX12_both yX12_both, Cond.code yX12_added cX12_added 4 (some .int), Cond.constantLong RX12 213 (43), Cond.methodLink RX12 210 yX12_term, Cond.instanceMethod yX12_term, Cond.selects RX12 yX12_term yX12_term, Cond.methodLink RX12 193 yX12_isSign, Cond.instanceMethod yX12_isSign, Cond.selects RX12 yX12_isSign yX12_isSign, Cond.code yX12_isSign cX12_isSign 2 (some .boolean), Cond.code yX12_atom cX12_atom 2 (some .int), Cond.methodLink RX12 196 yX12_opens, Cond.instanceMethod yX12_opens, Cond.selects RX12 yX12_opens yX12_opens, Cond.code yX12_opens cX12_opens 1 (some .boolean), Cond.methodLink RX12 200 yX12_atom, Cond.instanceMethod yX12_atom, Cond.selects RX12 yX12_atom yX12_atom, Cond.methodLink RX12 207 yX12_name, Cond.instanceMethod yX12_name, Cond.selects RX12 yX12_name yX12_name, Cond.code yX12_name cX12_name 1 (some .int), Cond.code yX12_both cX12_both 3 (some .int), Cond.methodLink RX12 215 yX12_not]
def wsL_law_r28 : List Cond := [Cond.instanceMethod yX12_not, Cond.selects RX12 yX12_not yX12_not, Cond.code yX12_not cX12_not 4 (some .int), Cond.constantLong RX12 221 (60), Cond.methodLink RX12 218 yX12_added, Cond.instanceMethod yX12_added, Cond.selects RX12 yX12_added yX12_added, Cond.code yX12_term cX12_term 2 (some .int), Cond.methodLink RX12 242 yX12_within, Cond.static yX12_within, Cond.code yX12_within cX12_within 3 (some .int), Cond.methodLink RX12 257 yX12_tiresOf, Cond.instanceMethod yX12_tiresOf, Cond.selects RX12 yX12_tiresOf yX12_tiresOf, Cond.code yX12_tiresOf cX12_tiresOf 5 (some .int), Cond.methodLink RX12 260 yX12_learns, Cond.instanceMethod yX12_learns, Cond.selects RX12 yX12_learns yX12_learns, Cond.code yX12_learns cX12_learns 4 (some .boolean), Cond.methodLink RL 37 yX11_feed, Cond.instanceMethod yX11_feed, Cond.selects RX11 yX11_feed yX11_feed, Cond.code yX11_feed cX11_feed 2 (some .int), Cond.fieldLink RX11 165 "FerriedInWords$Reader" "size" "I"]
def wsL_law_r29 : List Cond := [Cond.methodLink RL 40 yX12_feed, Cond.instanceMethod yX12_feed, Cond.selects RX12 yX12_feed yX12_feed, Cond.code yX12_feed cX12_feed 2 (some .int), Cond.constantLong RX12 115 (255), Cond.fieldLink RX12 117 "FerriedInWordsModel" "taped" "I", Cond.methodLink RL 41 yX11_text, Cond.instanceMethod yX11_text, Cond.selects RX11 yX11_text yX11_text, Cond.code yX11_text cX11_text 2 (some .int), Cond.methodLink RL 45 yX12_text, Cond.instanceMethod yX12_text, Cond.selects RX12 yX12_text yX12_text, Cond.code yX12_text cX12_text 2 (some .int), Cond.methodLink RL 46 yX11_force, Cond.instanceMethod yX11_force, Cond.selects RX11 yX11_force yX11_force, Cond.code yX11_force cX11_force 3 (some .int), Cond.methodLink RL 49 yX12_force, Cond.instanceMethod yX12_force, Cond.selects RX12 yX12_force yX12_force, Cond.code yX12_force cX12_force 3 (some .int), Cond.methodLink RL 50 yX11_over, Cond.instanceMethod yX11_over]
def wsL_law_r30 : List Cond := [Cond.selects RX11 yX11_over yX11_over, Cond.code yX11_over cX11_over 6 (some .int), Cond.fieldLink RX11 178 "FerriedInWords$Sheet" "size" "I", Cond.fieldLink RX11 179 "FerriedInWords$Sheet" "cells" "[I", Cond.methodLink RX11 171 yX11_isSheet, Cond.static yX11_isSheet, Cond.code yX11_isSheet cX11_isSheet 1 (some .boolean), Cond.methodLink RX11 174 yX8_isMissing, Cond.instanceMethod yX8_isMissing, Cond.selects RX8 yX8_isMissing yX8_isMissing, Cond.code yX8_isMissing cX8_isMissing 1 (some .boolean), Cond.methodLink RX11 182 yX11_toldByRow, Cond.instanceMethod yX11_toldByRow, Cond.selects RX11 yX11_toldByRow yX11_toldByRow, Cond.code yX11_toldByRow cX11_toldByRow 6 (some .int), Cond.methodLink RX11 186 yX11_off, Cond.static yX11_off, Cond.code yX11_off cX11_off 2 (some .int), Cond.methodLink RX11 246 yJ6_bitCount_0f7a4, Cond.methodLink RL 53 yX12_over, Cond.instanceMethod yX12_over, Cond.selects RX12 yX12_over yX12_over, Cond.code yX12_over cX12_over 6 (some .int), Cond.methodLink RX12 263 yX12_isSheet]
def wsL_law_r31 : List Cond := [Cond.static yX12_isSheet, Cond.code yX12_isSheet cX12_isSheet 1 (some .boolean), Cond.methodLink RX12 266 yX12_off, Cond.static yX12_off, Cond.code yX12_off cX12_off 2 (some .int), Cond.methodLink RL 54 yX11_day, Cond.instanceMethod yX11_day, Cond.selects RX11 yX11_day yX11_day, Cond.code yX11_day cX11_day 1 (some .int), Cond.methodLink RX11 190 yX11_passDay, Cond.instanceMethod yX11_passDay, Cond.selects RX11 yX11_passDay yX11_passDay, Cond.code yX11_passDay cX11_passDay 4 (some .int), Cond.methodLink RX11 229 yX0_takeFirst, Cond.instanceMethod yX0_takeFirst, Cond.selects RX0 yX0_takeFirst yX0_takeFirst, Cond.code yX0_takeFirst cX0_takeFirst 3 (some .int), Cond.fieldLink RX0 26 "FerriedInWords$Crossing" "things" "I", Cond.methodLink RX11 232 yX11_tellTruly, Cond.instanceMethod yX11_tellTruly, Cond.selects RX11 yX11_tellTruly yX11_tellTruly, Cond.code yX11_tellTruly cX11_tellTruly 7 (some .int), Cond.methodLink RX11 235 yX11_lowest, Cond.methodLink RL 57 yX12_day]
def wsL_law_r32 : List Cond := [Cond.instanceMethod yX12_day, Cond.selects RX12 yX12_day yX12_day, Cond.code yX12_day cX12_day 1 (some .int), Cond.methodLink RX12 272 yX12_passes, Cond.instanceMethod yX12_passes, Cond.selects RX12 yX12_passes yX12_passes, Cond.code yX12_passes cX12_passes 3 (some .int), Cond.methodLink RX12 269 yX12_tellsTruly, Cond.instanceMethod yX12_tellsTruly, Cond.selects RX12 yX12_tellsTruly yX12_tellsTruly, Cond.code yX12_tellsTruly cX12_tellsTruly 7 (some .int), Cond.methodLink RL 58 yX11_run, Cond.instanceMethod yX11_run, Cond.selects RX11 yX11_run yX11_run, Cond.code yX11_run cX11_run 7 (some .int), Cond.methodLink RX11 194 yX11_isAskedOfRun, Cond.instanceMethod yX11_isAskedOfRun, Cond.selects RX11 yX11_isAskedOfRun yX11_isAskedOfRun, Cond.code yX11_isAskedOfRun cX11_isAskedOfRun 2 (some .boolean), Cond.methodLink RX11 197 yX0_become, Cond.instanceMethod yX0_become, Cond.selects RX0 yX0_become yX0_become, Cond.code yX0_become cX0_become 3 none, Cond.fieldLink RX0 29 "FerriedInWords$Crossing" "day" "I"]
def wsL_law_r33 : List Cond := [Cond.fieldLink RX0 32 "FerriedInWords$Crossing" "come" "I", Cond.fieldLink RX0 35 "FerriedInWords$Crossing" "rule" "I", Cond.methodLink RX0 38 yX5_become_, Cond.instanceMethod yX5_become_, Cond.selects RX5 yX5_become_ yX5_become_, Cond.code yX5_become_ cX5_become_ 2 none, Cond.methodLink RL 61 yX12_run, Cond.instanceMethod yX12_run, Cond.selects RX12 yX12_run yX12_run, Cond.code yX12_run cX12_run 8 (some .int), Cond.constantLong RX12 275 (14), Cond.constantLong RX12 277 (20), Cond.constantLong RX12 279 (24), Cond.methodLink RX12 281 yX12_laysAside, Cond.instanceMethod yX12_laysAside, Cond.selects RX12 yX12_laysAside yX12_laysAside, Cond.code yX12_laysAside cX12_laysAside 2 none, Cond.methodLink RX12 284 yX12_laysBack, Cond.instanceMethod yX12_laysBack, Cond.selects RX12 yX12_laysBack yX12_laysBack, Cond.code yX12_laysBack cX12_laysBack 2 none, Cond.methodLink RL 62 yX11_fro, Cond.instanceMethod yX11_fro, Cond.selects RX11 yX11_fro yX11_fro]
def wsL_law_r34 : List Cond := [Cond.code yX11_fro cX11_fro 5 (some .int), Cond.methodLink RX11 251 yX11_toldByAll, Cond.instanceMethod yX11_toldByAll, Cond.selects RX11 yX11_toldByAll yX11_toldByAll, Cond.code yX11_toldByAll cX11_toldByAll 5 (some .int), Cond.methodLink RL 65 yX12_fro, Cond.instanceMethod yX12_fro, Cond.selects RX12 yX12_fro yX12_fro, Cond.code yX12_fro cX12_fro 5 (some .int), Cond.methodLink RX12 287 yX12_byAll, Cond.instanceMethod yX12_byAll, Cond.selects RX12 yX12_byAll yX12_byAll, Cond.code yX12_byAll cX12_byAll 4 (some .int), Cond.methodLink RL 66 yX11_row, Cond.instanceMethod yX11_row, Cond.selects RX11 yX11_row yX11_row, Cond.code yX11_row cX11_row 5 (some .int), Cond.fieldLink RX11 255 "FerriedInWords" "bestRow" "I", Cond.fieldLink RX11 258 "FerriedInWords" "bestOff" "I", Cond.methodLink RX11 261 yX11_tryRows, Cond.instanceMethod yX11_tryRows, Cond.selects RX11 yX11_tryRows yX11_tryRows, Cond.code yX11_tryRows cX11_tryRows 7 none, Cond.methodLink RL 69 yX12_row]
def wsL_law_r35 : List Cond := [Cond.instanceMethod yX12_row, Cond.selects RX12 yX12_row yX12_row, Cond.code yX12_row cX12_row 4 (some .int), Cond.fieldLink RX12 290 "FerriedInWordsModel" "bestOff" "I", Cond.fieldLink RX12 296 "FerriedInWordsModel" "bestRow" "I", Cond.methodLink RX12 299 yX12_rowsFrom, Cond.instanceMethod yX12_rowsFrom, Cond.selects RX12 yX12_rowsFrom yX12_rowsFrom, Cond.code yX12_rowsFrom cX12_rowsFrom 9 none, Cond.fieldLink RX12 293 "FerriedInWordsModel" "bestSize" "I", Cond.methodLink RL 70 yX11_learn, Cond.instanceMethod yX11_learn, Cond.selects RX11 yX11_learn yX11_learn, Cond.code yX11_learn cX11_learn 7 (some .int), Cond.methodLink RX11 265 yX11_toldWithMore, Cond.instanceMethod yX11_toldWithMore, Cond.selects RX11 yX11_toldWithMore yX11_toldWithMore, Cond.code yX11_toldWithMore cX11_toldWithMore 4 (some .int), Cond.methodLink RL 73 yX12_learn, Cond.instanceMethod yX12_learn, Cond.selects RX12 yX12_learn yX12_learn, Cond.code yX12_learn cX12_learn 5 (some .int), Cond.methodLink RL 74 yX11_from, Cond.instanceMethod yX11_from]
def wsL_law_r36 : List Cond := [Cond.selects RX11 yX11_from yX11_from, Cond.code yX11_from cX11_from 6 (some .int), Cond.methodLink RL 77 yX12_from, Cond.instanceMethod yX12_from, Cond.selects RX12 yX12_from yX12_from, Cond.code yX12_from cX12_from 6 (some .int), Cond.methodLink RL 78 yX11_mean, Cond.instanceMethod yX11_mean, Cond.selects RX11 yX11_mean yX11_mean, Cond.code yX11_mean cX11_mean 4 (some .long), Cond.constantLong RX11 268 (-4611686018427387904), Cond.methodLink RX11 270 yX11_inLowestTerms, Cond.static yX11_inLowestTerms, Cond.code yX11_inLowestTerms cX11_inLowestTerms 4 (some .long), Cond.methodLink RX11 274 yX11_commonDivisor, Cond.static yX11_commonDivisor, Cond.code yX11_commonDivisor cX11_commonDivisor 6 (some .int), Cond.methodLink RL 82 yX12_mean, Cond.instanceMethod yX12_mean, Cond.selects RX12 yX12_mean yX12_mean, Cond.code yX12_mean cX12_mean 4 (some .long), Cond.constantLong RX12 303 (-4611686018427387904), Cond.methodLink RX12 305 yX12_lowest, Cond.static yX12_lowest]
def wsL_law_r37 : List Cond := [Cond.code yX12_lowest cX12_lowest 11 (some .long), Cond.methodLink RL 83 yX11_tells, Cond.instanceMethod yX11_tells, Cond.selects RX11 yX11_tells yX11_tells, Cond.code yX11_tells cX11_tells 5 (some .int), Cond.methodLink RX11 277 yX11_firstOtherwise, Cond.instanceMethod yX11_firstOtherwise, Cond.selects RX11 yX11_firstOtherwise yX11_firstOtherwise, Cond.code yX11_firstOtherwise cX11_firstOtherwise 4 (some .int), Cond.methodLink RX11 280 yX11_suiting, Cond.instanceMethod yX11_suiting, Cond.selects RX11 yX11_suiting yX11_suiting, Cond.code yX11_suiting cX11_suiting 11 (some .int), Cond.methodLink RX11 284 yX11_vary, Cond.instanceMethod yX11_vary, Cond.selects RX11 yX11_vary yX11_vary, Cond.code yX11_vary cX11_vary 4 none, Cond.methodLink RL 86 yX12_tells, Cond.instanceMethod yX12_tells, Cond.selects RX12 yX12_tells yX12_tells, Cond.code yX12_tells cX12_tells 11 (some .int), Cond.methodLink RX12 309 yX12_firstOther, Cond.instanceMethod yX12_firstOther, Cond.selects RX12 yX12_firstOther yX12_firstOther]
def wsL_law_r38 : List Cond := [Cond.code yX12_firstOther cX12_firstOther 4 (some .int), Cond.methodLink RX12 312 yX12_likeSet, Cond.instanceMethod yX12_likeSet, Cond.selects RX12 yX12_likeSet yX12_likeSet, Cond.code yX12_likeSet cX12_likeSet 4 (some .int), Cond.methodLink RL 87 yX11_film, Cond.instanceMethod yX11_film, Cond.selects RX11 yX11_film yX11_film, Cond.code yX11_film cX11_film 7 (some .int), Cond.methodLink RX11 288 yX8_become, Cond.instanceMethod yX8_become, Cond.selects RX8 yX8_become yX8_become, Cond.code yX8_become cX8_become 4 none, Cond.fieldLink RX8 19 "FerriedInWords$Sheet" "size" "I", Cond.methodLink RX11 289 yX8_put, Cond.instanceMethod yX8_put, Cond.selects RX8 yX8_put yX8_put, Cond.code yX8_put cX8_put 3 none, Cond.methodLink RL 90 yX12_film, Cond.instanceMethod yX12_film, Cond.selects RX12 yX12_film yX12_film, Cond.code yX12_film cX12_film 6 (some .int), Cond.methodLink RX12 315 yX12_sheet, Cond.instanceMethod yX12_sheet]
def wsL_law_r39 : List Cond := [Cond.selects RX12 yX12_sheet yX12_sheet, Cond.code yX12_sheet cX12_sheet 5 (some .int), Cond.constantLong RX12 336 (-1), Cond.constantLong RX12 338 (2), Cond.methodLink RL 91 yX11_drawn, Cond.instanceMethod yX11_drawn, Cond.selects RX11 yX11_drawn yX11_drawn, Cond.code yX11_drawn cX11_drawn 3 (some .int), Cond.methodLink RX11 291 yX11_offOfDrawn, Cond.instanceMethod yX11_offOfDrawn, Cond.selects RX11 yX11_offOfDrawn yX11_offOfDrawn, Cond.code yX11_offOfDrawn cX11_offOfDrawn 7 (some .int), Cond.constant RX11 294 (1103515245), Cond.methodLink RL 94 yX12_drawn, Cond.instanceMethod yX12_drawn, Cond.selects RX12 yX12_drawn yX12_drawn, Cond.code yX12_drawn cX12_drawn 3 (some .int), Cond.constantLong RX12 319 (40), Cond.methodLink RX12 321 yX12_offDrawn, Cond.instanceMethod yX12_offDrawn, Cond.selects RX12 yX12_offDrawn yX12_offDrawn, Cond.code yX12_offDrawn cX12_offDrawn 7 (some .int), Cond.constant RX12 318 (1103515245), Cond.methodLink RL 95 yX11_chance]
def wsL_law_r40 : List Cond := [Cond.instanceMethod yX11_chance, Cond.selects RX11 yX11_chance yX11_chance, Cond.code yX11_chance cX11_chance 7 (some .long), Cond.methodLink RL 99 yX12_chance, Cond.instanceMethod yX12_chance, Cond.selects RX12 yX12_chance yX12_chance, Cond.code yX12_chance cX12_chance 8 (some .long), Cond.methodLink RL 100 yX11_image, Cond.instanceMethod yX11_image, Cond.selects RX11 yX11_image yX11_image, Cond.code yX11_image cX11_image 1 (some .int), Cond.fieldLink RX11 295 "FerriedInWords" "hasImage" "Z", Cond.methodLink RL 103 yX12_image, Cond.instanceMethod yX12_image, Cond.selects RX12 yX12_image yX12_image, Cond.code yX12_image cX12_image 2 (some .int), Cond.fieldLink RX12 324 "FerriedInWordsModel" "jettySizeKept" "I", Cond.fieldLink RX12 327 "FerriedInWordsModel" "comeKept" "I", Cond.fieldLink RX12 330 "FerriedInWordsModel" "dayKept" "I", Cond.fieldLink RX12 333 "FerriedInWordsModel" "ruleKept" "I", Cond.methodLink RL 104 yX11_back, Cond.instanceMethod yX11_back, Cond.selects RX11 yX11_back yX11_back, Cond.code yX11_back cX11_back 1 (some .int)]
def wsL_law_r41 : List Cond := [Cond.methodLink RL 107 yX12_back, Cond.instanceMethod yX12_back, Cond.selects RX12 yX12_back yX12_back, Cond.code yX12_back cX12_back 2 (some .int), Cond.methodLink RL 108 yX11_count, Cond.instanceMethod yX11_count, Cond.selects RX11 yX11_count yX11_count, Cond.code yX11_count cX11_count 2 (some .int), Cond.methodLink RL 111 yX12_count, Cond.instanceMethod yX12_count, Cond.selects RX12 yX12_count yX12_count, Cond.code yX12_count cX12_count 2 (some .int), Cond.methodLink RL 112 yX11_sheet, Cond.instanceMethod yX11_sheet, Cond.selects RX11 yX11_sheet yX11_sheet, Cond.code yX11_sheet cX11_sheet 4 (some .int), Cond.methodLink RL 115 yX12_sheet, Cond.methodLink RL 116 yX11_cell, Cond.instanceMethod yX11_cell, Cond.selects RX11 yX11_cell yX11_cell, Cond.code yX11_cell cX11_cell 4 (some .int), Cond.methodLink RX11 299 yX8_has, Cond.instanceMethod yX8_has, Cond.selects RX8 yX8_has yX8_has]
def wsL_law_r42 : List Cond := [Cond.code yX8_has cX8_has 3 (some .boolean), Cond.methodLink RL 119 yX12_cell, Cond.instanceMethod yX12_cell, Cond.selects RX12 yX12_cell yX12_cell, Cond.code yX12_cell cX12_cell 4 (some .int), Cond.methodLink RL 120 yX11_copy, Cond.instanceMethod yX11_copy, Cond.selects RX11 yX11_copy yX11_copy, Cond.code yX11_copy cX11_copy 8 (some .int), Cond.fieldLink RX11 303 "FerriedInWords$Sheet" "sort" "I", Cond.methodLink RX11 306 arraycopyName, Cond.native arraycopyName, Cond.static arraycopyName, Cond.initialized "java/lang/System", Cond.methodLink RL 124 yX12_copy, Cond.instanceMethod yX12_copy, Cond.selects RX12 yX12_copy yX12_copy, Cond.code yX12_copy cX12_copy 9 (some .int), Cond.methodLink RL 125 yX11_crew, Cond.instanceMethod yX11_crew, Cond.selects RX11 yX11_crew yX11_crew, Cond.code yX11_crew cX11_crew 10 (some .int), Cond.methodLink RX11 312 yX11_person, Cond.methodLink RL 128 yX12_crew]
def wsL_law_r43 : List Cond := [Cond.instanceMethod yX12_crew, Cond.selects RX12 yX12_crew yX12_crew, Cond.code yX12_crew cX12_crew 8 (some .int), Cond.methodLink RX12 340 yX12_person, Cond.methodLink RL 129 yX11_taken, Cond.instanceMethod yX11_taken, Cond.selects RX11 yX11_taken yX11_taken, Cond.code yX11_taken cX11_taken 4 (some .int), Cond.methodLink RX11 316 ⟨"FerriedInWords$Teller", "isUnder", "(I)Z"⟩, Cond.sameMethod "FerriedInWords$Teller" "FerriedInWords$Teller" "isUnder" "(I)Z", Cond.instanceMethod ⟨"FerriedInWords$Teller", "isUnder", "(I)Z"⟩, Cond.selects RX1 ⟨"FerriedInWords$Teller", "isUnder", "(I)Z"⟩ yX1_isUnder, Cond.instanceMethod yX1_isUnder, Cond.code yX1_isUnder cX1_isUnder 2 (some .boolean), Cond.methodLink RX1 9 yX9_isUnder, Cond.instanceMethod yX9_isUnder, Cond.code yX9_isUnder cX9_isUnder 2 (some .boolean), Cond.selects RX2 ⟨"FerriedInWords$Teller", "isUnder", "(I)Z"⟩ yX2_isUnder, Cond.instanceMethod yX2_isUnder, Cond.code yX2_isUnder cX2_isUnder 2 (some .boolean), Cond.methodLink RX2 9 yX9_isUnder, Cond.selects RX3 ⟨"FerriedInWords$Teller", "isUnder", "(I)Z"⟩ yX3_isUnder, Cond.instanceMethod yX3_isUnder, Cond.code yX3_isUnder cX3_isUnder 2 (some .boolean)]
def wsL_law_r44 : List Cond := [Cond.methodLink RX3 9 yX2_isUnder, Cond.sameMethod "FerriedInWords$Father" "FerriedInWords$Father" "isUnder" "(I)Z", Cond.selects RX4 ⟨"FerriedInWords$Teller", "isUnder", "(I)Z"⟩ yX4_isUnder, Cond.instanceMethod yX4_isUnder, Cond.code yX4_isUnder cX4_isUnder 2 (some .boolean), Cond.methodLink RX4 9 yX1_isUnder, Cond.sameMethod "FerriedInWords$Engineer" "FerriedInWords$Engineer" "isUnder" "(I)Z", Cond.selects RX6 ⟨"FerriedInWords$Teller", "isUnder", "(I)Z"⟩ yX6_isUnder, Cond.instanceMethod yX6_isUnder, Cond.code yX6_isUnder cX6_isUnder 2 (some .boolean), Cond.methodLink RX6 9 yX9_isUnder, Cond.methodLink RX11 316 yX9_isUnder, Cond.selects RX9 yX9_isUnder yX9_isUnder, Cond.methodLink RL 132 yX12_taken, Cond.instanceMethod yX12_taken, Cond.selects RX12 yX12_taken yX12_taken, Cond.code yX12_taken cX12_taken 4 (some .int), Cond.methodLink RX12 344 yX12_above, Cond.static yX12_above, Cond.code yX12_above cX12_above 1 (some .int)]
def wsL_law : List Cond := (wsL_law_r1 ++ (wsL_law_r2 ++ (wsL_law_r3 ++ (wsL_law_r4 ++ (wsL_law_r5 ++ (wsL_law_r6 ++ (wsL_law_r7 ++ (wsL_law_r8 ++ (wsL_law_r9 ++ (wsL_law_r10 ++ (wsL_law_r11 ++ (wsL_law_r12 ++ (wsL_law_r13 ++ (wsL_law_r14 ++ (wsL_law_r15 ++ (wsL_law_r16 ++ (wsL_law_r17 ++ (wsL_law_r18 ++ (wsL_law_r19 ++ (wsL_law_r20 ++ (wsL_law_r21 ++ (wsL_law_r22 ++ (wsL_law_r23 ++ (wsL_law_r24 ++ (wsL_law_r25 ++ (wsL_law_r26 ++ (wsL_law_r27 ++ (wsL_law_r28 ++ (wsL_law_r29 ++ (wsL_law_r30 ++ (wsL_law_r31 ++ (wsL_law_r32 ++ (wsL_law_r33 ++ (wsL_law_r34 ++ (wsL_law_r35 ++ (wsL_law_r36 ++ (wsL_law_r37 ++ (wsL_law_r38 ++ (wsL_law_r39 ++ (wsL_law_r40 ++ (wsL_law_r41 ++ (wsL_law_r42 ++ (wsL_law_r43 ++ wsL_law_r44))))))))))))))))))))))))))))))))))))))))))) ++ wsX110 ++ wsX120 ++ wsX00 ++ wsX90 ++ wsX20 ++ wsX10 ++ wsX30 ++ wsX40 ++ wsX60 ++ wsX80 ++ wsX100 ++ wsX70 ++ wsX50 ++ ([] : List Cond)
set_option maxRecDepth 20000 in
theorem wsL_law_in : ∀ w ∈ wsL_law, w ∈ lw_tbl := fun w h => (goodIn_p wsL_law [96, 99, 106, 113, 182, 189, 196, 203, 210, 217, 223, 241, 259, 297, 301, 307, 311, 314, 317, 322, 325, 328, 331, 335, 345, 349, 353, 401, 357, 361, 365, 370, 381, 391, 395, 398, 405, 409, 413, 417, 421, 437, 425, 429, 433, 449, 441, 445, 887, 892, 494, 498, 501, 505, 509, 1032, 1036, 1040, 1044, 1047, 1051, 1056, 513, 516, 1060, 520, 524, 1069, 528, 532, 536, 540, 544, 548, 551, 554, 560, 563, 566, 569, 577, 592, 581, 586, 590, 600, 621, 616, 604, 608, 612, 619, 626, 633, 649, 637, 640, 643, 647, 653, 660, 672, 664, 667, 671, 1157, 1162, 1166, 1170, 1174, 1177, 1082, 1086, 1090, 1099, 1103, 1107, 1111, 1115, 1131, 1143, 1139, 1127, 1147, 1119, 1123, 1135, 1180, 1184, 1188, 676, 1073, 680, 1078, 684, 1153, 688, 691, 695, 699, 702, 1192, 1195, 1198, 707, 711, 715, 719, 1202, 1206, 1210, 724, 728, 732, 736, 1214, 1221, 1225, 740, 744, 1229, 1233, 748, 752, 1237, 1241, 756, 760, 1245, 764, 1249, 768, 772, 775, 1253, 1257, 779, 783, 787, 791, 1261, 1265, 1269, 795, 799, 804, 1273, 1277, 808, 812, 1283, 1288, 817, 1293, 821, 1297, 825, 1301, 829, 1305, 833, 837, 841, 1310, 845, 1314, 852, 1318, 857, 864, 882, 868, 872, 876, 880, 1323, 1326] (by decide +kernel) (by decide +kernel) w h).1
theorem inlX0 : ∀ w ∈ wsX00, w ∈ wsL_law := fun _ h => List.mem_append_left _ (List.mem_append_left _ (List.mem_append_left _ (List.mem_append_left _ (List.mem_append_left _ (List.mem_append_left _ (List.mem_append_left _ (List.mem_append_left _ (List.mem_append_left _ (List.mem_append_left _ (List.mem_append_left _ (List.mem_append_right _ h)))))))))))
theorem inlX1 : ∀ w ∈ wsX10, w ∈ wsL_law := fun _ h => List.mem_append_left _ (List.mem_append_left _ (List.mem_append_left _ (List.mem_append_left _ (List.mem_append_left _ (List.mem_append_left _ (List.mem_append_left _ (List.mem_append_left _ (List.mem_append_right _ h))))))))
theorem inlX2 : ∀ w ∈ wsX20, w ∈ wsL_law := fun _ h => List.mem_append_left _ (List.mem_append_left _ (List.mem_append_left _ (List.mem_append_left _ (List.mem_append_left _ (List.mem_append_left _ (List.mem_append_left _ (List.mem_append_left _ (List.mem_append_left _ (List.mem_append_right _ h)))))))))
theorem inlX3 : ∀ w ∈ wsX30, w ∈ wsL_law := fun _ h => List.mem_append_left _ (List.mem_append_left _ (List.mem_append_left _ (List.mem_append_left _ (List.mem_append_left _ (List.mem_append_left _ (List.mem_append_left _ (List.mem_append_right _ h)))))))
theorem inlX4 : ∀ w ∈ wsX40, w ∈ wsL_law := fun _ h => List.mem_append_left _ (List.mem_append_left _ (List.mem_append_left _ (List.mem_append_left _ (List.mem_append_left _ (List.mem_append_left _ (List.mem_append_right _ h))))))
theorem inlX5 : ∀ w ∈ wsX50, w ∈ wsL_law := fun _ h => List.mem_append_left _ (List.mem_append_right _ h)
theorem inlX6 : ∀ w ∈ wsX60, w ∈ wsL_law := fun _ h => List.mem_append_left _ (List.mem_append_left _ (List.mem_append_left _ (List.mem_append_left _ (List.mem_append_left _ (List.mem_append_right _ h)))))
theorem inlX7 : ∀ w ∈ wsX70, w ∈ wsL_law := fun _ h => List.mem_append_left _ (List.mem_append_left _ (List.mem_append_right _ h))
theorem inlX8 : ∀ w ∈ wsX80, w ∈ wsL_law := fun _ h => List.mem_append_left _ (List.mem_append_left _ (List.mem_append_left _ (List.mem_append_left _ (List.mem_append_right _ h))))
theorem inlX9 : ∀ w ∈ wsX90, w ∈ wsL_law := fun _ h => List.mem_append_left _ (List.mem_append_left _ (List.mem_append_left _ (List.mem_append_left _ (List.mem_append_left _ (List.mem_append_left _ (List.mem_append_left _ (List.mem_append_left _ (List.mem_append_left _ (List.mem_append_left _ (List.mem_append_right _ h))))))))))
theorem inlX10 : ∀ w ∈ wsX100, w ∈ wsL_law := fun _ h => List.mem_append_left _ (List.mem_append_left _ (List.mem_append_left _ (List.mem_append_right _ h)))
theorem inlX11 : ∀ w ∈ wsX110, w ∈ wsL_law := fun _ h => List.mem_append_left _ (List.mem_append_left _ (List.mem_append_left _ (List.mem_append_left _ (List.mem_append_left _ (List.mem_append_left _ (List.mem_append_left _ (List.mem_append_left _ (List.mem_append_left _ (List.mem_append_left _ (List.mem_append_left _ (List.mem_append_left _ (List.mem_append_left _ (List.mem_append_right _ h)))))))))))))
theorem inlX12 : ∀ w ∈ wsX120, w ∈ wsL_law := fun _ h => List.mem_append_left _ (List.mem_append_left _ (List.mem_append_left _ (List.mem_append_left _ (List.mem_append_left _ (List.mem_append_left _ (List.mem_append_left _ (List.mem_append_left _ (List.mem_append_left _ (List.mem_append_left _ (List.mem_append_left _ (List.mem_append_left _ (List.mem_append_right _ h))))))))))))
abbrev vwCl : List vw_C := [(RX0, TX0, 7), (RX1, TX1, 0), (RX2, TX2, 0), (RX3, TX3, 0), (RX4, TX4, 0), (RX5, TX5, 5), (RX6, TX6, 0), (RX7, TX7, 10), (RX8, TX8, 3), (RX9, TX9, 0), (RX10, TX10, 3), (RX11, TX11, 13), (RX12, TX12, 45)]
end
