section
-- ===== PART A: goes FIRST, ahead of the names: the tables' words, and 'selects' of the private methods out of them =====
/-- a private method of a class that the tables say can be made, by its rows of tables_1 -/
def lw_okq (q : MethodName × Nat) : Prop := (q.1.cls ≠ "java/lang/invoke/MethodHandle" ∧ q.1.cls ≠ "java/lang/invoke/VarHandle") ∧ Cond.instantiable q.1.cls q.2 ∈ tables_1 ∧ Cond.privateMethod q.1 ∈ tables_1 ∧ Cond.instanceMethod q.1 ∈ tables_1
theorem lw_p0 : lw_okq (⟨"FerriedInWords$Reader", "split", "()V"⟩, 10) := ⟨⟨by decide +kernel, by decide +kernel⟩, List.mem_of_getElem? (i := 185) (by decide +kernel), List.mem_of_getElem? (i := 280) (by decide +kernel), List.mem_of_getElem? (i := 281) (by decide +kernel)⟩
theorem lw_p1 : lw_okq (⟨"FerriedInWords$Reader", "splitOff", "(I)I"⟩, 10) := ⟨⟨by decide +kernel, by decide +kernel⟩, List.mem_of_getElem? (i := 185) (by decide +kernel), List.mem_of_getElem? (i := 284) (by decide +kernel), List.mem_of_getElem? (i := 285) (by decide +kernel)⟩
theorem lw_p2 : lw_okq (⟨"FerriedInWords$Reader", "splitWord", "(I)I"⟩, 10) := ⟨⟨by decide +kernel, by decide +kernel⟩, List.mem_of_getElem? (i := 185) (by decide +kernel), List.mem_of_getElem? (i := 288) (by decide +kernel), List.mem_of_getElem? (i := 289) (by decide +kernel)⟩
theorem lw_p3 : lw_okq (⟨"FerriedInWords$Reader", "nameCode", "(II)I"⟩, 10) := ⟨⟨by decide +kernel, by decide +kernel⟩, List.mem_of_getElem? (i := 185) (by decide +kernel), List.mem_of_getElem? (i := 292) (by decide +kernel), List.mem_of_getElem? (i := 293) (by decide +kernel)⟩
theorem lw_p4 : lw_okq (⟨"FerriedInWords$Reader", "isWord", "(Ljava/lang/String;II)Z"⟩, 10) := ⟨⟨by decide +kernel, by decide +kernel⟩, List.mem_of_getElem? (i := 185) (by decide +kernel), List.mem_of_getElem? (i := 297) (by decide +kernel), List.mem_of_getElem? (i := 298) (by decide +kernel)⟩
theorem lw_p5 : lw_okq (⟨"FerriedInWords$Reader", "keyToken", "(II)I"⟩, 10) := ⟨⟨by decide +kernel, by decide +kernel⟩, List.mem_of_getElem? (i := 185) (by decide +kernel), List.mem_of_getElem? (i := 308) (by decide +kernel), List.mem_of_getElem? (i := 309) (by decide +kernel)⟩
theorem lw_p6 : lw_okq (⟨"FerriedInWords$Reader", "addToken", "(III)V"⟩, 10) := ⟨⟨by decide +kernel, by decide +kernel⟩, List.mem_of_getElem? (i := 185) (by decide +kernel), List.mem_of_getElem? (i := 318) (by decide +kernel), List.mem_of_getElem? (i := 319) (by decide +kernel)⟩
theorem lw_p7 : lw_okq (⟨"FerriedInWords$Reader", "splitNumber", "(I)I"⟩, 10) := ⟨⟨by decide +kernel, by decide +kernel⟩, List.mem_of_getElem? (i := 185) (by decide +kernel), List.mem_of_getElem? (i := 322) (by decide +kernel), List.mem_of_getElem? (i := 323) (by decide +kernel)⟩
theorem lw_p8 : lw_okq (⟨"FerriedInWords$Reader", "readPart", "(II)V"⟩, 10) := ⟨⟨by decide +kernel, by decide +kernel⟩, List.mem_of_getElem? (i := 185) (by decide +kernel), List.mem_of_getElem? (i := 332) (by decide +kernel), List.mem_of_getElem? (i := 333) (by decide +kernel)⟩
theorem lw_p9 : lw_okq (⟨"FerriedInWords$Reader", "expect", "(I)V"⟩, 10) := ⟨⟨by decide +kernel, by decide +kernel⟩, List.mem_of_getElem? (i := 185) (by decide +kernel), List.mem_of_getElem? (i := 336) (by decide +kernel), List.mem_of_getElem? (i := 337) (by decide +kernel)⟩
theorem lw_p10 : lw_okq (⟨"FerriedInWords$Reader", "advance", "()V"⟩, 10) := ⟨⟨by decide +kernel, by decide +kernel⟩, List.mem_of_getElem? (i := 185) (by decide +kernel), List.mem_of_getElem? (i := 340) (by decide +kernel), List.mem_of_getElem? (i := 341) (by decide +kernel)⟩
theorem lw_p11 : lw_okq (⟨"FerriedInWords$Reader", "fail", "()V"⟩, 10) := ⟨⟨by decide +kernel, by decide +kernel⟩, List.mem_of_getElem? (i := 185) (by decide +kernel), List.mem_of_getElem? (i := 344) (by decide +kernel), List.mem_of_getElem? (i := 345) (by decide +kernel)⟩
theorem lw_p12 : lw_okq (⟨"FerriedInWords$Reader", "readOrs", "(I)V"⟩, 10) := ⟨⟨by decide +kernel, by decide +kernel⟩, List.mem_of_getElem? (i := 185) (by decide +kernel), List.mem_of_getElem? (i := 348) (by decide +kernel), List.mem_of_getElem? (i := 349) (by decide +kernel)⟩
theorem lw_p13 : lw_okq (⟨"FerriedInWords$Reader", "readAnds", "(I)V"⟩, 10) := ⟨⟨by decide +kernel, by decide +kernel⟩, List.mem_of_getElem? (i := 185) (by decide +kernel), List.mem_of_getElem? (i := 352) (by decide +kernel), List.mem_of_getElem? (i := 353) (by decide +kernel)⟩
theorem lw_p14 : lw_okq (⟨"FerriedInWords$Reader", "readNot", "(I)V"⟩, 10) := ⟨⟨by decide +kernel, by decide +kernel⟩, List.mem_of_getElem? (i := 185) (by decide +kernel), List.mem_of_getElem? (i := 356) (by decide +kernel), List.mem_of_getElem? (i := 357) (by decide +kernel)⟩
theorem lw_p15 : lw_okq (⟨"FerriedInWords$Reader", "opens", "(I)Z"⟩, 10) := ⟨⟨by decide +kernel, by decide +kernel⟩, List.mem_of_getElem? (i := 185) (by decide +kernel), List.mem_of_getElem? (i := 360) (by decide +kernel), List.mem_of_getElem? (i := 361) (by decide +kernel)⟩
def lw_privs_1 : List (MethodName × Nat) := [(⟨"FerriedInWords$Reader", "split", "()V"⟩, 10), (⟨"FerriedInWords$Reader", "splitOff", "(I)I"⟩, 10), (⟨"FerriedInWords$Reader", "splitWord", "(I)I"⟩, 10), (⟨"FerriedInWords$Reader", "nameCode", "(II)I"⟩, 10), (⟨"FerriedInWords$Reader", "isWord", "(Ljava/lang/String;II)Z"⟩, 10), (⟨"FerriedInWords$Reader", "keyToken", "(II)I"⟩, 10), (⟨"FerriedInWords$Reader", "addToken", "(III)V"⟩, 10), (⟨"FerriedInWords$Reader", "splitNumber", "(I)I"⟩, 10), (⟨"FerriedInWords$Reader", "readPart", "(II)V"⟩, 10), (⟨"FerriedInWords$Reader", "expect", "(I)V"⟩, 10), (⟨"FerriedInWords$Reader", "advance", "()V"⟩, 10), (⟨"FerriedInWords$Reader", "fail", "()V"⟩, 10), (⟨"FerriedInWords$Reader", "readOrs", "(I)V"⟩, 10), (⟨"FerriedInWords$Reader", "readAnds", "(I)V"⟩, 10), (⟨"FerriedInWords$Reader", "readNot", "(I)V"⟩, 10), (⟨"FerriedInWords$Reader", "opens", "(I)Z"⟩, 10)]
theorem lw_r1 : ∀ q ∈ lw_privs_1, lw_okq q := List.forall_mem_cons.mpr ⟨lw_p0, List.forall_mem_cons.mpr ⟨lw_p1, List.forall_mem_cons.mpr ⟨lw_p2, List.forall_mem_cons.mpr ⟨lw_p3, List.forall_mem_cons.mpr ⟨lw_p4, List.forall_mem_cons.mpr ⟨lw_p5, List.forall_mem_cons.mpr ⟨lw_p6, List.forall_mem_cons.mpr ⟨lw_p7, List.forall_mem_cons.mpr ⟨lw_p8, List.forall_mem_cons.mpr ⟨lw_p9, List.forall_mem_cons.mpr ⟨lw_p10, List.forall_mem_cons.mpr ⟨lw_p11, List.forall_mem_cons.mpr ⟨lw_p12, List.forall_mem_cons.mpr ⟨lw_p13, List.forall_mem_cons.mpr ⟨lw_p14, List.forall_mem_cons.mpr ⟨lw_p15, fun _ h => absurd h List.not_mem_nil⟩⟩⟩⟩⟩⟩⟩⟩⟩⟩⟩⟩⟩⟩⟩⟩
theorem lw_p16 : lw_okq (⟨"FerriedInWords$Reader", "readSum", "(I)V"⟩, 10) := ⟨⟨by decide +kernel, by decide +kernel⟩, List.mem_of_getElem? (i := 185) (by decide +kernel), List.mem_of_getElem? (i := 368) (by decide +kernel), List.mem_of_getElem? (i := 369) (by decide +kernel)⟩
theorem lw_p17 : lw_okq (⟨"FerriedInWords$Reader", "readTerm", "(I)V"⟩, 10) := ⟨⟨by decide +kernel, by decide +kernel⟩, List.mem_of_getElem? (i := 185) (by decide +kernel), List.mem_of_getElem? (i := 372) (by decide +kernel), List.mem_of_getElem? (i := 373) (by decide +kernel)⟩
theorem lw_p18 : lw_okq (⟨"FerriedInWords$Reader", "readOne", "(I)V"⟩, 10) := ⟨⟨by decide +kernel, by decide +kernel⟩, List.mem_of_getElem? (i := 185) (by decide +kernel), List.mem_of_getElem? (i := 376) (by decide +kernel), List.mem_of_getElem? (i := 377) (by decide +kernel)⟩
theorem lw_p19 : lw_okq (⟨"FerriedInWords", "telling", "(LFerriedInWords$Crossing;LFerriedInWords$One;I)I"⟩, 13) := ⟨⟨by decide +kernel, by decide +kernel⟩, List.mem_of_getElem? (i := 22) (by decide +kernel), List.mem_of_getElem? (i := 459) (by decide +kernel), List.mem_of_getElem? (i := 460) (by decide +kernel)⟩
theorem lw_p20 : lw_okq (⟨"FerriedInWords", "kindOf", "(LFerriedInWords$One;)LFerriedInWords$Teller;"⟩, 13) := ⟨⟨by decide +kernel, by decide +kernel⟩, List.mem_of_getElem? (i := 22) (by decide +kernel), List.mem_of_getElem? (i := 463) (by decide +kernel), List.mem_of_getElem? (i := 464) (by decide +kernel)⟩
theorem lw_p21 : lw_okq (⟨"FerriedInWords", "keeping", "(LFerriedInWords$Crossing;LFerriedInWords$One;I)I"⟩, 13) := ⟨⟨by decide +kernel, by decide +kernel⟩, List.mem_of_getElem? (i := 22) (by decide +kernel), List.mem_of_getElem? (i := 467) (by decide +kernel), List.mem_of_getElem? (i := 468) (by decide +kernel)⟩
theorem lw_p22 : lw_okq (⟨"FerriedInWords", "ruleOf", "(LFerriedInWords$Crossing;)LFerriedInWords$Text;"⟩, 13) := ⟨⟨by decide +kernel, by decide +kernel⟩, List.mem_of_getElem? (i := 22) (by decide +kernel), List.mem_of_getElem? (i := 471) (by decide +kernel), List.mem_of_getElem? (i := 472) (by decide +kernel)⟩
theorem lw_p23 : lw_okq (⟨"FerriedInWords", "tiring", "(LFerriedInWords$Crossing;LFerriedInWords$One;I)I"⟩, 13) := ⟨⟨by decide +kernel, by decide +kernel⟩, List.mem_of_getElem? (i := 22) (by decide +kernel), List.mem_of_getElem? (i := 553) (by decide +kernel), List.mem_of_getElem? (i := 554) (by decide +kernel)⟩
theorem lw_p24 : lw_okq (⟨"FerriedInWords", "learning", "(LFerriedInWords$Crossing;LFerriedInWords$One;I)Z"⟩, 13) := ⟨⟨by decide +kernel, by decide +kernel⟩, List.mem_of_getElem? (i := 22) (by decide +kernel), List.mem_of_getElem? (i := 580) (by decide +kernel), List.mem_of_getElem? (i := 581) (by decide +kernel)⟩
theorem lw_p25 : lw_okq (⟨"FerriedInWords", "toldByRow", "(LFerriedInWords$Sheet;I)I"⟩, 13) := ⟨⟨by decide +kernel, by decide +kernel⟩, List.mem_of_getElem? (i := 22) (by decide +kernel), List.mem_of_getElem? (i := 626) (by decide +kernel), List.mem_of_getElem? (i := 627) (by decide +kernel)⟩
theorem lw_p26 : lw_okq (⟨"FerriedInWords", "passDay", "(LFerriedInWords$Crossing;)I"⟩, 13) := ⟨⟨by decide +kernel, by decide +kernel⟩, List.mem_of_getElem? (i := 22) (by decide +kernel), List.mem_of_getElem? (i := 638) (by decide +kernel), List.mem_of_getElem? (i := 639) (by decide +kernel)⟩
theorem lw_p27 : lw_okq (⟨"FerriedInWords", "tellTruly", "(LFerriedInWords$Crossing;LFerriedInWords$One;I)I"⟩, 13) := ⟨⟨by decide +kernel, by decide +kernel⟩, List.mem_of_getElem? (i := 22) (by decide +kernel), List.mem_of_getElem? (i := 646) (by decide +kernel), List.mem_of_getElem? (i := 647) (by decide +kernel)⟩
theorem lw_p28 : lw_okq (⟨"FerriedInWords", "isAskedOfRun", "(I)Z"⟩, 13) := ⟨⟨by decide +kernel, by decide +kernel⟩, List.mem_of_getElem? (i := 22) (by decide +kernel), List.mem_of_getElem? (i := 655) (by decide +kernel), List.mem_of_getElem? (i := 656) (by decide +kernel)⟩
theorem lw_p29 : lw_okq (⟨"FerriedInWords", "toldByAll", "(LFerriedInWords$Crossing;I)I"⟩, 13) := ⟨⟨by decide +kernel, by decide +kernel⟩, List.mem_of_getElem? (i := 22) (by decide +kernel), List.mem_of_getElem? (i := 671) (by decide +kernel), List.mem_of_getElem? (i := 672) (by decide +kernel)⟩
theorem lw_p30 : lw_okq (⟨"FerriedInWords", "tryRows", "(IIIII)V"⟩, 13) := ⟨⟨by decide +kernel, by decide +kernel⟩, List.mem_of_getElem? (i := 22) (by decide +kernel), List.mem_of_getElem? (i := 679) (by decide +kernel), List.mem_of_getElem? (i := 680) (by decide +kernel)⟩
theorem lw_p31 : lw_okq (⟨"FerriedInWords", "toldWithMore", "(II)I"⟩, 13) := ⟨⟨by decide +kernel, by decide +kernel⟩, List.mem_of_getElem? (i := 22) (by decide +kernel), List.mem_of_getElem? (i := 687) (by decide +kernel), List.mem_of_getElem? (i := 688) (by decide +kernel)⟩
def lw_privs_2 : List (MethodName × Nat) := [(⟨"FerriedInWords$Reader", "readSum", "(I)V"⟩, 10), (⟨"FerriedInWords$Reader", "readTerm", "(I)V"⟩, 10), (⟨"FerriedInWords$Reader", "readOne", "(I)V"⟩, 10), (⟨"FerriedInWords", "telling", "(LFerriedInWords$Crossing;LFerriedInWords$One;I)I"⟩, 13), (⟨"FerriedInWords", "kindOf", "(LFerriedInWords$One;)LFerriedInWords$Teller;"⟩, 13), (⟨"FerriedInWords", "keeping", "(LFerriedInWords$Crossing;LFerriedInWords$One;I)I"⟩, 13), (⟨"FerriedInWords", "ruleOf", "(LFerriedInWords$Crossing;)LFerriedInWords$Text;"⟩, 13), (⟨"FerriedInWords", "tiring", "(LFerriedInWords$Crossing;LFerriedInWords$One;I)I"⟩, 13), (⟨"FerriedInWords", "learning", "(LFerriedInWords$Crossing;LFerriedInWords$One;I)Z"⟩, 13), (⟨"FerriedInWords", "toldByRow", "(LFerriedInWords$Sheet;I)I"⟩, 13), (⟨"FerriedInWords", "passDay", "(LFerriedInWords$Crossing;)I"⟩, 13), (⟨"FerriedInWords", "tellTruly", "(LFerriedInWords$Crossing;LFerriedInWords$One;I)I"⟩, 13), (⟨"FerriedInWords", "isAskedOfRun", "(I)Z"⟩, 13), (⟨"FerriedInWords", "toldByAll", "(LFerriedInWords$Crossing;I)I"⟩, 13), (⟨"FerriedInWords", "tryRows", "(IIIII)V"⟩, 13), (⟨"FerriedInWords", "toldWithMore", "(II)I"⟩, 13)]
theorem lw_r2 : ∀ q ∈ lw_privs_2, lw_okq q := List.forall_mem_cons.mpr ⟨lw_p16, List.forall_mem_cons.mpr ⟨lw_p17, List.forall_mem_cons.mpr ⟨lw_p18, List.forall_mem_cons.mpr ⟨lw_p19, List.forall_mem_cons.mpr ⟨lw_p20, List.forall_mem_cons.mpr ⟨lw_p21, List.forall_mem_cons.mpr ⟨lw_p22, List.forall_mem_cons.mpr ⟨lw_p23, List.forall_mem_cons.mpr ⟨lw_p24, List.forall_mem_cons.mpr ⟨lw_p25, List.forall_mem_cons.mpr ⟨lw_p26, List.forall_mem_cons.mpr ⟨lw_p27, List.forall_mem_cons.mpr ⟨lw_p28, List.forall_mem_cons.mpr ⟨lw_p29, List.forall_mem_cons.mpr ⟨lw_p30, List.forall_mem_cons.mpr ⟨lw_p31, fun _ h => absurd h List.not_mem_nil⟩⟩⟩⟩⟩⟩⟩⟩⟩⟩⟩⟩⟩⟩⟩⟩
theorem lw_p32 : lw_okq (⟨"FerriedInWords", "firstOtherwise", "(LFerriedInWords$Sheet;I)I"⟩, 13) := ⟨⟨by decide +kernel, by decide +kernel⟩, List.mem_of_getElem? (i := 22) (by decide +kernel), List.mem_of_getElem? (i := 710) (by decide +kernel), List.mem_of_getElem? (i := 711) (by decide +kernel)⟩
theorem lw_p33 : lw_okq (⟨"FerriedInWords", "suiting", "(LFerriedInWords$Sheet;IIII)I"⟩, 13) := ⟨⟨by decide +kernel, by decide +kernel⟩, List.mem_of_getElem? (i := 22) (by decide +kernel), List.mem_of_getElem? (i := 714) (by decide +kernel), List.mem_of_getElem? (i := 715) (by decide +kernel)⟩
theorem lw_p34 : lw_okq (⟨"FerriedInWords", "vary", "(III)V"⟩, 13) := ⟨⟨by decide +kernel, by decide +kernel⟩, List.mem_of_getElem? (i := 22) (by decide +kernel), List.mem_of_getElem? (i := 718) (by decide +kernel), List.mem_of_getElem? (i := 719) (by decide +kernel)⟩
theorem lw_p35 : lw_okq (⟨"FerriedInWords", "offOfDrawn", "(II)I"⟩, 13) := ⟨⟨by decide +kernel, by decide +kernel⟩, List.mem_of_getElem? (i := 22) (by decide +kernel), List.mem_of_getElem? (i := 739) (by decide +kernel), List.mem_of_getElem? (i := 740) (by decide +kernel)⟩
theorem lw_p36 : lw_okq (⟨"FerriedInWordsModel", "spell", "(IIIIIIIII)V"⟩, 45) := ⟨⟨by decide +kernel, by decide +kernel⟩, List.mem_of_getElem? (i := 813) (by decide +kernel), List.mem_of_getElem? (i := 819) (by decide +kernel), List.mem_of_getElem? (i := 820) (by decide +kernel)⟩
theorem lw_p37 : lw_okq (⟨"FerriedInWordsModel", "isOf", "(II)Z"⟩, 45) := ⟨⟨by decide +kernel, by decide +kernel⟩, List.mem_of_getElem? (i := 813) (by decide +kernel), List.mem_of_getElem? (i := 967) (by decide +kernel), List.mem_of_getElem? (i := 968) (by decide +kernel)⟩
theorem lw_p38 : lw_okq (⟨"FerriedInWordsModel", "isOne", "(I)Z"⟩, 45) := ⟨⟨by decide +kernel, by decide +kernel⟩, List.mem_of_getElem? (i := 813) (by decide +kernel), List.mem_of_getElem? (i := 971) (by decide +kernel), List.mem_of_getElem? (i := 972) (by decide +kernel)⟩
theorem lw_p39 : lw_okq (⟨"FerriedInWordsModel", "lays", "(III)V"⟩, 45) := ⟨⟨by decide +kernel, by decide +kernel⟩, List.mem_of_getElem? (i := 813) (by decide +kernel), List.mem_of_getElem? (i := 983) (by decide +kernel), List.mem_of_getElem? (i := 984) (by decide +kernel)⟩
theorem lw_p40 : lw_okq (⟨"FerriedInWordsModel", "read", "(II)I"⟩, 45) := ⟨⟨by decide +kernel, by decide +kernel⟩, List.mem_of_getElem? (i := 813) (by decide +kernel), List.mem_of_getElem? (i := 1009) (by decide +kernel), List.mem_of_getElem? (i := 1010) (by decide +kernel)⟩
theorem lw_p41 : lw_okq (⟨"FerriedInWordsModel", "next", "()V"⟩, 45) := ⟨⟨by decide +kernel, by decide +kernel⟩, List.mem_of_getElem? (i := 813) (by decide +kernel), List.mem_of_getElem? (i := 1013) (by decide +kernel), List.mem_of_getElem? (i := 1014) (by decide +kernel)⟩
theorem lw_p42 : lw_okq (⟨"FerriedInWordsModel", "byteAt", "(I)I"⟩, 45) := ⟨⟨by decide +kernel, by decide +kernel⟩, List.mem_of_getElem? (i := 813) (by decide +kernel), List.mem_of_getElem? (i := 1017) (by decide +kernel), List.mem_of_getElem? (i := 1018) (by decide +kernel)⟩
theorem lw_p43 : lw_okq (⟨"FerriedInWordsModel", "isWord", "(IIIIIIII)Z"⟩, 45) := ⟨⟨by decide +kernel, by decide +kernel⟩, List.mem_of_getElem? (i := 813) (by decide +kernel), List.mem_of_getElem? (i := 1026) (by decide +kernel), List.mem_of_getElem? (i := 1027) (by decide +kernel)⟩
theorem lw_p44 : lw_okq (⟨"FerriedInWordsModel", "isLetter", "(II)Z"⟩, 45) := ⟨⟨by decide +kernel, by decide +kernel⟩, List.mem_of_getElem? (i := 813) (by decide +kernel), List.mem_of_getElem? (i := 1030) (by decide +kernel), List.mem_of_getElem? (i := 1031) (by decide +kernel)⟩
theorem lw_p45 : lw_okq (⟨"FerriedInWordsModel", "part", "(Z)I"⟩, 45) := ⟨⟨by decide +kernel, by decide +kernel⟩, List.mem_of_getElem? (i := 813) (by decide +kernel), List.mem_of_getElem? (i := 1034) (by decide +kernel), List.mem_of_getElem? (i := 1035) (by decide +kernel)⟩
theorem lw_p46 : lw_okq (⟨"FerriedInWordsModel", "fail", "()V"⟩, 45) := ⟨⟨by decide +kernel, by decide +kernel⟩, List.mem_of_getElem? (i := 813) (by decide +kernel), List.mem_of_getElem? (i := 1038) (by decide +kernel), List.mem_of_getElem? (i := 1039) (by decide +kernel)⟩
theorem lw_p47 : lw_okq (⟨"FerriedInWordsModel", "either", "()I"⟩, 45) := ⟨⟨by decide +kernel, by decide +kernel⟩, List.mem_of_getElem? (i := 813) (by decide +kernel), List.mem_of_getElem? (i := 1042) (by decide +kernel), List.mem_of_getElem? (i := 1043) (by decide +kernel)⟩
def lw_privs_3 : List (MethodName × Nat) := [(⟨"FerriedInWords", "firstOtherwise", "(LFerriedInWords$Sheet;I)I"⟩, 13), (⟨"FerriedInWords", "suiting", "(LFerriedInWords$Sheet;IIII)I"⟩, 13), (⟨"FerriedInWords", "vary", "(III)V"⟩, 13), (⟨"FerriedInWords", "offOfDrawn", "(II)I"⟩, 13), (⟨"FerriedInWordsModel", "spell", "(IIIIIIIII)V"⟩, 45), (⟨"FerriedInWordsModel", "isOf", "(II)Z"⟩, 45), (⟨"FerriedInWordsModel", "isOne", "(I)Z"⟩, 45), (⟨"FerriedInWordsModel", "lays", "(III)V"⟩, 45), (⟨"FerriedInWordsModel", "read", "(II)I"⟩, 45), (⟨"FerriedInWordsModel", "next", "()V"⟩, 45), (⟨"FerriedInWordsModel", "byteAt", "(I)I"⟩, 45), (⟨"FerriedInWordsModel", "isWord", "(IIIIIIII)Z"⟩, 45), (⟨"FerriedInWordsModel", "isLetter", "(II)Z"⟩, 45), (⟨"FerriedInWordsModel", "part", "(Z)I"⟩, 45), (⟨"FerriedInWordsModel", "fail", "()V"⟩, 45), (⟨"FerriedInWordsModel", "either", "()I"⟩, 45)]
theorem lw_r3 : ∀ q ∈ lw_privs_3, lw_okq q := List.forall_mem_cons.mpr ⟨lw_p32, List.forall_mem_cons.mpr ⟨lw_p33, List.forall_mem_cons.mpr ⟨lw_p34, List.forall_mem_cons.mpr ⟨lw_p35, List.forall_mem_cons.mpr ⟨lw_p36, List.forall_mem_cons.mpr ⟨lw_p37, List.forall_mem_cons.mpr ⟨lw_p38, List.forall_mem_cons.mpr ⟨lw_p39, List.forall_mem_cons.mpr ⟨lw_p40, List.forall_mem_cons.mpr ⟨lw_p41, List.forall_mem_cons.mpr ⟨lw_p42, List.forall_mem_cons.mpr ⟨lw_p43, List.forall_mem_cons.mpr ⟨lw_p44, List.forall_mem_cons.mpr ⟨lw_p45, List.forall_mem_cons.mpr ⟨lw_p46, List.forall_mem_cons.mpr ⟨lw_p47, fun _ h => absurd h List.not_mem_nil⟩⟩⟩⟩⟩⟩⟩⟩⟩⟩⟩⟩⟩⟩⟩⟩
theorem lw_p48 : lw_okq (⟨"FerriedInWordsModel", "both", "()I"⟩, 45) := ⟨⟨by decide +kernel, by decide +kernel⟩, List.mem_of_getElem? (i := 813) (by decide +kernel), List.mem_of_getElem? (i := 1046) (by decide +kernel), List.mem_of_getElem? (i := 1047) (by decide +kernel)⟩
theorem lw_p49 : lw_okq (⟨"FerriedInWordsModel", "not", "()I"⟩, 45) := ⟨⟨by decide +kernel, by decide +kernel⟩, List.mem_of_getElem? (i := 813) (by decide +kernel), List.mem_of_getElem? (i := 1050) (by decide +kernel), List.mem_of_getElem? (i := 1051) (by decide +kernel)⟩
theorem lw_p50 : lw_okq (⟨"FerriedInWordsModel", "opens", "()Z"⟩, 45) := ⟨⟨by decide +kernel, by decide +kernel⟩, List.mem_of_getElem? (i := 813) (by decide +kernel), List.mem_of_getElem? (i := 1054) (by decide +kernel), List.mem_of_getElem? (i := 1055) (by decide +kernel)⟩
theorem lw_p51 : lw_okq (⟨"FerriedInWordsModel", "added", "()I"⟩, 45) := ⟨⟨by decide +kernel, by decide +kernel⟩, List.mem_of_getElem? (i := 813) (by decide +kernel), List.mem_of_getElem? (i := 1058) (by decide +kernel), List.mem_of_getElem? (i := 1059) (by decide +kernel)⟩
theorem lw_p52 : lw_okq (⟨"FerriedInWordsModel", "term", "()I"⟩, 45) := ⟨⟨by decide +kernel, by decide +kernel⟩, List.mem_of_getElem? (i := 813) (by decide +kernel), List.mem_of_getElem? (i := 1062) (by decide +kernel), List.mem_of_getElem? (i := 1063) (by decide +kernel)⟩
theorem lw_p53 : lw_okq (⟨"FerriedInWordsModel", "atom", "()I"⟩, 45) := ⟨⟨by decide +kernel, by decide +kernel⟩, List.mem_of_getElem? (i := 813) (by decide +kernel), List.mem_of_getElem? (i := 1066) (by decide +kernel), List.mem_of_getElem? (i := 1067) (by decide +kernel)⟩
theorem lw_p54 : lw_okq (⟨"FerriedInWordsModel", "isSign", "(I)Z"⟩, 45) := ⟨⟨by decide +kernel, by decide +kernel⟩, List.mem_of_getElem? (i := 813) (by decide +kernel), List.mem_of_getElem? (i := 1070) (by decide +kernel), List.mem_of_getElem? (i := 1071) (by decide +kernel)⟩
theorem lw_p55 : lw_okq (⟨"FerriedInWordsModel", "name", "()I"⟩, 45) := ⟨⟨by decide +kernel, by decide +kernel⟩, List.mem_of_getElem? (i := 813) (by decide +kernel), List.mem_of_getElem? (i := 1074) (by decide +kernel), List.mem_of_getElem? (i := 1075) (by decide +kernel)⟩
theorem lw_p56 : lw_okq (⟨"FerriedInWordsModel", "tellsOf", "(II)I"⟩, 45) := ⟨⟨by decide +kernel, by decide +kernel⟩, List.mem_of_getElem? (i := 813) (by decide +kernel), List.mem_of_getElem? (i := 1089) (by decide +kernel), List.mem_of_getElem? (i := 1090) (by decide +kernel)⟩
theorem lw_p57 : lw_okq (⟨"FerriedInWordsModel", "wordsOf", "(I)I"⟩, 45) := ⟨⟨by decide +kernel, by decide +kernel⟩, List.mem_of_getElem? (i := 813) (by decide +kernel), List.mem_of_getElem? (i := 1093) (by decide +kernel), List.mem_of_getElem? (i := 1094) (by decide +kernel)⟩
theorem lw_p58 : lw_okq (⟨"FerriedInWordsModel", "keepsOf", "(II)I"⟩, 45) := ⟨⟨by decide +kernel, by decide +kernel⟩, List.mem_of_getElem? (i := 813) (by decide +kernel), List.mem_of_getElem? (i := 1097) (by decide +kernel), List.mem_of_getElem? (i := 1098) (by decide +kernel)⟩
theorem lw_p59 : lw_okq (⟨"FerriedInWordsModel", "says", "(III)I"⟩, 45) := ⟨⟨by decide +kernel, by decide +kernel⟩, List.mem_of_getElem? (i := 813) (by decide +kernel), List.mem_of_getElem? (i := 1101) (by decide +kernel), List.mem_of_getElem? (i := 1102) (by decide +kernel)⟩
theorem lw_p60 : lw_okq (⟨"FerriedInWordsModel", "tiresOf", "(II)I"⟩, 45) := ⟨⟨by decide +kernel, by decide +kernel⟩, List.mem_of_getElem? (i := 813) (by decide +kernel), List.mem_of_getElem? (i := 1111) (by decide +kernel), List.mem_of_getElem? (i := 1112) (by decide +kernel)⟩
theorem lw_p61 : lw_okq (⟨"FerriedInWordsModel", "learns", "(II)Z"⟩, 45) := ⟨⟨by decide +kernel, by decide +kernel⟩, List.mem_of_getElem? (i := 813) (by decide +kernel), List.mem_of_getElem? (i := 1115) (by decide +kernel), List.mem_of_getElem? (i := 1116) (by decide +kernel)⟩
theorem lw_p62 : lw_okq (⟨"FerriedInWordsModel", "passes", "()I"⟩, 45) := ⟨⟨by decide +kernel, by decide +kernel⟩, List.mem_of_getElem? (i := 813) (by decide +kernel), List.mem_of_getElem? (i := 1133) (by decide +kernel), List.mem_of_getElem? (i := 1134) (by decide +kernel)⟩
theorem lw_p63 : lw_okq (⟨"FerriedInWordsModel", "tellsTruly", "(II)I"⟩, 45) := ⟨⟨by decide +kernel, by decide +kernel⟩, List.mem_of_getElem? (i := 813) (by decide +kernel), List.mem_of_getElem? (i := 1137) (by decide +kernel), List.mem_of_getElem? (i := 1138) (by decide +kernel)⟩
def lw_privs_4 : List (MethodName × Nat) := [(⟨"FerriedInWordsModel", "both", "()I"⟩, 45), (⟨"FerriedInWordsModel", "not", "()I"⟩, 45), (⟨"FerriedInWordsModel", "opens", "()Z"⟩, 45), (⟨"FerriedInWordsModel", "added", "()I"⟩, 45), (⟨"FerriedInWordsModel", "term", "()I"⟩, 45), (⟨"FerriedInWordsModel", "atom", "()I"⟩, 45), (⟨"FerriedInWordsModel", "isSign", "(I)Z"⟩, 45), (⟨"FerriedInWordsModel", "name", "()I"⟩, 45), (⟨"FerriedInWordsModel", "tellsOf", "(II)I"⟩, 45), (⟨"FerriedInWordsModel", "wordsOf", "(I)I"⟩, 45), (⟨"FerriedInWordsModel", "keepsOf", "(II)I"⟩, 45), (⟨"FerriedInWordsModel", "says", "(III)I"⟩, 45), (⟨"FerriedInWordsModel", "tiresOf", "(II)I"⟩, 45), (⟨"FerriedInWordsModel", "learns", "(II)Z"⟩, 45), (⟨"FerriedInWordsModel", "passes", "()I"⟩, 45), (⟨"FerriedInWordsModel", "tellsTruly", "(II)I"⟩, 45)]
theorem lw_r4 : ∀ q ∈ lw_privs_4, lw_okq q := List.forall_mem_cons.mpr ⟨lw_p48, List.forall_mem_cons.mpr ⟨lw_p49, List.forall_mem_cons.mpr ⟨lw_p50, List.forall_mem_cons.mpr ⟨lw_p51, List.forall_mem_cons.mpr ⟨lw_p52, List.forall_mem_cons.mpr ⟨lw_p53, List.forall_mem_cons.mpr ⟨lw_p54, List.forall_mem_cons.mpr ⟨lw_p55, List.forall_mem_cons.mpr ⟨lw_p56, List.forall_mem_cons.mpr ⟨lw_p57, List.forall_mem_cons.mpr ⟨lw_p58, List.forall_mem_cons.mpr ⟨lw_p59, List.forall_mem_cons.mpr ⟨lw_p60, List.forall_mem_cons.mpr ⟨lw_p61, List.forall_mem_cons.mpr ⟨lw_p62, List.forall_mem_cons.mpr ⟨lw_p63, fun _ h => absurd h List.not_mem_nil⟩⟩⟩⟩⟩⟩⟩⟩⟩⟩⟩⟩⟩⟩⟩⟩
theorem lw_p64 : lw_okq (⟨"FerriedInWordsModel", "laysAside", "()V"⟩, 45) := ⟨⟨by decide +kernel, by decide +kernel⟩, List.mem_of_getElem? (i := 813) (by decide +kernel), List.mem_of_getElem? (i := 1148) (by decide +kernel), List.mem_of_getElem? (i := 1149) (by decide +kernel)⟩
theorem lw_p65 : lw_okq (⟨"FerriedInWordsModel", "laysBack", "()V"⟩, 45) := ⟨⟨by decide +kernel, by decide +kernel⟩, List.mem_of_getElem? (i := 813) (by decide +kernel), List.mem_of_getElem? (i := 1152) (by decide +kernel), List.mem_of_getElem? (i := 1153) (by decide +kernel)⟩
theorem lw_p66 : lw_okq (⟨"FerriedInWordsModel", "byAll", "(I)I"⟩, 45) := ⟨⟨by decide +kernel, by decide +kernel⟩, List.mem_of_getElem? (i := 813) (by decide +kernel), List.mem_of_getElem? (i := 1160) (by decide +kernel), List.mem_of_getElem? (i := 1161) (by decide +kernel)⟩
theorem lw_p67 : lw_okq (⟨"FerriedInWordsModel", "rowsFrom", "(IIIIII)V"⟩, 45) := ⟨⟨by decide +kernel, by decide +kernel⟩, List.mem_of_getElem? (i := 813) (by decide +kernel), List.mem_of_getElem? (i := 1168) (by decide +kernel), List.mem_of_getElem? (i := 1169) (by decide +kernel)⟩
theorem lw_p68 : lw_okq (⟨"FerriedInWordsModel", "firstOther", "(II)I"⟩, 45) := ⟨⟨by decide +kernel, by decide +kernel⟩, List.mem_of_getElem? (i := 813) (by decide +kernel), List.mem_of_getElem? (i := 1192) (by decide +kernel), List.mem_of_getElem? (i := 1193) (by decide +kernel)⟩
theorem lw_p69 : lw_okq (⟨"FerriedInWordsModel", "likeSet", "(I)I"⟩, 45) := ⟨⟨by decide +kernel, by decide +kernel⟩, List.mem_of_getElem? (i := 813) (by decide +kernel), List.mem_of_getElem? (i := 1196) (by decide +kernel), List.mem_of_getElem? (i := 1197) (by decide +kernel)⟩
theorem lw_p70 : lw_okq (⟨"FerriedInWordsModel", "offDrawn", "(II)I"⟩, 45) := ⟨⟨by decide +kernel, by decide +kernel⟩, List.mem_of_getElem? (i := 813) (by decide +kernel), List.mem_of_getElem? (i := 1215) (by decide +kernel), List.mem_of_getElem? (i := 1216) (by decide +kernel)⟩
def lw_privs_5 : List (MethodName × Nat) := [(⟨"FerriedInWordsModel", "laysAside", "()V"⟩, 45), (⟨"FerriedInWordsModel", "laysBack", "()V"⟩, 45), (⟨"FerriedInWordsModel", "byAll", "(I)I"⟩, 45), (⟨"FerriedInWordsModel", "rowsFrom", "(IIIIII)V"⟩, 45), (⟨"FerriedInWordsModel", "firstOther", "(II)I"⟩, 45), (⟨"FerriedInWordsModel", "likeSet", "(I)I"⟩, 45), (⟨"FerriedInWordsModel", "offDrawn", "(II)I"⟩, 45)]
theorem lw_r5 : ∀ q ∈ lw_privs_5, lw_okq q := List.forall_mem_cons.mpr ⟨lw_p64, List.forall_mem_cons.mpr ⟨lw_p65, List.forall_mem_cons.mpr ⟨lw_p66, List.forall_mem_cons.mpr ⟨lw_p67, List.forall_mem_cons.mpr ⟨lw_p68, List.forall_mem_cons.mpr ⟨lw_p69, List.forall_mem_cons.mpr ⟨lw_p70, fun _ h => absurd h List.not_mem_nil⟩⟩⟩⟩⟩⟩⟩
def lw_privs : List (MethodName × Nat) := lw_privs_1 ++ (lw_privs_2 ++ (lw_privs_3 ++ (lw_privs_4 ++ (lw_privs_5))))
def lw_tbl : List Cond := k2_sels lw_privs ++ tables_1
theorem lw_privs_ok : ∀ q ∈ lw_privs, lw_okq q := by
  show ∀ q ∈ lw_privs_1 ++ (lw_privs_2 ++ (lw_privs_3 ++ (lw_privs_4 ++ (lw_privs_5)))), lw_okq q
  exact List.forall_mem_append.mpr ⟨lw_r1, List.forall_mem_append.mpr ⟨lw_r2, List.forall_mem_append.mpr ⟨lw_r3, List.forall_mem_append.mpr ⟨lw_r4, lw_r5⟩⟩⟩⟩
-- ===== end of PART A; then your names; then what follows =====
def RX0 : String := "FerriedInWords$Crossing"
def TX0 : u_T := fun k => match k with
  | 0 => ("FerriedInWords$Crossing", "people", "[LFerriedInWords$One;", true)
  | 1 => ("FerriedInWords$Crossing", "jetty", "[I", true)
  | 2 => ("FerriedInWords$Crossing", "there", "I", false)
  | 3 => ("FerriedInWords$Crossing", "things", "I", false)
  | 4 => ("FerriedInWords$Crossing", "day", "I", false)
  | 5 => ("FerriedInWords$Crossing", "come", "I", false)
  | _ => ("FerriedInWords$Crossing", "rule", "I", false)
def tyX0 : Nat → FieldType := fun k => match k with
  | 0 => .array (.object "FerriedInWords$One")
  | 1 => .array .int
  | 2 => .int
  | 3 => .int
  | 4 => .int
  | 5 => .int
  | _ => .int
abbrev wsX00 : List Cond := u_ws RX0 TX0 7
theorem nmX0 : ∀ a, a < 7 → ∀ b, b < 7 → a ≠ b → (TX0 a).2.1 ≠ (TX0 b).2.1 := by decide +kernel
theorem tyX0_ok : ∀ k, k < 7 → parseFieldDescriptor (TX0 k).2.2.1 = some (tyX0 k) := by decide +kernel
abbrev cX0_init : ByteArray := prog_2_method_1_code
def yX0_init : MethodName := ⟨RX0, "<init>", "()V"⟩
abbrev cX0_isThere : ByteArray := prog_2_method_2_code
def yX0_isThere : MethodName := ⟨RX0, "isThere", "(I)Z"⟩
abbrev cX0_takeFirst : ByteArray := prog_2_method_3_code
def yX0_takeFirst : MethodName := ⟨RX0, "takeFirst", "()I"⟩
abbrev cX0_become : ByteArray := prog_2_method_4_code
def yX0_become : MethodName := ⟨RX0, "become", "(LFerriedInWords$Crossing;)V"⟩
def RX1 : String := "FerriedInWords$Engineer"
def TX1 : u_T := fun k => match k with
  | _ => ("", "", "", false)
def tyX1 : Nat → FieldType := fun k => match k with
  | _ => .int
abbrev wsX10 : List Cond := u_ws RX1 TX1 0
theorem nmX1 : ∀ a, a < 0 → ∀ b, b < 0 → a ≠ b → (TX1 a).2.1 ≠ (TX1 b).2.1 := by decide +kernel
theorem tyX1_ok : ∀ k, k < 0 → parseFieldDescriptor (TX1 k).2.2.1 = some (tyX1 k) := by decide +kernel
abbrev cX1_init : ByteArray := prog_3_method_1_code
def yX1_init : MethodName := ⟨RX1, "<init>", "()V"⟩
abbrev cX1_isUnder : ByteArray := prog_3_method_2_code
def yX1_isUnder : MethodName := ⟨RX1, "isUnder", "(I)Z"⟩
abbrev cX1_keptOf : ByteArray := prog_3_method_3_code
def yX1_keptOf : MethodName := ⟨RX1, "keptOf", "(II)I"⟩
abbrev cX1_wordsFor : ByteArray := prog_3_method_4_code
def yX1_wordsFor : MethodName := ⟨RX1, "wordsFor", "(LFerriedInWords$One;II)I"⟩
abbrev cX1_wearies : ByteArray := prog_3_method_5_code
def yX1_wearies : MethodName := ⟨RX1, "wearies", "(ILFerriedInWords$One;)I"⟩
abbrev cX1_takesIn : ByteArray := prog_3_method_6_code
def yX1_takesIn : MethodName := ⟨RX1, "takesIn", "(ZI)Z"⟩
def RX2 : String := "FerriedInWords$Father"
def TX2 : u_T := fun k => match k with
  | _ => ("", "", "", false)
def tyX2 : Nat → FieldType := fun k => match k with
  | _ => .int
abbrev wsX20 : List Cond := u_ws RX2 TX2 0
theorem nmX2 : ∀ a, a < 0 → ∀ b, b < 0 → a ≠ b → (TX2 a).2.1 ≠ (TX2 b).2.1 := by decide +kernel
theorem tyX2_ok : ∀ k, k < 0 → parseFieldDescriptor (TX2 k).2.2.1 = some (tyX2 k) := by decide +kernel
abbrev cX2_init : ByteArray := prog_4_method_1_code
def yX2_init : MethodName := ⟨RX2, "<init>", "()V"⟩
abbrev cX2_isUnder : ByteArray := prog_4_method_2_code
def yX2_isUnder : MethodName := ⟨RX2, "isUnder", "(I)Z"⟩
abbrev cX2_keptOf : ByteArray := prog_4_method_3_code
def yX2_keptOf : MethodName := ⟨RX2, "keptOf", "(II)I"⟩
abbrev cX2_wordsFor : ByteArray := prog_4_method_4_code
def yX2_wordsFor : MethodName := ⟨RX2, "wordsFor", "(LFerriedInWords$One;II)I"⟩
abbrev cX2_wearies : ByteArray := prog_4_method_5_code
def yX2_wearies : MethodName := ⟨RX2, "wearies", "(ILFerriedInWords$One;)I"⟩
abbrev cX2_takesIn : ByteArray := prog_4_method_6_code
def yX2_takesIn : MethodName := ⟨RX2, "takesIn", "(ZI)Z"⟩
def RX3 : String := "FerriedInWords$Liar"
def TX3 : u_T := fun k => match k with
  | _ => ("", "", "", false)
def tyX3 : Nat → FieldType := fun k => match k with
  | _ => .int
abbrev wsX30 : List Cond := u_ws RX3 TX3 0
theorem nmX3 : ∀ a, a < 0 → ∀ b, b < 0 → a ≠ b → (TX3 a).2.1 ≠ (TX3 b).2.1 := by decide +kernel
theorem tyX3_ok : ∀ k, k < 0 → parseFieldDescriptor (TX3 k).2.2.1 = some (tyX3 k) := by decide +kernel
abbrev cX3_init : ByteArray := prog_5_method_1_code
def yX3_init : MethodName := ⟨RX3, "<init>", "()V"⟩
abbrev cX3_isUnder : ByteArray := prog_5_method_2_code
def yX3_isUnder : MethodName := ⟨RX3, "isUnder", "(I)Z"⟩
abbrev cX3_wordsFor : ByteArray := prog_5_method_3_code
def yX3_wordsFor : MethodName := ⟨RX3, "wordsFor", "(LFerriedInWords$One;II)I"⟩
abbrev cX3_wearies : ByteArray := prog_5_method_4_code
def yX3_wearies : MethodName := ⟨RX3, "wearies", "(ILFerriedInWords$One;)I"⟩
abbrev cX3_takesIn : ByteArray := prog_5_method_5_code
def yX3_takesIn : MethodName := ⟨RX3, "takesIn", "(ZI)Z"⟩
def RX4 : String := "FerriedInWords$Lover"
def TX4 : u_T := fun k => match k with
  | _ => ("", "", "", false)
def tyX4 : Nat → FieldType := fun k => match k with
  | _ => .int
abbrev wsX40 : List Cond := u_ws RX4 TX4 0
theorem nmX4 : ∀ a, a < 0 → ∀ b, b < 0 → a ≠ b → (TX4 a).2.1 ≠ (TX4 b).2.1 := by decide +kernel
theorem tyX4_ok : ∀ k, k < 0 → parseFieldDescriptor (TX4 k).2.2.1 = some (tyX4 k) := by decide +kernel
abbrev cX4_init : ByteArray := prog_6_method_1_code
def yX4_init : MethodName := ⟨RX4, "<init>", "()V"⟩
abbrev cX4_isUnder : ByteArray := prog_6_method_2_code
def yX4_isUnder : MethodName := ⟨RX4, "isUnder", "(I)Z"⟩
abbrev cX4_keptOf : ByteArray := prog_6_method_3_code
def yX4_keptOf : MethodName := ⟨RX4, "keptOf", "(II)I"⟩
abbrev cX4_wordsFor : ByteArray := prog_6_method_4_code
def yX4_wordsFor : MethodName := ⟨RX4, "wordsFor", "(LFerriedInWords$One;II)I"⟩
abbrev cX4_wearies : ByteArray := prog_6_method_5_code
def yX4_wearies : MethodName := ⟨RX4, "wearies", "(ILFerriedInWords$One;)I"⟩
def RX5 : String := "FerriedInWords$One"
def TX5 : u_T := fun k => match k with
  | 0 => ("FerriedInWords$One", "kind", "I", false)
  | 1 => ("FerriedInWords$One", "number", "I", false)
  | 2 => ("FerriedInWords$One", "words", "I", false)
  | 3 => ("FerriedInWords$One", "memory", "I", false)
  | _ => ("FerriedInWords$One", "said", "I", false)
def tyX5 : Nat → FieldType := fun k => match k with
  | 0 => .int
  | 1 => .int
  | 2 => .int
  | 3 => .int
  | _ => .int
abbrev wsX50 : List Cond := u_ws RX5 TX5 5
theorem nmX5 : ∀ a, a < 5 → ∀ b, b < 5 → a ≠ b → (TX5 a).2.1 ≠ (TX5 b).2.1 := by decide +kernel
theorem tyX5_ok : ∀ k, k < 5 → parseFieldDescriptor (TX5 k).2.2.1 = some (tyX5 k) := by decide +kernel
abbrev cX5_init : ByteArray := prog_7_method_1_code
def yX5_init : MethodName := ⟨RX5, "<init>", "()V"⟩
abbrev cX5_worth : ByteArray := prog_7_method_2_code
def yX5_worth : MethodName := ⟨RX5, "worth", "(I)I"⟩
abbrev cX5_become : ByteArray := prog_7_method_3_code
def yX5_become : MethodName := ⟨RX5, "become", "(II)V"⟩
abbrev cX5_become_ : ByteArray := prog_7_method_4_code
def yX5_become_ : MethodName := ⟨RX5, "become", "(LFerriedInWords$One;)V"⟩
def RX6 : String := "FerriedInWords$Plain"
def TX6 : u_T := fun k => match k with
  | _ => ("", "", "", false)
def tyX6 : Nat → FieldType := fun k => match k with
  | _ => .int
abbrev wsX60 : List Cond := u_ws RX6 TX6 0
theorem nmX6 : ∀ a, a < 0 → ∀ b, b < 0 → a ≠ b → (TX6 a).2.1 ≠ (TX6 b).2.1 := by decide +kernel
theorem tyX6_ok : ∀ k, k < 0 → parseFieldDescriptor (TX6 k).2.2.1 = some (tyX6 k) := by decide +kernel
abbrev cX6_init : ByteArray := prog_8_method_1_code
def yX6_init : MethodName := ⟨RX6, "<init>", "()V"⟩
abbrev cX6_isUnder : ByteArray := prog_8_method_2_code
def yX6_isUnder : MethodName := ⟨RX6, "isUnder", "(I)Z"⟩
abbrev cX6_keptOf : ByteArray := prog_8_method_3_code
def yX6_keptOf : MethodName := ⟨RX6, "keptOf", "(II)I"⟩
abbrev cX6_wordsFor : ByteArray := prog_8_method_4_code
def yX6_wordsFor : MethodName := ⟨RX6, "wordsFor", "(LFerriedInWords$One;II)I"⟩
abbrev cX6_wearies : ByteArray := prog_8_method_5_code
def yX6_wearies : MethodName := ⟨RX6, "wearies", "(ILFerriedInWords$One;)I"⟩
abbrev cX6_takesIn : ByteArray := prog_8_method_6_code
def yX6_takesIn : MethodName := ⟨RX6, "takesIn", "(ZI)Z"⟩
def RX7 : String := "FerriedInWords$Reader"
def TX7 : u_T := fun k => match k with
  | 0 => ("FerriedInWords$Reader", "tape", "[I", true)
  | 1 => ("FerriedInWords$Reader", "size", "I", false)
  | 2 => ("FerriedInWords$Reader", "tokens", "[I", true)
  | 3 => ("FerriedInWords$Reader", "values", "[I", true)
  | 4 => ("FerriedInWords$Reader", "places", "[I", true)
  | 5 => ("FerriedInWords$Reader", "many", "I", false)
  | 6 => ("FerriedInWords$Reader", "at", "I", false)
  | 7 => ("FerriedInWords$Reader", "token", "I", false)
  | 8 => ("FerriedInWords$Reader", "fault", "I", false)
  | _ => ("FerriedInWords$Reader", "goal", "LFerriedInWords$Text;", false)
def tyX7 : Nat → FieldType := fun k => match k with
  | 0 => .array .int
  | 1 => .int
  | 2 => .array .int
  | 3 => .array .int
  | 4 => .array .int
  | 5 => .int
  | 6 => .int
  | 7 => .int
  | 8 => .int
  | _ => .object "FerriedInWords$Text"
abbrev wsX70 : List Cond := u_ws RX7 TX7 10
theorem nmX7 : ∀ a, a < 10 → ∀ b, b < 10 → a ≠ b → (TX7 a).2.1 ≠ (TX7 b).2.1 := by decide +kernel
theorem tyX7_ok : ∀ k, k < 10 → parseFieldDescriptor (TX7 k).2.2.1 = some (tyX7 k) := by decide +kernel
abbrev cX7_init : ByteArray := prog_9_method_1_code
def yX7_init : MethodName := ⟨RX7, "<init>", "(LFerriedInWords$Text;)V"⟩
abbrev cX7_put : ByteArray := prog_9_method_2_code
def yX7_put : MethodName := ⟨RX7, "put", "(I)Z"⟩
abbrev cX7_readInto : ByteArray := prog_9_method_3_code
def yX7_readInto : MethodName := ⟨RX7, "readInto", "(LFerriedInWords$Text;)I"⟩
abbrev cX7_readPart : ByteArray := prog_9_method_4_code
def yX7_readPart : MethodName := ⟨RX7, "readPart", "(II)V"⟩
abbrev cX7_readOrs : ByteArray := prog_9_method_5_code
def yX7_readOrs : MethodName := ⟨RX7, "readOrs", "(I)V"⟩
abbrev cX7_readAnds : ByteArray := prog_9_method_6_code
def yX7_readAnds : MethodName := ⟨RX7, "readAnds", "(I)V"⟩
abbrev cX7_readNot : ByteArray := prog_9_method_7_code
def yX7_readNot : MethodName := ⟨RX7, "readNot", "(I)V"⟩
abbrev cX7_readSum : ByteArray := prog_9_method_8_code
def yX7_readSum : MethodName := ⟨RX7, "readSum", "(I)V"⟩
abbrev cX7_readTerm : ByteArray := prog_9_method_9_code
def yX7_readTerm : MethodName := ⟨RX7, "readTerm", "(I)V"⟩
abbrev cX7_readOne : ByteArray := prog_9_method_10_code
def yX7_readOne : MethodName := ⟨RX7, "readOne", "(I)V"⟩
abbrev cX7_opens : ByteArray := prog_9_method_11_code
def yX7_opens : MethodName := ⟨RX7, "opens", "(I)Z"⟩
abbrev cX7_expect : ByteArray := prog_9_method_12_code
def yX7_expect : MethodName := ⟨RX7, "expect", "(I)V"⟩
abbrev cX7_fail : ByteArray := prog_9_method_13_code
def yX7_fail : MethodName := ⟨RX7, "fail", "()V"⟩
abbrev cX7_advance : ByteArray := prog_9_method_14_code
def yX7_advance : MethodName := ⟨RX7, "advance", "()V"⟩
abbrev cX7_split : ByteArray := prog_9_method_15_code
def yX7_split : MethodName := ⟨RX7, "split", "()V"⟩
abbrev cX7_addToken : ByteArray := prog_9_method_16_code
def yX7_addToken : MethodName := ⟨RX7, "addToken", "(III)V"⟩
abbrev cX7_splitOff : ByteArray := prog_9_method_17_code
def yX7_splitOff : MethodName := ⟨RX7, "splitOff", "(I)I"⟩
abbrev cX7_splitWord : ByteArray := prog_9_method_18_code
def yX7_splitWord : MethodName := ⟨RX7, "splitWord", "(I)I"⟩
abbrev cX7_splitNumber : ByteArray := prog_9_method_19_code
def yX7_splitNumber : MethodName := ⟨RX7, "splitNumber", "(I)I"⟩
abbrev cX7_isSign : ByteArray := prog_9_method_20_code
def yX7_isSign : MethodName := ⟨RX7, "isSign", "(I)Z"⟩
abbrev cX7_nameCode : ByteArray := prog_9_method_21_code
def yX7_nameCode : MethodName := ⟨RX7, "nameCode", "(II)I"⟩
abbrev cX7_keyToken : ByteArray := prog_9_method_22_code
def yX7_keyToken : MethodName := ⟨RX7, "keyToken", "(II)I"⟩
abbrev cX7_isWord : ByteArray := prog_9_method_23_code
def yX7_isWord : MethodName := ⟨RX7, "isWord", "(Ljava/lang/String;II)Z"⟩
def RX8 : String := "FerriedInWords$Sheet"
def TX8 : u_T := fun k => match k with
  | 0 => ("FerriedInWords$Sheet", "cells", "[I", true)
  | 1 => ("FerriedInWords$Sheet", "sort", "I", false)
  | _ => ("FerriedInWords$Sheet", "size", "I", false)
def tyX8 : Nat → FieldType := fun k => match k with
  | 0 => .array .int
  | 1 => .int
  | _ => .int
abbrev wsX80 : List Cond := u_ws RX8 TX8 3
theorem nmX8 : ∀ a, a < 3 → ∀ b, b < 3 → a ≠ b → (TX8 a).2.1 ≠ (TX8 b).2.1 := by decide +kernel
theorem tyX8_ok : ∀ k, k < 3 → parseFieldDescriptor (TX8 k).2.2.1 = some (tyX8 k) := by decide +kernel
abbrev cX8_init : ByteArray := prog_10_method_1_code
def yX8_init : MethodName := ⟨RX8, "<init>", "()V"⟩
abbrev cX8_isMissing : ByteArray := prog_10_method_2_code
def yX8_isMissing : MethodName := ⟨RX8, "isMissing", "()Z"⟩
abbrev cX8_has : ByteArray := prog_10_method_3_code
def yX8_has : MethodName := ⟨RX8, "has", "(II)Z"⟩
abbrev cX8_become : ByteArray := prog_10_method_4_code
def yX8_become : MethodName := ⟨RX8, "become", "(II)V"⟩
abbrev cX8_put : ByteArray := prog_10_method_5_code
def yX8_put : MethodName := ⟨RX8, "put", "(II)V"⟩
def RX9 : String := "FerriedInWords$Teller"
def TX9 : u_T := fun k => match k with
  | _ => ("", "", "", false)
def tyX9 : Nat → FieldType := fun k => match k with
  | _ => .int
abbrev wsX90 : List Cond := u_ws RX9 TX9 0
theorem nmX9 : ∀ a, a < 0 → ∀ b, b < 0 → a ≠ b → (TX9 a).2.1 ≠ (TX9 b).2.1 := by decide +kernel
theorem tyX9_ok : ∀ k, k < 0 → parseFieldDescriptor (TX9 k).2.2.1 = some (tyX9 k) := by decide +kernel
abbrev cX9_init : ByteArray := prog_11_method_1_code
def yX9_init : MethodName := ⟨RX9, "<init>", "()V"⟩
abbrev cX9_isUnder : ByteArray := prog_11_method_2_code
def yX9_isUnder : MethodName := ⟨RX9, "isUnder", "(I)Z"⟩
abbrev cX9_keptOf : ByteArray := prog_11_method_3_code
def yX9_keptOf : MethodName := ⟨RX9, "keptOf", "(II)I"⟩
abbrev cX9_wordsFor : ByteArray := prog_11_method_4_code
def yX9_wordsFor : MethodName := ⟨RX9, "wordsFor", "(LFerriedInWords$One;II)I"⟩
abbrev cX9_wearies : ByteArray := prog_11_method_5_code
def yX9_wearies : MethodName := ⟨RX9, "wearies", "(ILFerriedInWords$One;)I"⟩
abbrev cX9_takesIn : ByteArray := prog_11_method_6_code
def yX9_takesIn : MethodName := ⟨RX9, "takesIn", "(ZI)Z"⟩
def RX10 : String := "FerriedInWords$Text"
def TX10 : u_T := fun k => match k with
  | 0 => ("FerriedInWords$Text", "codes", "[I", true)
  | 1 => ("FerriedInWords$Text", "ends", "[I", true)
  | _ => ("FerriedInWords$Text", "size", "I", false)
def tyX10 : Nat → FieldType := fun k => match k with
  | 0 => .array .int
  | 1 => .array .int
  | _ => .int
abbrev wsX100 : List Cond := u_ws RX10 TX10 3
theorem nmX10 : ∀ a, a < 3 → ∀ b, b < 3 → a ≠ b → (TX10 a).2.1 ≠ (TX10 b).2.1 := by decide +kernel
theorem tyX10_ok : ∀ k, k < 3 → parseFieldDescriptor (TX10 k).2.2.1 = some (tyX10 k) := by decide +kernel
abbrev cX10_init : ByteArray := prog_12_method_1_code
def yX10_init : MethodName := ⟨RX10, "<init>", "()V"⟩
abbrev cX10_add : ByteArray := prog_12_method_2_code
def yX10_add : MethodName := ⟨RX10, "add", "(I)V"⟩
abbrev cX10_worth : ByteArray := prog_12_method_3_code
def yX10_worth : MethodName := ⟨RX10, "worth", "(ILFerriedInWords$One;II[I)I"⟩
abbrev cX10_named : ByteArray := prog_12_method_4_code
def yX10_named : MethodName := ⟨RX10, "named", "(ILFerriedInWords$One;II)I"⟩
abbrev cX10_ofOne : ByteArray := prog_12_method_5_code
def yX10_ofOne : MethodName := ⟨RX10, "ofOne", "(II)I"⟩
abbrev cX10_ofTwo : ByteArray := prog_12_method_6_code
def yX10_ofTwo : MethodName := ⟨RX10, "ofTwo", "(III)I"⟩
def RX11 : String := "FerriedInWords"
def TX11 : u_T := fun k => match k with
  | 0 => ("FerriedInWords", "kinds", "[LFerriedInWords$Teller;", true)
  | 1 => ("FerriedInWords", "now", "LFerriedInWords$Crossing;", true)
  | 2 => ("FerriedInWords", "kept", "LFerriedInWords$Crossing;", true)
  | 3 => ("FerriedInWords", "thought", "LFerriedInWords$Crossing;", true)
  | 4 => ("FerriedInWords", "hasImage", "Z", false)
  | 5 => ("FerriedInWords", "texts", "[LFerriedInWords$Text;", true)
  | 6 => ("FerriedInWords", "reader", "LFerriedInWords$Reader;", true)
  | 7 => ("FerriedInWords", "textsThere", "I", false)
  | 8 => ("FerriedInWords", "stack", "[I", true)
  | 9 => ("FerriedInWords", "sheets", "[LFerriedInWords$Sheet;", true)
  | 10 => ("FerriedInWords", "trail", "[I", true)
  | 11 => ("FerriedInWords", "bestRow", "I", false)
  | _ => ("FerriedInWords", "bestOff", "I", false)
def tyX11 : Nat → FieldType := fun k => match k with
  | 0 => .array (.object "FerriedInWords$Teller")
  | 1 => .object "FerriedInWords$Crossing"
  | 2 => .object "FerriedInWords$Crossing"
  | 3 => .object "FerriedInWords$Crossing"
  | 4 => .boolean
  | 5 => .array (.object "FerriedInWords$Text")
  | 6 => .object "FerriedInWords$Reader"
  | 7 => .int
  | 8 => .array .int
  | 9 => .array (.object "FerriedInWords$Sheet")
  | 10 => .array .int
  | 11 => .int
  | _ => .int
abbrev wsX110 : List Cond := u_ws RX11 TX11 13
theorem nmX11 : ∀ a, a < 13 → ∀ b, b < 13 → a ≠ b → (TX11 a).2.1 ≠ (TX11 b).2.1 := by decide +kernel
theorem tyX11_ok : ∀ k, k < 13 → parseFieldDescriptor (TX11 k).2.2.1 = some (tyX11 k) := by decide +kernel
abbrev cX11_init : ByteArray := prog_1_method_1_code
def yX11_init : MethodName := ⟨RX11, "<init>", "()V"⟩
abbrev cX11_set : ByteArray := prog_1_method_2_code
def yX11_set : MethodName := ⟨RX11, "set", "(III)I"⟩
abbrev cX11_person : ByteArray := prog_1_method_3_code
def yX11_person : MethodName := ⟨RX11, "person", "(IIII)I"⟩
abbrev cX11_told : ByteArray := prog_1_method_4_code
def yX11_told : MethodName := ⟨RX11, "told", "(II)I"⟩
abbrev cX11_brings : ByteArray := prog_1_method_5_code
def yX11_brings : MethodName := ⟨RX11, "brings", "(I)I"⟩
abbrev cX11_asks : ByteArray := prog_1_method_6_code
def yX11_asks : MethodName := ⟨RX11, "asks", "(III)I"⟩
abbrev cX11_most : ByteArray := prog_1_method_7_code
def yX11_most : MethodName := ⟨RX11, "most", "(I)I"⟩
abbrev cX11_isSet : ByteArray := prog_1_method_8_code
def yX11_isSet : MethodName := ⟨RX11, "isSet", "(I)Z"⟩
abbrev cX11_feed : ByteArray := prog_1_method_9_code
def yX11_feed : MethodName := ⟨RX11, "feed", "(I)I"⟩
abbrev cX11_text : ByteArray := prog_1_method_10_code
def yX11_text : MethodName := ⟨RX11, "text", "()I"⟩
abbrev cX11_force : ByteArray := prog_1_method_11_code
def yX11_force : MethodName := ⟨RX11, "force", "(I)I"⟩
abbrev cX11_ruleOf : ByteArray := prog_1_method_12_code
def yX11_ruleOf : MethodName := ⟨RX11, "ruleOf", "(LFerriedInWords$Crossing;)LFerriedInWords$Text;"⟩
abbrev cX11_over : ByteArray := prog_1_method_13_code
def yX11_over : MethodName := ⟨RX11, "over", "(III)I"⟩
abbrev cX11_day : ByteArray := prog_1_method_14_code
def yX11_day : MethodName := ⟨RX11, "day", "()I"⟩
abbrev cX11_run : ByteArray := prog_1_method_15_code
def yX11_run : MethodName := ⟨RX11, "run", "(II)I"⟩
abbrev cX11_isAskedOfRun : ByteArray := prog_1_method_16_code
def yX11_isAskedOfRun : MethodName := ⟨RX11, "isAskedOfRun", "(I)Z"⟩
abbrev cX11_kindOf : ByteArray := prog_1_method_17_code
def yX11_kindOf : MethodName := ⟨RX11, "kindOf", "(LFerriedInWords$One;)LFerriedInWords$Teller;"⟩
abbrev cX11_keeping : ByteArray := prog_1_method_18_code
def yX11_keeping : MethodName := ⟨RX11, "keeping", "(LFerriedInWords$Crossing;LFerriedInWords$One;I)I"⟩
abbrev cX11_telling : ByteArray := prog_1_method_19_code
def yX11_telling : MethodName := ⟨RX11, "telling", "(LFerriedInWords$Crossing;LFerriedInWords$One;I)I"⟩
abbrev cX11_tiring : ByteArray := prog_1_method_20_code
def yX11_tiring : MethodName := ⟨RX11, "tiring", "(LFerriedInWords$Crossing;LFerriedInWords$One;I)I"⟩
abbrev cX11_learning : ByteArray := prog_1_method_21_code
def yX11_learning : MethodName := ⟨RX11, "learning", "(LFerriedInWords$Crossing;LFerriedInWords$One;I)Z"⟩
abbrev cX11_toldByAll : ByteArray := prog_1_method_22_code
def yX11_toldByAll : MethodName := ⟨RX11, "toldByAll", "(LFerriedInWords$Crossing;I)I"⟩
abbrev cX11_toldByRow : ByteArray := prog_1_method_23_code
def yX11_toldByRow : MethodName := ⟨RX11, "toldByRow", "(LFerriedInWords$Sheet;I)I"⟩
abbrev cX11_passDay : ByteArray := prog_1_method_24_code
def yX11_passDay : MethodName := ⟨RX11, "passDay", "(LFerriedInWords$Crossing;)I"⟩
abbrev cX11_tellTruly : ByteArray := prog_1_method_25_code
def yX11_tellTruly : MethodName := ⟨RX11, "tellTruly", "(LFerriedInWords$Crossing;LFerriedInWords$One;I)I"⟩
abbrev cX11_off : ByteArray := prog_1_method_26_code
def yX11_off : MethodName := ⟨RX11, "off", "(II)I"⟩
abbrev cX11_lowest : ByteArray := prog_1_method_27_code
def yX11_lowest : MethodName := ⟨RX11, "lowest", "(I)I"⟩
abbrev cX11_within : ByteArray := prog_1_method_28_code
def yX11_within : MethodName := ⟨RX11, "within", "(II)I"⟩
abbrev cX11_fro : ByteArray := prog_1_method_29_code
def yX11_fro : MethodName := ⟨RX11, "fro", "(II)I"⟩
abbrev cX11_row : ByteArray := prog_1_method_30_code
def yX11_row : MethodName := ⟨RX11, "row", "(III)I"⟩
abbrev cX11_tryRows : ByteArray := prog_1_method_31_code
def yX11_tryRows : MethodName := ⟨RX11, "tryRows", "(IIIII)V"⟩
abbrev cX11_learn : ByteArray := prog_1_method_32_code
def yX11_learn : MethodName := ⟨RX11, "learn", "(II)I"⟩
abbrev cX11_toldWithMore : ByteArray := prog_1_method_33_code
def yX11_toldWithMore : MethodName := ⟨RX11, "toldWithMore", "(II)I"⟩
abbrev cX11_from : ByteArray := prog_1_method_34_code
def yX11_from : MethodName := ⟨RX11, "from", "(II)I"⟩
abbrev cX11_mean : ByteArray := prog_1_method_35_code
def yX11_mean : MethodName := ⟨RX11, "mean", "(I)J"⟩
abbrev cX11_inLowestTerms : ByteArray := prog_1_method_36_code
def yX11_inLowestTerms : MethodName := ⟨RX11, "inLowestTerms", "(III)J"⟩
abbrev cX11_commonDivisor : ByteArray := prog_1_method_37_code
def yX11_commonDivisor : MethodName := ⟨RX11, "commonDivisor", "(II)I"⟩
abbrev cX11_tells : ByteArray := prog_1_method_38_code
def yX11_tells : MethodName := ⟨RX11, "tells", "(III)I"⟩
abbrev cX11_suiting : ByteArray := prog_1_method_39_code
def yX11_suiting : MethodName := ⟨RX11, "suiting", "(LFerriedInWords$Sheet;IIII)I"⟩
abbrev cX11_vary : ByteArray := prog_1_method_40_code
def yX11_vary : MethodName := ⟨RX11, "vary", "(III)V"⟩
abbrev cX11_firstOtherwise : ByteArray := prog_1_method_41_code
def yX11_firstOtherwise : MethodName := ⟨RX11, "firstOtherwise", "(LFerriedInWords$Sheet;I)I"⟩
abbrev cX11_film : ByteArray := prog_1_method_42_code
def yX11_film : MethodName := ⟨RX11, "film", "(II)I"⟩
abbrev cX11_drawn : ByteArray := prog_1_method_43_code
def yX11_drawn : MethodName := ⟨RX11, "drawn", "(II)I"⟩
abbrev cX11_chance : ByteArray := prog_1_method_44_code
def yX11_chance : MethodName := ⟨RX11, "chance", "(IIII)J"⟩
abbrev cX11_offOfDrawn : ByteArray := prog_1_method_45_code
def yX11_offOfDrawn : MethodName := ⟨RX11, "offOfDrawn", "(II)I"⟩
abbrev cX11_image : ByteArray := prog_1_method_46_code
def yX11_image : MethodName := ⟨RX11, "image", "()I"⟩
abbrev cX11_back : ByteArray := prog_1_method_47_code
def yX11_back : MethodName := ⟨RX11, "back", "()I"⟩
abbrev cX11_count : ByteArray := prog_1_method_48_code
def yX11_count : MethodName := ⟨RX11, "count", "(I)I"⟩
abbrev cX11_sheet : ByteArray := prog_1_method_49_code
def yX11_sheet : MethodName := ⟨RX11, "sheet", "(III)I"⟩
abbrev cX11_cell : ByteArray := prog_1_method_50_code
def yX11_cell : MethodName := ⟨RX11, "cell", "(III)I"⟩
abbrev cX11_copy : ByteArray := prog_1_method_51_code
def yX11_copy : MethodName := ⟨RX11, "copy", "(IIIII)I"⟩
abbrev cX11_crew : ByteArray := prog_1_method_52_code
def yX11_crew : MethodName := ⟨RX11, "crew", "(IIII)I"⟩
abbrev cX11_taken : ByteArray := prog_1_method_53_code
def yX11_taken : MethodName := ⟨RX11, "taken", "(II)I"⟩
abbrev cX11_isSheet : ByteArray := prog_1_method_54_code
def yX11_isSheet : MethodName := ⟨RX11, "isSheet", "(I)Z"⟩
def RX12 : String := "FerriedInWordsModel"
def TX12 : u_T := fun k => match k with
  | 0 => ("FerriedInWordsModel", "thrown", "I", false)
  | 1 => ("FerriedInWordsModel", "texts", "[I", true)
  | 2 => ("FerriedInWordsModel", "textSize", "[I", true)
  | 3 => ("FerriedInWordsModel", "textCount", "I", false)
  | 4 => ("FerriedInWordsModel", "rule", "I", false)
  | 5 => ("FerriedInWordsModel", "tape", "[I", true)
  | 6 => ("FerriedInWordsModel", "taped", "I", false)
  | 7 => ("FerriedInWordsModel", "dayNow", "I", false)
  | 8 => ("FerriedInWordsModel", "rows", "[I", true)
  | 9 => ("FerriedInWordsModel", "many", "I", false)
  | 10 => ("FerriedInWordsModel", "jetty", "[I", true)
  | 11 => ("FerriedInWordsModel", "jettySize", "I", false)
  | 12 => ("FerriedInWordsModel", "comeOver", "I", false)
  | 13 => ("FerriedInWordsModel", "learnt", "I", false)
  | 14 => ("FerriedInWordsModel", "ofWords", "I", false)
  | 15 => ("FerriedInWordsModel", "ofMemory", "I", false)
  | 16 => ("FerriedInWordsModel", "ofNumber", "I", false)
  | 17 => ("FerriedInWordsModel", "ofDay", "I", false)
  | 18 => ("FerriedInWordsModel", "ofParts", "I", false)
  | 19 => ("FerriedInWordsModel", "ofSaid", "I", false)
  | 20 => ("FerriedInWordsModel", "textFrom", "I", false)
  | 21 => ("FerriedInWordsModel", "size", "I", false)
  | 22 => ("FerriedInWordsModel", "here", "I", false)
  | 23 => ("FerriedInWordsModel", "token", "I", false)
  | 24 => ("FerriedInWordsModel", "tokenAt", "I", false)
  | 25 => ("FerriedInWordsModel", "tokenWorth", "J", false)
  | 26 => ("FerriedInWordsModel", "open", "I", false)
  | 27 => ("FerriedInWordsModel", "bad", "Z", false)
  | 28 => ("FerriedInWordsModel", "fault", "I", false)
  | 29 => ("FerriedInWordsModel", "was", "[I", true)
  | 30 => ("FerriedInWordsModel", "trail", "[I", true)
  | 31 => ("FerriedInWordsModel", "bestRow", "I", false)
  | 32 => ("FerriedInWordsModel", "bestOff", "I", false)
  | 33 => ("FerriedInWordsModel", "bestSize", "I", false)
  | 34 => ("FerriedInWordsModel", "rowsKept", "[I", true)
  | 35 => ("FerriedInWordsModel", "jettyKept", "[I", true)
  | 36 => ("FerriedInWordsModel", "manyKept", "I", false)
  | 37 => ("FerriedInWordsModel", "jettySizeKept", "I", false)
  | 38 => ("FerriedInWordsModel", "comeKept", "I", false)
  | 39 => ("FerriedInWordsModel", "dayKept", "I", false)
  | 40 => ("FerriedInWordsModel", "ruleKept", "I", false)
  | 41 => ("FerriedInWordsModel", "isThere", "[Z", true)
  | 42 => ("FerriedInWordsModel", "sorts", "[I", true)
  | 43 => ("FerriedInWordsModel", "sheetSize", "[I", true)
  | _ => ("FerriedInWordsModel", "items", "[I", true)
def tyX12 : Nat → FieldType := fun k => match k with
  | 0 => .int
  | 1 => .array .int
  | 2 => .array .int
  | 3 => .int
  | 4 => .int
  | 5 => .array .int
  | 6 => .int
  | 7 => .int
  | 8 => .array .int
  | 9 => .int
  | 10 => .array .int
  | 11 => .int
  | 12 => .int
  | 13 => .int
  | 14 => .int
  | 15 => .int
  | 16 => .int
  | 17 => .int
  | 18 => .int
  | 19 => .int
  | 20 => .int
  | 21 => .int
  | 22 => .int
  | 23 => .int
  | 24 => .int
  | 25 => .long
  | 26 => .int
  | 27 => .boolean
  | 28 => .int
  | 29 => .array .int
  | 30 => .array .int
  | 31 => .int
  | 32 => .int
  | 33 => .int
  | 34 => .array .int
  | 35 => .array .int
  | 36 => .int
  | 37 => .int
  | 38 => .int
  | 39 => .int
  | 40 => .int
  | 41 => .array .boolean
  | 42 => .array .int
  | 43 => .array .int
  | _ => .array .int
abbrev wsX120 : List Cond := u_ws RX12 TX12 45
theorem nmX12 : ∀ a, a < 45 → ∀ b, b < 45 → a ≠ b → (TX12 a).2.1 ≠ (TX12 b).2.1 := by decide +kernel
theorem tyX12_ok : ∀ k, k < 45 → parseFieldDescriptor (TX12 k).2.2.1 = some (tyX12 k) := by decide +kernel
abbrev cX12_in : ByteArray := prog_14_method_2_code
def yX12_in : MethodName := ⟨RX12, "in", "(JJJ)Z"⟩
abbrev cX12_within : ByteArray := prog_14_method_3_code
def yX12_within : MethodName := ⟨RX12, "within", "(III)I"⟩
abbrev cX12_init : ByteArray := prog_14_method_4_code
def yX12_init : MethodName := ⟨RX12, "<init>", "()V"⟩
abbrev cX12_spell : ByteArray := prog_14_method_5_code
def yX12_spell : MethodName := ⟨RX12, "spell", "(IIIIIIIII)V"⟩
abbrev cX12_isOne : ByteArray := prog_14_method_6_code
def yX12_isOne : MethodName := ⟨RX12, "isOne", "(I)Z"⟩
abbrev cX12_isOf : ByteArray := prog_14_method_7_code
def yX12_isOf : MethodName := ⟨RX12, "isOf", "(II)Z"⟩
abbrev cX12_mostOf : ByteArray := prog_14_method_8_code
def yX12_mostOf : MethodName := ⟨RX12, "mostOf", "(I)I"⟩
abbrev cX12_set : ByteArray := prog_14_method_9_code
def yX12_set : MethodName := ⟨RX12, "set", "(III)I"⟩
abbrev cX12_lays : ByteArray := prog_14_method_10_code
def yX12_lays : MethodName := ⟨RX12, "lays", "(III)V"⟩
abbrev cX12_person : ByteArray := prog_14_method_11_code
def yX12_person : MethodName := ⟨RX12, "person", "(IIII)I"⟩
abbrev cX12_told : ByteArray := prog_14_method_12_code
def yX12_told : MethodName := ⟨RX12, "told", "(II)I"⟩
abbrev cX12_brings : ByteArray := prog_14_method_13_code
def yX12_brings : MethodName := ⟨RX12, "brings", "(I)I"⟩
abbrev cX12_feed : ByteArray := prog_14_method_14_code
def yX12_feed : MethodName := ⟨RX12, "feed", "(I)I"⟩
abbrev cX12_byteAt : ByteArray := prog_14_method_15_code
def yX12_byteAt : MethodName := ⟨RX12, "byteAt", "(I)I"⟩
abbrev cX12_next : ByteArray := prog_14_method_16_code
def yX12_next : MethodName := ⟨RX12, "next", "()V"⟩
abbrev cX12_fail : ByteArray := prog_14_method_17_code
def yX12_fail : MethodName := ⟨RX12, "fail", "()V"⟩
abbrev cX12_isLetter : ByteArray := prog_14_method_18_code
def yX12_isLetter : MethodName := ⟨RX12, "isLetter", "(II)Z"⟩
abbrev cX12_isWord : ByteArray := prog_14_method_19_code
def yX12_isWord : MethodName := ⟨RX12, "isWord", "(IIIIIIII)Z"⟩
abbrev cX12_isSign : ByteArray := prog_14_method_20_code
def yX12_isSign : MethodName := ⟨RX12, "isSign", "(I)Z"⟩
abbrev cX12_opens : ByteArray := prog_14_method_21_code
def yX12_opens : MethodName := ⟨RX12, "opens", "()Z"⟩
abbrev cX12_name : ByteArray := prog_14_method_22_code
def yX12_name : MethodName := ⟨RX12, "name", "()I"⟩
abbrev cX12_atom : ByteArray := prog_14_method_23_code
def yX12_atom : MethodName := ⟨RX12, "atom", "()I"⟩
abbrev cX12_term : ByteArray := prog_14_method_24_code
def yX12_term : MethodName := ⟨RX12, "term", "()I"⟩
abbrev cX12_added : ByteArray := prog_14_method_25_code
def yX12_added : MethodName := ⟨RX12, "added", "()I"⟩
abbrev cX12_not : ByteArray := prog_14_method_26_code
def yX12_not : MethodName := ⟨RX12, "not", "()I"⟩
abbrev cX12_both : ByteArray := prog_14_method_27_code
def yX12_both : MethodName := ⟨RX12, "both", "()I"⟩
abbrev cX12_either : ByteArray := prog_14_method_28_code
def yX12_either : MethodName := ⟨RX12, "either", "()I"⟩
abbrev cX12_part : ByteArray := prog_14_method_29_code
def yX12_part : MethodName := ⟨RX12, "part", "(Z)I"⟩
abbrev cX12_read : ByteArray := prog_14_method_30_code
def yX12_read : MethodName := ⟨RX12, "read", "(II)I"⟩
abbrev cX12_text : ByteArray := prog_14_method_31_code
def yX12_text : MethodName := ⟨RX12, "text", "()I"⟩
abbrev cX12_force : ByteArray := prog_14_method_32_code
def yX12_force : MethodName := ⟨RX12, "force", "(I)I"⟩
abbrev cX12_bitsOf : ByteArray := prog_14_method_33_code
def yX12_bitsOf : MethodName := ⟨RX12, "bitsOf", "(I)I"⟩
abbrev cX12_wordsOf : ByteArray := prog_14_method_34_code
def yX12_wordsOf : MethodName := ⟨RX12, "wordsOf", "(I)I"⟩
abbrev cX12_says : ByteArray := prog_14_method_35_code
def yX12_says : MethodName := ⟨RX12, "says", "(III)I"⟩
abbrev cX12_keepsOf : ByteArray := prog_14_method_36_code
def yX12_keepsOf : MethodName := ⟨RX12, "keepsOf", "(II)I"⟩
abbrev cX12_tellsOf : ByteArray := prog_14_method_37_code
def yX12_tellsOf : MethodName := ⟨RX12, "tellsOf", "(II)I"⟩
abbrev cX12_tiresOf : ByteArray := prog_14_method_38_code
def yX12_tiresOf : MethodName := ⟨RX12, "tiresOf", "(II)I"⟩
abbrev cX12_learns : ByteArray := prog_14_method_39_code
def yX12_learns : MethodName := ⟨RX12, "learns", "(II)Z"⟩
abbrev cX12_asks : ByteArray := prog_14_method_40_code
def yX12_asks : MethodName := ⟨RX12, "asks", "(III)I"⟩
abbrev cX12_byAll : ByteArray := prog_14_method_41_code
def yX12_byAll : MethodName := ⟨RX12, "byAll", "(I)I"⟩
abbrev cX12_off : ByteArray := prog_14_method_42_code
def yX12_off : MethodName := ⟨RX12, "off", "(II)I"⟩
abbrev cX12_over : ByteArray := prog_14_method_43_code
def yX12_over : MethodName := ⟨RX12, "over", "(III)I"⟩
abbrev cX12_tellsTruly : ByteArray := prog_14_method_44_code
def yX12_tellsTruly : MethodName := ⟨RX12, "tellsTruly", "(II)I"⟩
abbrev cX12_passes : ByteArray := prog_14_method_45_code
def yX12_passes : MethodName := ⟨RX12, "passes", "()I"⟩
abbrev cX12_day : ByteArray := prog_14_method_46_code
def yX12_day : MethodName := ⟨RX12, "day", "()I"⟩
abbrev cX12_laysAside : ByteArray := prog_14_method_47_code
def yX12_laysAside : MethodName := ⟨RX12, "laysAside", "()V"⟩
abbrev cX12_laysBack : ByteArray := prog_14_method_48_code
def yX12_laysBack : MethodName := ⟨RX12, "laysBack", "()V"⟩
abbrev cX12_run : ByteArray := prog_14_method_49_code
def yX12_run : MethodName := ⟨RX12, "run", "(II)I"⟩
abbrev cX12_fro : ByteArray := prog_14_method_50_code
def yX12_fro : MethodName := ⟨RX12, "fro", "(II)I"⟩
abbrev cX12_rowsFrom : ByteArray := prog_14_method_51_code
def yX12_rowsFrom : MethodName := ⟨RX12, "rowsFrom", "(IIIIII)V"⟩
abbrev cX12_row : ByteArray := prog_14_method_52_code
def yX12_row : MethodName := ⟨RX12, "row", "(III)I"⟩
abbrev cX12_learn : ByteArray := prog_14_method_53_code
def yX12_learn : MethodName := ⟨RX12, "learn", "(II)I"⟩
abbrev cX12_from : ByteArray := prog_14_method_54_code
def yX12_from : MethodName := ⟨RX12, "from", "(II)I"⟩
abbrev cX12_lowest : ByteArray := prog_14_method_55_code
def yX12_lowest : MethodName := ⟨RX12, "lowest", "(JJI)J"⟩
abbrev cX12_mean : ByteArray := prog_14_method_56_code
def yX12_mean : MethodName := ⟨RX12, "mean", "(I)J"⟩
abbrev cX12_firstOther : ByteArray := prog_14_method_57_code
def yX12_firstOther : MethodName := ⟨RX12, "firstOther", "(II)I"⟩
abbrev cX12_likeSet : ByteArray := prog_14_method_58_code
def yX12_likeSet : MethodName := ⟨RX12, "likeSet", "(I)I"⟩
abbrev cX12_tells : ByteArray := prog_14_method_59_code
def yX12_tells : MethodName := ⟨RX12, "tells", "(III)I"⟩
abbrev cX12_film : ByteArray := prog_14_method_60_code
def yX12_film : MethodName := ⟨RX12, "film", "(II)I"⟩
abbrev cX12_offDrawn : ByteArray := prog_14_method_61_code
def yX12_offDrawn : MethodName := ⟨RX12, "offDrawn", "(II)I"⟩
abbrev cX12_drawn : ByteArray := prog_14_method_62_code
def yX12_drawn : MethodName := ⟨RX12, "drawn", "(II)I"⟩
abbrev cX12_chance : ByteArray := prog_14_method_63_code
def yX12_chance : MethodName := ⟨RX12, "chance", "(IIII)J"⟩
abbrev cX12_image : ByteArray := prog_14_method_64_code
def yX12_image : MethodName := ⟨RX12, "image", "()I"⟩
abbrev cX12_back : ByteArray := prog_14_method_65_code
def yX12_back : MethodName := ⟨RX12, "back", "()I"⟩
abbrev cX12_count : ByteArray := prog_14_method_66_code
def yX12_count : MethodName := ⟨RX12, "count", "(I)I"⟩
abbrev cX12_isSheet : ByteArray := prog_14_method_67_code
def yX12_isSheet : MethodName := ⟨RX12, "isSheet", "(I)Z"⟩
abbrev cX12_sheet : ByteArray := prog_14_method_68_code
def yX12_sheet : MethodName := ⟨RX12, "sheet", "(III)I"⟩
abbrev cX12_cell : ByteArray := prog_14_method_69_code
def yX12_cell : MethodName := ⟨RX12, "cell", "(III)I"⟩
abbrev cX12_copy : ByteArray := prog_14_method_70_code
def yX12_copy : MethodName := ⟨RX12, "copy", "(IIIII)I"⟩
abbrev cX12_crew : ByteArray := prog_14_method_71_code
def yX12_crew : MethodName := ⟨RX12, "crew", "(IIII)I"⟩
abbrev cX12_above : ByteArray := prog_14_method_72_code
def yX12_above : MethodName := ⟨RX12, "above", "(I)I"⟩
abbrev cX12_taken : ByteArray := prog_14_method_73_code
def yX12_taken : MethodName := ⟨RX12, "taken", "(II)I"⟩
def RJ6 : String := "java/lang/Integer"
def TJ6 : u_T := fun k => match k with
  | _ => ("", "", "", false)
def tyJ6 : Nat → FieldType := fun k => match k with
  | _ => .int
abbrev wsJ60 : List Cond := u_ws RJ6 TJ6 0
theorem nmJ6 : ∀ a, a < 0 → ∀ b, b < 0 → a ≠ b → (TJ6 a).2.1 ≠ (TJ6 b).2.1 := by decide +kernel
theorem tyJ6_ok : ∀ k, k < 0 → parseFieldDescriptor (TJ6 k).2.2.1 = some (tyJ6 k) := by decide +kernel
abbrev cJ6_bitCount_0f7a4 : ByteArray := prog_15_method_49_code
def yJ6_bitCount_0f7a4 : MethodName := ⟨RJ6, "bitCount", "(I)I"⟩
def RJ9 : String := "java/lang/Math"
def TJ9 : u_T := fun k => match k with
  | _ => ("", "", "", false)
def tyJ9 : Nat → FieldType := fun k => match k with
  | _ => .int
abbrev wsJ90 : List Cond := u_ws RJ9 TJ9 0
theorem nmJ9 : ∀ a, a < 0 → ∀ b, b < 0 → a ≠ b → (TJ9 a).2.1 ≠ (TJ9 b).2.1 := by decide +kernel
theorem tyJ9_ok : ∀ k, k < 0 → parseFieldDescriptor (TJ9 k).2.2.1 = some (tyJ9 k) := by decide +kernel
abbrev cJ9_max_7cf53 : ByteArray := prog_16_method_65_code
def yJ9_max_7cf53 : MethodName := ⟨RJ9, "max", "(II)I"⟩
abbrev cJ9_min_7cf53 : ByteArray := prog_16_method_69_code
def yJ9_min_7cf53 : MethodName := ⟨RJ9, "min", "(II)I"⟩
def RJ0 : String := "java/lang/String"
def TJ0 : u_T := fun k => match k with
  | _ => ("", "", "", false)
def tyJ0 : Nat → FieldType := fun k => match k with
  | _ => .int
abbrev wsJ00 : List Cond := u_ws RJ0 TJ0 0
theorem nmJ0 : ∀ a, a < 0 → ∀ b, b < 0 → a ≠ b → (TJ0 a).2.1 ≠ (TJ0 b).2.1 := by decide +kernel
theorem tyJ0_ok : ∀ k, k < 0 → parseFieldDescriptor (TJ0 k).2.2.1 = some (tyJ0 k) := by decide +kernel
abbrev cJ0_length_8abf5 : ByteArray := prog_17_method_54_code
def yJ0_length_8abf5 : MethodName := ⟨RJ0, "length", "()I"⟩
abbrev cJ0_charAt_5068e : ByteArray := prog_17_method_56_code
def yJ0_charAt_5068e : MethodName := ⟨RJ0, "charAt", "(I)C"⟩
abbrev cJ0_coder_7d493 : ByteArray := prog_17_method_152_code
def yJ0_coder_7d493 : MethodName := ⟨RJ0, "coder", "()B"⟩
abbrev cJ0_isLatin1_aae02 : ByteArray := prog_17_method_154_code
def yJ0_isLatin1_aae02 : MethodName := ⟨RJ0, "isLatin1", "()Z"⟩
abbrev cJ0_checkIndex_df160 : ByteArray := prog_17_method_155_code
def yJ0_checkIndex_df160 : MethodName := ⟨RJ0, "checkIndex", "(II)V"⟩
def RJ1 : String := "java/lang/StringLatin1"
def TJ1 : u_T := fun k => match k with
  | _ => ("", "", "", false)
def tyJ1 : Nat → FieldType := fun k => match k with
  | _ => .int
abbrev wsJ10 : List Cond := u_ws RJ1 TJ1 0
theorem nmJ1 : ∀ a, a < 0 → ∀ b, b < 0 → a ≠ b → (TJ1 a).2.1 ≠ (TJ1 b).2.1 := by decide +kernel
theorem tyJ1_ok : ∀ k, k < 0 → parseFieldDescriptor (TJ1 k).2.2.1 = some (tyJ1 k) := by decide +kernel
abbrev cJ1_charAt_3b067 : ByteArray := prog_18_method_2_code
def yJ1_charAt_3b067 : MethodName := ⟨RJ1, "charAt", "([BI)C"⟩
def RJ2 : String := "java/lang/StringUTF16"
def TJ2 : u_T := fun k => match k with
  | _ => ("", "", "", false)
def tyJ2 : Nat → FieldType := fun k => match k with
  | _ => .int
abbrev wsJ20 : List Cond := u_ws RJ2 TJ2 0
theorem nmJ2 : ∀ a, a < 0 → ∀ b, b < 0 → a ≠ b → (TJ2 a).2.1 ≠ (TJ2 b).2.1 := by decide +kernel
theorem tyJ2_ok : ∀ k, k < 0 → parseFieldDescriptor (TJ2 k).2.2.1 = some (tyJ2 k) := by decide +kernel
abbrev cJ2_getChar_3b067 : ByteArray := prog_19_method_5_code
def yJ2_getChar_3b067 : MethodName := ⟨RJ2, "getChar", "([BI)C"⟩
abbrev cJ2_length_9d52b : ByteArray := prog_19_method_6_code
def yJ2_length_9d52b : MethodName := ⟨RJ2, "length", "([B)I"⟩
abbrev cJ2_charAt_3b067 : ByteArray := prog_19_method_83_code
def yJ2_charAt_3b067 : MethodName := ⟨RJ2, "charAt", "([BI)C"⟩
abbrev cJ2_checkIndex_2214a : ByteArray := prog_19_method_91_code
def yJ2_checkIndex_2214a : MethodName := ⟨RJ2, "checkIndex", "(I[B)V"⟩
def RJ10 : String := "java/lang/System"
def TJ10 : u_T := fun k => match k with
  | _ => ("", "", "", false)
def tyJ10 : Nat → FieldType := fun k => match k with
  | _ => .int
abbrev wsJ100 : List Cond := u_ws RJ10 TJ10 0
theorem nmJ10 : ∀ a, a < 0 → ∀ b, b < 0 → a ≠ b → (TJ10 a).2.1 ≠ (TJ10 b).2.1 := by decide +kernel
theorem tyJ10_ok : ∀ k, k < 0 → parseFieldDescriptor (TJ10 k).2.2.1 = some (tyJ10 k) := by decide +kernel
def RJ3 : String := "jdk/internal/util/Preconditions"
def TJ3 : u_T := fun k => match k with
  | _ => ("", "", "", false)
def tyJ3 : Nat → FieldType := fun k => match k with
  | _ => .int
abbrev wsJ30 : List Cond := u_ws RJ3 TJ3 0
theorem nmJ3 : ∀ a, a < 0 → ∀ b, b < 0 → a ≠ b → (TJ3 a).2.1 ≠ (TJ3 b).2.1 := by decide +kernel
theorem tyJ3_ok : ∀ k, k < 0 → parseFieldDescriptor (TJ3 k).2.2.1 = some (tyJ3 k) := by decide +kernel
abbrev cJ3_checkIndex_8e157 : ByteArray := prog_21_method_11_code
def yJ3_checkIndex_8e157 : MethodName := ⟨RJ3, "checkIndex", "(IILjava/util/function/BiFunction;)I"⟩
def RL : String := "FerriedInWordsLaw"
abbrev cL_law : ByteArray := code
def yL_law : MethodName := ⟨RL, "law", "([I)Z"⟩
abbrev vwCl : List vw_C := [(RX0, TX0, 7), (RX1, TX1, 0), (RX2, TX2, 0), (RX3, TX3, 0), (RX4, TX4, 0), (RX5, TX5, 5), (RX6, TX6, 0), (RX7, TX7, 10), (RX8, TX8, 3), (RX9, TX9, 0), (RX10, TX10, 3), (RX11, TX11, 13), (RX12, TX12, 45)]
end
section
/-! tables: the words of the tables that travel (zGL), methods, resolved code in chunks of 16 bytes, links; written by wip/whole/gen3.py -/
def zGL : List Cond := lw_tbl.filter goodWord
theorem zgl_tbl : ∀ w ∈ zGL, w ∈ lw_tbl := fun _ h => (List.mem_filter.mp h).1
theorem zgl_good : ∀ w ∈ zGL, goodWord w = true := fun _ h => (List.mem_filter.mp h).2
theorem zgl_of {w : Cond} (h : w ∈ tables_1) (g : goodWord w = true) : w ∈ zGL := List.mem_filter.mpr ⟨List.mem_append_right _ h, g⟩
theorem ztb1 {w : Cond} (h : w ∈ tables_1_1) : w ∈ tables_1 := List.mem_append_left _ h
theorem zg1 {w : Cond} (i : Nat) (h : tables_1_1[i]? = some w) (g : goodWord w = true) : w ∈ zGL := zgl_of (ztb1 (List.mem_of_getElem? h)) g
theorem zt1 {w : Cond} (i : Nat) (h : tables_1_1[i]? = some w) : w ∈ lw_tbl := List.mem_append_right _ (ztb1 (List.mem_of_getElem? h))
theorem ztb2 {w : Cond} (h : w ∈ tables_1_2) : w ∈ tables_1 := List.mem_append_right _ (List.mem_append_left _ h)
theorem zg2 {w : Cond} (i : Nat) (h : tables_1_2[i]? = some w) (g : goodWord w = true) : w ∈ zGL := zgl_of (ztb2 (List.mem_of_getElem? h)) g
theorem zt2 {w : Cond} (i : Nat) (h : tables_1_2[i]? = some w) : w ∈ lw_tbl := List.mem_append_right _ (ztb2 (List.mem_of_getElem? h))
theorem ztb3 {w : Cond} (h : w ∈ tables_1_3) : w ∈ tables_1 := List.mem_append_right _ (List.mem_append_right _ (List.mem_append_left _ h))
theorem zg3 {w : Cond} (i : Nat) (h : tables_1_3[i]? = some w) (g : goodWord w = true) : w ∈ zGL := zgl_of (ztb3 (List.mem_of_getElem? h)) g
theorem zt3 {w : Cond} (i : Nat) (h : tables_1_3[i]? = some w) : w ∈ lw_tbl := List.mem_append_right _ (ztb3 (List.mem_of_getElem? h))
theorem ztb4 {w : Cond} (h : w ∈ tables_1_4) : w ∈ tables_1 := List.mem_append_right _ (List.mem_append_right _ (List.mem_append_right _ (List.mem_append_left _ h)))
theorem zg4 {w : Cond} (i : Nat) (h : tables_1_4[i]? = some w) (g : goodWord w = true) : w ∈ zGL := zgl_of (ztb4 (List.mem_of_getElem? h)) g
theorem zt4 {w : Cond} (i : Nat) (h : tables_1_4[i]? = some w) : w ∈ lw_tbl := List.mem_append_right _ (ztb4 (List.mem_of_getElem? h))
theorem ztb5 {w : Cond} (h : w ∈ tables_1_5) : w ∈ tables_1 := List.mem_append_right _ (List.mem_append_right _ (List.mem_append_right _ (List.mem_append_right _ (List.mem_append_left _ h))))
theorem zg5 {w : Cond} (i : Nat) (h : tables_1_5[i]? = some w) (g : goodWord w = true) : w ∈ zGL := zgl_of (ztb5 (List.mem_of_getElem? h)) g
theorem zt5 {w : Cond} (i : Nat) (h : tables_1_5[i]? = some w) : w ∈ lw_tbl := List.mem_append_right _ (ztb5 (List.mem_of_getElem? h))
theorem ztb6 {w : Cond} (h : w ∈ tables_1_6) : w ∈ tables_1 := List.mem_append_right _ (List.mem_append_right _ (List.mem_append_right _ (List.mem_append_right _ (List.mem_append_right _ (h)))))
theorem zg6 {w : Cond} (i : Nat) (h : tables_1_6[i]? = some w) (g : goodWord w = true) : w ∈ zGL := zgl_of (ztb6 (List.mem_of_getElem? h)) g
theorem zt6 {w : Cond} (i : Nat) (h : tables_1_6[i]? = some w) : w ∈ lw_tbl := List.mem_append_right _ (ztb6 (List.mem_of_getElem? h))
abbrev zE : Type := Instr × Nat × Nat × List (Int × Nat)
def zgt {α : Type} (d : α) : List α → Nat → α | [], _ => d | a :: _, 0 => a | _ :: l, n + 1 => zgt d l n
def zC : List String := [RX0, RX1, RX2, RX3, RX4, RX5, RX6, RX7, RX8, RX9, RX10, RX11, RX12, RJ6, RJ9, RL]
def zR (o : Nat) : String := zgt "" zC o
def zNF (c : Nat) : Nat := zgt 0 [7, 0, 0, 0, 0, 5, 0, 10, 3, 0, 3, 13, 45] c
def zT (c : Nat) : u_T := zgt TX1 [TX0, TX1, TX2, TX3, TX4, TX5, TX6, TX7, TX8, TX9, TX10, TX11, TX12] c
def zTy (c : Nat) : Nat → FieldType := zgt tyX1 [tyX0, tyX1, tyX2, tyX3, tyX4, tyX5, tyX6, tyX7, tyX8, tyX9, tyX10, tyX11, tyX12] c
/-- the kind of a field: 0 int, 1 long, 2 reference, 3 boolean -/
def zKd (c j : Nat) : Nat := zgt 0 (zgt [] [[2, 2, 0, 0, 0, 0, 0], [], [], [], [], [0, 0, 0, 0, 0], [], [2, 0, 2, 2, 2, 0, 0, 0, 0, 2], [2, 0, 0], [], [2, 2, 0], [2, 2, 2, 2, 3, 2, 2, 0, 2, 2, 2, 0, 0], [0, 2, 2, 0, 0, 2, 0, 0, 2, 0, 2, 0, 0, 0, 0, 0, 0, 0, 0, 0, 0, 0, 0, 0, 0, 1, 0, 3, 0, 2, 2, 0, 0, 0, 2, 2, 0, 0, 0, 0, 0, 2, 2, 2, 2]] c) j
def zTyL : List FieldType := [.int, .boolean, .object RX5, .object RX8, .object RX9, .object RX10]
def zYs : List MethodName := [yX0_init, yX0_isThere, yX0_takeFirst, yX0_become, yX1_init, yX1_isUnder, yX1_keptOf, yX1_wordsFor, yX1_wearies, yX1_takesIn, yX2_init, yX2_isUnder, yX2_keptOf, yX2_wordsFor, yX2_wearies, yX2_takesIn, yX3_init, yX3_isUnder, yX3_wordsFor, yX3_wearies, yX3_takesIn, yX4_init, yX4_isUnder, yX4_keptOf, yX4_wordsFor, yX4_wearies, yX5_init, yX5_worth, yX5_become, yX5_become_, yX6_init, yX6_isUnder, yX6_keptOf, yX6_wordsFor, yX6_wearies, yX6_takesIn, yX7_init, yX7_put, yX7_readInto, yX7_readPart, yX7_readOrs, yX7_readAnds, yX7_readNot, yX7_readSum, yX7_readTerm, yX7_readOne, yX7_opens, yX7_expect, yX7_fail, yX7_advance, yX7_split, yX7_addToken, yX7_splitOff, yX7_splitWord, yX7_splitNumber, yX7_isSign, yX7_nameCode, yX7_keyToken, yX7_isWord, yX8_init, yX8_isMissing, yX8_has, yX8_become, yX8_put, yX9_init, yX9_isUnder, yX9_keptOf, yX9_wordsFor, yX9_wearies, yX9_takesIn, yX10_init, yX10_add, yX10_worth, yX10_named, yX10_ofOne, yX10_ofTwo, yX11_init, yX11_set, yX11_person, yX11_told, yX11_brings, yX11_asks, yX11_most, yX11_isSet, yX11_feed, yX11_text, yX11_force, yX11_ruleOf, yX11_over, yX11_day, yX11_run, yX11_isAskedOfRun, yX11_kindOf, yX11_keeping, yX11_telling, yX11_tiring, yX11_learning, yX11_toldByAll, yX11_toldByRow, yX11_passDay, yX11_tellTruly, yX11_off, yX11_lowest, yX11_within, yX11_fro, yX11_row, yX11_tryRows, yX11_learn, yX11_toldWithMore, yX11_from, yX11_mean, yX11_inLowestTerms, yX11_commonDivisor, yX11_tells, yX11_suiting, yX11_vary, yX11_firstOtherwise, yX11_film, yX11_drawn, yX11_chance, yX11_offOfDrawn, yX11_image, yX11_back, yX11_count, yX11_sheet, yX11_cell, yX11_copy, yX11_crew, yX11_taken, yX11_isSheet, yX12_in, yX12_within, yX12_init, yX12_spell, yX12_isOne, yX12_isOf, yX12_mostOf, yX12_set, yX12_lays, yX12_person, yX12_told, yX12_brings, yX12_feed, yX12_byteAt, yX12_next, yX12_fail, yX12_isLetter, yX12_isWord, yX12_isSign, yX12_opens, yX12_name, yX12_atom, yX12_term, yX12_added, yX12_not, yX12_both, yX12_either, yX12_part, yX12_read, yX12_text, yX12_force, yX12_bitsOf, yX12_wordsOf, yX12_says, yX12_keepsOf, yX12_tellsOf, yX12_tiresOf, yX12_learns, yX12_asks, yX12_byAll, yX12_off, yX12_over, yX12_tellsTruly, yX12_passes, yX12_day, yX12_laysAside, yX12_laysBack, yX12_run, yX12_fro, yX12_rowsFrom, yX12_row, yX12_learn, yX12_from, yX12_lowest, yX12_mean, yX12_firstOther, yX12_likeSet, yX12_tells, yX12_film, yX12_offDrawn, yX12_drawn, yX12_chance, yX12_image, yX12_back, yX12_count, yX12_isSheet, yX12_sheet, yX12_cell, yX12_copy, yX12_crew, yX12_above, yX12_taken, yJ6_bitCount_0f7a4, yJ9_max_7cf53, yJ9_min_7cf53, yL_law]
def zY (k : Nat) : MethodName := zgt yL_law zYs k
def zBs : List ByteArray := [prog_2_method_1_code, prog_2_method_2_code, prog_2_method_3_code, prog_2_method_4_code, prog_3_method_1_code, prog_3_method_2_code, prog_3_method_3_code, prog_3_method_4_code, prog_3_method_5_code, prog_3_method_6_code, prog_4_method_1_code, prog_4_method_2_code, prog_4_method_3_code, prog_4_method_4_code, prog_4_method_5_code, prog_4_method_6_code, prog_5_method_1_code, prog_5_method_2_code, prog_5_method_3_code, prog_5_method_4_code, prog_5_method_5_code, prog_6_method_1_code, prog_6_method_2_code, prog_6_method_3_code, prog_6_method_4_code, prog_6_method_5_code, prog_7_method_1_code, prog_7_method_2_code, prog_7_method_3_code, prog_7_method_4_code, prog_8_method_1_code, prog_8_method_2_code, prog_8_method_3_code, prog_8_method_4_code, prog_8_method_5_code, prog_8_method_6_code, prog_9_method_1_code, prog_9_method_2_code, prog_9_method_3_code, prog_9_method_4_code, prog_9_method_5_code, prog_9_method_6_code, prog_9_method_7_code, prog_9_method_8_code, prog_9_method_9_code, prog_9_method_10_code, prog_9_method_11_code, prog_9_method_12_code, prog_9_method_13_code, prog_9_method_14_code, prog_9_method_15_code, prog_9_method_16_code, prog_9_method_17_code, prog_9_method_18_code, prog_9_method_19_code, prog_9_method_20_code, prog_9_method_21_code, prog_9_method_22_code, prog_9_method_23_code, prog_10_method_1_code, prog_10_method_2_code, prog_10_method_3_code, prog_10_method_4_code, prog_10_method_5_code, prog_11_method_1_code, prog_11_method_2_code, prog_11_method_3_code, prog_11_method_4_code, prog_11_method_5_code, prog_11_method_6_code, prog_12_method_1_code, prog_12_method_2_code, prog_12_method_3_code, prog_12_method_4_code, prog_12_method_5_code, prog_12_method_6_code, prog_1_method_1_code, prog_1_method_2_code, prog_1_method_3_code, prog_1_method_4_code, prog_1_method_5_code, prog_1_method_6_code, prog_1_method_7_code, prog_1_method_8_code, prog_1_method_9_code, prog_1_method_10_code, prog_1_method_11_code, prog_1_method_12_code, prog_1_method_13_code, prog_1_method_14_code, prog_1_method_15_code, prog_1_method_16_code, prog_1_method_17_code, prog_1_method_18_code, prog_1_method_19_code, prog_1_method_20_code, prog_1_method_21_code, prog_1_method_22_code, prog_1_method_23_code, prog_1_method_24_code, prog_1_method_25_code, prog_1_method_26_code, prog_1_method_27_code, prog_1_method_28_code, prog_1_method_29_code, prog_1_method_30_code, prog_1_method_31_code, prog_1_method_32_code, prog_1_method_33_code, prog_1_method_34_code, prog_1_method_35_code, prog_1_method_36_code, prog_1_method_37_code, prog_1_method_38_code, prog_1_method_39_code, prog_1_method_40_code, prog_1_method_41_code, prog_1_method_42_code, prog_1_method_43_code, prog_1_method_44_code, prog_1_method_45_code, prog_1_method_46_code, prog_1_method_47_code, prog_1_method_48_code, prog_1_method_49_code, prog_1_method_50_code, prog_1_method_51_code, prog_1_method_52_code, prog_1_method_53_code, prog_1_method_54_code, prog_14_method_2_code, prog_14_method_3_code, prog_14_method_4_code, prog_14_method_5_code, prog_14_method_6_code, prog_14_method_7_code, prog_14_method_8_code, prog_14_method_9_code, prog_14_method_10_code, prog_14_method_11_code, prog_14_method_12_code, prog_14_method_13_code, prog_14_method_14_code, prog_14_method_15_code, prog_14_method_16_code, prog_14_method_17_code, prog_14_method_18_code, prog_14_method_19_code, prog_14_method_20_code, prog_14_method_21_code, prog_14_method_22_code, prog_14_method_23_code, prog_14_method_24_code, prog_14_method_25_code, prog_14_method_26_code, prog_14_method_27_code, prog_14_method_28_code, prog_14_method_29_code, prog_14_method_30_code, prog_14_method_31_code, prog_14_method_32_code, prog_14_method_33_code, prog_14_method_34_code, prog_14_method_35_code, prog_14_method_36_code, prog_14_method_37_code, prog_14_method_38_code, prog_14_method_39_code, prog_14_method_40_code, prog_14_method_41_code, prog_14_method_42_code, prog_14_method_43_code, prog_14_method_44_code, prog_14_method_45_code, prog_14_method_46_code, prog_14_method_47_code, prog_14_method_48_code, prog_14_method_49_code, prog_14_method_50_code, prog_14_method_51_code, prog_14_method_52_code, prog_14_method_53_code, prog_14_method_54_code, prog_14_method_55_code, prog_14_method_56_code, prog_14_method_57_code, prog_14_method_58_code, prog_14_method_59_code, prog_14_method_60_code, prog_14_method_61_code, prog_14_method_62_code, prog_14_method_63_code, prog_14_method_64_code, prog_14_method_65_code, prog_14_method_66_code, prog_14_method_67_code, prog_14_method_68_code, prog_14_method_69_code, prog_14_method_70_code, prog_14_method_71_code, prog_14_method_72_code, prog_14_method_73_code, prog_15_method_49_code, prog_16_method_65_code, prog_16_method_69_code, code]
def zB (k : Nat) : ByteArray := zgt code zBs k
def zLs_ : List Nat := [2, 2, 3, 3, 1, 2, 3, 5, 3, 3, 1, 2, 3, 4, 3, 3, 1, 2, 4, 3, 3, 1, 2, 3, 5, 3, 1, 2, 3, 2, 1, 2, 3, 4, 3, 3, 2, 2, 2, 3, 3, 3, 3, 4, 3, 2, 2, 2, 1, 1, 3, 4, 3, 4, 4, 1, 3, 3, 5, 1, 1, 3, 4, 3, 1, 2, 3, 8, 3, 3, 1, 2, 9, 4, 2, 3, 2, 6, 6, 3, 2, 5, 1, 1, 2, 2, 3, 2, 6, 1, 7, 2, 2, 4, 4, 4, 4, 5, 6, 4, 7, 2, 1, 2, 5, 5, 7, 7, 4, 6, 4, 4, 6, 5, 11, 4, 4, 7, 3, 7, 7, 1, 1, 2, 4, 4, 8, 10, 4, 1, 6, 3, 1, 10, 2, 3, 1, 5, 4, 6, 3, 2, 2, 2, 3, 1, 3, 9, 2, 1, 1, 2, 2, 4, 4, 3, 3, 3, 6, 2, 3, 3, 2, 4, 5, 8, 5, 4, 4, 4, 2, 6, 7, 3, 1, 2, 2, 8, 5, 9, 4, 5, 6, 11, 4, 4, 4, 11, 6, 7, 3, 8, 2, 2, 2, 1, 5, 4, 9, 8, 1, 4, 1, 2, 2, 4]
def zL (k : Nat) : Nat := zgt 0 zLs_ k
def zTrs : List (Option FieldType) := [none, (some .boolean), (some .int), none, none, (some .boolean), (some .int), (some .int), (some .int), (some .boolean), none, (some .boolean), (some .int), (some .int), (some .int), (some .boolean), none, (some .boolean), (some .int), (some .int), (some .boolean), none, (some .boolean), (some .int), (some .int), (some .int), none, (some .int), none, none, none, (some .boolean), (some .int), (some .int), (some .int), (some .boolean), none, (some .boolean), (some .int), none, none, none, none, none, none, none, (some .boolean), none, none, none, none, none, (some .int), (some .int), (some .int), (some .boolean), (some .int), (some .int), (some .boolean), none, (some .boolean), (some .boolean), none, none, none, (some .boolean), (some .int), (some .int), (some .int), (some .boolean), none, none, (some .int), (some .int), (some .int), (some .int), none, (some .int), (some .int), (some .int), (some .int), (some .int), (some .int), (some .boolean), (some .int), (some .int), (some .int), (some (.object "FerriedInWords$Text")), (some .int), (some .int), (some .int), (some .boolean), (some (.object "FerriedInWords$Teller")), (some .int), (some .int), (some .int), (some .boolean), (some .int), (some .int), (some .int), (some .int), (some .int), (some .int), (some .int), (some .int), (some .int), none, (some .int), (some .int), (some .int), (some .long), (some .long), (some .int), (some .int), (some .int), none, (some .int), (some .int), (some .int), (some .long), (some .int), (some .int), (some .int), (some .int), (some .int), (some .int), (some .int), (some .int), (some .int), (some .boolean), (some .boolean), (some .int), none, none, (some .boolean), (some .boolean), (some .int), (some .int), none, (some .int), (some .int), (some .int), (some .int), (some .int), none, none, (some .boolean), (some .boolean), (some .boolean), (some .boolean), (some .int), (some .int), (some .int), (some .int), (some .int), (some .int), (some .int), (some .int), (some .int), (some .int), (some .int), (some .int), (some .int), (some .int), (some .int), (some .int), (some .int), (some .boolean), (some .int), (some .int), (some .int), (some .int), (some .int), (some .int), (some .int), none, none, (some .int), (some .int), none, (some .int), (some .int), (some .int), (some .long), (some .long), (some .int), (some .int), (some .int), (some .int), (some .int), (some .int), (some .long), (some .int), (some .int), (some .int), (some .boolean), (some .int), (some .int), (some .int), (some .int), (some .int), (some .int), (some .int), (some .int), (some .int), some .boolean]
def zTr (k : Nat) : Option FieldType := zgt none zTrs k
def zOs : List Nat := [0, 0, 0, 0, 1, 1, 1, 1, 1, 1, 2, 2, 2, 2, 2, 2, 3, 3, 3, 3, 3, 4, 4, 4, 4, 4, 5, 5, 5, 5, 6, 6, 6, 6, 6, 6, 7, 7, 7, 7, 7, 7, 7, 7, 7, 7, 7, 7, 7, 7, 7, 7, 7, 7, 7, 7, 7, 7, 7, 8, 8, 8, 8, 8, 9, 9, 9, 9, 9, 9, 10, 10, 10, 10, 10, 10, 11, 11, 11, 11, 11, 11, 11, 11, 11, 11, 11, 11, 11, 11, 11, 11, 11, 11, 11, 11, 11, 11, 11, 11, 11, 11, 11, 11, 11, 11, 11, 11, 11, 11, 11, 11, 11, 11, 11, 11, 11, 11, 11, 11, 11, 11, 11, 11, 11, 11, 11, 11, 11, 11, 12, 12, 12, 12, 12, 12, 12, 12, 12, 12, 12, 12, 12, 12, 12, 12, 12, 12, 12, 12, 12, 12, 12, 12, 12, 12, 12, 12, 12, 12, 12, 12, 12, 12, 12, 12, 12, 12, 12, 12, 12, 12, 12, 12, 12, 12, 12, 12, 12, 12, 12, 12, 12, 12, 12, 12, 12, 12, 12, 12, 12, 12, 12, 12, 12, 12, 12, 12, 12, 12, 12, 12, 13, 14, 14, 15]
def zO (k : Nat) : Nat := zgt 0 zOs k
def zN : zE := (.nop, 0, 0, [])
def zcX0_init : List (List zE) := [[(.aload_n 0, 0, 0, []), (.invokespecial 3, 1003, 0, [(6, 0)]), zN, zN, (.aload_n 0, 0, 0, []), (.iconst 5, 0, 0, []), (.anewarray 9, 2, 0, []), zN, zN, (.putfield 11, 0, 0, []), zN, zN, (.aload_n 0, 0, 0, []), (.bipush 8, 0, 0, []), zN, (.newarray .int, 0, 0, [])], [zN, (.putfield 17, 0, 1, []), zN, zN, (.iconst 0, 0, 0, []), (.istore_n 1, 1, 0, []), (.iload_n 1, 1, 0, []), (.iconst 5, 0, 0, []), (.if_icmp .ge 22, 46, 0, []), zN, zN, (.aload_n 0, 0, 0, []), (.getfield 11, 0, 0, []), zN, zN, (.iload_n 1, 1, 0, [])], [(.new 9, 5, 0, []), zN, zN, (.dup, 0, 0, []), (.invokespecial 21, 26, 0, [(3, 0)]), zN, zN, (.aastore, 0, 0, []), (.iinc 1 1, 1, 0, []), zN, zN, (.goto (-21), 22, 0, []), zN, zN, (.return_, 0, 0, [])]]
def zcX0_isThere : List (List zE) := [[(.iload_n 1, 1, 0, []), (.ifCond .lt 15, 16, 0, []), zN, zN, (.iload_n 1, 1, 0, []), (.aload_n 0, 0, 0, []), (.getfield 22, 0, 2, []), zN, zN, (.if_icmp .ge 7, 16, 0, []), zN, zN, (.iconst 1, 0, 0, []), (.goto 4, 17, 0, []), zN, zN], [(.iconst 0, 0, 0, []), (.ireturn, 1, 0, [])]]
def zcX0_takeFirst : List (List zE) := [[(.aload_n 0, 0, 0, []), (.getfield 17, 0, 1, []), zN, zN, (.iconst 0, 0, 0, []), (.iaload, 0, 0, []), (.istore_n 1, 1, 0, []), (.iconst 1, 0, 0, []), (.istore_n 2, 2, 0, []), (.iload_n 2, 2, 0, []), (.aload_n 0, 0, 0, []), (.getfield 26, 0, 3, []), zN, zN, (.if_icmp .ge 23, 37, 0, []), zN], [zN, (.aload_n 0, 0, 0, []), (.getfield 17, 0, 1, []), zN, zN, (.iload_n 2, 2, 0, []), (.iconst 1, 0, 0, []), (.isub, 0, 0, []), (.aload_n 0, 0, 0, []), (.getfield 17, 0, 1, []), zN, zN, (.iload_n 2, 2, 0, []), (.iaload, 0, 0, []), (.iastore, 0, 0, []), (.iinc 2 1, 2, 0, [])], [zN, zN, (.goto (-25), 9, 0, []), zN, zN, (.aload_n 0, 0, 0, []), (.dup, 0, 0, []), (.getfield 26, 0, 3, []), zN, zN, (.iconst 1, 0, 0, []), (.isub, 0, 0, []), (.putfield 26, 0, 3, []), zN, zN, (.iload_n 1, 1, 0, [])], [(.ireturn, 0, 0, [])]]
def zcX0_become : List (List zE) := [[(.aload_n 0, 0, 0, []), (.aload_n 1, 1, 0, []), (.getfield 22, 0, 2, []), zN, zN, (.putfield 22, 0, 2, []), zN, zN, (.aload_n 0, 0, 0, []), (.aload_n 1, 1, 0, []), (.getfield 26, 0, 3, []), zN, zN, (.putfield 26, 0, 3, []), zN, zN], [(.aload_n 0, 0, 0, []), (.aload_n 1, 1, 0, []), (.getfield 29, 0, 4, []), zN, zN, (.putfield 29, 0, 4, []), zN, zN, (.aload_n 0, 0, 0, []), (.aload_n 1, 1, 0, []), (.getfield 32, 0, 5, []), zN, zN, (.putfield 32, 0, 5, []), zN, zN], [(.aload_n 0, 0, 0, []), (.aload_n 1, 1, 0, []), (.getfield 35, 0, 6, []), zN, zN, (.putfield 35, 0, 6, []), zN, zN, (.iconst 0, 0, 0, []), (.istore_n 2, 2, 0, []), (.iload_n 2, 2, 0, []), (.aload_n 0, 0, 0, []), (.getfield 22, 0, 2, []), zN, zN, (.if_icmp .ge 24, 71, 0, [])], [zN, zN, (.aload_n 0, 0, 0, []), (.getfield 11, 0, 0, []), zN, zN, (.iload_n 2, 2, 0, []), (.aaload, 0, 0, []), (.aload_n 1, 1, 0, []), (.getfield 11, 0, 0, []), zN, zN, (.iload_n 2, 2, 0, []), (.aaload, 0, 0, []), (.invokevirtual 38, 1000, 1, [(5, 29)]), zN], [zN, (.iinc 2 1, 2, 0, []), zN, zN, (.goto (-26), 42, 0, []), zN, zN, (.iconst 0, 0, 0, []), (.istore_n 2, 2, 0, []), (.iload_n 2, 2, 0, []), (.aload_n 0, 0, 0, []), (.getfield 26, 0, 3, []), zN, zN, (.if_icmp .ge 21, 99, 0, []), zN], [zN, (.aload_n 0, 0, 0, []), (.getfield 17, 0, 1, []), zN, zN, (.iload_n 2, 2, 0, []), (.aload_n 1, 1, 0, []), (.getfield 17, 0, 1, []), zN, zN, (.iload_n 2, 2, 0, []), (.iaload, 0, 0, []), (.iastore, 0, 0, []), (.iinc 2 1, 2, 0, []), zN, zN], [(.goto (-23), 73, 0, []), zN, zN, (.return_, 0, 0, [])]]
def zcX1_init : List (List zE) := [[(.aload_n 0, 0, 0, []), (.invokespecial 3, 64, 0, [(3, 0)]), zN, zN, (.return_, 0, 0, [])]]
def zcX1_isUnder : List (List zE) := [[(.iload_n 1, 1, 0, []), (.iconst 2, 0, 0, []), (.if_icmp .eq 11, 13, 0, []), zN, zN, (.aload_n 0, 0, 0, []), (.iload_n 1, 1, 0, []), (.invokespecial 9, 65, 1, [(5, 0)]), zN, zN, (.ifCond .eq 7, 17, 0, []), zN, zN, (.iconst 1, 0, 0, []), (.goto 4, 18, 0, []), zN], [zN, (.iconst 0, 0, 0, []), (.ireturn, 1, 0, [])]]
def zcX1_keptOf : List (List zE) := [[(.aload_n 0, 0, 0, []), (.iload_n 1, 1, 0, []), (.iload_n 2, 2, 0, []), (.invokespecial 13, 66, 2, [(5, 0)]), zN, zN, (.iconst 2, 0, 0, []), (.imul, 0, 0, []), (.ireturn, 0, 0, [])]]
def zcX1_wordsFor : List (List zE) := [[(.aload_n 0, 0, 0, []), (.aload_n 1, 1, 0, []), (.iload_n 2, 2, 0, []), (.iload_n 3, 3, 0, []), (.invokespecial 17, 67, 3, [(5, 0)]), zN, zN, (.istore 4, 4, 0, []), zN, (.iload 4, 4, 0, []), zN, (.iload 4, 4, 0, []), zN, (.iconst 1, 0, 0, []), (.ishl, 0, 0, []), (.iload_n 2, 2, 0, [])], [(.iand, 0, 0, []), (.ior, 0, 0, []), (.ireturn, 0, 0, [])]]
def zcX1_wearies : List (List zE) := [[(.aload_n 0, 0, 0, []), (.iload_n 1, 1, 0, []), (.aload_n 2, 2, 0, []), (.invokespecial 21, 68, 2, [(5, 0)]), zN, zN, (.iconst 1, 0, 0, []), (.iadd, 0, 0, []), (.ireturn, 0, 0, [])]]
def zcX1_takesIn : List (List zE) := [[(.iload_n 1, 1, 0, []), (.ifCond .ne 11, 12, 0, []), zN, zN, (.iload_n 2, 2, 0, []), (.invokestatic 25, 202, 1, [(0, 0)]), zN, zN, (.iconst 1, 0, 0, []), (.if_icmp .ne 7, 16, 0, []), zN, zN, (.iconst 1, 0, 0, []), (.goto 4, 17, 0, []), zN, zN], [(.iconst 0, 0, 0, []), (.ireturn, 1, 0, [])]]
def zcX2_init : List (List zE) := [[(.aload_n 0, 0, 0, []), (.invokespecial 3, 64, 0, [(3, 0)]), zN, zN, (.return_, 0, 0, [])]]
def zcX2_isUnder : List (List zE) := [[(.iload_n 1, 1, 0, []), (.iconst 1, 0, 0, []), (.if_icmp .eq 11, 13, 0, []), zN, zN, (.aload_n 0, 0, 0, []), (.iload_n 1, 1, 0, []), (.invokespecial 9, 65, 1, [(5, 0)]), zN, zN, (.ifCond .eq 7, 17, 0, []), zN, zN, (.iconst 1, 0, 0, []), (.goto 4, 18, 0, []), zN], [zN, (.iconst 0, 0, 0, []), (.ireturn, 1, 0, [])]]
def zcX2_keptOf : List (List zE) := [[(.aload_n 0, 0, 0, []), (.iload_n 1, 1, 0, []), (.iload_n 2, 2, 0, []), (.invokespecial 13, 66, 2, [(5, 0)]), zN, zN, (.iconst 1, 0, 0, []), (.iadd, 0, 0, []), (.ireturn, 0, 0, [])]]
def zcX2_wordsFor : List (List zE) := [[(.aload_n 0, 0, 0, []), (.aload_n 1, 1, 0, []), (.iload_n 2, 2, 0, []), (.iload_n 3, 3, 0, []), (.invokespecial 17, 67, 3, [(5, 0)]), zN, zN, (.iconst 1, 0, 0, []), (.aload_n 1, 1, 0, []), (.getfield 21, 5, 1, []), zN, zN, (.ishl, 0, 0, []), (.ior, 0, 0, []), (.ireturn, 0, 0, [])]]
def zcX2_wearies : List (List zE) := [[(.iconst 0, 0, 0, []), (.ireturn, 0, 0, [])]]
def zcX2_takesIn : List (List zE) := [[(.iconst 0, 0, 0, []), (.ireturn, 1, 0, [])]]
def zcX3_init : List (List zE) := [[(.aload_n 0, 0, 0, []), (.invokespecial 3, 10, 0, [(3, 0)]), zN, zN, (.return_, 0, 0, [])]]
def zcX3_isUnder : List (List zE) := [[(.iload_n 1, 1, 0, []), (.iconst 3, 0, 0, []), (.if_icmp .eq 11, 13, 0, []), zN, zN, (.aload_n 0, 0, 0, []), (.iload_n 1, 1, 0, []), (.invokespecial 9, 11, 1, [(5, 0)]), zN, zN, (.ifCond .eq 7, 17, 0, []), zN, zN, (.iconst 1, 0, 0, []), (.goto 4, 18, 0, []), zN], [zN, (.iconst 0, 0, 0, []), (.ireturn, 1, 0, [])]]
def zcX3_wordsFor : List (List zE) := [[(.aload_n 0, 0, 0, []), (.aload_n 1, 1, 0, []), (.iload_n 2, 2, 0, []), (.iload_n 3, 3, 0, []), (.invokespecial 13, 13, 3, [(5, 0)]), zN, zN, (.iconst 1, 0, 0, []), (.bipush 9, 0, 0, []), zN, (.aload_n 1, 1, 0, []), (.getfield 17, 5, 1, []), zN, zN, (.isub, 0, 0, []), (.ishl, 0, 0, [])], [(.ixor, 0, 0, []), (.ireturn, 0, 0, [])]]
def zcX3_wearies : List (List zE) := [[(.aload_n 2, 2, 0, []), (.getfield 17, 5, 1, []), zN, zN, (.ireturn, 0, 0, [])]]
def zcX3_takesIn : List (List zE) := [[(.iload_n 1, 1, 0, []), (.ireturn, 1, 0, [])]]
def zcX4_init : List (List zE) := [[(.aload_n 0, 0, 0, []), (.invokespecial 3, 4, 0, [(3, 0)]), zN, zN, (.return_, 0, 0, [])]]
def zcX4_isUnder : List (List zE) := [[(.iload_n 1, 1, 0, []), (.iconst 4, 0, 0, []), (.if_icmp .eq 11, 13, 0, []), zN, zN, (.aload_n 0, 0, 0, []), (.iload_n 1, 1, 0, []), (.invokespecial 9, 5, 1, [(5, 0)]), zN, zN, (.ifCond .eq 7, 17, 0, []), zN, zN, (.iconst 1, 0, 0, []), (.goto 4, 18, 0, []), zN], [zN, (.iconst 0, 0, 0, []), (.ireturn, 1, 0, [])]]
def zcX4_keptOf : List (List zE) := [[(.iload_n 2, 2, 0, []), (.iconst 4, 0, 0, []), (.irem, 0, 0, []), (.ifCond .ne 8, 11, 0, []), zN, zN, (.bipush 10, 0, 0, []), zN, (.goto 9, 17, 0, []), zN, zN, (.aload_n 0, 0, 0, []), (.iload_n 1, 1, 0, []), (.iload_n 2, 2, 0, []), (.invokespecial 13, 6, 2, [(5, 0)]), zN], [zN, (.ireturn, 0, 0, [])]]
def zcX4_wordsFor : List (List zE) := [[(.aload_n 0, 0, 0, []), (.aload_n 1, 1, 0, []), (.iload_n 2, 2, 0, []), (.iload_n 3, 3, 0, []), (.invokespecial 17, 7, 3, [(5, 0)]), zN, zN, (.istore 4, 4, 0, []), zN, (.iload 4, 4, 0, []), zN, (.ifCond .ne 7, 18, 0, []), zN, zN, (.iconst 0, 0, 0, []), (.goto 18, 33, 0, [])], [zN, zN, (.iload 4, 4, 0, []), zN, (.aload_n 1, 1, 0, []), (.getfield 21, 5, 2, []), zN, zN, (.iload 4, 4, 0, []), zN, (.invokestatic 27, 102, 1, [(1, 0)]), zN, zN, (.iconst 1, 0, 0, []), (.isub, 0, 0, []), (.iand, 0, 0, [])], [(.ior, 0, 0, []), (.ireturn, 0, 0, [])]]
def zcX4_wearies : List (List zE) := [[(.aload_n 0, 0, 0, []), (.iload_n 1, 1, 0, []), (.aload_n 2, 2, 0, []), (.invokespecial 31, 8, 2, [(5, 0)]), zN, zN, (.iconst 2, 0, 0, []), (.idiv, 0, 0, []), (.ireturn, 0, 0, [])]]
def zcX5_init : List (List zE) := [[(.aload_n 0, 0, 0, []), (.invokespecial 3, 1003, 0, [(6, 0)]), zN, zN, (.return_, 0, 0, [])]]
def zcX5_worth : List (List zE) := [[(.iload_n 1, 1, 0, []), (.tableswitch 51 1 4 #[31, 36, 41, 46], 52, 0, [(1, 32), (2, 37), (3, 42), (4, 47)]), zN, zN, zN, zN, zN, zN, zN, zN, zN, zN, zN, zN, zN, zN], [zN, zN, zN, zN, zN, zN, zN, zN, zN, zN, zN, zN, zN, zN, zN, zN], [(.aload_n 0, 0, 0, []), (.getfield 9, 5, 1, []), zN, zN, (.ireturn, 0, 0, []), (.aload_n 0, 0, 0, []), (.getfield 15, 5, 2, []), zN, zN, (.ireturn, 0, 0, []), (.aload_n 0, 0, 0, []), (.getfield 18, 5, 3, []), zN, zN, (.ireturn, 0, 0, []), (.aload_n 0, 0, 0, [])], [(.getfield 21, 5, 4, []), zN, zN, (.ireturn, 0, 0, []), (.aload_n 0, 0, 0, []), (.getfield 24, 5, 0, []), zN, zN, (.ireturn, 0, 0, [])]]
def zcX5_become : List (List zE) := [[(.iload_n 1, 1, 0, []), (.tableswitch 63 1 4 #[31, 39, 47, 55], 64, 0, [(1, 32), (2, 40), (3, 48), (4, 56)]), zN, zN, zN, zN, zN, zN, zN, zN, zN, zN, zN, zN, zN, zN], [zN, zN, zN, zN, zN, zN, zN, zN, zN, zN, zN, zN, zN, zN, zN, zN], [(.aload_n 0, 0, 0, []), (.iload_n 2, 2, 0, []), (.putfield 9, 5, 1, []), zN, zN, (.goto 32, 69, 0, []), zN, zN, (.aload_n 0, 0, 0, []), (.iload_n 2, 2, 0, []), (.putfield 15, 5, 2, []), zN, zN, (.goto 24, 69, 0, []), zN, zN], [(.aload_n 0, 0, 0, []), (.iload_n 2, 2, 0, []), (.putfield 18, 5, 3, []), zN, zN, (.goto 16, 69, 0, []), zN, zN, (.aload_n 0, 0, 0, []), (.iload_n 2, 2, 0, []), (.putfield 21, 5, 4, []), zN, zN, (.goto 8, 69, 0, []), zN, zN], [(.aload_n 0, 0, 0, []), (.iload_n 2, 2, 0, []), (.putfield 24, 5, 0, []), zN, zN, (.return_, 0, 0, [])]]
def zcX5_become_ : List (List zE) := [[(.aload_n 0, 0, 0, []), (.aload_n 1, 1, 0, []), (.getfield 24, 5, 0, []), zN, zN, (.putfield 24, 5, 0, []), zN, zN, (.aload_n 0, 0, 0, []), (.aload_n 1, 1, 0, []), (.getfield 9, 5, 1, []), zN, zN, (.putfield 9, 5, 1, []), zN, zN], [(.aload_n 0, 0, 0, []), (.aload_n 1, 1, 0, []), (.getfield 15, 5, 2, []), zN, zN, (.putfield 15, 5, 2, []), zN, zN, (.aload_n 0, 0, 0, []), (.aload_n 1, 1, 0, []), (.getfield 18, 5, 3, []), zN, zN, (.putfield 18, 5, 3, []), zN, zN], [(.aload_n 0, 0, 0, []), (.aload_n 1, 1, 0, []), (.getfield 21, 5, 4, []), zN, zN, (.putfield 21, 5, 4, []), zN, zN, (.return_, 0, 0, [])]]
def zcX6_init : List (List zE) := [[(.aload_n 0, 0, 0, []), (.invokespecial 3, 64, 0, [(3, 0)]), zN, zN, (.return_, 0, 0, [])]]
def zcX6_isUnder : List (List zE) := [[(.iload_n 1, 1, 0, []), (.iconst 5, 0, 0, []), (.if_icmp .eq 11, 13, 0, []), zN, zN, (.aload_n 0, 0, 0, []), (.iload_n 1, 1, 0, []), (.invokespecial 9, 65, 1, [(5, 0)]), zN, zN, (.ifCond .eq 7, 17, 0, []), zN, zN, (.iconst 1, 0, 0, []), (.goto 4, 18, 0, []), zN], [zN, (.iconst 0, 0, 0, []), (.ireturn, 1, 0, [])]]
def zcX6_keptOf : List (List zE) := [[(.aload_n 0, 0, 0, []), (.iload_n 1, 1, 0, []), (.iload_n 2, 2, 0, []), (.invokespecial 13, 66, 2, [(5, 0)]), zN, zN, (.iconst 2, 0, 0, []), (.idiv, 0, 0, []), (.ireturn, 0, 0, [])]]
def zcX6_wordsFor : List (List zE) := [[(.aload_n 0, 0, 0, []), (.aload_n 1, 1, 0, []), (.iload_n 2, 2, 0, []), (.iload_n 3, 3, 0, []), (.invokespecial 17, 67, 3, [(5, 0)]), zN, zN, (.bipush 31, 0, 0, []), zN, (.iand, 0, 0, []), (.ireturn, 0, 0, [])]]
def zcX6_wearies : List (List zE) := [[(.aload_n 2, 2, 0, []), (.getfield 23, 5, 4, []), zN, zN, (.iconst 2, 0, 0, []), (.irem, 0, 0, []), (.ifCond .ne 12, 18, 0, []), zN, zN, (.aload_n 0, 0, 0, []), (.iload_n 1, 1, 0, []), (.aload_n 2, 2, 0, []), (.invokespecial 29, 68, 2, [(5, 0)]), zN, zN, (.goto 4, 19, 0, [])], [zN, zN, (.iconst 0, 0, 0, []), (.ireturn, 0, 0, [])]]
def zcX6_takesIn : List (List zE) := [[(.iconst 0, 0, 0, []), (.ireturn, 1, 0, [])]]
def zcX7_init : List (List zE) := [[(.aload_n 0, 0, 0, []), (.invokespecial 3, 1003, 0, [(6, 0)]), zN, zN, (.aload_n 0, 0, 0, []), (.sipush 160, 0, 0, []), zN, zN, (.newarray .int, 0, 0, []), zN, (.putfield 9, 7, 0, []), zN, zN, (.aload_n 0, 0, 0, []), (.sipush 161, 0, 0, []), zN], [zN, (.newarray .int, 0, 0, []), zN, (.putfield 15, 7, 2, []), zN, zN, (.aload_n 0, 0, 0, []), (.sipush 161, 0, 0, []), zN, zN, (.newarray .int, 0, 0, []), zN, (.putfield 18, 7, 3, []), zN, zN, (.aload_n 0, 0, 0, [])], [(.sipush 161, 0, 0, []), zN, zN, (.newarray .int, 0, 0, []), zN, (.putfield 21, 7, 4, []), zN, zN, (.aload_n 0, 0, 0, []), (.aload_n 1, 1, 0, []), (.putfield 24, 7, 9, []), zN, zN, (.return_, 0, 0, [])]]
def zcX7_put : List (List zE) := [[(.aload_n 0, 0, 0, []), (.getfield 28, 7, 1, []), zN, zN, (.sipush 160, 0, 0, []), zN, zN, (.if_icmp .lt 5, 12, 0, []), zN, zN, (.iconst 0, 0, 0, []), (.ireturn, 1, 0, []), (.aload_n 0, 0, 0, []), (.getfield 9, 7, 0, []), zN, zN], [(.aload_n 0, 0, 0, []), (.getfield 28, 7, 1, []), zN, zN, (.iload_n 1, 1, 0, []), (.iastore, 0, 0, []), (.aload_n 0, 0, 0, []), (.dup, 0, 0, []), (.getfield 28, 7, 1, []), zN, zN, (.iconst 1, 0, 0, []), (.iadd, 0, 0, []), (.putfield 28, 7, 1, []), zN, zN], [(.iconst 1, 0, 0, []), (.ireturn, 1, 0, [])]]
def zcX7_readInto : List (List zE) := [[(.aload_n 0, 0, 0, []), (.aload_n 1, 1, 0, []), (.putfield 24, 7, 9, []), zN, zN, (.aload_n 0, 0, 0, []), (.getfield 24, 7, 9, []), zN, zN, (.iconst 0, 0, 0, []), (.putfield 32, 10, 2, []), zN, zN, (.aload_n 0, 0, 0, []), (.invokevirtual 35, 1000, 0, [(7, 50)]), zN], [zN, (.aload_n 0, 0, 0, []), (.iconst (-1), 0, 0, []), (.putfield 38, 7, 8, []), zN, zN, (.aload_n 0, 0, 0, []), (.iconst 0, 0, 0, []), (.putfield 41, 7, 6, []), zN, zN, (.aload_n 0, 0, 0, []), (.aload_n 0, 0, 0, []), (.getfield 15, 7, 2, []), zN, zN], [(.iconst 0, 0, 0, []), (.iaload, 0, 0, []), (.putfield 44, 7, 7, []), zN, zN, (.aload_n 0, 0, 0, []), (.bipush (-5), 0, 0, []), zN, (.iconst 0, 0, 0, []), (.invokevirtual 47, 1000, 2, [(7, 39)]), zN, zN, (.aload_n 0, 0, 0, []), (.bipush (-6), 0, 0, []), zN, (.iconst 1, 0, 0, [])], [(.invokevirtual 47, 1000, 2, [(7, 39)]), zN, zN, (.aload_n 0, 0, 0, []), (.bipush (-7), 0, 0, []), zN, (.iconst 2, 0, 0, []), (.invokevirtual 47, 1000, 2, [(7, 39)]), zN, zN, (.aload_n 0, 0, 0, []), (.iconst (-1), 0, 0, []), (.invokevirtual 51, 1000, 1, [(7, 47)]), zN, zN, (.aload_n 0, 0, 0, [])], [(.iconst 0, 0, 0, []), (.putfield 28, 7, 1, []), zN, zN, (.aload_n 0, 0, 0, []), (.getfield 38, 7, 8, []), zN, zN, (.ireturn, 0, 0, [])]]
def zcX7_readPart : List (List zE) := [[(.aload_n 0, 0, 0, []), (.iload_n 1, 1, 0, []), (.invokevirtual 51, 1000, 1, [(7, 47)]), zN, zN, (.aload_n 0, 0, 0, []), (.iconst 0, 0, 0, []), (.invokevirtual 55, 1000, 1, [(7, 40)]), zN, zN, (.aload_n 0, 0, 0, []), (.bipush 59, 0, 0, []), zN, (.invokevirtual 51, 1000, 1, [(7, 47)]), zN, zN], [(.iload_n 2, 2, 0, []), (.ifCond .lt 24, 41, 0, []), zN, zN, (.iload_n 2, 2, 0, []), (.iconst 3, 0, 0, []), (.if_icmp .ge 19, 41, 0, []), zN, zN, (.aload_n 0, 0, 0, []), (.getfield 24, 7, 9, []), zN, zN, (.getfield 58, 10, 1, []), zN, zN], [(.iload_n 2, 2, 0, []), (.aload_n 0, 0, 0, []), (.getfield 24, 7, 9, []), zN, zN, (.getfield 32, 10, 2, []), zN, zN, (.iastore, 0, 0, []), (.return_, 0, 0, [])]]
def zcX7_readOrs : List (List zE) := [[(.aload_n 0, 0, 0, []), (.iload_n 1, 1, 0, []), (.invokevirtual 61, 1000, 1, [(7, 41)]), zN, zN, (.iconst 0, 0, 0, []), (.istore_n 2, 2, 0, []), (.iload_n 2, 2, 0, []), (.sipush 160, 0, 0, []), zN, zN, (.if_icmp .ge 36, 47, 0, []), zN, zN, (.aload_n 0, 0, 0, []), (.getfield 44, 7, 7, [])], [zN, zN, (.bipush (-8), 0, 0, []), zN, (.if_icmp .ne 27, 47, 0, []), zN, zN, (.aload_n 0, 0, 0, []), (.invokevirtual 64, 1000, 0, [(7, 49)]), zN, zN, (.aload_n 0, 0, 0, []), (.iload_n 1, 1, 0, []), (.invokevirtual 61, 1000, 1, [(7, 41)]), zN, zN], [(.aload_n 0, 0, 0, []), (.getfield 24, 7, 9, []), zN, zN, (.bipush (-21), 0, 0, []), zN, (.invokevirtual 67, 1000, 1, [(10, 71)]), zN, zN, (.iinc 2 1, 2, 0, []), zN, zN, (.goto (-37), 7, 0, []), zN, zN, (.return_, 0, 0, [])]]
def zcX7_readAnds : List (List zE) := [[(.aload_n 0, 0, 0, []), (.iload_n 1, 1, 0, []), (.invokevirtual 70, 1000, 1, [(7, 42)]), zN, zN, (.iconst 0, 0, 0, []), (.istore_n 2, 2, 0, []), (.iload_n 2, 2, 0, []), (.sipush 160, 0, 0, []), zN, zN, (.if_icmp .ge 36, 47, 0, []), zN, zN, (.aload_n 0, 0, 0, []), (.getfield 44, 7, 7, [])], [zN, zN, (.bipush (-9), 0, 0, []), zN, (.if_icmp .ne 27, 47, 0, []), zN, zN, (.aload_n 0, 0, 0, []), (.invokevirtual 64, 1000, 0, [(7, 49)]), zN, zN, (.aload_n 0, 0, 0, []), (.iload_n 1, 1, 0, []), (.invokevirtual 70, 1000, 1, [(7, 42)]), zN, zN], [(.aload_n 0, 0, 0, []), (.getfield 24, 7, 9, []), zN, zN, (.bipush (-22), 0, 0, []), zN, (.invokevirtual 67, 1000, 1, [(10, 71)]), zN, zN, (.iinc 2 1, 2, 0, []), zN, zN, (.goto (-37), 7, 0, []), zN, zN, (.return_, 0, 0, [])]]
def zcX7_readNot : List (List zE) := [[(.aload_n 0, 0, 0, []), (.getfield 44, 7, 7, []), zN, zN, (.bipush (-10), 0, 0, []), zN, (.if_icmp .ne 29, 35, 0, []), zN, zN, (.aload_n 0, 0, 0, []), (.iload_n 1, 1, 0, []), (.invokevirtual 73, 1000, 1, [(7, 46)]), zN, zN, (.ifCond .ne 4, 18, 0, []), zN], [zN, (.return_, 0, 0, []), (.aload_n 0, 0, 0, []), (.iload_n 1, 1, 0, []), (.iconst 1, 0, 0, []), (.iadd, 0, 0, []), (.invokevirtual 70, 1000, 1, [(7, 42)]), zN, zN, (.aload_n 0, 0, 0, []), (.getfield 24, 7, 9, []), zN, zN, (.bipush (-11), 0, 0, []), zN, (.invokevirtual 67, 1000, 1, [(10, 71)])], [zN, zN, (.return_, 0, 0, []), (.aload_n 0, 0, 0, []), (.iload_n 1, 1, 0, []), (.invokevirtual 77, 1000, 1, [(7, 43)]), zN, zN, (.aload_n 0, 0, 0, []), (.getfield 44, 7, 7, []), zN, zN, (.bipush 60, 0, 0, []), zN, (.if_icmp .eq 12, 58, 0, []), zN], [zN, (.aload_n 0, 0, 0, []), (.getfield 44, 7, 7, []), zN, zN, (.bipush 61, 0, 0, []), zN, (.if_icmp .ne 37, 92, 0, []), zN, zN, (.aload_n 0, 0, 0, []), (.getfield 44, 7, 7, []), zN, zN, (.bipush 60, 0, 0, []), zN], [(.if_icmp .ne 8, 72, 0, []), zN, zN, (.bipush (-23), 0, 0, []), zN, (.goto 5, 74, 0, []), zN, zN, (.bipush (-24), 0, 0, []), zN, (.istore_n 2, 2, 0, []), (.aload_n 0, 0, 0, []), (.invokevirtual 64, 1000, 0, [(7, 49)]), zN, zN, (.aload_n 0, 0, 0, [])], [(.iload_n 1, 1, 0, []), (.invokevirtual 77, 1000, 1, [(7, 43)]), zN, zN, (.aload_n 0, 0, 0, []), (.getfield 24, 7, 9, []), zN, zN, (.iload_n 2, 2, 0, []), (.invokevirtual 67, 1000, 1, [(10, 71)]), zN, zN, (.return_, 0, 0, [])]]
def zcX7_readSum : List (List zE) := [[(.aload_n 0, 0, 0, []), (.iload_n 1, 1, 0, []), (.invokevirtual 80, 1000, 1, [(7, 44)]), zN, zN, (.iconst 0, 0, 0, []), (.istore_n 2, 2, 0, []), (.iload_n 2, 2, 0, []), (.sipush 160, 0, 0, []), zN, zN, (.if_icmp .ge 61, 72, 0, []), zN, zN, (.aload_n 0, 0, 0, []), (.getfield 44, 7, 7, [])], [zN, zN, (.bipush 43, 0, 0, []), zN, (.if_icmp .eq 12, 32, 0, []), zN, zN, (.aload_n 0, 0, 0, []), (.getfield 44, 7, 7, []), zN, zN, (.bipush 45, 0, 0, []), zN, (.if_icmp .ne 43, 72, 0, []), zN, zN], [(.aload_n 0, 0, 0, []), (.getfield 44, 7, 7, []), zN, zN, (.bipush 43, 0, 0, []), zN, (.if_icmp .ne 8, 46, 0, []), zN, zN, (.bipush (-25), 0, 0, []), zN, (.goto 5, 48, 0, []), zN, zN, (.bipush (-26), 0, 0, []), zN], [(.istore_n 3, 3, 0, []), (.aload_n 0, 0, 0, []), (.invokevirtual 64, 1000, 0, [(7, 49)]), zN, zN, (.aload_n 0, 0, 0, []), (.iload_n 1, 1, 0, []), (.invokevirtual 80, 1000, 1, [(7, 44)]), zN, zN, (.aload_n 0, 0, 0, []), (.getfield 24, 7, 9, []), zN, zN, (.iload_n 3, 3, 0, []), (.invokevirtual 67, 1000, 1, [(10, 71)])], [zN, zN, (.iinc 2 1, 2, 0, []), zN, zN, (.goto (-62), 7, 0, []), zN, zN, (.return_, 0, 0, [])]]
def zcX7_readTerm : List (List zE) := [[(.aload_n 0, 0, 0, []), (.iload_n 1, 1, 0, []), (.invokevirtual 83, 1000, 1, [(7, 45)]), zN, zN, (.iconst 0, 0, 0, []), (.istore_n 2, 2, 0, []), (.iload_n 2, 2, 0, []), (.sipush 160, 0, 0, []), zN, zN, (.if_icmp .ge 36, 47, 0, []), zN, zN, (.aload_n 0, 0, 0, []), (.getfield 44, 7, 7, [])], [zN, zN, (.bipush 42, 0, 0, []), zN, (.if_icmp .ne 27, 47, 0, []), zN, zN, (.aload_n 0, 0, 0, []), (.invokevirtual 64, 1000, 0, [(7, 49)]), zN, zN, (.aload_n 0, 0, 0, []), (.iload_n 1, 1, 0, []), (.invokevirtual 83, 1000, 1, [(7, 45)]), zN, zN], [(.aload_n 0, 0, 0, []), (.getfield 24, 7, 9, []), zN, zN, (.bipush (-27), 0, 0, []), zN, (.invokevirtual 67, 1000, 1, [(10, 71)]), zN, zN, (.iinc 2 1, 2, 0, []), zN, zN, (.goto (-37), 7, 0, []), zN, zN, (.return_, 0, 0, [])]]
def zcX7_readOne : List (List zE) := [[(.aload_n 0, 0, 0, []), (.getfield 44, 7, 7, []), zN, zN, (.bipush (-3), 0, 0, []), zN, (.if_icmp .eq 12, 18, 0, []), zN, zN, (.aload_n 0, 0, 0, []), (.getfield 44, 7, 7, []), zN, zN, (.bipush (-4), 0, 0, []), zN, (.if_icmp .ne 26, 41, 0, [])], [zN, zN, (.aload_n 0, 0, 0, []), (.getfield 24, 7, 9, []), zN, zN, (.aload_n 0, 0, 0, []), (.getfield 18, 7, 3, []), zN, zN, (.aload_n 0, 0, 0, []), (.getfield 41, 7, 6, []), zN, zN, (.iaload, 0, 0, []), (.invokevirtual 67, 1000, 1, [(10, 71)])], [zN, zN, (.aload_n 0, 0, 0, []), (.invokevirtual 64, 1000, 0, [(7, 49)]), zN, zN, (.goto 78, 116, 0, []), zN, zN, (.aload_n 0, 0, 0, []), (.getfield 44, 7, 7, []), zN, zN, (.bipush 45, 0, 0, []), zN, (.if_icmp .ne 31, 78, 0, [])], [zN, zN, (.aload_n 0, 0, 0, []), (.iload_n 1, 1, 0, []), (.invokevirtual 73, 1000, 1, [(7, 46)]), zN, zN, (.ifCond .ne 4, 59, 0, []), zN, zN, (.return_, 0, 0, []), (.aload_n 0, 0, 0, []), (.iload_n 1, 1, 0, []), (.iconst 1, 0, 0, []), (.iadd, 0, 0, []), (.invokevirtual 83, 1000, 1, [(7, 45)])], [zN, zN, (.aload_n 0, 0, 0, []), (.getfield 24, 7, 9, []), zN, zN, (.bipush (-12), 0, 0, []), zN, (.invokevirtual 67, 1000, 1, [(10, 71)]), zN, zN, (.goto 41, 116, 0, []), zN, zN, (.aload_n 0, 0, 0, []), (.getfield 44, 7, 7, [])], [zN, zN, (.bipush 40, 0, 0, []), zN, (.if_icmp .ne 28, 112, 0, []), zN, zN, (.aload_n 0, 0, 0, []), (.iload_n 1, 1, 0, []), (.invokevirtual 73, 1000, 1, [(7, 46)]), zN, zN, (.ifCond .ne 4, 96, 0, []), zN, zN, (.return_, 0, 0, [])], [(.aload_n 0, 0, 0, []), (.iload_n 1, 1, 0, []), (.iconst 1, 0, 0, []), (.iadd, 0, 0, []), (.invokevirtual 55, 1000, 1, [(7, 40)]), zN, zN, (.aload_n 0, 0, 0, []), (.bipush 41, 0, 0, []), zN, (.invokevirtual 51, 1000, 1, [(7, 47)]), zN, zN, (.goto 7, 116, 0, []), zN, zN], [(.aload_n 0, 0, 0, []), (.invokevirtual 86, 1000, 0, [(7, 48)]), zN, zN, (.return_, 0, 0, [])]]
def zcX7_opens : List (List zE) := [[(.iload_n 1, 1, 0, []), (.iconst 5, 0, 0, []), (.if_icmp .lt 9, 11, 0, []), zN, zN, (.aload_n 0, 0, 0, []), (.invokevirtual 86, 1000, 0, [(7, 48)]), zN, zN, (.iconst 0, 0, 0, []), (.ireturn, 1, 0, []), (.aload_n 0, 0, 0, []), (.invokevirtual 64, 1000, 0, [(7, 49)]), zN, zN, (.iconst 1, 0, 0, [])], [(.ireturn, 1, 0, [])]]
def zcX7_expect : List (List zE) := [[(.aload_n 0, 0, 0, []), (.getfield 44, 7, 7, []), zN, zN, (.iload_n 1, 1, 0, []), (.if_icmp .ne 10, 15, 0, []), zN, zN, (.aload_n 0, 0, 0, []), (.invokevirtual 64, 1000, 0, [(7, 49)]), zN, zN, (.goto 7, 19, 0, []), zN, zN, (.aload_n 0, 0, 0, [])], [(.invokevirtual 86, 1000, 0, [(7, 48)]), zN, zN, (.return_, 0, 0, [])]]
def zcX7_fail : List (List zE) := [[(.aload_n 0, 0, 0, []), (.getfield 38, 7, 8, []), zN, zN, (.iconst (-1), 0, 0, []), (.if_icmp .ne 16, 21, 0, []), zN, zN, (.aload_n 0, 0, 0, []), (.aload_n 0, 0, 0, []), (.getfield 21, 7, 4, []), zN, zN, (.aload_n 0, 0, 0, []), (.getfield 41, 7, 6, []), zN], [zN, (.iaload, 0, 0, []), (.putfield 38, 7, 8, []), zN, zN, (.aload_n 0, 0, 0, []), (.bipush (-2), 0, 0, []), zN, (.putfield 44, 7, 7, []), zN, zN, (.return_, 0, 0, [])]]
def zcX7_advance : List (List zE) := [[(.aload_n 0, 0, 0, []), (.getfield 38, 7, 8, []), zN, zN, (.iconst (-1), 0, 0, []), (.if_icmp .ne 16, 21, 0, []), zN, zN, (.aload_n 0, 0, 0, []), (.getfield 41, 7, 6, []), zN, zN, (.iconst 1, 0, 0, []), (.iadd, 0, 0, []), (.aload_n 0, 0, 0, []), (.getfield 89, 7, 5, [])], [zN, zN, (.if_icmp .lt 4, 22, 0, []), zN, zN, (.return_, 0, 0, []), (.aload_n 0, 0, 0, []), (.dup, 0, 0, []), (.getfield 41, 7, 6, []), zN, zN, (.iconst 1, 0, 0, []), (.iadd, 0, 0, []), (.putfield 41, 7, 6, []), zN, zN], [(.aload_n 0, 0, 0, []), (.aload_n 0, 0, 0, []), (.getfield 15, 7, 2, []), zN, zN, (.aload_n 0, 0, 0, []), (.getfield 41, 7, 6, []), zN, zN, (.iaload, 0, 0, []), (.putfield 44, 7, 7, []), zN, zN, (.return_, 0, 0, [])]]
def zcX7_split : List (List zE) := [[(.aload_n 0, 0, 0, []), (.iconst 0, 0, 0, []), (.putfield 89, 7, 5, []), zN, zN, (.iconst 0, 0, 0, []), (.istore_n 1, 1, 0, []), (.iload_n 1, 1, 0, []), (.aload_n 0, 0, 0, []), (.getfield 28, 7, 1, []), zN, zN, (.if_icmp .ge 56, 68, 0, []), zN, zN, (.aload_n 0, 0, 0, [])], [(.getfield 9, 7, 0, []), zN, zN, (.iload_n 1, 1, 0, []), (.iaload, 0, 0, []), (.bipush 32, 0, 0, []), zN, (.if_icmp .eq 14, 37, 0, []), zN, zN, (.aload_n 0, 0, 0, []), (.getfield 9, 7, 0, []), zN, zN, (.iload_n 1, 1, 0, []), (.iaload, 0, 0, [])], [(.bipush 10, 0, 0, []), zN, (.if_icmp .ne 7, 41, 0, []), zN, zN, (.iconst 1, 0, 0, []), (.goto 4, 42, 0, []), zN, zN, (.iconst 0, 0, 0, []), (.istore_n 2, 2, 0, []), (.iload_n 2, 2, 0, []), (.ifCond .eq 9, 53, 0, []), zN, zN, (.iload_n 1, 1, 0, [])], [(.iconst 1, 0, 0, []), (.iadd, 0, 0, []), (.goto 14, 64, 0, []), zN, zN, (.iload_n 1, 1, 0, []), (.iconst 1, 0, 0, []), (.iadd, 0, 0, []), (.aload_n 0, 0, 0, []), (.iload_n 1, 1, 0, []), (.invokevirtual 92, 1000, 1, [(7, 52)]), zN, zN, (.invokestatic 96, 203, 2, [(0, 0)]), zN, zN], [(.istore_n 1, 1, 0, []), (.goto (-58), 7, 0, []), zN, zN, (.aload_n 0, 0, 0, []), (.iconst (-1), 0, 0, []), (.iconst 0, 0, 0, []), (.aload_n 0, 0, 0, []), (.getfield 28, 7, 1, []), zN, zN, (.invokevirtual 102, 1000, 3, [(7, 51)]), zN, zN, (.return_, 0, 0, [])]]
def zcX7_addToken : List (List zE) := [[(.aload_n 0, 0, 0, []), (.getfield 89, 7, 5, []), zN, zN, (.aload_n 0, 0, 0, []), (.getfield 15, 7, 2, []), zN, zN, (.arraylength, 0, 0, []), (.if_icmp .lt 4, 13, 0, []), zN, zN, (.return_, 0, 0, []), (.aload_n 0, 0, 0, []), (.getfield 15, 7, 2, []), zN], [zN, (.aload_n 0, 0, 0, []), (.getfield 89, 7, 5, []), zN, zN, (.iload_n 1, 1, 0, []), (.iastore, 0, 0, []), (.aload_n 0, 0, 0, []), (.getfield 18, 7, 3, []), zN, zN, (.aload_n 0, 0, 0, []), (.getfield 89, 7, 5, []), zN, zN, (.iload_n 2, 2, 0, [])], [(.iastore, 0, 0, []), (.aload_n 0, 0, 0, []), (.getfield 21, 7, 4, []), zN, zN, (.aload_n 0, 0, 0, []), (.getfield 89, 7, 5, []), zN, zN, (.iload_n 3, 3, 0, []), (.iastore, 0, 0, []), (.aload_n 0, 0, 0, []), (.dup, 0, 0, []), (.getfield 89, 7, 5, []), zN, zN], [(.iconst 1, 0, 0, []), (.iadd, 0, 0, []), (.putfield 89, 7, 5, []), zN, zN, (.return_, 0, 0, [])]]
def zcX7_splitOff : List (List zE) := [[(.aload_n 0, 0, 0, []), (.getfield 9, 7, 0, []), zN, zN, (.iload_n 1, 1, 0, []), (.iaload, 0, 0, []), (.istore_n 2, 2, 0, []), (.iload_n 2, 2, 0, []), (.bipush 97, 0, 0, []), zN, (.if_icmp .lt 15, 25, 0, []), zN, zN, (.iload_n 2, 2, 0, []), (.bipush 122, 0, 0, []), zN], [(.if_icmp .gt 9, 25, 0, []), zN, zN, (.aload_n 0, 0, 0, []), (.iload_n 1, 1, 0, []), (.invokevirtual 106, 1000, 1, [(7, 53)]), zN, zN, (.ireturn, 0, 0, []), (.iload_n 2, 2, 0, []), (.bipush 48, 0, 0, []), zN, (.if_icmp .lt 15, 43, 0, []), zN, zN, (.iload_n 2, 2, 0, [])], [(.bipush 57, 0, 0, []), zN, (.if_icmp .gt 9, 43, 0, []), zN, zN, (.aload_n 0, 0, 0, []), (.iload_n 1, 1, 0, []), (.invokevirtual 109, 1000, 1, [(7, 54)]), zN, zN, (.ireturn, 0, 0, []), (.aload_n 0, 0, 0, []), (.iload_n 2, 2, 0, []), (.invokestatic 112, 55, 1, [(0, 0)]), zN, zN], [(.ifCond .eq 7, 55, 0, []), zN, zN, (.iload_n 2, 2, 0, []), (.goto 5, 57, 0, []), zN, zN, (.bipush (-2), 0, 0, []), zN, (.iconst 0, 0, 0, []), (.iload_n 1, 1, 0, []), (.invokevirtual 102, 1000, 3, [(7, 51)]), zN, zN, (.iload_n 1, 1, 0, []), (.iconst 1, 0, 0, [])], [(.iadd, 0, 0, []), (.ireturn, 0, 0, [])]]
def zcX7_splitWord : List (List zE) := [[(.iload_n 1, 1, 0, []), (.istore_n 2, 2, 0, []), (.iload_n 2, 2, 0, []), (.aload_n 0, 0, 0, []), (.getfield 28, 7, 1, []), zN, zN, (.if_icmp .ge 31, 38, 0, []), zN, zN, (.aload_n 0, 0, 0, []), (.getfield 9, 7, 0, []), zN, zN, (.iload_n 2, 2, 0, []), (.iaload, 0, 0, [])], [(.bipush 97, 0, 0, []), zN, (.if_icmp .lt 20, 38, 0, []), zN, zN, (.aload_n 0, 0, 0, []), (.getfield 9, 7, 0, []), zN, zN, (.iload_n 2, 2, 0, []), (.iaload, 0, 0, []), (.bipush 122, 0, 0, []), zN, (.if_icmp .gt 9, 38, 0, []), zN, zN], [(.iinc 2 1, 2, 0, []), zN, zN, (.goto (-33), 2, 0, []), zN, zN, (.aload_n 0, 0, 0, []), (.iload_n 1, 1, 0, []), (.iload_n 2, 2, 0, []), (.invokevirtual 115, 1000, 2, [(7, 56)]), zN, zN, (.istore_n 3, 3, 0, []), (.aload_n 0, 0, 0, []), (.iload_n 3, 3, 0, []), (.ifCond .eq 8, 55, 0, [])], [zN, zN, (.bipush (-4), 0, 0, []), zN, (.goto 9, 61, 0, []), zN, zN, (.aload_n 0, 0, 0, []), (.iload_n 1, 1, 0, []), (.iload_n 2, 2, 0, []), (.invokevirtual 118, 1000, 2, [(7, 57)]), zN, zN, (.iload_n 3, 3, 0, []), (.iload_n 1, 1, 0, []), (.invokevirtual 102, 1000, 3, [(7, 51)])], [zN, zN, (.iload_n 2, 2, 0, []), (.ireturn, 0, 0, [])]]
def zcX7_splitNumber : List (List zE) := [[(.iload_n 1, 1, 0, []), (.istore_n 2, 2, 0, []), (.iconst 0, 0, 0, []), (.istore_n 3, 3, 0, []), (.iload_n 2, 2, 0, []), (.aload_n 0, 0, 0, []), (.getfield 28, 7, 1, []), zN, zN, (.if_icmp .ge 46, 55, 0, []), zN, zN, (.aload_n 0, 0, 0, []), (.getfield 9, 7, 0, []), zN, zN], [(.iload_n 2, 2, 0, []), (.iaload, 0, 0, []), (.bipush 48, 0, 0, []), zN, (.if_icmp .lt 35, 55, 0, []), zN, zN, (.aload_n 0, 0, 0, []), (.getfield 9, 7, 0, []), zN, zN, (.iload_n 2, 2, 0, []), (.iaload, 0, 0, []), (.bipush 57, 0, 0, []), zN, (.if_icmp .gt 24, 55, 0, [])], [zN, zN, (.iload_n 3, 3, 0, []), (.bipush 10, 0, 0, []), zN, (.imul, 0, 0, []), (.aload_n 0, 0, 0, []), (.getfield 9, 7, 0, []), zN, zN, (.iload_n 2, 2, 0, []), (.iaload, 0, 0, []), (.iadd, 0, 0, []), (.bipush 48, 0, 0, []), zN, (.isub, 0, 0, [])], [(.istore_n 3, 3, 0, []), (.iinc 2 1, 2, 0, []), zN, zN, (.goto (-48), 4, 0, []), zN, zN, (.aload_n 0, 0, 0, []), (.iload_n 2, 2, 0, []), (.iload_n 1, 1, 0, []), (.isub, 0, 0, []), (.iconst 4, 0, 0, []), (.if_icmp .gt 8, 68, 0, []), zN, zN, (.bipush (-3), 0, 0, [])], [zN, (.goto 5, 70, 0, []), zN, zN, (.bipush (-2), 0, 0, []), zN, (.iload_n 3, 3, 0, []), (.iload_n 1, 1, 0, []), (.invokevirtual 102, 1000, 3, [(7, 51)]), zN, zN, (.iload_n 2, 2, 0, []), (.ireturn, 0, 0, [])]]
def zcX7_isSign : List (List zE) := [[(.iload_n 0, 0, 0, []), (.tableswitch 105 40 61 #[103, 103, 103, 103, 105, 103, 105, 105, 105, 105, 105, 105, 105, 105, 105, 105, 105, 105, 105, 103, 103, 103], 106, 0, [(40, 104), (41, 104), (42, 104), (43, 104), (44, 106), (45, 104), (46, 106), (47, 106), (48, 106), (49, 106), (50, 106), (51, 106), (52, 106), (53, 106), (54, 106), (55, 106), (56, 106), (57, 106), (58, 106), (59, 104), (60, 104), (61, 104)]), zN, zN, zN, zN, zN, zN, zN, zN, zN, zN, zN, zN, zN, zN], [zN, zN, zN, zN, zN, zN, zN, zN, zN, zN, zN, zN, zN, zN, zN, zN], [zN, zN, zN, zN, zN, zN, zN, zN, zN, zN, zN, zN, zN, zN, zN, zN], [zN, zN, zN, zN, zN, zN, zN, zN, zN, zN, zN, zN, zN, zN, zN, zN], [zN, zN, zN, zN, zN, zN, zN, zN, zN, zN, zN, zN, zN, zN, zN, zN], [zN, zN, zN, zN, zN, zN, zN, zN, zN, zN, zN, zN, zN, zN, zN, zN], [zN, zN, zN, zN, zN, zN, zN, zN, (.iconst 1, 0, 0, []), (.ireturn, 1, 0, []), (.iconst 0, 0, 0, []), (.ireturn, 1, 0, [])]]
def zcX7_nameCode : List (List zE) := [[(.aload_n 0, 0, 0, []), (.ldc 121, 1, 1, []), zN, (.iload_n 1, 1, 0, []), (.iload_n 2, 2, 0, []), (.invokevirtual 123, 1000, 3, [(7, 58)]), zN, zN, (.ifCond .eq 5, 13, 0, []), zN, zN, (.iconst (-1), 0, 0, []), (.ireturn, 0, 0, []), (.aload_n 0, 0, 0, []), (.ldc 127, 1, 2, []), zN], [(.iload_n 1, 1, 0, []), (.iload_n 2, 2, 0, []), (.invokevirtual 123, 1000, 3, [(7, 58)]), zN, zN, (.ifCond .eq 6, 27, 0, []), zN, zN, (.bipush (-2), 0, 0, []), zN, (.ireturn, 0, 0, []), (.aload_n 0, 0, 0, []), (.ldc 129, 1, 3, []), zN, (.iload_n 1, 1, 0, []), (.iload_n 2, 2, 0, [])], [(.invokevirtual 123, 1000, 3, [(7, 58)]), zN, zN, (.ifCond .eq 6, 41, 0, []), zN, zN, (.bipush (-3), 0, 0, []), zN, (.ireturn, 0, 0, []), (.aload_n 0, 0, 0, []), (.ldc 131, 1, 4, []), zN, (.iload_n 1, 1, 0, []), (.iload_n 2, 2, 0, []), (.invokevirtual 123, 1000, 3, [(7, 58)]), zN], [zN, (.ifCond .eq 6, 55, 0, []), zN, zN, (.bipush (-4), 0, 0, []), zN, (.ireturn, 0, 0, []), (.aload_n 0, 0, 0, []), (.ldc 133, 1, 5, []), zN, (.iload_n 1, 1, 0, []), (.iload_n 2, 2, 0, []), (.invokevirtual 123, 1000, 3, [(7, 58)]), zN, zN, (.ifCond .eq 6, 69, 0, [])], [zN, zN, (.bipush (-5), 0, 0, []), zN, (.ireturn, 0, 0, []), (.aload_n 0, 0, 0, []), (.ldc 135, 1, 6, []), zN, (.iload_n 1, 1, 0, []), (.iload_n 2, 2, 0, []), (.invokevirtual 123, 1000, 3, [(7, 58)]), zN, zN, (.ifCond .eq 6, 83, 0, []), zN, zN], [(.bipush (-6), 0, 0, []), zN, (.ireturn, 0, 0, []), (.iconst 0, 0, 0, []), (.ireturn, 0, 0, [])]]
def zcX7_keyToken : List (List zE) := [[(.aload_n 0, 0, 0, []), (.ldc 137, 1, 7, []), zN, (.iload_n 1, 1, 0, []), (.iload_n 2, 2, 0, []), (.invokevirtual 123, 1000, 3, [(7, 58)]), zN, zN, (.ifCond .eq 6, 14, 0, []), zN, zN, (.bipush (-5), 0, 0, []), zN, (.ireturn, 0, 0, []), (.aload_n 0, 0, 0, []), (.ldc 139, 1, 8, [])], [zN, (.iload_n 1, 1, 0, []), (.iload_n 2, 2, 0, []), (.invokevirtual 123, 1000, 3, [(7, 58)]), zN, zN, (.ifCond .eq 6, 28, 0, []), zN, zN, (.bipush (-6), 0, 0, []), zN, (.ireturn, 0, 0, []), (.aload_n 0, 0, 0, []), (.ldc 141, 1, 9, []), zN, (.iload_n 1, 1, 0, [])], [(.iload_n 2, 2, 0, []), (.invokevirtual 123, 1000, 3, [(7, 58)]), zN, zN, (.ifCond .eq 6, 42, 0, []), zN, zN, (.bipush (-7), 0, 0, []), zN, (.ireturn, 0, 0, []), (.aload_n 0, 0, 0, []), (.ldc 143, 1, 10, []), zN, (.iload_n 1, 1, 0, []), (.iload_n 2, 2, 0, []), (.invokevirtual 123, 1000, 3, [(7, 58)])], [zN, zN, (.ifCond .eq 6, 56, 0, []), zN, zN, (.bipush (-8), 0, 0, []), zN, (.ireturn, 0, 0, []), (.aload_n 0, 0, 0, []), (.ldc 145, 1, 11, []), zN, (.iload_n 1, 1, 0, []), (.iload_n 2, 2, 0, []), (.invokevirtual 123, 1000, 3, [(7, 58)]), zN, zN], [(.ifCond .eq 6, 70, 0, []), zN, zN, (.bipush (-9), 0, 0, []), zN, (.ireturn, 0, 0, []), (.aload_n 0, 0, 0, []), (.ldc 147, 1, 12, []), zN, (.iload_n 1, 1, 0, []), (.iload_n 2, 2, 0, []), (.invokevirtual 123, 1000, 3, [(7, 58)]), zN, zN, (.ifCond .eq 6, 84, 0, []), zN], [zN, (.bipush (-10), 0, 0, []), zN, (.ireturn, 0, 0, []), (.bipush (-2), 0, 0, []), zN, (.ireturn, 0, 0, [])]]
def zcX7_isWord : List (List zE) := [[(.iload_n 2, 2, 0, []), (.ifCond .lt 21, 22, 0, []), zN, zN, (.iload_n 3, 3, 0, []), (.aload_n 0, 0, 0, []), (.getfield 28, 7, 1, []), zN, zN, (.if_icmp .gt 13, 22, 0, []), zN, zN, (.iload_n 3, 3, 0, []), (.iload_n 2, 2, 0, []), (.isub, 0, 0, []), (.aload_n 1, 1, 0, [])], [(.invokevirtual 149, 1001, 0, []), zN, zN, (.if_icmp .eq 5, 24, 0, []), zN, zN, (.iconst 0, 0, 0, []), (.ireturn, 1, 0, []), (.iconst 0, 0, 0, []), (.istore 4, 4, 0, []), zN, (.iload 4, 4, 0, []), zN, (.aload_n 1, 1, 0, []), (.invokevirtual 149, 1001, 0, []), zN], [zN, (.if_icmp .ge 29, 62, 0, []), zN, zN, (.aload_n 0, 0, 0, []), (.getfield 9, 7, 0, []), zN, zN, (.iload_n 2, 2, 0, []), (.iload 4, 4, 0, []), zN, (.iadd, 0, 0, []), (.iaload, 0, 0, []), (.aload_n 1, 1, 0, []), (.iload 4, 4, 0, []), zN], [(.invokevirtual 155, 1002, 1, []), zN, zN, (.if_icmp .eq 5, 56, 0, []), zN, zN, (.iconst 0, 0, 0, []), (.ireturn, 1, 0, []), (.iinc 4 1, 4, 0, []), zN, zN, (.goto (-32), 27, 0, []), zN, zN, (.iconst 1, 0, 0, []), (.ireturn, 1, 0, [])]]
def zcX8_init : List (List zE) := [[(.aload_n 0, 0, 0, []), (.invokespecial 3, 1003, 0, [(6, 0)]), zN, zN, (.aload_n 0, 0, 0, []), (.bipush 40, 0, 0, []), zN, (.newarray .int, 0, 0, []), zN, (.putfield 9, 8, 0, []), zN, zN, (.aload_n 0, 0, 0, []), (.iconst (-1), 0, 0, []), (.putfield 15, 8, 1, []), zN], [zN, (.return_, 0, 0, [])]]
def zcX8_isMissing : List (List zE) := [[(.aload_n 0, 0, 0, []), (.getfield 15, 8, 1, []), zN, zN, (.iconst (-1), 0, 0, []), (.if_icmp .ne 7, 12, 0, []), zN, zN, (.iconst 1, 0, 0, []), (.goto 4, 13, 0, []), zN, zN, (.iconst 0, 0, 0, []), (.ireturn, 1, 0, [])]]
def zcX8_has : List (List zE) := [[(.iload_n 1, 1, 0, []), (.ifCond .lt 29, 30, 0, []), zN, zN, (.iload_n 2, 2, 0, []), (.ifCond .lt 25, 30, 0, []), zN, zN, (.iload_n 1, 1, 0, []), (.aload_n 0, 0, 0, []), (.getfield 19, 8, 2, []), zN, zN, (.if_icmp .gt 17, 30, 0, []), zN, zN], [(.iload_n 2, 2, 0, []), (.aload_n 0, 0, 0, []), (.getfield 19, 8, 2, []), zN, zN, (.iload_n 1, 1, 0, []), (.isub, 0, 0, []), (.if_icmp .gt 7, 30, 0, []), zN, zN, (.iconst 1, 0, 0, []), (.goto 4, 31, 0, []), zN, zN, (.iconst 0, 0, 0, []), (.ireturn, 1, 0, [])]]
def zcX8_become : List (List zE) := [[(.aload_n 0, 0, 0, []), (.iload_n 1, 1, 0, []), (.putfield 15, 8, 1, []), zN, zN, (.aload_n 0, 0, 0, []), (.iload_n 2, 2, 0, []), (.bipush 40, 0, 0, []), zN, (.invokestatic 22, 103, 2, [(1, 0)]), zN, zN, (.putfield 19, 8, 2, []), zN, zN, (.iconst 0, 0, 0, [])], [(.istore_n 3, 3, 0, []), (.iload_n 3, 3, 0, []), (.aload_n 0, 0, 0, []), (.getfield 19, 8, 2, []), zN, zN, (.if_icmp .ge 16, 38, 0, []), zN, zN, (.aload_n 0, 0, 0, []), (.getfield 9, 8, 0, []), zN, zN, (.iload_n 3, 3, 0, []), (.iconst 0, 0, 0, []), (.iastore, 0, 0, [])], [(.iinc 3 1, 3, 0, []), zN, zN, (.goto (-18), 17, 0, []), zN, zN, (.return_, 0, 0, [])]]
def zcX8_put : List (List zE) := [[(.aload_n 0, 0, 0, []), (.getfield 15, 8, 1, []), zN, zN, (.lookupswitch 50 #[(0, 28), (1, 39)], 54, 0, [(0, 32), (1, 43)]), zN, zN, zN, zN, zN, zN, zN, zN, zN, zN, zN], [zN, zN, zN, zN, zN, zN, zN, zN, zN, zN, zN, zN, zN, zN, zN, zN], [(.aload_n 0, 0, 0, []), (.getfield 9, 8, 0, []), zN, zN, (.iload_n 1, 1, 0, []), (.iload_n 2, 2, 0, []), (.i2b, 0, 0, []), (.iastore, 0, 0, []), (.goto 21, 61, 0, []), zN, zN, (.aload_n 0, 0, 0, []), (.getfield 9, 8, 0, []), zN, zN, (.iload_n 1, 1, 0, [])], [(.iload_n 2, 2, 0, []), (.i2s, 0, 0, []), (.iastore, 0, 0, []), (.goto 10, 61, 0, []), zN, zN, (.aload_n 0, 0, 0, []), (.getfield 9, 8, 0, []), zN, zN, (.iload_n 1, 1, 0, []), (.iload_n 2, 2, 0, []), (.iastore, 0, 0, []), (.return_, 0, 0, [])]]
def zcX9_init : List (List zE) := [[(.aload_n 0, 0, 0, []), (.invokespecial 3, 1003, 0, [(6, 0)]), zN, zN, (.return_, 0, 0, [])]]
def zcX9_isUnder : List (List zE) := [[(.iload_n 1, 1, 0, []), (.ifCond .ne 7, 8, 0, []), zN, zN, (.iconst 1, 0, 0, []), (.goto 4, 9, 0, []), zN, zN, (.iconst 0, 0, 0, []), (.ireturn, 1, 0, [])]]
def zcX9_keptOf : List (List zE) := [[(.iload_n 1, 1, 0, []), (.ireturn, 0, 0, [])]]
def zcX9_wordsFor : List (List zE) := [[(.iload_n 2, 2, 0, []), (.aload_n 1, 1, 0, []), (.getfield 9, 5, 2, []), zN, zN, (.iand, 0, 0, []), (.istore 4, 4, 0, []), zN, (.iconst 0, 0, 0, []), (.istore 5, 5, 0, []), zN, (.iconst 0, 0, 0, []), (.istore 6, 6, 0, []), zN, (.iload 6, 6, 0, []), zN], [(.iload_n 3, 3, 0, []), (.if_icmp .ge 37, 54, 0, []), zN, zN, (.iload 4, 4, 0, []), zN, (.ifCond .eq 32, 54, 0, []), zN, zN, (.iload 4, 4, 0, []), zN, (.invokestatic 15, 102, 1, [(1, 0)]), zN, zN, (.istore 7, 7, 0, []), zN], [(.iload 5, 5, 0, []), zN, (.iload 7, 7, 0, []), zN, (.ior, 0, 0, []), (.istore 5, 5, 0, []), zN, (.iload 4, 4, 0, []), zN, (.iload 7, 7, 0, []), zN, (.iconst (-1), 0, 0, []), (.ixor, 0, 0, []), (.iand, 0, 0, []), (.istore 4, 4, 0, []), zN], [(.iinc 6 1, 6, 0, []), zN, zN, (.goto (-37), 14, 0, []), zN, zN, (.iload 5, 5, 0, []), zN, (.ireturn, 0, 0, [])]]
def zcX9_wearies : List (List zE) := [[(.iload_n 1, 1, 0, []), (.ireturn, 0, 0, [])]]
def zcX9_takesIn : List (List zE) := [[(.iload_n 1, 1, 0, []), (.ireturn, 1, 0, [])]]
def zcX10_init : List (List zE) := [[(.aload_n 0, 0, 0, []), (.invokespecial 3, 1003, 0, [(6, 0)]), zN, zN, (.aload_n 0, 0, 0, []), (.sipush 160, 0, 0, []), zN, zN, (.newarray .int, 0, 0, []), zN, (.putfield 9, 10, 0, []), zN, zN, (.aload_n 0, 0, 0, []), (.iconst 3, 0, 0, []), (.newarray .int, 0, 0, [])], [zN, (.putfield 15, 10, 1, []), zN, zN, (.return_, 0, 0, [])]]
def zcX10_add : List (List zE) := [[(.aload_n 0, 0, 0, []), (.getfield 18, 10, 2, []), zN, zN, (.sipush 160, 0, 0, []), zN, zN, (.if_icmp .ge 23, 30, 0, []), zN, zN, (.aload_n 0, 0, 0, []), (.getfield 9, 10, 0, []), zN, zN, (.aload_n 0, 0, 0, []), (.getfield 18, 10, 2, [])], [zN, zN, (.iload_n 1, 1, 0, []), (.iastore, 0, 0, []), (.aload_n 0, 0, 0, []), (.dup, 0, 0, []), (.getfield 18, 10, 2, []), zN, zN, (.iconst 1, 0, 0, []), (.iadd, 0, 0, []), (.putfield 18, 10, 2, []), zN, zN, (.return_, 0, 0, [])]]
def zcX10_worth : List (List zE) := [[(.iload_n 1, 1, 0, []), (.ifCond .lt 8, 9, 0, []), zN, zN, (.iload_n 1, 1, 0, []), (.iconst 3, 0, 0, []), (.if_icmp .lt 5, 11, 0, []), zN, zN, (.iconst 0, 0, 0, []), (.ireturn, 0, 0, []), (.iconst 0, 0, 0, []), (.istore 6, 6, 0, []), zN, (.iload_n 1, 1, 0, []), (.ifCond .ne 7, 22, 0, [])], [zN, zN, (.iconst 0, 0, 0, []), (.goto 11, 30, 0, []), zN, zN, (.aload_n 0, 0, 0, []), (.getfield 15, 10, 1, []), zN, zN, (.iload_n 1, 1, 0, []), (.iconst 1, 0, 0, []), (.isub, 0, 0, []), (.iaload, 0, 0, []), (.istore 7, 7, 0, []), zN], [(.iload 7, 7, 0, []), zN, (.aload_n 0, 0, 0, []), (.getfield 15, 10, 1, []), zN, zN, (.iload_n 1, 1, 0, []), (.iaload, 0, 0, []), (.if_icmp .ge 137, 177, 0, []), zN, zN, (.aload_n 0, 0, 0, []), (.getfield 9, 10, 0, []), zN, zN, (.iload 7, 7, 0, [])], [zN, (.iaload, 0, 0, []), (.istore 8, 8, 0, []), zN, (.iload 8, 8, 0, []), zN, (.bipush (-6), 0, 0, []), zN, (.if_icmp .lt 43, 99, 0, []), zN, zN, (.iload 6, 6, 0, []), zN, (.aload 5, 5, 0, []), zN, (.arraylength, 0, 0, [])], [(.if_icmp .lt 5, 69, 0, []), zN, zN, (.iconst 0, 0, 0, []), (.ireturn, 0, 0, []), (.aload 5, 5, 0, []), zN, (.iload 6, 6, 0, []), zN, (.iload 8, 8, 0, []), zN, (.ifCond .lt 8, 83, 0, []), zN, zN, (.iload 8, 8, 0, []), zN], [(.goto 12, 92, 0, []), zN, zN, (.iload 8, 8, 0, []), zN, (.aload_n 2, 2, 0, []), (.iload_n 3, 3, 0, []), (.iload 4, 4, 0, []), zN, (.invokestatic 22, 73, 4, [(0, 0)]), zN, zN, (.iastore, 0, 0, []), (.iinc 6 1, 6, 0, []), zN, zN], [(.goto 75, 171, 0, []), zN, zN, (.iload 8, 8, 0, []), zN, (.bipush (-12), 0, 0, []), zN, (.if_icmp .lt 33, 136, 0, []), zN, zN, (.iload 6, 6, 0, []), zN, (.iconst 1, 0, 0, []), (.if_icmp .ge 5, 114, 0, []), zN, zN], [(.iconst 0, 0, 0, []), (.ireturn, 0, 0, []), (.aload 5, 5, 0, []), zN, (.iload 6, 6, 0, []), zN, (.iconst 1, 0, 0, []), (.isub, 0, 0, []), (.iload 8, 8, 0, []), zN, (.aload 5, 5, 0, []), zN, (.iload 6, 6, 0, []), zN, (.iconst 1, 0, 0, []), (.isub, 0, 0, [])], [(.iaload, 0, 0, []), (.invokestatic 26, 74, 2, [(0, 0)]), zN, zN, (.iastore, 0, 0, []), (.goto 38, 171, 0, []), zN, zN, (.iload 6, 6, 0, []), zN, (.iconst 2, 0, 0, []), (.if_icmp .ge 5, 144, 0, []), zN, zN, (.iconst 0, 0, 0, []), (.ireturn, 0, 0, [])], [(.iinc 6 (-1), 6, 0, []), zN, zN, (.aload 5, 5, 0, []), zN, (.iload 6, 6, 0, []), zN, (.iconst 1, 0, 0, []), (.isub, 0, 0, []), (.iload 8, 8, 0, []), zN, (.aload 5, 5, 0, []), zN, (.iload 6, 6, 0, []), zN, (.iconst 1, 0, 0, [])], [(.isub, 0, 0, []), (.iaload, 0, 0, []), (.aload 5, 5, 0, []), zN, (.iload 6, 6, 0, []), zN, (.iaload, 0, 0, []), (.invokestatic 30, 75, 3, [(0, 0)]), zN, zN, (.iastore, 0, 0, []), (.iinc 7 1, 7, 0, []), zN, zN, (.goto (-142), 32, 0, []), zN], [zN, (.iload 6, 6, 0, []), zN, (.ifCond .le 18, 197, 0, []), zN, zN, (.aload 5, 5, 0, []), zN, (.iload 6, 6, 0, []), zN, (.iconst 1, 0, 0, []), (.isub, 0, 0, []), (.iaload, 0, 0, []), (.bipush 99, 0, 0, []), zN, (.invokestatic 34, 103, 2, [(1, 0)])], [zN, zN, (.goto 4, 198, 0, []), zN, zN, (.iconst 0, 0, 0, []), (.ireturn, 0, 0, [])]]
def zcX10_named : List (List zE) := [[(.iload_n 0, 0, 0, []), (.tableswitch 60 (-5) (-1) #[55, 53, 48, 43, 35], 61, 0, [((-5), 56), ((-4), 54), ((-3), 49), ((-2), 44), ((-1), 36)]), zN, zN, zN, zN, zN, zN, zN, zN, zN, zN, zN, zN, zN, zN], [zN, zN, zN, zN, zN, zN, zN, zN, zN, zN, zN, zN, zN, zN, zN, zN], [zN, zN, zN, zN, (.aload_n 1, 1, 0, []), (.getfield 37, 5, 2, []), zN, zN, (.invokestatic 42, 202, 1, [(0, 0)]), zN, zN, (.ireturn, 0, 0, []), (.aload_n 1, 1, 0, []), (.getfield 48, 5, 3, []), zN, zN], [(.ireturn, 0, 0, []), (.aload_n 1, 1, 0, []), (.getfield 51, 5, 1, []), zN, zN, (.ireturn, 0, 0, []), (.iload_n 3, 3, 0, []), (.ireturn, 0, 0, []), (.iload_n 2, 2, 0, []), (.invokestatic 42, 202, 1, [(0, 0)]), zN, zN, (.ireturn, 0, 0, []), (.aload_n 1, 1, 0, []), (.getfield 54, 5, 4, []), zN], [zN, (.ireturn, 0, 0, [])]]
def zcX10_ofOne : List (List zE) := [[(.iload_n 0, 0, 0, []), (.bipush (-11), 0, 0, []), zN, (.if_icmp .ne 13, 16, 0, []), zN, zN, (.iload_n 1, 1, 0, []), (.ifCond .ne 7, 14, 0, []), zN, zN, (.iconst 1, 0, 0, []), (.goto 4, 15, 0, []), zN, zN, (.iconst 0, 0, 0, []), (.ireturn, 0, 0, [])], [(.iload_n 1, 1, 0, []), (.ineg, 0, 0, []), (.ireturn, 0, 0, [])]]
def zcX10_ofTwo : List (List zE) := [[(.iload_n 0, 0, 0, []), (.tableswitch 97 (-26) (-21) #[93, 89, 78, 67, 53, 39], 98, 0, [((-26), 94), ((-25), 90), ((-24), 79), ((-23), 68), ((-22), 54), ((-21), 40)]), zN, zN, zN, zN, zN, zN, zN, zN, zN, zN, zN, zN, zN, zN], [zN, zN, zN, zN, zN, zN, zN, zN, zN, zN, zN, zN, zN, zN, zN, zN], [zN, zN, zN, zN, zN, zN, zN, zN, (.iload_n 1, 1, 0, []), (.ifCond .ne 7, 48, 0, []), zN, zN, (.iload_n 2, 2, 0, []), (.ifCond .eq 7, 52, 0, []), zN, zN], [(.iconst 1, 0, 0, []), (.goto 4, 53, 0, []), zN, zN, (.iconst 0, 0, 0, []), (.ireturn, 0, 0, []), (.iload_n 1, 1, 0, []), (.ifCond .eq 11, 66, 0, []), zN, zN, (.iload_n 2, 2, 0, []), (.ifCond .eq 7, 66, 0, []), zN, zN, (.iconst 1, 0, 0, []), (.goto 4, 67, 0, [])], [zN, zN, (.iconst 0, 0, 0, []), (.ireturn, 0, 0, []), (.iload_n 1, 1, 0, []), (.iload_n 2, 2, 0, []), (.if_icmp .ge 7, 77, 0, []), zN, zN, (.iconst 1, 0, 0, []), (.goto 4, 78, 0, []), zN, zN, (.iconst 0, 0, 0, []), (.ireturn, 0, 0, []), (.iload_n 1, 1, 0, [])], [(.iload_n 2, 2, 0, []), (.if_icmp .ne 7, 88, 0, []), zN, zN, (.iconst 1, 0, 0, []), (.goto 4, 89, 0, []), zN, zN, (.iconst 0, 0, 0, []), (.ireturn, 0, 0, []), (.iload_n 1, 1, 0, []), (.iload_n 2, 2, 0, []), (.iadd, 0, 0, []), (.ireturn, 0, 0, []), (.iload_n 1, 1, 0, []), (.iload_n 2, 2, 0, [])], [(.isub, 0, 0, []), (.ireturn, 0, 0, []), (.iload_n 1, 1, 0, []), (.iload_n 2, 2, 0, []), (.imul, 0, 0, []), (.ireturn, 0, 0, [])]]
def zcX11_init : List (List zE) := [[(.aload_n 0, 0, 0, []), (.invokespecial 1, 1003, 0, [(6, 0)]), zN, zN, (.aload_n 0, 0, 0, []), (.bipush 6, 0, 0, []), zN, (.anewarray 9, 4, 0, []), zN, zN, (.putfield 11, 11, 0, []), zN, zN, (.aload_n 0, 0, 0, []), (.new 15, 0, 0, []), zN], [zN, (.dup, 0, 0, []), (.invokespecial 17, 0, 0, [(2, 0)]), zN, zN, (.putfield 18, 11, 1, []), zN, zN, (.aload_n 0, 0, 0, []), (.new 15, 0, 0, []), zN, zN, (.dup, 0, 0, []), (.invokespecial 17, 0, 0, [(2, 0)]), zN, zN], [(.putfield 22, 11, 2, []), zN, zN, (.aload_n 0, 0, 0, []), (.new 15, 0, 0, []), zN, zN, (.dup, 0, 0, []), (.invokespecial 17, 0, 0, [(2, 0)]), zN, zN, (.putfield 25, 11, 3, []), zN, zN, (.aload_n 0, 0, 0, []), (.bipush 6, 0, 0, [])], [zN, (.anewarray 28, 5, 0, []), zN, zN, (.putfield 30, 11, 5, []), zN, zN, (.aload_n 0, 0, 0, []), (.sipush 160, 0, 0, []), zN, zN, (.newarray .int, 0, 0, []), zN, (.putfield 34, 11, 8, []), zN, zN], [(.aload_n 0, 0, 0, []), (.iconst 4, 0, 0, []), (.anewarray 38, 3, 0, []), zN, zN, (.putfield 40, 11, 9, []), zN, zN, (.aload_n 0, 0, 0, []), (.bipush 61, 0, 0, []), zN, (.newarray .int, 0, 0, []), zN, (.putfield 44, 11, 10, []), zN, zN], [(.aload_n 0, 0, 0, []), (.getfield 11, 11, 0, []), zN, zN, (.iconst 0, 0, 0, []), (.new 9, 9, 0, []), zN, zN, (.dup, 0, 0, []), (.invokespecial 47, 64, 0, [(3, 0)]), zN, zN, (.aastore, 0, 0, []), (.aload_n 0, 0, 0, []), (.getfield 11, 11, 0, []), zN], [zN, (.iconst 1, 0, 0, []), (.new 48, 2, 0, []), zN, zN, (.dup, 0, 0, []), (.invokespecial 50, 10, 0, [(3, 0)]), zN, zN, (.aastore, 0, 0, []), (.aload_n 0, 0, 0, []), (.getfield 11, 11, 0, []), zN, zN, (.iconst 2, 0, 0, []), (.new 51, 1, 0, [])], [zN, zN, (.dup, 0, 0, []), (.invokespecial 53, 4, 0, [(3, 0)]), zN, zN, (.aastore, 0, 0, []), (.aload_n 0, 0, 0, []), (.getfield 11, 11, 0, []), zN, zN, (.iconst 3, 0, 0, []), (.new 54, 3, 0, []), zN, zN, (.dup, 0, 0, [])], [(.invokespecial 56, 16, 0, [(3, 0)]), zN, zN, (.aastore, 0, 0, []), (.aload_n 0, 0, 0, []), (.getfield 11, 11, 0, []), zN, zN, (.iconst 4, 0, 0, []), (.new 57, 4, 0, []), zN, zN, (.dup, 0, 0, []), (.invokespecial 59, 21, 0, [(3, 0)]), zN, zN], [(.aastore, 0, 0, []), (.aload_n 0, 0, 0, []), (.getfield 11, 11, 0, []), zN, zN, (.iconst 5, 0, 0, []), (.new 60, 6, 0, []), zN, zN, (.dup, 0, 0, []), (.invokespecial 62, 30, 0, [(3, 0)]), zN, zN, (.aastore, 0, 0, []), (.iconst 0, 0, 0, []), (.istore_n 1, 1, 0, [])], [(.iload_n 1, 1, 0, []), (.iconst 4, 0, 0, []), (.if_icmp .ge 22, 184, 0, []), zN, zN, (.aload_n 0, 0, 0, []), (.getfield 40, 11, 9, []), zN, zN, (.iload_n 1, 1, 0, []), (.new 38, 8, 0, []), zN, zN, (.dup, 0, 0, []), (.invokespecial 63, 59, 0, [(3, 0)]), zN], [zN, (.aastore, 0, 0, []), (.iinc 1 1, 1, 0, []), zN, zN, (.goto (-21), 160, 0, []), zN, zN, (.iconst 0, 0, 0, []), (.istore_n 1, 1, 0, []), (.iload_n 1, 1, 0, []), (.bipush 6, 0, 0, []), zN, (.if_icmp .ge 22, 211, 0, []), zN, zN], [(.aload_n 0, 0, 0, []), (.getfield 30, 11, 5, []), zN, zN, (.iload_n 1, 1, 0, []), (.new 28, 10, 0, []), zN, zN, (.dup, 0, 0, []), (.invokespecial 64, 70, 0, [(3, 0)]), zN, zN, (.aastore, 0, 0, []), (.iinc 1 1, 1, 0, []), zN, zN], [(.goto (-22), 186, 0, []), zN, zN, (.aload_n 0, 0, 0, []), (.new 65, 7, 0, []), zN, zN, (.dup, 0, 0, []), (.aload_n 0, 0, 0, []), (.getfield 30, 11, 5, []), zN, zN, (.iconst 0, 0, 0, []), (.aaload, 0, 0, []), (.invokespecial 67, 36, 1, [(2, 0)]), zN], [zN, (.putfield 70, 11, 6, []), zN, zN, (.iconst 0, 0, 0, []), (.istore_n 1, 1, 0, []), (.iload_n 1, 1, 0, []), (.ldc 74, 1, 0, []), zN, (.invokevirtual 76, 1001, 0, []), zN, zN, (.if_icmp .ge 23, 259, 0, []), zN, zN, (.aload_n 0, 0, 0, [])], [(.getfield 70, 11, 6, []), zN, zN, (.ldc 74, 1, 0, []), zN, (.iload_n 1, 1, 0, []), (.invokevirtual 82, 1002, 1, []), zN, zN, (.invokevirtual 86, 1000, 1, [(7, 37)]), zN, zN, (.pop, 0, 0, []), (.iinc 1 1, 1, 0, []), zN, zN], [(.goto (-26), 230, 0, []), zN, zN, (.aload_n 0, 0, 0, []), (.getfield 70, 11, 6, []), zN, zN, (.aload_n 0, 0, 0, []), (.getfield 30, 11, 5, []), zN, zN, (.iconst 0, 0, 0, []), (.aaload, 0, 0, []), (.invokevirtual 90, 1000, 1, [(7, 38)]), zN, zN], [(.pop, 0, 0, []), (.aload_n 0, 0, 0, []), (.iconst 1, 0, 0, []), (.putfield 94, 11, 7, []), zN, zN, (.return_, 0, 0, [])]]
def zcX11_set : List (List zE) := [[(.iload_n 1, 1, 0, []), (.ifCond .lt 8, 9, 0, []), zN, zN, (.iload_n 1, 1, 0, []), (.iconst 4, 0, 0, []), (.if_icmp .le 6, 12, 0, []), zN, zN, (.bipush (-2), 0, 0, []), zN, (.ireturn, 0, 0, []), (.iload_n 1, 1, 0, []), (.ifCond .eq 17, 30, 0, []), zN, zN], [(.aload_n 0, 0, 0, []), (.getfield 18, 11, 1, []), zN, zN, (.iload_n 2, 2, 0, []), (.invokevirtual 98, 1000, 1, [(0, 1)]), zN, zN, (.ifCond .ne 6, 30, 0, []), zN, zN, (.bipush (-2), 0, 0, []), zN, (.ireturn, 0, 0, []), (.iload_n 3, 3, 0, []), (.ifCond .lt 11, 42, 0, [])], [zN, zN, (.iload_n 3, 3, 0, []), (.iload_n 1, 1, 0, []), (.invokestatic 101, 82, 1, [(0, 0)]), zN, zN, (.if_icmp .le 6, 45, 0, []), zN, zN, (.bipush (-2), 0, 0, []), zN, (.ireturn, 0, 0, []), (.iload_n 1, 1, 0, []), (.ifCond .ne 23, 69, 0, []), zN], [zN, (.aload_n 0, 0, 0, []), (.getfield 18, 11, 1, []), zN, zN, (.getfield 105, 0, 4, []), zN, zN, (.istore 4, 4, 0, []), zN, (.aload_n 0, 0, 0, []), (.getfield 18, 11, 1, []), zN, zN, (.iload_n 3, 3, 0, []), (.putfield 105, 0, 4, [])], [zN, zN, (.iload 4, 4, 0, []), zN, (.ireturn, 0, 0, []), (.aload_n 0, 0, 0, []), (.getfield 18, 11, 1, []), zN, zN, (.getfield 108, 0, 0, []), zN, zN, (.iload_n 2, 2, 0, []), (.aaload, 0, 0, []), (.astore 4, 4, 0, []), zN], [(.aload 4, 4, 0, []), zN, (.iload_n 1, 1, 0, []), (.invokevirtual 112, 1000, 1, [(5, 27)]), zN, zN, (.istore 5, 5, 0, []), zN, (.aload 4, 4, 0, []), zN, (.iload_n 1, 1, 0, []), (.iload_n 3, 3, 0, []), (.invokevirtual 117, 1000, 2, [(5, 28)]), zN, zN, (.iload 5, 5, 0, [])], [zN, (.ireturn, 0, 0, [])]]
def zcX11_person : List (List zE) := [[(.iload_n 1, 1, 0, []), (.ifCond .lt 19, 20, 0, []), zN, zN, (.iload_n 1, 1, 0, []), (.bipush 6, 0, 0, []), zN, (.if_icmp .ge 13, 20, 0, []), zN, zN, (.iload_n 2, 2, 0, []), (.ifCond .lt 9, 20, 0, []), zN, zN, (.iload_n 2, 2, 0, []), (.bipush 9, 0, 0, [])], [zN, (.if_icmp .le 6, 23, 0, []), zN, zN, (.bipush (-2), 0, 0, []), zN, (.ireturn, 0, 0, []), (.iload_n 3, 3, 0, []), (.invokestatic 121, 83, 1, [(0, 0)]), zN, zN, (.ifCond .eq 15, 42, 0, []), zN, zN, (.iload 4, 4, 0, []), zN], [(.ifCond .lt 10, 42, 0, []), zN, zN, (.iload 4, 4, 0, []), zN, (.bipush 99, 0, 0, []), zN, (.if_icmp .le 6, 45, 0, []), zN, zN, (.bipush (-2), 0, 0, []), zN, (.ireturn, 0, 0, []), (.aload_n 0, 0, 0, []), (.getfield 18, 11, 1, []), zN], [zN, (.getfield 124, 0, 2, []), zN, zN, (.iconst 5, 0, 0, []), (.if_icmp .lt 6, 59, 0, []), zN, zN, (.bipush (-4), 0, 0, []), zN, (.ireturn, 0, 0, []), (.aload_n 0, 0, 0, []), (.getfield 18, 11, 1, []), zN, zN, (.getfield 108, 0, 0, [])], [zN, zN, (.aload_n 0, 0, 0, []), (.getfield 18, 11, 1, []), zN, zN, (.getfield 124, 0, 2, []), zN, zN, (.aaload, 0, 0, []), (.astore 5, 5, 0, []), zN, (.aload 5, 5, 0, []), zN, (.iload_n 1, 1, 0, []), (.putfield 127, 5, 0, [])], [zN, zN, (.aload 5, 5, 0, []), zN, (.iload_n 2, 2, 0, []), (.putfield 130, 5, 1, []), zN, zN, (.aload 5, 5, 0, []), zN, (.iload_n 3, 3, 0, []), (.putfield 133, 5, 2, []), zN, zN, (.aload 5, 5, 0, []), zN], [(.iload 4, 4, 0, []), zN, (.putfield 136, 5, 3, []), zN, zN, (.aload 5, 5, 0, []), zN, (.iconst 0, 0, 0, []), (.putfield 139, 5, 4, []), zN, zN, (.aload_n 0, 0, 0, []), (.getfield 18, 11, 1, []), zN, zN, (.dup, 0, 0, [])], [(.getfield 124, 0, 2, []), zN, zN, (.iconst 1, 0, 0, []), (.iadd, 0, 0, []), (.putfield 124, 0, 2, []), zN, zN, (.aload_n 0, 0, 0, []), (.getfield 18, 11, 1, []), zN, zN, (.getfield 124, 0, 2, []), zN, zN, (.iconst 1, 0, 0, [])], [(.isub, 0, 0, []), (.ireturn, 0, 0, [])]]
def zcX11_told : List (List zE) := [[(.iload_n 2, 2, 0, []), (.tableswitch 137 0 8 #[51, 59, 59, 59, 59, 59, 90, 121, 129], 138, 0, [(0, 52), (1, 60), (2, 60), (3, 60), (4, 60), (5, 60), (6, 91), (7, 122), (8, 130)]), zN, zN, zN, zN, zN, zN, zN, zN, zN, zN, zN, zN, zN, zN], [zN, zN, zN, zN, zN, zN, zN, zN, zN, zN, zN, zN, zN, zN, zN, zN], [zN, zN, zN, zN, zN, zN, zN, zN, zN, zN, zN, zN, zN, zN, zN, zN], [zN, zN, zN, zN, (.aload_n 0, 0, 0, []), (.getfield 18, 11, 1, []), zN, zN, (.getfield 105, 0, 4, []), zN, zN, (.ireturn, 0, 0, []), (.aload_n 0, 0, 0, []), (.getfield 18, 11, 1, []), zN, zN], [(.iload_n 1, 1, 0, []), (.invokevirtual 98, 1000, 1, [(0, 1)]), zN, zN, (.ifCond .eq 19, 87, 0, []), zN, zN, (.aload_n 0, 0, 0, []), (.getfield 18, 11, 1, []), zN, zN, (.getfield 108, 0, 0, []), zN, zN, (.iload_n 1, 1, 0, []), (.aaload, 0, 0, [])], [(.iload_n 2, 2, 0, []), (.invokevirtual 112, 1000, 1, [(5, 27)]), zN, zN, (.goto 6, 90, 0, []), zN, zN, (.sipush (-1000), 0, 0, []), zN, zN, (.ireturn, 0, 0, []), (.iload_n 1, 1, 0, []), (.ifCond .lt 26, 118, 0, []), zN, zN, (.iload_n 1, 1, 0, [])], [(.aload_n 0, 0, 0, []), (.getfield 18, 11, 1, []), zN, zN, (.getfield 142, 0, 3, []), zN, zN, (.if_icmp .ge 15, 118, 0, []), zN, zN, (.aload_n 0, 0, 0, []), (.getfield 18, 11, 1, []), zN, zN, (.getfield 145, 0, 1, []), zN], [zN, (.iload_n 1, 1, 0, []), (.iaload, 0, 0, []), (.goto 6, 121, 0, []), zN, zN, (.sipush (-1000), 0, 0, []), zN, zN, (.ireturn, 0, 0, []), (.aload_n 0, 0, 0, []), (.getfield 18, 11, 1, []), zN, zN, (.getfield 142, 0, 3, []), zN], [zN, (.ireturn, 0, 0, []), (.aload_n 0, 0, 0, []), (.getfield 18, 11, 1, []), zN, zN, (.getfield 148, 0, 5, []), zN, zN, (.ireturn, 0, 0, []), (.sipush (-1000), 0, 0, []), zN, zN, (.ireturn, 0, 0, [])]]
def zcX11_brings : List (List zE) := [[(.iload_n 1, 1, 0, []), (.iconst 1, 0, 0, []), (.if_icmp .lt 10, 12, 0, []), zN, zN, (.iload_n 1, 1, 0, []), (.sipush 1024, 0, 0, []), zN, zN, (.if_icmp .lt 6, 15, 0, []), zN, zN, (.bipush (-2), 0, 0, []), zN, (.ireturn, 0, 0, []), (.aload_n 0, 0, 0, [])], [(.getfield 18, 11, 1, []), zN, zN, (.getfield 142, 0, 3, []), zN, zN, (.bipush 8, 0, 0, []), zN, (.if_icmp .lt 6, 30, 0, []), zN, zN, (.bipush (-4), 0, 0, []), zN, (.ireturn, 0, 0, []), (.aload_n 0, 0, 0, []), (.getfield 18, 11, 1, [])], [zN, zN, (.getfield 145, 0, 1, []), zN, zN, (.aload_n 0, 0, 0, []), (.getfield 18, 11, 1, []), zN, zN, (.getfield 142, 0, 3, []), zN, zN, (.iload_n 1, 1, 0, []), (.iastore, 0, 0, []), (.aload_n 0, 0, 0, []), (.getfield 18, 11, 1, [])], [zN, zN, (.dup, 0, 0, []), (.getfield 142, 0, 3, []), zN, zN, (.iconst 1, 0, 0, []), (.iadd, 0, 0, []), (.putfield 142, 0, 3, []), zN, zN, (.aload_n 0, 0, 0, []), (.getfield 18, 11, 1, []), zN, zN, (.getfield 142, 0, 3, [])], [zN, zN, (.ireturn, 0, 0, [])]]
def zcX11_asks : List (List zE) := [[(.aload_n 0, 0, 0, []), (.getfield 18, 11, 1, []), zN, zN, (.iload_n 1, 1, 0, []), (.invokevirtual 98, 1000, 1, [(0, 1)]), zN, zN, (.ifCond .eq 10, 18, 0, []), zN, zN, (.iload_n 2, 2, 0, []), (.invokestatic 121, 83, 1, [(0, 0)]), zN, zN, (.ifCond .ne 6, 21, 0, [])], [zN, zN, (.bipush (-2), 0, 0, []), zN, (.ireturn, 0, 0, []), (.aload_n 0, 0, 0, []), (.getfield 18, 11, 1, []), zN, zN, (.getfield 108, 0, 0, []), zN, zN, (.iload_n 1, 1, 0, []), (.aaload, 0, 0, []), (.astore 4, 4, 0, []), zN], [(.iload_n 3, 3, 0, []), (.tableswitch 87 0 3 #[31, 43, 55, 67], 120, 0, [(0, 64), (1, 76), (2, 88), (3, 100)]), zN, zN, zN, zN, zN, zN, zN, zN, zN, zN, zN, zN, zN, zN], [zN, zN, zN, zN, zN, zN, zN, zN, zN, zN, zN, zN, zN, zN, zN, zN], [(.aload_n 0, 0, 0, []), (.aload_n 0, 0, 0, []), (.getfield 18, 11, 1, []), zN, zN, (.aload 4, 4, 0, []), zN, (.iload_n 2, 2, 0, []), (.invokevirtual 151, 1000, 3, [(11, 94)]), zN, zN, (.ireturn, 0, 0, []), (.aload_n 0, 0, 0, []), (.aload_n 0, 0, 0, []), (.getfield 18, 11, 1, []), zN], [zN, (.aload 4, 4, 0, []), zN, (.iload_n 2, 2, 0, []), (.invokevirtual 155, 1000, 3, [(11, 93)]), zN, zN, (.ireturn, 0, 0, []), (.aload_n 0, 0, 0, []), (.aload_n 0, 0, 0, []), (.getfield 18, 11, 1, []), zN, zN, (.aload 4, 4, 0, []), zN, (.iload_n 2, 2, 0, [])], [(.invokevirtual 158, 1000, 3, [(11, 95)]), zN, zN, (.ireturn, 0, 0, []), (.aload_n 0, 0, 0, []), (.aload_n 0, 0, 0, []), (.getfield 18, 11, 1, []), zN, zN, (.aload 4, 4, 0, []), zN, (.iload_n 2, 2, 0, []), (.invokevirtual 161, 1000, 3, [(11, 96)]), zN, zN, (.ifCond .eq 7, 118, 0, [])], [zN, zN, (.iconst 1, 0, 0, []), (.goto 4, 119, 0, []), zN, zN, (.iconst 0, 0, 0, []), (.ireturn, 0, 0, []), (.bipush (-2), 0, 0, []), zN, (.ireturn, 0, 0, [])]]
def zcX11_most : List (List zE) := [[(.iload_n 0, 0, 0, []), (.tableswitch 45 0 3 #[31, 35, 38, 42], 46, 0, [(0, 32), (1, 36), (2, 39), (3, 43)]), zN, zN, zN, zN, zN, zN, zN, zN, zN, zN, zN, zN, zN, zN], [zN, zN, zN, zN, zN, zN, zN, zN, zN, zN, zN, zN, zN, zN, zN, zN], [(.sipush 999, 0, 0, []), zN, zN, (.ireturn, 0, 0, []), (.bipush 9, 0, 0, []), zN, (.ireturn, 0, 0, []), (.sipush 1023, 0, 0, []), zN, zN, (.ireturn, 0, 0, []), (.bipush 99, 0, 0, []), zN, (.ireturn, 0, 0, []), (.bipush 99, 0, 0, []), zN], [(.ireturn, 0, 0, [])]]
def zcX11_isSet : List (List zE) := [[(.iload_n 0, 0, 0, []), (.ifCond .lt 14, 15, 0, []), zN, zN, (.iload_n 0, 0, 0, []), (.sipush 1024, 0, 0, []), zN, zN, (.if_icmp .ge 7, 15, 0, []), zN, zN, (.iconst 1, 0, 0, []), (.goto 4, 16, 0, []), zN, zN, (.iconst 0, 0, 0, [])], [(.ireturn, 1, 0, [])]]
def zcX11_feed : List (List zE) := [[(.iload_n 1, 1, 0, []), (.ifCond .lt 10, 11, 0, []), zN, zN, (.iload_n 1, 1, 0, []), (.sipush 255, 0, 0, []), zN, zN, (.if_icmp .le 6, 14, 0, []), zN, zN, (.bipush (-2), 0, 0, []), zN, (.ireturn, 0, 0, []), (.aload_n 0, 0, 0, []), (.getfield 70, 11, 6, [])], [zN, zN, (.iload_n 1, 1, 0, []), (.invokevirtual 86, 1000, 1, [(7, 37)]), zN, zN, (.ifCond .eq 13, 35, 0, []), zN, zN, (.aload_n 0, 0, 0, []), (.getfield 70, 11, 6, []), zN, zN, (.getfield 165, 7, 1, []), zN, zN], [(.goto 5, 37, 0, []), zN, zN, (.bipush (-4), 0, 0, []), zN, (.ireturn, 0, 0, [])]]
def zcX11_text : List (List zE) := [[(.aload_n 0, 0, 0, []), (.getfield 94, 11, 7, []), zN, zN, (.bipush 6, 0, 0, []), zN, (.if_icmp .lt 6, 12, 0, []), zN, zN, (.bipush (-4), 0, 0, []), zN, (.ireturn, 0, 0, []), (.aload_n 0, 0, 0, []), (.getfield 70, 11, 6, []), zN, zN], [(.aload_n 0, 0, 0, []), (.getfield 30, 11, 5, []), zN, zN, (.aload_n 0, 0, 0, []), (.getfield 94, 11, 7, []), zN, zN, (.aaload, 0, 0, []), (.invokevirtual 90, 1000, 1, [(7, 38)]), zN, zN, (.istore_n 1, 1, 0, []), (.iload_n 1, 1, 0, []), (.iconst (-1), 0, 0, []), (.if_icmp .eq 8, 39, 0, [])], [zN, zN, (.bipush (-100), 0, 0, []), zN, (.iload_n 1, 1, 0, []), (.isub, 0, 0, []), (.ireturn, 0, 0, []), (.aload_n 0, 0, 0, []), (.dup, 0, 0, []), (.getfield 94, 11, 7, []), zN, zN, (.iconst 1, 0, 0, []), (.iadd, 0, 0, []), (.putfield 94, 11, 7, []), zN], [zN, (.aload_n 0, 0, 0, []), (.getfield 94, 11, 7, []), zN, zN, (.iconst 1, 0, 0, []), (.isub, 0, 0, []), (.ireturn, 0, 0, [])]]
def zcX11_force : List (List zE) := [[(.iload_n 1, 1, 0, []), (.ifCond .lt 11, 12, 0, []), zN, zN, (.iload_n 1, 1, 0, []), (.aload_n 0, 0, 0, []), (.getfield 94, 11, 7, []), zN, zN, (.if_icmp .lt 6, 15, 0, []), zN, zN, (.bipush (-2), 0, 0, []), zN, (.ireturn, 0, 0, []), (.aload_n 0, 0, 0, [])], [(.getfield 18, 11, 1, []), zN, zN, (.getfield 168, 0, 6, []), zN, zN, (.istore_n 2, 2, 0, []), (.aload_n 0, 0, 0, []), (.getfield 18, 11, 1, []), zN, zN, (.iload_n 1, 1, 0, []), (.putfield 168, 0, 6, []), zN, zN, (.iload_n 2, 2, 0, [])], [(.ireturn, 0, 0, [])]]
def zcX11_ruleOf : List (List zE) := [[(.aload_n 1, 1, 0, []), (.getfield 168, 0, 6, []), zN, zN, (.ifCond .lt 24, 28, 0, []), zN, zN, (.aload_n 1, 1, 0, []), (.getfield 168, 0, 6, []), zN, zN, (.bipush 6, 0, 0, []), zN, (.if_icmp .ge 15, 28, 0, []), zN, zN], [(.aload_n 0, 0, 0, []), (.getfield 30, 11, 5, []), zN, zN, (.aload_n 1, 1, 0, []), (.getfield 168, 0, 6, []), zN, zN, (.aaload, 0, 0, []), (.goto 9, 34, 0, []), zN, zN, (.aload_n 0, 0, 0, []), (.getfield 30, 11, 5, []), zN, zN], [(.iconst 0, 0, 0, []), (.aaload, 0, 0, []), (.areturn, 0, 0, [])]]
def zcX11_over : List (List zE) := [[(.iload_n 1, 1, 0, []), (.invokestatic 171, 129, 1, [(0, 0)]), zN, zN, (.ifCond .eq 19, 23, 0, []), zN, zN, (.iload_n 2, 2, 0, []), (.invokestatic 121, 83, 1, [(0, 0)]), zN, zN, (.ifCond .eq 12, 23, 0, []), zN, zN, (.iload_n 3, 3, 0, []), (.ifCond .lt 8, 23, 0, [])], [zN, zN, (.iload_n 3, 3, 0, []), (.iconst 3, 0, 0, []), (.if_icmp .le 6, 26, 0, []), zN, zN, (.bipush (-2), 0, 0, []), zN, (.ireturn, 0, 0, []), (.aload_n 0, 0, 0, []), (.getfield 40, 11, 9, []), zN, zN, (.iload_n 1, 1, 0, []), (.aaload, 0, 0, [])], [(.astore 4, 4, 0, []), zN, (.aload 4, 4, 0, []), zN, (.invokevirtual 174, 1000, 0, [(8, 60)]), zN, zN, (.ifCond .eq 6, 45, 0, []), zN, zN, (.bipush (-11), 0, 0, []), zN, (.ireturn, 0, 0, []), (.iconst 0, 0, 0, []), (.istore 5, 5, 0, []), zN], [(.iload 5, 5, 0, []), zN, (.aload 4, 4, 0, []), zN, (.getfield 178, 8, 2, []), zN, zN, (.if_icmp .ge 30, 85, 0, []), zN, zN, (.aload_n 0, 0, 0, []), (.getfield 18, 11, 1, []), zN, zN, (.aload 4, 4, 0, []), zN], [(.getfield 179, 8, 0, []), zN, zN, (.iload 5, 5, 0, []), zN, (.iaload, 0, 0, []), (.invokevirtual 98, 1000, 1, [(0, 1)]), zN, zN, (.ifCond .ne 6, 79, 0, []), zN, zN, (.bipush (-2), 0, 0, []), zN, (.ireturn, 0, 0, []), (.iinc 5 1, 5, 0, [])], [zN, zN, (.goto (-34), 48, 0, []), zN, zN, (.aload_n 0, 0, 0, []), (.aload 4, 4, 0, []), zN, (.iload_n 2, 2, 0, []), (.invokevirtual 182, 1000, 2, [(11, 98)]), zN, zN, (.istore 5, 5, 0, []), zN, (.iload_n 3, 3, 0, []), (.tableswitch 42 0 2 #[25, 28, 35], 137, 0, [(0, 120), (1, 123), (2, 130)])], [zN, zN, zN, zN, zN, zN, zN, zN, zN, zN, zN, zN, zN, zN, zN, zN], [zN, zN, zN, zN, zN, zN, zN, zN, (.iload 5, 5, 0, []), zN, (.ireturn, 0, 0, []), (.iload 5, 5, 0, []), zN, (.iload_n 2, 2, 0, []), (.invokestatic 186, 101, 2, [(0, 0)]), zN], [zN, (.ireturn, 0, 0, []), (.iload_n 2, 2, 0, []), (.iload 5, 5, 0, []), zN, (.iconst (-1), 0, 0, []), (.ixor, 0, 0, []), (.iand, 0, 0, []), (.ireturn, 0, 0, []), (.iload 5, 5, 0, []), zN, (.iload_n 2, 2, 0, []), (.iconst (-1), 0, 0, []), (.ixor, 0, 0, []), (.iand, 0, 0, []), (.ireturn, 0, 0, [])]]
def zcX11_day : List (List zE) := [[(.aload_n 0, 0, 0, []), (.getfield 18, 11, 1, []), zN, zN, (.getfield 105, 0, 4, []), zN, zN, (.sipush 999, 0, 0, []), zN, zN, (.if_icmp .lt 6, 16, 0, []), zN, zN, (.bipush (-3), 0, 0, []), zN, (.ireturn, 0, 0, [])], [(.aload_n 0, 0, 0, []), (.aload_n 0, 0, 0, []), (.getfield 18, 11, 1, []), zN, zN, (.invokevirtual 190, 1000, 1, [(11, 99)]), zN, zN, (.ireturn, 0, 0, [])]]
def zcX11_run : List (List zE) := [[(.iload_n 1, 1, 0, []), (.ifCond .lt 17, 18, 0, []), zN, zN, (.iload_n 1, 1, 0, []), (.bipush 20, 0, 0, []), zN, (.if_icmp .gt 11, 18, 0, []), zN, zN, (.aload_n 0, 0, 0, []), (.iload_n 2, 2, 0, []), (.invokevirtual 194, 1000, 1, [(11, 91)]), zN, zN, (.ifCond .ne 7, 22, 0, [])], [zN, zN, (.sipush (-1000), 0, 0, []), zN, zN, (.ireturn, 0, 0, []), (.iconst (-1), 0, 0, []), (.istore_n 3, 3, 0, []), (.iconst 0, 0, 0, []), (.istore 4, 4, 0, []), zN, (.aload_n 0, 0, 0, []), (.getfield 25, 11, 3, []), zN, zN, (.aload_n 0, 0, 0, [])], [(.getfield 18, 11, 1, []), zN, zN, (.invokevirtual 197, 1000, 1, [(0, 3)]), zN, zN, (.iconst 0, 0, 0, []), (.istore 5, 5, 0, []), zN, (.iload 5, 5, 0, []), zN, (.iload_n 1, 1, 0, []), (.if_icmp .ge 31, 75, 0, []), zN, zN, (.aload_n 0, 0, 0, [])], [(.aload_n 0, 0, 0, []), (.getfield 25, 11, 3, []), zN, zN, (.invokevirtual 190, 1000, 1, [(11, 99)]), zN, zN, (.istore 6, 6, 0, []), zN, (.iload 6, 6, 0, []), zN, (.iconst (-1), 0, 0, []), (.if_icmp .eq 9, 69, 0, []), zN, zN, (.iload 6, 6, 0, [])], [zN, (.istore_n 3, 3, 0, []), (.iinc 4 1, 4, 0, []), zN, zN, (.iinc 5 1, 5, 0, []), zN, zN, (.goto (-31), 41, 0, []), zN, zN, (.iload_n 2, 2, 0, []), (.ifCond .ne 5, 81, 0, []), zN, zN, (.iload_n 3, 3, 0, [])], [(.ireturn, 0, 0, []), (.iload_n 2, 2, 0, []), (.iconst 1, 0, 0, []), (.if_icmp .ne 6, 89, 0, []), zN, zN, (.iload 4, 4, 0, []), zN, (.ireturn, 0, 0, []), (.iload_n 2, 2, 0, []), (.bipush 20, 0, 0, []), zN, (.if_icmp .ge 21, 113, 0, []), zN, zN, (.aload_n 0, 0, 0, [])], [(.getfield 25, 11, 3, []), zN, zN, (.getfield 108, 0, 0, []), zN, zN, (.iload_n 2, 2, 0, []), (.bipush 10, 0, 0, []), zN, (.isub, 0, 0, []), (.aaload, 0, 0, []), (.getfield 133, 5, 2, []), zN, zN, (.goto 18, 128, 0, []), zN], [zN, (.aload_n 0, 0, 0, []), (.getfield 25, 11, 3, []), zN, zN, (.getfield 108, 0, 0, []), zN, zN, (.iload_n 2, 2, 0, []), (.bipush 20, 0, 0, []), zN, (.isub, 0, 0, []), (.aaload, 0, 0, []), (.getfield 136, 5, 3, []), zN, zN], [(.ireturn, 0, 0, [])]]
def zcX11_isAskedOfRun : List (List zE) := [[(.iload_n 1, 1, 0, []), (.ifCond .eq 36, 37, 0, []), zN, zN, (.iload_n 1, 1, 0, []), (.iconst 1, 0, 0, []), (.if_icmp .eq 31, 37, 0, []), zN, zN, (.aload_n 0, 0, 0, []), (.getfield 18, 11, 1, []), zN, zN, (.iload_n 1, 1, 0, []), (.bipush 10, 0, 0, []), zN], [(.isub, 0, 0, []), (.invokevirtual 98, 1000, 1, [(0, 1)]), zN, zN, (.ifCond .ne 17, 37, 0, []), zN, zN, (.aload_n 0, 0, 0, []), (.getfield 18, 11, 1, []), zN, zN, (.iload_n 1, 1, 0, []), (.bipush 20, 0, 0, []), zN, (.isub, 0, 0, []), (.invokevirtual 98, 1000, 1, [(0, 1)])], [zN, zN, (.ifCond .eq 7, 41, 0, []), zN, zN, (.iconst 1, 0, 0, []), (.goto 4, 42, 0, []), zN, zN, (.iconst 0, 0, 0, []), (.ireturn, 1, 0, [])]]
def zcX11_kindOf : List (List zE) := [[(.aload_n 1, 1, 0, []), (.getfield 127, 5, 0, []), zN, zN, (.ifCond .lt 24, 28, 0, []), zN, zN, (.aload_n 1, 1, 0, []), (.getfield 127, 5, 0, []), zN, zN, (.bipush 6, 0, 0, []), zN, (.if_icmp .ge 15, 28, 0, []), zN, zN], [(.aload_n 0, 0, 0, []), (.getfield 11, 11, 0, []), zN, zN, (.aload_n 1, 1, 0, []), (.getfield 127, 5, 0, []), zN, zN, (.aaload, 0, 0, []), (.goto 9, 34, 0, []), zN, zN, (.aload_n 0, 0, 0, []), (.getfield 11, 11, 0, []), zN, zN], [(.iconst 0, 0, 0, []), (.aaload, 0, 0, []), (.areturn, 0, 0, [])]]
def zcX11_keeping : List (List zE) := [[(.aload_n 0, 0, 0, []), (.aload_n 2, 2, 0, []), (.invokevirtual 200, 1000, 1, [(11, 92)]), zN, zN, (.aload_n 0, 0, 0, []), (.aload_n 1, 1, 0, []), (.invokevirtual 204, 1000, 1, [(11, 87)]), zN, zN, (.iconst 0, 0, 0, []), (.aload_n 2, 2, 0, []), (.iload_n 3, 3, 0, []), (.aload_n 1, 1, 0, []), (.getfield 105, 0, 4, []), zN], [zN, (.aload_n 0, 0, 0, []), (.getfield 34, 11, 8, []), zN, zN, (.invokevirtual 208, 1000, 5, [(10, 72)]), zN, zN, (.aload_n 1, 1, 0, []), (.getfield 105, 0, 4, []), zN, zN, (.invokevirtual 211, 1000, 2, [(9, 66), (1, 6), (2, 12), (3, 12), (4, 23), (6, 32)]), zN, zN, (.bipush 10, 0, 0, [])], [zN, (.invokestatic 214, 103, 2, [(0, 0)]), zN, zN, (.ireturn, 0, 0, [])]]
def zcX11_telling : List (List zE) := [[(.aload_n 0, 0, 0, []), (.aload_n 2, 2, 0, []), (.invokevirtual 200, 1000, 1, [(11, 92)]), zN, zN, (.aload_n 2, 2, 0, []), (.iload_n 3, 3, 0, []), (.aload_n 0, 0, 0, []), (.aload_n 1, 1, 0, []), (.aload_n 2, 2, 0, []), (.iload_n 3, 3, 0, []), (.invokevirtual 155, 1000, 3, [(11, 93)]), zN, zN, (.invokevirtual 217, 1000, 3, [(9, 67), (1, 7), (2, 13), (3, 18), (4, 24), (6, 33)]), zN], [zN, (.ireturn, 0, 0, [])]]
def zcX11_tiring : List (List zE) := [[(.aload_n 0, 0, 0, []), (.aload_n 2, 2, 0, []), (.invokevirtual 200, 1000, 1, [(11, 92)]), zN, zN, (.aload_n 0, 0, 0, []), (.aload_n 1, 1, 0, []), (.invokevirtual 204, 1000, 1, [(11, 87)]), zN, zN, (.iconst 1, 0, 0, []), (.aload_n 2, 2, 0, []), (.iload_n 3, 3, 0, []), (.aload_n 1, 1, 0, []), (.getfield 105, 0, 4, []), zN], [zN, (.aload_n 0, 0, 0, []), (.getfield 34, 11, 8, []), zN, zN, (.invokevirtual 208, 1000, 5, [(10, 72)]), zN, zN, (.aload_n 2, 2, 0, []), (.invokevirtual 221, 1000, 2, [(9, 68), (1, 8), (2, 14), (3, 19), (4, 25), (6, 34)]), zN, zN, (.ireturn, 0, 0, [])]]
def zcX11_learning : List (List zE) := [[(.aload_n 0, 0, 0, []), (.aload_n 2, 2, 0, []), (.invokevirtual 200, 1000, 1, [(11, 92)]), zN, zN, (.aload_n 0, 0, 0, []), (.aload_n 1, 1, 0, []), (.invokevirtual 204, 1000, 1, [(11, 87)]), zN, zN, (.iconst 2, 0, 0, []), (.aload_n 2, 2, 0, []), (.iload_n 3, 3, 0, []), (.aload_n 1, 1, 0, []), (.getfield 105, 0, 4, []), zN], [zN, (.aload_n 0, 0, 0, []), (.getfield 34, 11, 8, []), zN, zN, (.invokevirtual 208, 1000, 5, [(10, 72)]), zN, zN, (.ifCond .eq 7, 31, 0, []), zN, zN, (.iconst 1, 0, 0, []), (.goto 4, 32, 0, []), zN, zN, (.iconst 0, 0, 0, [])], [(.iload_n 3, 3, 0, []), (.invokevirtual 225, 1000, 2, [(9, 69), (1, 9), (2, 15), (3, 20), (4, 9), (6, 35)]), zN, zN, (.ireturn, 1, 0, [])]]
def zcX11_toldByAll : List (List zE) := [[(.iload_n 2, 2, 0, []), (.istore_n 3, 3, 0, []), (.iconst 0, 0, 0, []), (.istore 4, 4, 0, []), zN, (.iload 4, 4, 0, []), zN, (.aload_n 1, 1, 0, []), (.getfield 124, 0, 2, []), zN, zN, (.if_icmp .ge 23, 34, 0, []), zN, zN, (.aload_n 0, 0, 0, []), (.aload_n 1, 1, 0, [])], [(.aload_n 1, 1, 0, []), (.getfield 108, 0, 0, []), zN, zN, (.iload 4, 4, 0, []), zN, (.aaload, 0, 0, []), (.iload_n 3, 3, 0, []), (.invokevirtual 151, 1000, 3, [(11, 94)]), zN, zN, (.istore_n 3, 3, 0, []), (.iinc 4 1, 4, 0, []), zN, zN, (.goto (-26), 5, 0, [])], [zN, zN, (.iload_n 3, 3, 0, []), (.ireturn, 0, 0, [])]]
def zcX11_toldByRow : List (List zE) := [[(.iload_n 2, 2, 0, []), (.istore_n 3, 3, 0, []), (.iconst 0, 0, 0, []), (.istore 4, 4, 0, []), zN, (.iload 4, 4, 0, []), zN, (.aload_n 1, 1, 0, []), (.getfield 178, 8, 2, []), zN, zN, (.if_icmp .ge 50, 61, 0, []), zN, zN, (.aload_n 1, 1, 0, []), (.getfield 179, 8, 0, [])], [zN, zN, (.iload 4, 4, 0, []), zN, (.iaload, 0, 0, []), (.istore 5, 5, 0, []), zN, (.aload_n 0, 0, 0, []), (.getfield 18, 11, 1, []), zN, zN, (.iload 5, 5, 0, []), zN, (.invokevirtual 98, 1000, 1, [(0, 1)]), zN, zN], [(.ifCond .eq 23, 55, 0, []), zN, zN, (.aload_n 0, 0, 0, []), (.aload_n 0, 0, 0, []), (.getfield 18, 11, 1, []), zN, zN, (.aload_n 0, 0, 0, []), (.getfield 18, 11, 1, []), zN, zN, (.getfield 108, 0, 0, []), zN, zN, (.iload 5, 5, 0, [])], [zN, (.aaload, 0, 0, []), (.iload_n 3, 3, 0, []), (.invokevirtual 151, 1000, 3, [(11, 94)]), zN, zN, (.istore_n 3, 3, 0, []), (.iinc 4 1, 4, 0, []), zN, zN, (.goto (-53), 5, 0, []), zN, zN, (.iload_n 3, 3, 0, []), (.ireturn, 0, 0, [])]]
def zcX11_passDay : List (List zE) := [[(.iconst (-1), 0, 0, []), (.istore_n 2, 2, 0, []), (.aload_n 1, 1, 0, []), (.getfield 142, 0, 3, []), zN, zN, (.ifCond .le 57, 63, 0, []), zN, zN, (.aload_n 1, 1, 0, []), (.invokevirtual 229, 1000, 0, [(0, 2)]), zN, zN, (.istore_n 2, 2, 0, []), (.iconst 0, 0, 0, []), (.istore_n 3, 3, 0, [])], [(.iload_n 3, 3, 0, []), (.aload_n 1, 1, 0, []), (.getfield 124, 0, 2, []), zN, zN, (.if_icmp .ge 22, 43, 0, []), zN, zN, (.aload_n 0, 0, 0, []), (.aload_n 1, 1, 0, []), (.aload_n 1, 1, 0, []), (.getfield 108, 0, 0, []), zN, zN, (.iload_n 3, 3, 0, []), (.aaload, 0, 0, [])], [(.iload_n 2, 2, 0, []), (.invokevirtual 232, 1000, 3, [(11, 100)]), zN, zN, (.istore_n 2, 2, 0, []), (.iinc 3 1, 3, 0, []), zN, zN, (.goto (-24), 16, 0, []), zN, zN, (.aload_n 1, 1, 0, []), (.getfield 148, 0, 5, []), zN, zN, (.sipush 999, 0, 0, [])], [zN, zN, (.if_icmp .ge 13, 63, 0, []), zN, zN, (.aload_n 1, 1, 0, []), (.dup, 0, 0, []), (.getfield 148, 0, 5, []), zN, zN, (.iconst 1, 0, 0, []), (.iadd, 0, 0, []), (.putfield 148, 0, 5, []), zN, zN, (.aload_n 1, 1, 0, [])], [(.dup, 0, 0, []), (.getfield 105, 0, 4, []), zN, zN, (.iconst 1, 0, 0, []), (.iadd, 0, 0, []), (.putfield 105, 0, 4, []), zN, zN, (.iload_n 2, 2, 0, []), (.ireturn, 0, 0, [])]]
def zcX11_tellTruly : List (List zE) := [[(.aload_n 0, 0, 0, []), (.aload_n 1, 1, 0, []), (.aload_n 2, 2, 0, []), (.iload_n 3, 3, 0, []), (.invokevirtual 151, 1000, 3, [(11, 94)]), zN, zN, (.istore 4, 4, 0, []), zN, (.aload_n 0, 0, 0, []), (.aload_n 1, 1, 0, []), (.aload_n 2, 2, 0, []), (.iload_n 3, 3, 0, []), (.invokevirtual 158, 1000, 3, [(11, 95)]), zN, zN], [(.istore 5, 5, 0, []), zN, (.aload_n 0, 0, 0, []), (.aload_n 1, 1, 0, []), (.aload_n 2, 2, 0, []), (.iload_n 3, 3, 0, []), (.invokevirtual 161, 1000, 3, [(11, 96)]), zN, zN, (.ifCond .eq 30, 55, 0, []), zN, zN, (.aload_n 2, 2, 0, []), (.astore 6, 6, 0, []), zN, (.aload 6, 6, 0, [])], [zN, (.aload 6, 6, 0, []), zN, (.getfield 133, 5, 2, []), zN, zN, (.iload_n 3, 3, 0, []), (.aload_n 2, 2, 0, []), (.getfield 133, 5, 2, []), zN, zN, (.iconst (-1), 0, 0, []), (.ixor, 0, 0, []), (.iand, 0, 0, []), (.invokestatic 235, 102, 1, [(0, 0)]), zN], [zN, (.ior, 0, 0, []), (.dup_x1, 0, 0, []), (.putfield 133, 5, 2, []), zN, zN, (.pop, 0, 0, []), (.aload_n 2, 2, 0, []), (.iconst 0, 0, 0, []), (.aload_n 2, 2, 0, []), (.getfield 136, 5, 3, []), zN, zN, (.iload 5, 5, 0, []), zN, (.isub, 0, 0, [])], [(.invokestatic 238, 203, 2, [(0, 0)]), zN, zN, (.putfield 136, 5, 3, []), zN, zN, (.aload_n 2, 2, 0, []), (.bipush 99, 0, 0, []), zN, (.aload_n 2, 2, 0, []), (.getfield 139, 5, 4, []), zN, zN, (.iconst 1, 0, 0, []), (.iadd, 0, 0, []), (.invokestatic 243, 204, 2, [(0, 0)])], [zN, zN, (.putfield 139, 5, 4, []), zN, zN, (.iload 4, 4, 0, []), zN, (.ireturn, 0, 0, [])]]
def zcX11_off : List (List zE) := [[(.iload_n 0, 0, 0, []), (.iload_n 1, 1, 0, []), (.ixor, 0, 0, []), (.invokestatic 246, 202, 1, [(0, 0)]), zN, zN, (.ireturn, 0, 0, [])]]
def zcX11_lowest : List (List zE) := [[(.iload_n 0, 0, 0, []), (.iload_n 0, 0, 0, []), (.ineg, 0, 0, []), (.iand, 0, 0, []), (.ireturn, 0, 0, [])]]
def zcX11_within : List (List zE) := [[(.iconst 0, 0, 0, []), (.iload_n 1, 1, 0, []), (.iload_n 0, 0, 0, []), (.invokestatic 243, 204, 2, [(0, 0)]), zN, zN, (.invokestatic 238, 203, 2, [(0, 0)]), zN, zN, (.ireturn, 0, 0, [])]]
def zcX11_fro : List (List zE) := [[(.iload_n 1, 1, 0, []), (.invokestatic 121, 83, 1, [(0, 0)]), zN, zN, (.ifCond .eq 12, 16, 0, []), zN, zN, (.iload_n 2, 2, 0, []), (.ifCond .lt 8, 16, 0, []), zN, zN, (.iload_n 2, 2, 0, []), (.iconst 1, 0, 0, []), (.if_icmp .le 6, 19, 0, []), zN, zN], [(.bipush (-2), 0, 0, []), zN, (.ireturn, 0, 0, []), (.aload_n 0, 0, 0, []), (.getfield 44, 11, 10, []), zN, zN, (.iconst 0, 0, 0, []), (.iload_n 1, 1, 0, []), (.iastore, 0, 0, []), (.iconst 1, 0, 0, []), (.istore_n 3, 3, 0, []), (.iload_n 3, 3, 0, []), (.bipush 60, 0, 0, []), zN, (.if_icmp .gt 77, 108, 0, [])], [zN, zN, (.aload_n 0, 0, 0, []), (.getfield 44, 11, 10, []), zN, zN, (.iload_n 3, 3, 0, []), (.aload_n 0, 0, 0, []), (.aload_n 0, 0, 0, []), (.getfield 18, 11, 1, []), zN, zN, (.aload_n 0, 0, 0, []), (.getfield 44, 11, 10, []), zN, zN], [(.iload_n 3, 3, 0, []), (.iconst 1, 0, 0, []), (.isub, 0, 0, []), (.iaload, 0, 0, []), (.invokevirtual 251, 1000, 2, [(11, 97)]), zN, zN, (.iastore, 0, 0, []), (.iconst 0, 0, 0, []), (.istore 4, 4, 0, []), zN, (.iload 4, 4, 0, []), zN, (.iload_n 3, 3, 0, []), (.if_icmp .ge 40, 102, 0, []), zN], [zN, (.aload_n 0, 0, 0, []), (.getfield 44, 11, 10, []), zN, zN, (.iload 4, 4, 0, []), zN, (.iaload, 0, 0, []), (.aload_n 0, 0, 0, []), (.getfield 44, 11, 10, []), zN, zN, (.iload_n 3, 3, 0, []), (.iaload, 0, 0, []), (.if_icmp .ne 18, 96, 0, []), zN], [zN, (.iload_n 2, 2, 0, []), (.ifCond .ne 7, 89, 0, []), zN, zN, (.iload_n 3, 3, 0, []), (.goto 9, 95, 0, []), zN, zN, (.aload_n 0, 0, 0, []), (.getfield 44, 11, 10, []), zN, zN, (.iload_n 3, 3, 0, []), (.iaload, 0, 0, []), (.ireturn, 0, 0, [])], [(.iinc 4 1, 4, 0, []), zN, zN, (.goto (-40), 59, 0, []), zN, zN, (.iinc 3 1, 3, 0, []), zN, zN, (.goto (-77), 28, 0, []), zN, zN, (.iconst (-1), 0, 0, []), (.ireturn, 0, 0, [])]]
def zcX11_row : List (List zE) := [[(.iload_n 1, 1, 0, []), (.invokestatic 121, 83, 1, [(0, 0)]), zN, zN, (.ifCond .eq 22, 26, 0, []), zN, zN, (.iload_n 2, 2, 0, []), (.iconst 1, 0, 0, []), (.if_icmp .lt 17, 26, 0, []), zN, zN, (.iload_n 2, 2, 0, []), (.iconst 3, 0, 0, []), (.if_icmp .gt 12, 26, 0, []), zN], [zN, (.iload_n 3, 3, 0, []), (.ifCond .lt 8, 26, 0, []), zN, zN, (.iload_n 3, 3, 0, []), (.iconst 1, 0, 0, []), (.if_icmp .le 6, 29, 0, []), zN, zN, (.bipush (-2), 0, 0, []), zN, (.ireturn, 0, 0, []), (.aload_n 0, 0, 0, []), (.iconst (-1), 0, 0, []), (.putfield 255, 11, 11, [])], [zN, zN, (.aload_n 0, 0, 0, []), (.iconst (-1), 0, 0, []), (.putfield 258, 11, 12, []), zN, zN, (.iconst 1, 0, 0, []), (.istore 4, 4, 0, []), zN, (.iload 4, 4, 0, []), zN, (.iload_n 2, 2, 0, []), (.if_icmp .gt 19, 64, 0, []), zN, zN], [(.aload_n 0, 0, 0, []), (.iload_n 1, 1, 0, []), (.iload_n 1, 1, 0, []), (.iconst 0, 0, 0, []), (.iconst 0, 0, 0, []), (.iload 4, 4, 0, []), zN, (.invokevirtual 261, 1000, 5, [(11, 106)]), zN, zN, (.iinc 4 1, 4, 0, []), zN, zN, (.goto (-19), 42, 0, []), zN, zN], [(.iload_n 3, 3, 0, []), (.ifCond .ne 10, 75, 0, []), zN, zN, (.aload_n 0, 0, 0, []), (.getfield 255, 11, 11, []), zN, zN, (.goto 7, 79, 0, []), zN, zN, (.aload_n 0, 0, 0, []), (.getfield 258, 11, 12, []), zN, zN, (.ireturn, 0, 0, [])]]
def zcX11_tryRows : List (List zE) := [[(.iload 5, 5, 0, []), zN, (.ifCond .gt 39, 41, 0, []), zN, zN, (.iload_n 1, 1, 0, []), (.iload_n 2, 2, 0, []), (.invokestatic 186, 101, 2, [(0, 0)]), zN, zN, (.istore 6, 6, 0, []), zN, (.aload_n 0, 0, 0, []), (.getfield 258, 11, 12, []), zN, zN], [(.iconst (-1), 0, 0, []), (.if_icmp .eq 12, 29, 0, []), zN, zN, (.iload 6, 6, 0, []), zN, (.aload_n 0, 0, 0, []), (.getfield 258, 11, 12, []), zN, zN, (.if_icmp .ge 14, 40, 0, []), zN, zN, (.aload_n 0, 0, 0, []), (.iload 6, 6, 0, []), zN], [(.putfield 258, 11, 12, []), zN, zN, (.aload_n 0, 0, 0, []), (.iload_n 3, 3, 0, []), (.putfield 255, 11, 11, []), zN, zN, (.return_, 0, 0, []), (.iconst 0, 0, 0, []), (.istore 6, 6, 0, []), zN, (.iload 6, 6, 0, []), zN, (.aload_n 0, 0, 0, []), (.getfield 18, 11, 1, [])], [zN, zN, (.getfield 124, 0, 2, []), zN, zN, (.if_icmp .ge 66, 119, 0, []), zN, zN, (.iload 4, 4, 0, []), zN, (.iconst 1, 0, 0, []), (.iload 6, 6, 0, []), zN, (.ishl, 0, 0, []), (.iand, 0, 0, []), (.ifCond .eq 6, 69, 0, [])], [zN, zN, (.goto 47, 113, 0, []), zN, zN, (.aload_n 0, 0, 0, []), (.iload_n 1, 1, 0, []), (.aload_n 0, 0, 0, []), (.aload_n 0, 0, 0, []), (.getfield 18, 11, 1, []), zN, zN, (.aload_n 0, 0, 0, []), (.getfield 18, 11, 1, []), zN, zN], [(.getfield 108, 0, 0, []), zN, zN, (.iload 6, 6, 0, []), zN, (.aaload, 0, 0, []), (.iload_n 2, 2, 0, []), (.invokevirtual 151, 1000, 3, [(11, 94)]), zN, zN, (.iload_n 3, 3, 0, []), (.bipush 10, 0, 0, []), zN, (.imul, 0, 0, []), (.iload 6, 6, 0, []), zN], [(.iadd, 0, 0, []), (.iconst 1, 0, 0, []), (.iadd, 0, 0, []), (.iload 4, 4, 0, []), zN, (.iconst 1, 0, 0, []), (.iload 6, 6, 0, []), zN, (.ishl, 0, 0, []), (.ior, 0, 0, []), (.iload 5, 5, 0, []), zN, (.iconst 1, 0, 0, []), (.isub, 0, 0, []), (.invokevirtual 261, 1000, 5, [(11, 106)]), zN], [zN, (.iinc 6 1, 6, 0, []), zN, zN, (.goto (-72), 44, 0, []), zN, zN, (.return_, 0, 0, [])]]
def zcX11_learn : List (List zE) := [[(.iload_n 1, 1, 0, []), (.invokestatic 121, 83, 1, [(0, 0)]), zN, zN, (.ifCond .eq 12, 16, 0, []), zN, zN, (.iload_n 2, 2, 0, []), (.ifCond .lt 8, 16, 0, []), zN, zN, (.iload_n 2, 2, 0, []), (.iconst 1, 0, 0, []), (.if_icmp .le 6, 19, 0, []), zN, zN], [(.bipush (-2), 0, 0, []), zN, (.ireturn, 0, 0, []), (.iconst (-1), 0, 0, []), (.istore_n 3, 3, 0, []), (.bipush 11, 0, 0, []), zN, (.istore 4, 4, 0, []), zN, (.aload_n 0, 0, 0, []), (.getfield 25, 11, 3, []), zN, zN, (.aload_n 0, 0, 0, []), (.getfield 18, 11, 1, []), zN], [zN, (.invokevirtual 197, 1000, 1, [(0, 3)]), zN, zN, (.iconst 0, 0, 0, []), (.istore 5, 5, 0, []), zN, (.iload 5, 5, 0, []), zN, (.sipush 1024, 0, 0, []), zN, zN, (.if_icmp .ge 41, 85, 0, []), zN, zN, (.iload 5, 5, 0, [])], [zN, (.invokestatic 246, 202, 1, [(0, 0)]), zN, zN, (.istore 6, 6, 0, []), zN, (.iload 6, 6, 0, []), zN, (.iload 4, 4, 0, []), zN, (.if_icmp .ge 21, 79, 0, []), zN, zN, (.aload_n 0, 0, 0, []), (.iload 5, 5, 0, []), zN], [(.iload_n 1, 1, 0, []), (.invokevirtual 265, 1000, 2, [(11, 108)]), zN, zN, (.iload_n 1, 1, 0, []), (.if_icmp .ne 10, 79, 0, []), zN, zN, (.iload 5, 5, 0, []), zN, (.istore_n 3, 3, 0, []), (.iload 6, 6, 0, []), zN, (.istore 4, 4, 0, []), zN, (.iinc 5 1, 5, 0, [])], [zN, zN, (.goto (-43), 39, 0, []), zN, zN, (.iload_n 3, 3, 0, []), (.iconst (-1), 0, 0, []), (.if_icmp .ne 5, 92, 0, []), zN, zN, (.iconst (-1), 0, 0, []), (.ireturn, 0, 0, []), (.iload_n 2, 2, 0, []), (.ifCond .ne 7, 100, 0, []), zN, zN], [(.iload_n 3, 3, 0, []), (.goto 5, 102, 0, []), zN, zN, (.iload 4, 4, 0, []), zN, (.ireturn, 0, 0, [])]]
def zcX11_toldWithMore : List (List zE) := [[(.iconst 0, 0, 0, []), (.istore_n 3, 3, 0, []), (.iload_n 3, 3, 0, []), (.aload_n 0, 0, 0, []), (.getfield 25, 11, 3, []), zN, zN, (.getfield 124, 0, 2, []), zN, zN, (.if_icmp .ge 35, 45, 0, []), zN, zN, (.aload_n 0, 0, 0, []), (.getfield 25, 11, 3, []), zN], [zN, (.getfield 108, 0, 0, []), zN, zN, (.iload_n 3, 3, 0, []), (.aaload, 0, 0, []), (.aload_n 0, 0, 0, []), (.getfield 18, 11, 1, []), zN, zN, (.getfield 108, 0, 0, []), zN, zN, (.iload_n 3, 3, 0, []), (.aaload, 0, 0, []), (.getfield 133, 5, 2, [])], [zN, zN, (.iload_n 1, 1, 0, []), (.ior, 0, 0, []), (.putfield 133, 5, 2, []), zN, zN, (.iinc 3 1, 3, 0, []), zN, zN, (.goto (-40), 2, 0, []), zN, zN, (.aload_n 0, 0, 0, []), (.aload_n 0, 0, 0, []), (.getfield 25, 11, 3, [])], [zN, zN, (.iload_n 2, 2, 0, []), (.invokevirtual 251, 1000, 2, [(11, 97)]), zN, zN, (.ireturn, 0, 0, [])]]
def zcX11_from : List (List zE) := [[(.iload_n 1, 1, 0, []), (.invokestatic 121, 83, 1, [(0, 0)]), zN, zN, (.ifCond .eq 12, 16, 0, []), zN, zN, (.iload_n 2, 2, 0, []), (.ifCond .lt 8, 16, 0, []), zN, zN, (.iload_n 2, 2, 0, []), (.iconst 1, 0, 0, []), (.if_icmp .le 6, 19, 0, []), zN, zN], [(.bipush (-2), 0, 0, []), zN, (.ireturn, 0, 0, []), (.iconst 0, 0, 0, []), (.istore_n 3, 3, 0, []), (.iconst (-1), 0, 0, []), (.istore 4, 4, 0, []), zN, (.iconst 0, 0, 0, []), (.istore 5, 5, 0, []), zN, (.iload 5, 5, 0, []), zN, (.sipush 1024, 0, 0, []), zN, zN], [(.if_icmp .ge 37, 69, 0, []), zN, zN, (.aload_n 0, 0, 0, []), (.aload_n 0, 0, 0, []), (.getfield 18, 11, 1, []), zN, zN, (.iload 5, 5, 0, []), zN, (.invokevirtual 251, 1000, 2, [(11, 97)]), zN, zN, (.iload_n 1, 1, 0, []), (.if_icmp .eq 6, 52, 0, []), zN], [zN, (.goto 14, 63, 0, []), zN, zN, (.iload_n 3, 3, 0, []), (.ifCond .ne 7, 60, 0, []), zN, zN, (.iload 5, 5, 0, []), zN, (.istore 4, 4, 0, []), zN, (.iinc 3 1, 3, 0, []), zN, zN, (.iinc 5 1, 5, 0, [])], [zN, zN, (.goto (-39), 27, 0, []), zN, zN, (.iload_n 2, 2, 0, []), (.ifCond .ne 7, 77, 0, []), zN, zN, (.iload_n 3, 3, 0, []), (.goto 5, 79, 0, []), zN, zN, (.iload 4, 4, 0, []), zN, (.ireturn, 0, 0, [])]]
def zcX11_mean : List (List zE) := [[(.iload_n 1, 1, 0, []), (.ifCond .lt 18, 19, 0, []), zN, zN, (.iload_n 1, 1, 0, []), (.iconst 1, 0, 0, []), (.if_icmp .gt 13, 19, 0, []), zN, zN, (.aload_n 0, 0, 0, []), (.getfield 18, 11, 1, []), zN, zN, (.getfield 124, 0, 2, []), zN, zN], [(.ifCond .ne 7, 23, 0, []), zN, zN, (.ldc2_w 268, 0, 0, [((-4611686018427387904), 0)]), zN, zN, (.lreturn, 0, 0, []), (.iconst 0, 0, 0, []), (.istore_n 2, 2, 0, []), (.iconst 0, 0, 0, []), (.istore_n 3, 3, 0, []), (.iload_n 3, 3, 0, []), (.aload_n 0, 0, 0, []), (.getfield 18, 11, 1, []), zN, zN], [(.getfield 124, 0, 2, []), zN, zN, (.if_icmp .ge 27, 62, 0, []), zN, zN, (.iload_n 2, 2, 0, []), (.aload_n 0, 0, 0, []), (.getfield 18, 11, 1, []), zN, zN, (.getfield 108, 0, 0, []), zN, zN, (.iload_n 3, 3, 0, []), (.aaload, 0, 0, [])], [(.getfield 133, 5, 2, []), zN, zN, (.invokestatic 246, 202, 1, [(0, 0)]), zN, zN, (.iadd, 0, 0, []), (.istore_n 2, 2, 0, []), (.iinc 3 1, 3, 0, []), zN, zN, (.goto (-32), 27, 0, []), zN, zN, (.iload_n 2, 2, 0, []), (.aload_n 0, 0, 0, [])], [(.getfield 18, 11, 1, []), zN, zN, (.getfield 124, 0, 2, []), zN, zN, (.iload_n 1, 1, 0, []), (.invokestatic 270, 111, 3, [(0, 0)]), zN, zN, (.lreturn, 0, 0, [])]]
def zcX11_inLowestTerms : List (List zE) := [[(.iload_n 0, 0, 0, []), (.iload_n 1, 1, 0, []), (.invokestatic 274, 112, 2, [(0, 0)]), zN, zN, (.istore_n 3, 3, 0, []), (.iload_n 3, 3, 0, []), (.ifCond .ne 7, 14, 0, []), zN, zN, (.ldc2_w 268, 0, 0, [((-4611686018427387904), 0)]), zN, zN, (.lreturn, 0, 0, []), (.iload_n 2, 2, 0, []), (.ifCond .ne 7, 22, 0, [])], [zN, zN, (.iload_n 0, 0, 0, []), (.goto 4, 23, 0, []), zN, zN, (.iload_n 1, 1, 0, []), (.iload_n 3, 3, 0, []), (.idiv, 0, 0, []), (.i2l, 0, 0, []), (.lreturn, 0, 0, [])]]
def zcX11_commonDivisor : List (List zE) := [[(.iload_n 0, 0, 0, []), (.istore_n 2, 2, 0, []), (.iload_n 1, 1, 0, []), (.istore_n 3, 3, 0, []), (.iconst 0, 0, 0, []), (.istore 4, 4, 0, []), zN, (.iload 4, 4, 0, []), zN, (.bipush 64, 0, 0, []), zN, (.if_icmp .ge 23, 34, 0, []), zN, zN, (.iload_n 3, 3, 0, []), (.ifCond .eq 19, 34, 0, [])], [zN, zN, (.iload_n 2, 2, 0, []), (.iload_n 3, 3, 0, []), (.irem, 0, 0, []), (.istore 5, 5, 0, []), zN, (.iload_n 3, 3, 0, []), (.istore_n 2, 2, 0, []), (.iload 5, 5, 0, []), zN, (.istore_n 3, 3, 0, []), (.iinc 4 1, 4, 0, []), zN, zN, (.goto (-24), 7, 0, [])], [zN, zN, (.iload_n 2, 2, 0, []), (.ireturn, 0, 0, [])]]
def zcX11_tells : List (List zE) := [[(.iload_n 1, 1, 0, []), (.invokestatic 171, 129, 1, [(0, 0)]), zN, zN, (.ifCond .eq 24, 28, 0, []), zN, zN, (.aload_n 0, 0, 0, []), (.getfield 18, 11, 1, []), zN, zN, (.iload_n 2, 2, 0, []), (.invokevirtual 98, 1000, 1, [(0, 1)]), zN, zN, (.ifCond .eq 13, 28, 0, [])], [zN, zN, (.iload_n 3, 3, 0, []), (.ifCond .lt 9, 28, 0, []), zN, zN, (.iload_n 3, 3, 0, []), (.bipush 8, 0, 0, []), zN, (.if_icmp .le 6, 31, 0, []), zN, zN, (.bipush (-2), 0, 0, []), zN, (.ireturn, 0, 0, []), (.aload_n 0, 0, 0, [])], [(.getfield 40, 11, 9, []), zN, zN, (.iload_n 1, 1, 0, []), (.aaload, 0, 0, []), (.astore 4, 4, 0, []), zN, (.aload 4, 4, 0, []), zN, (.invokevirtual 174, 1000, 0, [(8, 60)]), zN, zN, (.ifCond .eq 6, 50, 0, []), zN, zN, (.bipush (-11), 0, 0, [])], [zN, (.ireturn, 0, 0, []), (.aload 4, 4, 0, []), zN, (.getfield 178, 8, 2, []), zN, zN, (.bipush 10, 0, 0, []), zN, (.if_icmp .le 6, 63, 0, []), zN, zN, (.bipush (-2), 0, 0, []), zN, (.ireturn, 0, 0, []), (.aload_n 0, 0, 0, [])], [(.getfield 25, 11, 3, []), zN, zN, (.aload_n 0, 0, 0, []), (.getfield 18, 11, 1, []), zN, zN, (.invokevirtual 197, 1000, 1, [(0, 3)]), zN, zN, (.iload_n 3, 3, 0, []), (.tableswitch 142 0 7 #[45, 53, 65, 77, 89, 101, 114, 127], 217, 0, [(0, 120), (1, 128), (2, 140), (3, 152), (4, 164), (5, 176), (6, 189), (7, 202)]), zN, zN, zN, zN], [zN, zN, zN, zN, zN, zN, zN, zN, zN, zN, zN, zN, zN, zN, zN, zN], [zN, zN, zN, zN, zN, zN, zN, zN, zN, zN, zN, zN, zN, zN, zN, zN], [zN, zN, zN, zN, zN, zN, zN, zN, (.aload_n 0, 0, 0, []), (.aload 4, 4, 0, []), zN, (.iload_n 2, 2, 0, []), (.invokevirtual 277, 1000, 2, [(11, 116)]), zN, zN, (.ireturn, 0, 0, [])], [(.aload_n 0, 0, 0, []), (.aload 4, 4, 0, []), zN, (.iload_n 2, 2, 0, []), (.iconst 5, 0, 0, []), (.bipush 6, 0, 0, []), zN, (.iconst 0, 0, 0, []), (.invokevirtual 280, 1000, 5, [(11, 114)]), zN, zN, (.ireturn, 0, 0, []), (.aload_n 0, 0, 0, []), (.aload 4, 4, 0, []), zN, (.iload_n 2, 2, 0, [])], [(.iconst 1, 0, 0, []), (.bipush 10, 0, 0, []), zN, (.iconst 0, 0, 0, []), (.invokevirtual 280, 1000, 5, [(11, 114)]), zN, zN, (.ireturn, 0, 0, []), (.aload_n 0, 0, 0, []), (.aload 4, 4, 0, []), zN, (.iload_n 2, 2, 0, []), (.iconst 3, 0, 0, []), (.bipush 100, 0, 0, []), zN, (.iconst 1, 0, 0, [])], [(.invokevirtual 280, 1000, 5, [(11, 114)]), zN, zN, (.ireturn, 0, 0, []), (.aload_n 0, 0, 0, []), (.aload 4, 4, 0, []), zN, (.iload_n 2, 2, 0, []), (.iconst 3, 0, 0, []), (.bipush 100, 0, 0, []), zN, (.iconst 2, 0, 0, []), (.invokevirtual 280, 1000, 5, [(11, 114)]), zN, zN, (.ireturn, 0, 0, [])], [(.aload_n 0, 0, 0, []), (.aload 4, 4, 0, []), zN, (.iload_n 2, 2, 0, []), (.iconst 2, 0, 0, []), (.sipush 1024, 0, 0, []), zN, zN, (.iconst 1, 0, 0, []), (.invokevirtual 280, 1000, 5, [(11, 114)]), zN, zN, (.ireturn, 0, 0, []), (.aload_n 0, 0, 0, []), (.aload 4, 4, 0, []), zN], [(.iload_n 2, 2, 0, []), (.iconst 2, 0, 0, []), (.sipush 1024, 0, 0, []), zN, zN, (.iconst 2, 0, 0, []), (.invokevirtual 280, 1000, 5, [(11, 114)]), zN, zN, (.ireturn, 0, 0, []), (.aload_n 0, 0, 0, []), (.aload 4, 4, 0, []), zN, (.iload_n 2, 2, 0, []), (.bipush 9, 0, 0, []), zN], [(.aload_n 0, 0, 0, []), (.getfield 94, 11, 7, []), zN, zN, (.iconst 0, 0, 0, []), (.invokevirtual 280, 1000, 5, [(11, 114)]), zN, zN, (.ireturn, 0, 0, []), (.aload_n 0, 0, 0, []), (.aload 4, 4, 0, []), zN, (.iload_n 2, 2, 0, []), (.bipush 10, 0, 0, []), zN, (.aload_n 0, 0, 0, [])], [(.getfield 25, 11, 3, []), zN, zN, (.getfield 124, 0, 2, []), zN, zN, (.iconst 0, 0, 0, []), (.invokevirtual 280, 1000, 5, [(11, 114)]), zN, zN, (.ireturn, 0, 0, [])]]
def zcX11_suiting : List (List zE) := [[(.iconst 0, 0, 0, []), (.istore 6, 6, 0, []), zN, (.iconst 0, 0, 0, []), (.istore 7, 7, 0, []), zN, (.iconst (-1), 0, 0, []), (.istore 8, 8, 0, []), zN, (.iconst 0, 0, 0, []), (.istore 9, 9, 0, []), zN, (.iload 9, 9, 0, []), zN, (.iload 4, 4, 0, []), zN], [(.if_icmp .ge 74, 90, 0, []), zN, zN, (.iload_n 3, 3, 0, []), (.bipush 10, 0, 0, []), zN, (.if_icmp .ne 8, 30, 0, []), zN, zN, (.iload 9, 9, 0, []), zN, (.goto 4, 31, 0, []), zN, zN, (.iload_n 2, 2, 0, []), (.istore 10, 10, 0, [])], [zN, (.aload_n 0, 0, 0, []), (.iload 10, 10, 0, []), zN, (.iload_n 3, 3, 0, []), (.iload 9, 9, 0, []), zN, (.invokevirtual 284, 1000, 3, [(11, 115)]), zN, zN, (.aload_n 0, 0, 0, []), (.aload_n 1, 1, 0, []), (.iload 10, 10, 0, []), zN, (.invokevirtual 277, 1000, 2, [(11, 116)]), zN], [zN, (.iconst (-1), 0, 0, []), (.if_icmp .eq 6, 56, 0, []), zN, zN, (.goto 31, 84, 0, []), zN, zN, (.iload 7, 7, 0, []), zN, (.ifCond .ne 7, 65, 0, []), zN, zN, (.iload 9, 9, 0, []), zN, (.istore 8, 8, 0, [])], [zN, (.iinc 7 1, 7, 0, []), zN, zN, (.iload 9, 9, 0, []), zN, (.bipush 31, 0, 0, []), zN, (.if_icmp .ge 12, 84, 0, []), zN, zN, (.iload 6, 6, 0, []), zN, (.iconst 1, 0, 0, []), (.iload 9, 9, 0, []), zN], [(.ishl, 0, 0, []), (.ior, 0, 0, []), (.istore 6, 6, 0, []), zN, (.iinc 9 1, 9, 0, []), zN, zN, (.goto (-75), 12, 0, []), zN, zN, (.iload 5, 5, 0, []), zN, (.lookupswitch 34 #[(0, 28), (1, 31)], 126, 0, [(0, 120), (1, 123)]), zN, zN, zN], [zN, zN, zN, zN, zN, zN, zN, zN, zN, zN, zN, zN, zN, zN, zN, zN], [zN, zN, zN, zN, zN, zN, zN, zN, (.iload 6, 6, 0, []), zN, (.ireturn, 0, 0, []), (.iload 7, 7, 0, []), zN, (.ireturn, 0, 0, []), (.iload 8, 8, 0, []), zN], [(.ireturn, 0, 0, [])]]
def zcX11_vary : List (List zE) := [[(.iload_n 2, 2, 0, []), (.bipush 9, 0, 0, []), zN, (.if_icmp .ne 14, 17, 0, []), zN, zN, (.aload_n 0, 0, 0, []), (.getfield 25, 11, 3, []), zN, zN, (.iload_n 3, 3, 0, []), (.putfield 168, 0, 6, []), zN, zN, (.goto 34, 48, 0, []), zN], [zN, (.iload_n 2, 2, 0, []), (.bipush 10, 0, 0, []), zN, (.if_icmp .eq 28, 48, 0, []), zN, zN, (.aload_n 0, 0, 0, []), (.getfield 25, 11, 3, []), zN, zN, (.iload_n 1, 1, 0, []), (.invokevirtual 98, 1000, 1, [(0, 1)]), zN, zN, (.ifCond .eq 17, 48, 0, [])], [zN, zN, (.aload_n 0, 0, 0, []), (.getfield 25, 11, 3, []), zN, zN, (.getfield 108, 0, 0, []), zN, zN, (.iload_n 1, 1, 0, []), (.aaload, 0, 0, []), (.iload_n 2, 2, 0, []), (.iload_n 3, 3, 0, []), (.invokevirtual 117, 1000, 2, [(5, 28)]), zN, zN], [(.return_, 0, 0, [])]]
def zcX11_firstOtherwise : List (List zE) := [[(.aload_n 0, 0, 0, []), (.getfield 25, 11, 3, []), zN, zN, (.iload_n 2, 2, 0, []), (.invokevirtual 98, 1000, 1, [(0, 1)]), zN, zN, (.ifCond .ne 5, 13, 0, []), zN, zN, (.iconst 0, 0, 0, []), (.ireturn, 0, 0, []), (.iconst 0, 0, 0, []), (.istore_n 3, 3, 0, []), (.iload_n 3, 3, 0, [])], [(.aload_n 1, 1, 0, []), (.getfield 178, 8, 2, []), zN, zN, (.if_icmp .ge 40, 60, 0, []), zN, zN, (.aload_n 0, 0, 0, []), (.aload_n 0, 0, 0, []), (.getfield 25, 11, 3, []), zN, zN, (.aload_n 0, 0, 0, []), (.getfield 25, 11, 3, []), zN, zN], [(.getfield 108, 0, 0, []), zN, zN, (.iload_n 2, 2, 0, []), (.aaload, 0, 0, []), (.iconst 1, 0, 0, []), (.iload_n 3, 3, 0, []), (.ishl, 0, 0, []), (.invokevirtual 151, 1000, 3, [(11, 94)]), zN, zN, (.aload_n 1, 1, 0, []), (.getfield 179, 8, 0, []), zN, zN, (.iload_n 3, 3, 0, [])], [(.iaload, 0, 0, []), (.if_icmp .eq 5, 54, 0, []), zN, zN, (.iload_n 3, 3, 0, []), (.ireturn, 0, 0, []), (.iinc 3 1, 3, 0, []), zN, zN, (.goto (-42), 15, 0, []), zN, zN, (.iconst (-1), 0, 0, []), (.ireturn, 0, 0, [])]]
def zcX11_film : List (List zE) := [[(.iload_n 1, 1, 0, []), (.invokestatic 171, 129, 1, [(0, 0)]), zN, zN, (.ifCond .eq 14, 18, 0, []), zN, zN, (.aload_n 0, 0, 0, []), (.getfield 18, 11, 1, []), zN, zN, (.iload_n 2, 2, 0, []), (.invokevirtual 98, 1000, 1, [(0, 1)]), zN, zN, (.ifCond .ne 6, 21, 0, [])], [zN, zN, (.bipush (-2), 0, 0, []), zN, (.ireturn, 0, 0, []), (.aload_n 0, 0, 0, []), (.getfield 40, 11, 9, []), zN, zN, (.iload_n 1, 1, 0, []), (.aaload, 0, 0, []), (.astore_n 3, 3, 0, []), (.iconst 0, 0, 0, []), (.istore 4, 4, 0, []), zN, (.aload_n 3, 3, 0, [])], [(.iconst 1, 0, 0, []), (.bipush 10, 0, 0, []), zN, (.invokevirtual 288, 1000, 2, [(8, 62)]), zN, zN, (.iconst 0, 0, 0, []), (.istore 5, 5, 0, []), zN, (.iload 5, 5, 0, []), zN, (.bipush 10, 0, 0, []), zN, (.if_icmp .ge 52, 97, 0, []), zN, zN], [(.aload_n 0, 0, 0, []), (.aload_n 0, 0, 0, []), (.getfield 18, 11, 1, []), zN, zN, (.aload_n 0, 0, 0, []), (.getfield 18, 11, 1, []), zN, zN, (.getfield 108, 0, 0, []), zN, zN, (.iload_n 2, 2, 0, []), (.aaload, 0, 0, []), (.iconst 1, 0, 0, []), (.iload 5, 5, 0, [])], [zN, (.ishl, 0, 0, []), (.invokevirtual 151, 1000, 3, [(11, 94)]), zN, zN, (.istore 6, 6, 0, []), zN, (.aload_n 3, 3, 0, []), (.iload 5, 5, 0, []), zN, (.iload 6, 6, 0, []), zN, (.invokevirtual 289, 1000, 2, [(8, 63)]), zN, zN, (.iload 6, 6, 0, [])], [zN, (.iconst 1, 0, 0, []), (.iload 5, 5, 0, []), zN, (.ishl, 0, 0, []), (.if_icmp .ne 6, 91, 0, []), zN, zN, (.iinc 4 1, 4, 0, []), zN, zN, (.iinc 5 1, 5, 0, []), zN, zN, (.goto (-53), 41, 0, []), zN], [zN, (.iload 4, 4, 0, []), zN, (.ireturn, 0, 0, [])]]
def zcX11_drawn : List (List zE) := [[(.iload_n 2, 2, 0, []), (.ifCond .lt 9, 10, 0, []), zN, zN, (.iload_n 2, 2, 0, []), (.bipush 40, 0, 0, []), zN, (.if_icmp .le 6, 13, 0, []), zN, zN, (.bipush (-2), 0, 0, []), zN, (.ireturn, 0, 0, []), (.aload_n 0, 0, 0, []), (.iload_n 1, 1, 0, []), (.iload_n 2, 2, 0, [])], [(.invokevirtual 291, 1000, 2, [(11, 120)]), zN, zN, (.ireturn, 0, 0, [])]]
def zcX11_chance : List (List zE) := [[(.iload_n 2, 2, 0, []), (.iconst 1, 0, 0, []), (.if_icmp .lt 30, 32, 0, []), zN, zN, (.iload_n 2, 2, 0, []), (.bipush 40, 0, 0, []), zN, (.if_icmp .gt 24, 32, 0, []), zN, zN, (.iload_n 3, 3, 0, []), (.ifCond .lt 20, 32, 0, []), zN, zN, (.iload_n 3, 3, 0, [])], [(.bipush 10, 0, 0, []), zN, (.if_icmp .gt 14, 32, 0, []), zN, zN, (.iload 4, 4, 0, []), zN, (.ifCond .lt 9, 32, 0, []), zN, zN, (.iload 4, 4, 0, []), zN, (.iconst 1, 0, 0, []), (.if_icmp .le 7, 36, 0, []), zN, zN], [(.ldc2_w 268, 0, 0, [((-4611686018427387904), 0)]), zN, zN, (.lreturn, 0, 0, []), (.iconst 0, 0, 0, []), (.istore 5, 5, 0, []), zN, (.iconst 0, 0, 0, []), (.istore 6, 6, 0, []), zN, (.iload 6, 6, 0, []), zN, (.iload_n 2, 2, 0, []), (.if_icmp .ge 25, 70, 0, []), zN, zN], [(.aload_n 0, 0, 0, []), (.iload_n 1, 1, 0, []), (.iload 6, 6, 0, []), zN, (.iadd, 0, 0, []), (.iconst 1, 0, 0, []), (.invokevirtual 291, 1000, 2, [(11, 120)]), zN, zN, (.iload_n 3, 3, 0, []), (.if_icmp .gt 6, 64, 0, []), zN, zN, (.iinc 5 1, 5, 0, []), zN, zN], [(.iinc 6 1, 6, 0, []), zN, zN, (.goto (-25), 42, 0, []), zN, zN, (.iload 5, 5, 0, []), zN, (.iload_n 2, 2, 0, []), (.iload 4, 4, 0, []), zN, (.invokestatic 270, 111, 3, [(0, 0)]), zN, zN, (.lreturn, 0, 0, [])]]
def zcX11_offOfDrawn : List (List zE) := [[(.iload_n 1, 1, 0, []), (.istore_n 3, 3, 0, []), (.iconst 0, 0, 0, []), (.istore 4, 4, 0, []), zN, (.iconst 0, 0, 0, []), (.istore 5, 5, 0, []), zN, (.iload 5, 5, 0, []), zN, (.iload_n 2, 2, 0, []), (.if_icmp .ge 49, 60, 0, []), zN, zN, (.iload_n 3, 3, 0, []), (.ldc_w 294, 0, 0, [(1103515245, 0)])], [zN, zN, (.imul, 0, 0, []), (.sipush 12345, 0, 0, []), zN, zN, (.iadd, 0, 0, []), (.istore_n 3, 3, 0, []), (.iload_n 3, 3, 0, []), (.bipush 9, 0, 0, []), zN, (.iushr, 0, 0, []), (.sipush 1024, 0, 0, []), zN, zN, (.irem, 0, 0, [])], [(.istore 6, 6, 0, []), zN, (.iload 4, 4, 0, []), zN, (.iload 6, 6, 0, []), zN, (.aload_n 0, 0, 0, []), (.aload_n 0, 0, 0, []), (.getfield 18, 11, 1, []), zN, zN, (.iload 6, 6, 0, []), zN, (.invokevirtual 251, 1000, 2, [(11, 97)]), zN, zN], [(.invokestatic 186, 101, 2, [(0, 0)]), zN, zN, (.iadd, 0, 0, []), (.istore 4, 4, 0, []), zN, (.iinc 5 1, 5, 0, []), zN, zN, (.goto (-49), 8, 0, []), zN, zN, (.iload 4, 4, 0, []), zN, (.ireturn, 0, 0, [])]]
def zcX11_image : List (List zE) := [[(.aload_n 0, 0, 0, []), (.getfield 22, 11, 2, []), zN, zN, (.aload_n 0, 0, 0, []), (.getfield 18, 11, 1, []), zN, zN, (.invokevirtual 197, 1000, 1, [(0, 3)]), zN, zN, (.aload_n 0, 0, 0, []), (.iconst 1, 0, 0, []), (.putfield 295, 11, 4, []), zN, zN], [(.aload_n 0, 0, 0, []), (.getfield 22, 11, 2, []), zN, zN, (.getfield 124, 0, 2, []), zN, zN, (.ireturn, 0, 0, [])]]
def zcX11_back : List (List zE) := [[(.aload_n 0, 0, 0, []), (.getfield 295, 11, 4, []), zN, zN, (.ifCond .ne 6, 10, 0, []), zN, zN, (.bipush (-3), 0, 0, []), zN, (.ireturn, 0, 0, []), (.aload_n 0, 0, 0, []), (.getfield 18, 11, 1, []), zN, zN, (.aload_n 0, 0, 0, []), (.getfield 22, 11, 2, [])], [zN, zN, (.invokevirtual 197, 1000, 1, [(0, 3)]), zN, zN, (.aload_n 0, 0, 0, []), (.getfield 18, 11, 1, []), zN, zN, (.getfield 124, 0, 2, []), zN, zN, (.ireturn, 0, 0, [])]]
def zcX11_count : List (List zE) := [[(.iload_n 1, 1, 0, []), (.tableswitch 84 0 5 #[39, 47, 55, 63, 68, 76], 85, 0, [(0, 40), (1, 48), (2, 56), (3, 64), (4, 69), (5, 77)]), zN, zN, zN, zN, zN, zN, zN, zN, zN, zN, zN, zN, zN, zN], [zN, zN, zN, zN, zN, zN, zN, zN, zN, zN, zN, zN, zN, zN, zN, zN], [zN, zN, zN, zN, zN, zN, zN, zN, (.aload_n 0, 0, 0, []), (.getfield 18, 11, 1, []), zN, zN, (.getfield 124, 0, 2, []), zN, zN, (.ireturn, 0, 0, [])], [(.aload_n 0, 0, 0, []), (.getfield 18, 11, 1, []), zN, zN, (.getfield 142, 0, 3, []), zN, zN, (.ireturn, 0, 0, []), (.aload_n 0, 0, 0, []), (.getfield 18, 11, 1, []), zN, zN, (.getfield 105, 0, 4, []), zN, zN, (.ireturn, 0, 0, [])], [(.aload_n 0, 0, 0, []), (.getfield 94, 11, 7, []), zN, zN, (.ireturn, 0, 0, []), (.aload_n 0, 0, 0, []), (.getfield 70, 11, 6, []), zN, zN, (.getfield 165, 7, 1, []), zN, zN, (.ireturn, 0, 0, []), (.aload_n 0, 0, 0, []), (.getfield 18, 11, 1, []), zN], [zN, (.getfield 168, 0, 6, []), zN, zN, (.ireturn, 0, 0, []), (.bipush (-2), 0, 0, []), zN, (.ireturn, 0, 0, [])]]
def zcX11_sheet : List (List zE) := [[(.iload_n 1, 1, 0, []), (.invokestatic 171, 129, 1, [(0, 0)]), zN, zN, (.ifCond .eq 13, 17, 0, []), zN, zN, (.iload_n 2, 2, 0, []), (.iconst (-1), 0, 0, []), (.if_icmp .lt 8, 17, 0, []), zN, zN, (.iload_n 2, 2, 0, []), (.iconst 3, 0, 0, []), (.if_icmp .lt 6, 20, 0, []), zN], [zN, (.bipush (-2), 0, 0, []), zN, (.ireturn, 0, 0, []), (.iload_n 2, 2, 0, []), (.iconst (-1), 0, 0, []), (.if_icmp .ne 16, 38, 0, []), zN, zN, (.aload_n 0, 0, 0, []), (.getfield 40, 11, 9, []), zN, zN, (.iload_n 1, 1, 0, []), (.aaload, 0, 0, []), (.iconst (-1), 0, 0, [])], [(.iconst 0, 0, 0, []), (.invokevirtual 288, 1000, 2, [(8, 62)]), zN, zN, (.iconst 1, 0, 0, []), (.ireturn, 0, 0, []), (.iload_n 3, 3, 0, []), (.bipush 40, 0, 0, []), zN, (.if_icmp .le 6, 47, 0, []), zN, zN, (.bipush (-2), 0, 0, []), zN, (.ireturn, 0, 0, []), (.iload_n 3, 3, 0, [])], [(.ifCond .ge 6, 54, 0, []), zN, zN, (.bipush (-14), 0, 0, []), zN, (.ireturn, 0, 0, []), (.aload_n 0, 0, 0, []), (.getfield 40, 11, 9, []), zN, zN, (.iload_n 1, 1, 0, []), (.aaload, 0, 0, []), (.iload_n 2, 2, 0, []), (.iload_n 3, 3, 0, []), (.invokevirtual 288, 1000, 2, [(8, 62)]), zN], [zN, (.iconst 1, 0, 0, []), (.ireturn, 0, 0, [])]]
def zcX11_cell : List (List zE) := [[(.iload_n 1, 1, 0, []), (.invokestatic 171, 129, 1, [(0, 0)]), zN, zN, (.ifCond .ne 6, 10, 0, []), zN, zN, (.bipush (-2), 0, 0, []), zN, (.ireturn, 0, 0, []), (.aload_n 0, 0, 0, []), (.getfield 40, 11, 9, []), zN, zN, (.iload_n 1, 1, 0, []), (.aaload, 0, 0, [])], [(.invokevirtual 174, 1000, 0, [(8, 60)]), zN, zN, (.ifCond .eq 6, 25, 0, []), zN, zN, (.bipush (-11), 0, 0, []), zN, (.ireturn, 0, 0, []), (.aload_n 0, 0, 0, []), (.getfield 40, 11, 9, []), zN, zN, (.iload_n 1, 1, 0, []), (.aaload, 0, 0, []), (.iload_n 2, 2, 0, [])], [(.iconst 1, 0, 0, []), (.invokevirtual 299, 1000, 2, [(8, 61)]), zN, zN, (.ifCond .ne 6, 42, 0, []), zN, zN, (.bipush (-12), 0, 0, []), zN, (.ireturn, 0, 0, []), (.aload_n 0, 0, 0, []), (.getfield 40, 11, 9, []), zN, zN, (.iload_n 1, 1, 0, []), (.aaload, 0, 0, [])], [(.iload_n 2, 2, 0, []), (.iload_n 3, 3, 0, []), (.invokevirtual 289, 1000, 2, [(8, 63)]), zN, zN, (.iconst 1, 0, 0, []), (.ireturn, 0, 0, [])]]
def zcX11_copy : List (List zE) := [[(.iload_n 1, 1, 0, []), (.invokestatic 171, 129, 1, [(0, 0)]), zN, zN, (.ifCond .eq 10, 14, 0, []), zN, zN, (.iload_n 3, 3, 0, []), (.invokestatic 171, 129, 1, [(0, 0)]), zN, zN, (.ifCond .ne 6, 17, 0, []), zN, zN, (.bipush (-2), 0, 0, []), zN], [(.ireturn, 0, 0, []), (.aload_n 0, 0, 0, []), (.getfield 40, 11, 9, []), zN, zN, (.iload_n 1, 1, 0, []), (.aaload, 0, 0, []), (.astore 6, 6, 0, []), zN, (.aload_n 0, 0, 0, []), (.getfield 40, 11, 9, []), zN, zN, (.iload_n 3, 3, 0, []), (.aaload, 0, 0, []), (.astore 7, 7, 0, [])], [zN, (.aload 6, 6, 0, []), zN, (.invokevirtual 174, 1000, 0, [(8, 60)]), zN, zN, (.ifCond .ne 11, 49, 0, []), zN, zN, (.aload 7, 7, 0, []), zN, (.invokevirtual 174, 1000, 0, [(8, 60)]), zN, zN, (.ifCond .eq 6, 52, 0, []), zN], [zN, (.bipush (-11), 0, 0, []), zN, (.ireturn, 0, 0, []), (.aload 6, 6, 0, []), zN, (.getfield 303, 8, 1, []), zN, zN, (.aload 7, 7, 0, []), zN, (.getfield 303, 8, 1, []), zN, zN, (.if_icmp .eq 6, 68, 0, []), zN], [zN, (.bipush (-13), 0, 0, []), zN, (.ireturn, 0, 0, []), (.aload 6, 6, 0, []), zN, (.iload_n 2, 2, 0, []), (.iload 5, 5, 0, []), zN, (.invokevirtual 299, 1000, 2, [(8, 61)]), zN, zN, (.ifCond .eq 15, 91, 0, []), zN, zN, (.aload 7, 7, 0, [])], [zN, (.iload 4, 4, 0, []), zN, (.iload 5, 5, 0, []), zN, (.invokevirtual 299, 1000, 2, [(8, 61)]), zN, zN, (.ifCond .ne 6, 94, 0, []), zN, zN, (.bipush (-12), 0, 0, []), zN, (.ireturn, 0, 0, []), (.aload 6, 6, 0, []), zN], [(.getfield 179, 8, 0, []), zN, zN, (.iload_n 2, 2, 0, []), (.aload 7, 7, 0, []), zN, (.getfield 179, 8, 0, []), zN, zN, (.iload 4, 4, 0, []), zN, (.iload 5, 5, 0, []), zN, (.invokestatic 306, 1000, 5, [(7, 0)]), zN, zN], [(.iload 5, 5, 0, []), zN, (.ireturn, 0, 0, [])]]
def zcX11_crew : List (List zE) := [[(.iload_n 1, 1, 0, []), (.invokestatic 171, 129, 1, [(0, 0)]), zN, zN, (.ifCond .eq 23, 27, 0, []), zN, zN, (.iload_n 2, 2, 0, []), (.ifCond .lt 19, 27, 0, []), zN, zN, (.iload_n 2, 2, 0, []), (.iconst 3, 0, 0, []), (.if_icmp .ge 14, 27, 0, []), zN, zN], [(.iload 4, 4, 0, []), zN, (.ifCond .lt 9, 27, 0, []), zN, zN, (.iload 4, 4, 0, []), zN, (.iconst 5, 0, 0, []), (.if_icmp .le 6, 30, 0, []), zN, zN, (.bipush (-2), 0, 0, []), zN, (.ireturn, 0, 0, []), (.aload_n 0, 0, 0, []), (.getfield 40, 11, 9, [])], [zN, zN, (.iload_n 1, 1, 0, []), (.aaload, 0, 0, []), (.astore 5, 5, 0, []), zN, (.aload 5, 5, 0, []), zN, (.invokevirtual 174, 1000, 0, [(8, 60)]), zN, zN, (.ifCond .eq 6, 49, 0, []), zN, zN, (.bipush (-11), 0, 0, []), zN], [(.ireturn, 0, 0, []), (.aload 5, 5, 0, []), zN, (.getfield 303, 8, 1, []), zN, zN, (.iload_n 2, 2, 0, []), (.if_icmp .eq 6, 61, 0, []), zN, zN, (.bipush (-13), 0, 0, []), zN, (.ireturn, 0, 0, []), (.iconst 0, 0, 0, []), (.istore 6, 6, 0, []), zN], [(.iload_n 3, 3, 0, []), (.istore 7, 7, 0, []), zN, (.iconst 0, 0, 0, []), (.istore 8, 8, 0, []), zN, (.iload 8, 8, 0, []), zN, (.iload 4, 4, 0, []), zN, (.if_icmp .ge 69, 143, 0, []), zN, zN, (.aload 5, 5, 0, []), zN, (.iload 7, 7, 0, [])], [zN, (.iconst 4, 0, 0, []), (.invokevirtual 299, 1000, 2, [(8, 61)]), zN, zN, (.ifCond .ne 6, 91, 0, []), zN, zN, (.bipush (-12), 0, 0, []), zN, (.ireturn, 0, 0, []), (.aload 5, 5, 0, []), zN, (.getfield 179, 8, 0, []), zN, zN], [(.astore 9, 9, 0, []), zN, (.aload_n 0, 0, 0, []), (.aload 9, 9, 0, []), zN, (.iload 7, 7, 0, []), zN, (.iaload, 0, 0, []), (.aload 9, 9, 0, []), zN, (.iload 7, 7, 0, []), zN, (.iconst 1, 0, 0, []), (.iadd, 0, 0, []), (.iaload, 0, 0, []), (.aload 9, 9, 0, [])], [zN, (.iload 7, 7, 0, []), zN, (.iconst 2, 0, 0, []), (.iadd, 0, 0, []), (.iaload, 0, 0, []), (.aload 9, 9, 0, []), zN, (.iload 7, 7, 0, []), zN, (.iconst 3, 0, 0, []), (.iadd, 0, 0, []), (.iaload, 0, 0, []), (.invokevirtual 312, 1000, 4, [(11, 78)]), zN, zN], [(.ifCond .lt 6, 134, 0, []), zN, zN, (.iinc 6 1, 6, 0, []), zN, zN, (.iinc 7 4, 7, 0, []), zN, zN, (.iinc 8 1, 8, 0, []), zN, zN, (.goto (-70), 70, 0, []), zN, zN, (.iload 6, 6, 0, [])], [zN, (.ireturn, 0, 0, [])]]
def zcX11_taken : List (List zE) := [[(.iload_n 2, 2, 0, []), (.ifCond .lt 9, 10, 0, []), zN, zN, (.iload_n 2, 2, 0, []), (.bipush 6, 0, 0, []), zN, (.if_icmp .lt 6, 13, 0, []), zN, zN, (.bipush (-2), 0, 0, []), zN, (.ireturn, 0, 0, []), (.aload_n 0, 0, 0, []), (.getfield 18, 11, 1, []), zN], [zN, (.iload_n 1, 1, 0, []), (.invokevirtual 98, 1000, 1, [(0, 1)]), zN, zN, (.ifCond .ne 6, 27, 0, []), zN, zN, (.bipush (-11), 0, 0, []), zN, (.ireturn, 0, 0, []), (.aload_n 0, 0, 0, []), (.getfield 18, 11, 1, []), zN, zN, (.getfield 108, 0, 0, [])], [zN, zN, (.iload_n 1, 1, 0, []), (.aaload, 0, 0, []), (.astore_n 3, 3, 0, []), (.aload_n 0, 0, 0, []), (.aload_n 3, 3, 0, []), (.invokevirtual 200, 1000, 1, [(11, 92)]), zN, zN, (.iload_n 2, 2, 0, []), (.invokevirtual 316, 1000, 1, [(9, 65), (1, 5), (2, 11), (3, 17), (4, 22), (6, 31)]), zN, zN, (.ifCond .eq 10, 56, 0, []), zN], [zN, (.aload_n 3, 3, 0, []), (.getfield 130, 5, 1, []), zN, zN, (.goto 5, 58, 0, []), zN, zN, (.bipush (-13), 0, 0, []), zN, (.ireturn, 0, 0, [])]]
def zcX11_isSheet : List (List zE) := [[(.iload_n 0, 0, 0, []), (.ifCond .lt 12, 13, 0, []), zN, zN, (.iload_n 0, 0, 0, []), (.iconst 4, 0, 0, []), (.if_icmp .ge 7, 13, 0, []), zN, zN, (.iconst 1, 0, 0, []), (.goto 4, 14, 0, []), zN, zN, (.iconst 0, 0, 0, []), (.ireturn, 1, 0, [])]]
def zcX12_in : List (List zE) := [[(.lload_n 0, 0, 0, []), (.lload_n 2, 2, 0, []), (.lcmp, 0, 0, []), (.ifCond .lt 14, 17, 0, []), zN, zN, (.lload_n 0, 0, 0, []), (.lload 4, 4, 0, []), zN, (.lcmp, 0, 0, []), (.ifCond .gt 7, 17, 0, []), zN, zN, (.iconst 1, 0, 0, []), (.goto 4, 18, 0, []), zN], [zN, (.iconst 0, 0, 0, []), (.ireturn, 1, 0, [])]]
def zcX12_within : List (List zE) := [[(.iload_n 0, 0, 0, []), (.iload_n 1, 1, 0, []), (.if_icmp .ge 7, 9, 0, []), zN, zN, (.iload_n 1, 1, 0, []), (.goto 13, 19, 0, []), zN, zN, (.iload_n 0, 0, 0, []), (.iload_n 2, 2, 0, []), (.if_icmp .le 7, 18, 0, []), zN, zN, (.iload_n 2, 2, 0, []), (.goto 4, 19, 0, [])], [zN, zN, (.iload_n 0, 0, 0, []), (.ireturn, 0, 0, [])]]
def zcX12_init : List (List zE) := [[(.aload_n 0, 0, 0, []), (.invokespecial 7, 1003, 0, [(6, 0)]), zN, zN, (.aload_n 0, 0, 0, []), (.sipush 960, 0, 0, []), zN, zN, (.newarray .int, 0, 0, []), zN, (.putfield 13, 12, 1, []), zN, zN, (.aload_n 0, 0, 0, []), (.bipush 6, 0, 0, []), zN], [(.newarray .int, 0, 0, []), zN, (.putfield 17, 12, 2, []), zN, zN, (.aload_n 0, 0, 0, []), (.sipush 160, 0, 0, []), zN, zN, (.newarray .int, 0, 0, []), zN, (.putfield 20, 12, 5, []), zN, zN, (.aload_n 0, 0, 0, []), (.bipush 25, 0, 0, [])], [zN, (.newarray .int, 0, 0, []), zN, (.putfield 23, 12, 8, []), zN, zN, (.aload_n 0, 0, 0, []), (.bipush 8, 0, 0, []), zN, (.newarray .int, 0, 0, []), zN, (.putfield 26, 12, 10, []), zN, zN, (.aload_n 0, 0, 0, []), (.bipush 36, 0, 0, [])], [zN, (.newarray .int, 0, 0, []), zN, (.putfield 29, 12, 29, []), zN, zN, (.aload_n 0, 0, 0, []), (.bipush 61, 0, 0, []), zN, (.newarray .int, 0, 0, []), zN, (.putfield 32, 12, 30, []), zN, zN, (.aload_n 0, 0, 0, []), (.bipush 25, 0, 0, [])], [zN, (.newarray .int, 0, 0, []), zN, (.putfield 35, 12, 34, []), zN, zN, (.aload_n 0, 0, 0, []), (.bipush 8, 0, 0, []), zN, (.newarray .int, 0, 0, []), zN, (.putfield 38, 12, 35, []), zN, zN, (.aload_n 0, 0, 0, []), (.iconst (-1), 0, 0, [])], [(.putfield 41, 12, 36, []), zN, zN, (.aload_n 0, 0, 0, []), (.iconst 4, 0, 0, []), (.newarray .boolean, 1, 0, []), zN, (.putfield 44, 12, 41, []), zN, zN, (.aload_n 0, 0, 0, []), (.iconst 4, 0, 0, []), (.newarray .int, 0, 0, []), zN, (.putfield 48, 12, 42, []), zN], [zN, (.aload_n 0, 0, 0, []), (.iconst 4, 0, 0, []), (.newarray .int, 0, 0, []), zN, (.putfield 51, 12, 43, []), zN, zN, (.aload_n 0, 0, 0, []), (.sipush 160, 0, 0, []), zN, zN, (.newarray .int, 0, 0, []), zN, (.putfield 54, 12, 44, []), zN], [zN, (.aload_n 0, 0, 0, []), (.iconst 0, 0, 0, []), (.bipush 107, 0, 0, []), zN, (.bipush 101, 0, 0, []), zN, (.bipush 101, 0, 0, []), zN, (.bipush 112, 0, 0, []), zN, (.bipush 115, 0, 0, []), zN, (.bipush 32, 0, 0, []), zN, (.bipush 109, 0, 0, [])], [zN, (.bipush 101, 0, 0, []), zN, (.invokevirtual 57, 1000, 9, [(12, 133)]), zN, zN, (.aload_n 0, 0, 0, []), (.bipush 8, 0, 0, []), zN, (.bipush 109, 0, 0, []), zN, (.bipush 111, 0, 0, []), zN, (.bipush 114, 0, 0, []), zN, (.bipush 121, 0, 0, [])], [zN, (.bipush 32, 0, 0, []), zN, (.bipush 59, 0, 0, []), zN, (.bipush 32, 0, 0, []), zN, (.bipush 116, 0, 0, []), zN, (.invokevirtual 57, 1000, 9, [(12, 133)]), zN, zN, (.aload_n 0, 0, 0, []), (.bipush 16, 0, 0, []), zN, (.bipush 105, 0, 0, [])], [zN, (.bipush 114, 0, 0, []), zN, (.bipush 101, 0, 0, []), zN, (.bipush 115, 0, 0, []), zN, (.bipush 32, 0, 0, []), zN, (.bipush 48, 0, 0, []), zN, (.bipush 32, 0, 0, []), zN, (.bipush 59, 0, 0, []), zN, (.invokevirtual 57, 1000, 9, [(12, 133)])], [zN, zN, (.aload_n 0, 0, 0, []), (.bipush 24, 0, 0, []), zN, (.bipush 32, 0, 0, []), zN, (.bipush 108, 0, 0, []), zN, (.bipush 101, 0, 0, []), zN, (.bipush 97, 0, 0, []), zN, (.bipush 114, 0, 0, []), zN, (.bipush 110, 0, 0, [])], [zN, (.bipush 115, 0, 0, []), zN, (.bipush 32, 0, 0, []), zN, (.invokevirtual 57, 1000, 9, [(12, 133)]), zN, zN, (.aload_n 0, 0, 0, []), (.bipush 32, 0, 0, []), zN, (.bipush 48, 0, 0, []), zN, (.bipush 32, 0, 0, []), zN, (.bipush 59, 0, 0, [])], [zN, (.bipush 32, 0, 0, []), zN, (.bipush 32, 0, 0, []), zN, (.bipush 32, 0, 0, []), zN, (.bipush 32, 0, 0, []), zN, (.bipush 32, 0, 0, []), zN, (.invokevirtual 57, 1000, 9, [(12, 133)]), zN, zN, (.aload_n 0, 0, 0, []), (.getfield 17, 12, 2, [])], [zN, zN, (.iconst 0, 0, 0, []), (.bipush 40, 0, 0, []), zN, (.iastore, 0, 0, []), (.aload_n 0, 0, 0, []), (.iconst 1, 0, 0, []), (.putfield 61, 12, 3, []), zN, zN, (.return_, 0, 0, [])]]
def zcX12_spell : List (List zE) := [[(.aload_n 0, 0, 0, []), (.getfield 13, 12, 1, []), zN, zN, (.iload_n 1, 1, 0, []), (.iload_n 2, 2, 0, []), (.iastore, 0, 0, []), (.aload_n 0, 0, 0, []), (.getfield 13, 12, 1, []), zN, zN, (.iload_n 1, 1, 0, []), (.iconst 1, 0, 0, []), (.iadd, 0, 0, []), (.iload_n 3, 3, 0, []), (.iastore, 0, 0, [])], [(.aload_n 0, 0, 0, []), (.getfield 13, 12, 1, []), zN, zN, (.iload_n 1, 1, 0, []), (.iconst 2, 0, 0, []), (.iadd, 0, 0, []), (.iload 4, 4, 0, []), zN, (.iastore, 0, 0, []), (.aload_n 0, 0, 0, []), (.getfield 13, 12, 1, []), zN, zN, (.iload_n 1, 1, 0, []), (.iconst 3, 0, 0, [])], [(.iadd, 0, 0, []), (.iload 5, 5, 0, []), zN, (.iastore, 0, 0, []), (.aload_n 0, 0, 0, []), (.getfield 13, 12, 1, []), zN, zN, (.iload_n 1, 1, 0, []), (.iconst 4, 0, 0, []), (.iadd, 0, 0, []), (.iload 6, 6, 0, []), zN, (.iastore, 0, 0, []), (.aload_n 0, 0, 0, []), (.getfield 13, 12, 1, [])], [zN, zN, (.iload_n 1, 1, 0, []), (.iconst 5, 0, 0, []), (.iadd, 0, 0, []), (.iload 7, 7, 0, []), zN, (.iastore, 0, 0, []), (.aload_n 0, 0, 0, []), (.getfield 13, 12, 1, []), zN, zN, (.iload_n 1, 1, 0, []), (.bipush 6, 0, 0, []), zN, (.iadd, 0, 0, [])], [(.iload 8, 8, 0, []), zN, (.iastore, 0, 0, []), (.aload_n 0, 0, 0, []), (.getfield 13, 12, 1, []), zN, zN, (.iload_n 1, 1, 0, []), (.bipush 7, 0, 0, []), zN, (.iadd, 0, 0, []), (.iload 9, 9, 0, []), zN, (.iastore, 0, 0, []), (.return_, 0, 0, [])]]
def zcX12_isOne : List (List zE) := [[(.iload_n 1, 1, 0, []), (.i2l, 0, 0, []), (.lconst 0, 0, 0, []), (.aload_n 0, 0, 0, []), (.getfield 64, 12, 9, []), zN, zN, (.iconst 1, 0, 0, []), (.isub, 0, 0, []), (.i2l, 0, 0, []), (.invokestatic 67, 130, 3, [(0, 0)]), zN, zN, (.ireturn, 1, 0, [])]]
def zcX12_isOf : List (List zE) := [[(.iload_n 1, 1, 0, []), (.ifCond .eq 42, 43, 0, []), zN, zN, (.iload_n 1, 1, 0, []), (.bipush 6, 0, 0, []), zN, (.if_icmp .gt 36, 43, 0, []), zN, zN, (.iload_n 1, 1, 0, []), (.bipush 6, 0, 0, []), zN, (.if_icmp .ne 22, 35, 0, []), zN, zN], [(.iload_n 2, 2, 0, []), (.i2l, 0, 0, []), (.lconst 0, 0, 0, []), (.aload_n 0, 0, 0, []), (.getfield 71, 12, 11, []), zN, zN, (.iconst 1, 0, 0, []), (.isub, 0, 0, []), (.i2l, 0, 0, []), (.invokestatic 67, 130, 3, [(0, 0)]), zN, zN, (.ifCond .eq 18, 47, 0, []), zN, zN], [(.goto 11, 43, 0, []), zN, zN, (.aload_n 0, 0, 0, []), (.iload_n 2, 2, 0, []), (.invokevirtual 74, 1000, 1, [(12, 134)]), zN, zN, (.ifCond .eq 7, 47, 0, []), zN, zN, (.iconst 1, 0, 0, []), (.goto 4, 48, 0, []), zN, zN, (.iconst 0, 0, 0, [])], [(.ireturn, 1, 0, [])]]
def zcX12_mostOf : List (List zE) := [[(.iload_n 0, 0, 0, []), (.ifCond .ne 9, 10, 0, []), zN, zN, (.sipush 999, 0, 0, []), zN, zN, (.goto 26, 33, 0, []), zN, zN, (.iload_n 0, 0, 0, []), (.iconst 1, 0, 0, []), (.if_icmp .ne 8, 20, 0, []), zN, zN, (.bipush 9, 0, 0, [])], [zN, (.goto 16, 33, 0, []), zN, zN, (.iload_n 0, 0, 0, []), (.iconst 2, 0, 0, []), (.if_icmp .ne 9, 31, 0, []), zN, zN, (.sipush 1023, 0, 0, []), zN, zN, (.goto 5, 33, 0, []), zN, zN, (.bipush 99, 0, 0, [])], [zN, (.ireturn, 0, 0, [])]]
def zcX12_set : List (List zE) := [[(.iload_n 1, 1, 0, []), (.i2l, 0, 0, []), (.lconst 0, 0, 0, []), (.ldc2_w 78, 0, 0, [(4, 0)]), zN, zN, (.invokestatic 67, 130, 3, [(0, 0)]), zN, zN, (.ifCond .eq 26, 35, 0, []), zN, zN, (.aload_n 0, 0, 0, []), (.iload_n 1, 1, 0, []), (.iload_n 2, 2, 0, []), (.invokevirtual 80, 1000, 2, [(12, 135)])], [zN, zN, (.ifCond .eq 17, 35, 0, []), zN, zN, (.iload_n 3, 3, 0, []), (.i2l, 0, 0, []), (.lconst 0, 0, 0, []), (.iload_n 1, 1, 0, []), (.invokestatic 84, 136, 1, [(0, 0)]), zN, zN, (.i2l, 0, 0, []), (.invokestatic 67, 130, 3, [(0, 0)]), zN, zN], [(.ifCond .ne 6, 38, 0, []), zN, zN, (.bipush (-2), 0, 0, []), zN, (.ireturn, 0, 0, []), (.aload_n 0, 0, 0, []), (.iload_n 2, 2, 0, []), (.iload_n 1, 1, 0, []), (.invokevirtual 88, 1000, 2, [(12, 140)]), zN, zN, (.istore 4, 4, 0, []), zN, (.aload_n 0, 0, 0, []), (.iload_n 1, 1, 0, [])], [(.iload_n 2, 2, 0, []), (.iload_n 3, 3, 0, []), (.invokevirtual 92, 1000, 3, [(12, 138)]), zN, zN, (.iload 4, 4, 0, []), zN, (.ireturn, 0, 0, [])]]
def zcX12_lays : List (List zE) := [[(.iload_n 1, 1, 0, []), (.ifCond .ne 11, 12, 0, []), zN, zN, (.aload_n 0, 0, 0, []), (.iload_n 3, 3, 0, []), (.putfield 96, 12, 7, []), zN, zN, (.goto 30, 39, 0, []), zN, zN, (.iload_n 1, 1, 0, []), (.bipush 6, 0, 0, []), zN, (.if_icmp .ge 19, 34, 0, [])], [zN, zN, (.aload_n 0, 0, 0, []), (.getfield 23, 12, 8, []), zN, zN, (.iconst 5, 0, 0, []), (.iload_n 2, 2, 0, []), (.imul, 0, 0, []), (.iload_n 1, 1, 0, []), (.iadd, 0, 0, []), (.iconst 1, 0, 0, []), (.isub, 0, 0, []), (.iload_n 3, 3, 0, []), (.iastore, 0, 0, []), (.goto 8, 39, 0, [])], [zN, zN, (.aload_n 0, 0, 0, []), (.iload_n 3, 3, 0, []), (.putfield 99, 12, 4, []), zN, zN, (.return_, 0, 0, [])]]
def zcX12_person : List (List zE) := [[(.iload_n 1, 1, 0, []), (.i2l, 0, 0, []), (.lconst 0, 0, 0, []), (.ldc2_w 102, 0, 0, [(5, 0)]), zN, zN, (.invokestatic 67, 130, 3, [(0, 0)]), zN, zN, (.ifCond .eq 40, 49, 0, []), zN, zN, (.iload_n 2, 2, 0, []), (.i2l, 0, 0, []), (.lconst 0, 0, 0, []), (.ldc2_w 104, 0, 0, [(9, 0)])], [zN, zN, (.invokestatic 67, 130, 3, [(0, 0)]), zN, zN, (.ifCond .eq 28, 49, 0, []), zN, zN, (.iload_n 3, 3, 0, []), (.i2l, 0, 0, []), (.lconst 0, 0, 0, []), (.ldc2_w 106, 0, 0, [(1023, 0)]), zN, zN, (.invokestatic 67, 130, 3, [(0, 0)]), zN], [zN, (.ifCond .eq 16, 49, 0, []), zN, zN, (.iload 4, 4, 0, []), zN, (.i2l, 0, 0, []), (.lconst 0, 0, 0, []), (.ldc2_w 108, 0, 0, [(99, 0)]), zN, zN, (.invokestatic 67, 130, 3, [(0, 0)]), zN, zN, (.ifCond .ne 6, 52, 0, []), zN], [zN, (.bipush (-2), 0, 0, []), zN, (.ireturn, 0, 0, []), (.aload_n 0, 0, 0, []), (.getfield 64, 12, 9, []), zN, zN, (.iconst 5, 0, 0, []), (.if_icmp .ne 6, 63, 0, []), zN, zN, (.bipush (-4), 0, 0, []), zN, (.ireturn, 0, 0, []), (.iconst 5, 0, 0, [])], [(.aload_n 0, 0, 0, []), (.getfield 64, 12, 9, []), zN, zN, (.imul, 0, 0, []), (.istore 5, 5, 0, []), zN, (.aload_n 0, 0, 0, []), (.getfield 23, 12, 8, []), zN, zN, (.iload 5, 5, 0, []), zN, (.iload_n 2, 2, 0, []), (.iastore, 0, 0, []), (.aload_n 0, 0, 0, [])], [(.getfield 23, 12, 8, []), zN, zN, (.iload 5, 5, 0, []), zN, (.iconst 1, 0, 0, []), (.iadd, 0, 0, []), (.iload_n 3, 3, 0, []), (.iastore, 0, 0, []), (.aload_n 0, 0, 0, []), (.getfield 23, 12, 8, []), zN, zN, (.iload 5, 5, 0, []), zN, (.iconst 2, 0, 0, [])], [(.iadd, 0, 0, []), (.iload 4, 4, 0, []), zN, (.iastore, 0, 0, []), (.aload_n 0, 0, 0, []), (.getfield 23, 12, 8, []), zN, zN, (.iload 5, 5, 0, []), zN, (.iconst 3, 0, 0, []), (.iadd, 0, 0, []), (.iconst 0, 0, 0, []), (.iastore, 0, 0, []), (.aload_n 0, 0, 0, []), (.getfield 23, 12, 8, [])], [zN, zN, (.iload 5, 5, 0, []), zN, (.iconst 4, 0, 0, []), (.iadd, 0, 0, []), (.iload_n 1, 1, 0, []), (.iastore, 0, 0, []), (.aload_n 0, 0, 0, []), (.dup, 0, 0, []), (.getfield 64, 12, 9, []), zN, zN, (.iconst 1, 0, 0, []), (.iadd, 0, 0, []), (.putfield 64, 12, 9, [])], [zN, zN, (.aload_n 0, 0, 0, []), (.getfield 64, 12, 9, []), zN, zN, (.iconst 1, 0, 0, []), (.isub, 0, 0, []), (.ireturn, 0, 0, [])]]
def zcX12_told : List (List zE) := [[(.iload_n 2, 2, 0, []), (.i2l, 0, 0, []), (.lconst 0, 0, 0, []), (.ldc2_w 110, 0, 0, [(8, 0)]), zN, zN, (.invokestatic 67, 130, 3, [(0, 0)]), zN, zN, (.ifCond .eq 12, 21, 0, []), zN, zN, (.aload_n 0, 0, 0, []), (.iload_n 2, 2, 0, []), (.iload_n 1, 1, 0, []), (.invokevirtual 80, 1000, 2, [(12, 135)])], [zN, zN, (.ifCond .ne 7, 25, 0, []), zN, zN, (.sipush (-1000), 0, 0, []), zN, zN, (.ireturn, 0, 0, []), (.iload_n 2, 2, 0, []), (.bipush 6, 0, 0, []), zN, (.if_icmp .ge 27, 55, 0, []), zN, zN, (.iload_n 2, 2, 0, [])], [(.ifCond .ne 10, 42, 0, []), zN, zN, (.aload_n 0, 0, 0, []), (.getfield 96, 12, 7, []), zN, zN, (.goto 15, 54, 0, []), zN, zN, (.aload_n 0, 0, 0, []), (.getfield 23, 12, 8, []), zN, zN, (.iconst 5, 0, 0, []), (.iload_n 1, 1, 0, [])], [(.imul, 0, 0, []), (.iload_n 2, 2, 0, []), (.iadd, 0, 0, []), (.iconst 1, 0, 0, []), (.isub, 0, 0, []), (.iaload, 0, 0, []), (.ireturn, 0, 0, []), (.iload_n 2, 2, 0, []), (.bipush 6, 0, 0, []), zN, (.if_icmp .ne 12, 70, 0, []), zN, zN, (.aload_n 0, 0, 0, []), (.getfield 26, 12, 10, []), zN], [zN, (.iload_n 1, 1, 0, []), (.iaload, 0, 0, []), (.goto 20, 87, 0, []), zN, zN, (.iload_n 2, 2, 0, []), (.bipush 7, 0, 0, []), zN, (.if_icmp .ne 10, 83, 0, []), zN, zN, (.aload_n 0, 0, 0, []), (.getfield 71, 12, 11, []), zN, zN], [(.goto 7, 87, 0, []), zN, zN, (.aload_n 0, 0, 0, []), (.getfield 112, 12, 12, []), zN, zN, (.ireturn, 0, 0, [])]]
def zcX12_brings : List (List zE) := [[(.iload_n 1, 1, 0, []), (.i2l, 0, 0, []), (.lconst 1, 0, 0, []), (.ldc2_w 106, 0, 0, [(1023, 0)]), zN, zN, (.invokestatic 67, 130, 3, [(0, 0)]), zN, zN, (.ifCond .ne 6, 15, 0, []), zN, zN, (.bipush (-2), 0, 0, []), zN, (.ireturn, 0, 0, []), (.aload_n 0, 0, 0, [])], [(.getfield 71, 12, 11, []), zN, zN, (.bipush 8, 0, 0, []), zN, (.if_icmp .ne 6, 27, 0, []), zN, zN, (.bipush (-4), 0, 0, []), zN, (.ireturn, 0, 0, []), (.aload_n 0, 0, 0, []), (.getfield 26, 12, 10, []), zN, zN, (.aload_n 0, 0, 0, [])], [(.getfield 71, 12, 11, []), zN, zN, (.iload_n 1, 1, 0, []), (.iastore, 0, 0, []), (.aload_n 0, 0, 0, []), (.dup, 0, 0, []), (.getfield 71, 12, 11, []), zN, zN, (.iconst 1, 0, 0, []), (.iadd, 0, 0, []), (.putfield 71, 12, 11, []), zN, zN, (.aload_n 0, 0, 0, [])], [(.getfield 71, 12, 11, []), zN, zN, (.ireturn, 0, 0, [])]]
def zcX12_feed : List (List zE) := [[(.iload_n 1, 1, 0, []), (.i2l, 0, 0, []), (.lconst 0, 0, 0, []), (.ldc2_w 115, 0, 0, [(255, 0)]), zN, zN, (.invokestatic 67, 130, 3, [(0, 0)]), zN, zN, (.ifCond .ne 6, 15, 0, []), zN, zN, (.bipush (-2), 0, 0, []), zN, (.ireturn, 0, 0, []), (.aload_n 0, 0, 0, [])], [(.getfield 117, 12, 6, []), zN, zN, (.sipush 160, 0, 0, []), zN, zN, (.if_icmp .ne 6, 28, 0, []), zN, zN, (.bipush (-4), 0, 0, []), zN, (.ireturn, 0, 0, []), (.aload_n 0, 0, 0, []), (.getfield 20, 12, 5, []), zN, zN], [(.aload_n 0, 0, 0, []), (.getfield 117, 12, 6, []), zN, zN, (.iload_n 1, 1, 0, []), (.iastore, 0, 0, []), (.aload_n 0, 0, 0, []), (.dup, 0, 0, []), (.getfield 117, 12, 6, []), zN, zN, (.iconst 1, 0, 0, []), (.iadd, 0, 0, []), (.putfield 117, 12, 6, []), zN, zN], [(.aload_n 0, 0, 0, []), (.getfield 117, 12, 6, []), zN, zN, (.ireturn, 0, 0, [])]]
def zcX12_byteAt : List (List zE) := [[(.iload_n 1, 1, 0, []), (.aload_n 0, 0, 0, []), (.getfield 120, 12, 21, []), zN, zN, (.if_icmp .ge 17, 22, 0, []), zN, zN, (.aload_n 0, 0, 0, []), (.getfield 13, 12, 1, []), zN, zN, (.aload_n 0, 0, 0, []), (.getfield 123, 12, 20, []), zN, zN], [(.iload_n 1, 1, 0, []), (.iadd, 0, 0, []), (.iaload, 0, 0, []), (.goto 4, 23, 0, []), zN, zN, (.iconst (-1), 0, 0, []), (.ireturn, 0, 0, [])]]
def zcX12_next : List (List zE) := [[(.aload_n 0, 0, 0, []), (.aload_n 0, 0, 0, []), (.getfield 126, 12, 22, []), zN, zN, (.invokevirtual 129, 1000, 1, [(12, 143)]), zN, zN, (.bipush 32, 0, 0, []), zN, (.if_icmp .eq 16, 26, 0, []), zN, zN, (.aload_n 0, 0, 0, []), (.aload_n 0, 0, 0, []), (.getfield 126, 12, 22, [])], [zN, zN, (.invokevirtual 129, 1000, 1, [(12, 143)]), zN, zN, (.bipush 10, 0, 0, []), zN, (.if_icmp .ne 16, 39, 0, []), zN, zN, (.aload_n 0, 0, 0, []), (.dup, 0, 0, []), (.getfield 126, 12, 22, []), zN, zN, (.iconst 1, 0, 0, [])], [(.iadd, 0, 0, []), (.putfield 126, 12, 22, []), zN, zN, (.goto (-36), 0, 0, []), zN, zN, (.aload_n 0, 0, 0, []), (.aload_n 0, 0, 0, []), (.getfield 126, 12, 22, []), zN, zN, (.putfield 132, 12, 24, []), zN, zN, (.aload_n 0, 0, 0, [])], [(.aload_n 0, 0, 0, []), (.getfield 126, 12, 22, []), zN, zN, (.invokevirtual 129, 1000, 1, [(12, 143)]), zN, zN, (.istore_n 1, 1, 0, []), (.aload_n 0, 0, 0, []), (.iconst 4, 0, 0, []), (.putfield 135, 12, 23, []), zN, zN, (.iload_n 1, 1, 0, []), (.ifCond .ge 19, 81, 0, []), zN], [zN, (.aload_n 0, 0, 0, []), (.iconst 0, 0, 0, []), (.putfield 135, 12, 23, []), zN, zN, (.aload_n 0, 0, 0, []), (.aload_n 0, 0, 0, []), (.getfield 120, 12, 21, []), zN, zN, (.putfield 132, 12, 24, []), zN, zN, (.goto 243, 321, 0, []), zN], [zN, (.iload_n 1, 1, 0, []), (.i2l, 0, 0, []), (.ldc2_w 138, 0, 0, [(97, 0)]), zN, zN, (.ldc2_w 140, 0, 0, [(122, 0)]), zN, zN, (.invokestatic 67, 130, 3, [(0, 0)]), zN, zN, (.ifCond .eq 42, 134, 0, []), zN, zN, (.aload_n 0, 0, 0, [])], [(.iconst 1, 0, 0, []), (.putfield 135, 12, 23, []), zN, zN, (.aload_n 0, 0, 0, []), (.aload_n 0, 0, 0, []), (.getfield 126, 12, 22, []), zN, zN, (.invokevirtual 129, 1000, 1, [(12, 143)]), zN, zN, (.i2l, 0, 0, []), (.ldc2_w 138, 0, 0, [(97, 0)]), zN, zN], [(.ldc2_w 140, 0, 0, [(122, 0)]), zN, zN, (.invokestatic 67, 130, 3, [(0, 0)]), zN, zN, (.ifCond .eq 203, 321, 0, []), zN, zN, (.aload_n 0, 0, 0, []), (.dup, 0, 0, []), (.getfield 126, 12, 22, []), zN, zN, (.iconst 1, 0, 0, []), (.iadd, 0, 0, [])], [(.putfield 126, 12, 22, []), zN, zN, (.goto (-31), 100, 0, []), zN, zN, (.iload_n 1, 1, 0, []), (.i2l, 0, 0, []), (.ldc2_w 142, 0, 0, [(48, 0)]), zN, zN, (.ldc2_w 144, 0, 0, [(57, 0)]), zN, zN, (.invokestatic 67, 130, 3, [(0, 0)]), zN], [zN, (.ifCond .eq 107, 252, 0, []), zN, zN, (.aload_n 0, 0, 0, []), (.iconst 2, 0, 0, []), (.putfield 135, 12, 23, []), zN, zN, (.aload_n 0, 0, 0, []), (.lconst 0, 0, 0, []), (.putfield 146, 12, 25, []), zN, zN, (.iconst 0, 0, 0, []), (.istore_n 2, 2, 0, [])], [(.aload_n 0, 0, 0, []), (.aload_n 0, 0, 0, []), (.getfield 126, 12, 22, []), zN, zN, (.invokevirtual 129, 1000, 1, [(12, 143)]), zN, zN, (.i2l, 0, 0, []), (.ldc2_w 142, 0, 0, [(48, 0)]), zN, zN, (.ldc2_w 144, 0, 0, [(57, 0)]), zN, zN, (.invokestatic 67, 130, 3, [(0, 0)])], [zN, zN, (.ifCond .eq 57, 235, 0, []), zN, zN, (.aload_n 0, 0, 0, []), (.iload_n 2, 2, 0, []), (.iconst 4, 0, 0, []), (.if_icmp .ge 28, 212, 0, []), zN, zN, (.ldc2_w 150, 0, 0, [(10, 0)]), zN, zN, (.aload_n 0, 0, 0, []), (.getfield 146, 12, 25, [])], [zN, zN, (.lmul, 0, 0, []), (.aload_n 0, 0, 0, []), (.aload_n 0, 0, 0, []), (.getfield 126, 12, 22, []), zN, zN, (.invokevirtual 129, 1000, 1, [(12, 143)]), zN, zN, (.i2l, 0, 0, []), (.ladd, 0, 0, []), (.ldc2_w 142, 0, 0, [(48, 0)]), zN, zN], [(.lsub, 0, 0, []), (.goto 7, 216, 0, []), zN, zN, (.aload_n 0, 0, 0, []), (.getfield 146, 12, 25, []), zN, zN, (.putfield 146, 12, 25, []), zN, zN, (.iinc 2 1, 2, 0, []), zN, zN, (.aload_n 0, 0, 0, []), (.dup, 0, 0, [])], [(.getfield 126, 12, 22, []), zN, zN, (.iconst 1, 0, 0, []), (.iadd, 0, 0, []), (.putfield 126, 12, 22, []), zN, zN, (.goto (-72), 160, 0, []), zN, zN, (.aload_n 0, 0, 0, []), (.iload_n 2, 2, 0, []), (.iconst 4, 0, 0, []), (.if_icmp .le 7, 245, 0, []), zN], [zN, (.iconst 4, 0, 0, []), (.goto 4, 246, 0, []), zN, zN, (.iconst 2, 0, 0, []), (.putfield 135, 12, 23, []), zN, zN, (.goto 72, 321, 0, []), zN, zN, (.iload_n 1, 1, 0, []), (.bipush 40, 0, 0, []), zN, (.if_icmp .eq 45, 300, 0, [])], [zN, zN, (.iload_n 1, 1, 0, []), (.bipush 41, 0, 0, []), zN, (.if_icmp .eq 39, 300, 0, []), zN, zN, (.iload_n 1, 1, 0, []), (.bipush 59, 0, 0, []), zN, (.if_icmp .eq 33, 300, 0, []), zN, zN, (.iload_n 1, 1, 0, []), (.bipush 43, 0, 0, [])], [zN, (.if_icmp .eq 27, 300, 0, []), zN, zN, (.iload_n 1, 1, 0, []), (.bipush 45, 0, 0, []), zN, (.if_icmp .eq 21, 300, 0, []), zN, zN, (.iload_n 1, 1, 0, []), (.bipush 42, 0, 0, []), zN, (.if_icmp .eq 15, 300, 0, []), zN, zN], [(.iload_n 1, 1, 0, []), (.bipush 60, 0, 0, []), zN, (.if_icmp .eq 9, 300, 0, []), zN, zN, (.iload_n 1, 1, 0, []), (.bipush 61, 0, 0, []), zN, (.if_icmp .ne 24, 321, 0, []), zN, zN, (.aload_n 0, 0, 0, []), (.iconst 3, 0, 0, []), (.putfield 135, 12, 23, []), zN], [zN, (.aload_n 0, 0, 0, []), (.iload_n 1, 1, 0, []), (.i2l, 0, 0, []), (.putfield 146, 12, 25, []), zN, zN, (.aload_n 0, 0, 0, []), (.dup, 0, 0, []), (.getfield 126, 12, 22, []), zN, zN, (.iconst 1, 0, 0, []), (.iadd, 0, 0, []), (.putfield 126, 12, 22, []), zN], [zN, (.return_, 0, 0, [])]]
def zcX12_fail : List (List zE) := [[(.aload_n 0, 0, 0, []), (.getfield 152, 12, 27, []), zN, zN, (.ifCond .ne 16, 20, 0, []), zN, zN, (.aload_n 0, 0, 0, []), (.iconst 1, 0, 0, []), (.putfield 152, 12, 27, []), zN, zN, (.aload_n 0, 0, 0, []), (.aload_n 0, 0, 0, []), (.getfield 132, 12, 24, []), zN], [zN, (.putfield 156, 12, 28, []), zN, zN, (.return_, 0, 0, [])]]
def zcX12_isLetter : List (List zE) := [[(.aload_n 0, 0, 0, []), (.getfield 132, 12, 24, []), zN, zN, (.iload_n 1, 1, 0, []), (.iadd, 0, 0, []), (.aload_n 0, 0, 0, []), (.getfield 126, 12, 22, []), zN, zN, (.if_icmp .ge 25, 35, 0, []), zN, zN, (.aload_n 0, 0, 0, []), (.aload_n 0, 0, 0, []), (.getfield 132, 12, 24, [])], [zN, zN, (.iload_n 1, 1, 0, []), (.iadd, 0, 0, []), (.invokevirtual 129, 1000, 1, [(12, 143)]), zN, zN, (.iload_n 2, 2, 0, []), (.if_icmp .ne 7, 31, 0, []), zN, zN, (.iconst 1, 0, 0, []), (.goto 16, 44, 0, []), zN, zN, (.iconst 0, 0, 0, [])], [(.goto 12, 44, 0, []), zN, zN, (.iload_n 2, 2, 0, []), (.ifCond .ne 7, 43, 0, []), zN, zN, (.iconst 1, 0, 0, []), (.goto 4, 44, 0, []), zN, zN, (.iconst 0, 0, 0, []), (.ireturn, 1, 0, [])]]
def zcX12_isWord : List (List zE) := [[(.aload_n 0, 0, 0, []), (.getfield 152, 12, 27, []), zN, zN, (.ifCond .ne 108, 112, 0, []), zN, zN, (.aload_n 0, 0, 0, []), (.getfield 135, 12, 23, []), zN, zN, (.iconst 1, 0, 0, []), (.if_icmp .ne 100, 112, 0, []), zN, zN, (.aload_n 0, 0, 0, [])], [(.getfield 126, 12, 22, []), zN, zN, (.aload_n 0, 0, 0, []), (.getfield 132, 12, 24, []), zN, zN, (.bipush 8, 0, 0, []), zN, (.iadd, 0, 0, []), (.if_icmp .gt 86, 112, 0, []), zN, zN, (.aload_n 0, 0, 0, []), (.iconst 0, 0, 0, []), (.iload_n 1, 1, 0, [])], [(.invokevirtual 159, 1000, 2, [(12, 146)]), zN, zN, (.ifCond .eq 77, 112, 0, []), zN, zN, (.aload_n 0, 0, 0, []), (.iconst 1, 0, 0, []), (.iload_n 2, 2, 0, []), (.invokevirtual 159, 1000, 2, [(12, 146)]), zN, zN, (.ifCond .eq 68, 112, 0, []), zN, zN, (.aload_n 0, 0, 0, [])], [(.iconst 2, 0, 0, []), (.iload_n 3, 3, 0, []), (.invokevirtual 159, 1000, 2, [(12, 146)]), zN, zN, (.ifCond .eq 59, 112, 0, []), zN, zN, (.aload_n 0, 0, 0, []), (.iconst 3, 0, 0, []), (.iload 4, 4, 0, []), zN, (.invokevirtual 159, 1000, 2, [(12, 146)]), zN, zN, (.ifCond .eq 49, 112, 0, [])], [zN, zN, (.aload_n 0, 0, 0, []), (.iconst 4, 0, 0, []), (.iload 5, 5, 0, []), zN, (.invokevirtual 159, 1000, 2, [(12, 146)]), zN, zN, (.ifCond .eq 39, 112, 0, []), zN, zN, (.aload_n 0, 0, 0, []), (.iconst 5, 0, 0, []), (.iload 6, 6, 0, []), zN], [(.invokevirtual 159, 1000, 2, [(12, 146)]), zN, zN, (.ifCond .eq 29, 112, 0, []), zN, zN, (.aload_n 0, 0, 0, []), (.bipush 6, 0, 0, []), zN, (.iload 7, 7, 0, []), zN, (.invokevirtual 159, 1000, 2, [(12, 146)]), zN, zN, (.ifCond .eq 18, 112, 0, []), zN], [zN, (.aload_n 0, 0, 0, []), (.bipush 7, 0, 0, []), zN, (.iload 8, 8, 0, []), zN, (.invokevirtual 159, 1000, 2, [(12, 146)]), zN, zN, (.ifCond .eq 7, 112, 0, []), zN, zN, (.iconst 1, 0, 0, []), (.goto 4, 113, 0, []), zN, zN], [(.iconst 0, 0, 0, []), (.ireturn, 1, 0, [])]]
def zcX12_isSign : List (List zE) := [[(.aload_n 0, 0, 0, []), (.getfield 152, 12, 27, []), zN, zN, (.ifCond .ne 25, 29, 0, []), zN, zN, (.aload_n 0, 0, 0, []), (.getfield 135, 12, 23, []), zN, zN, (.iconst 3, 0, 0, []), (.if_icmp .ne 17, 29, 0, []), zN, zN, (.aload_n 0, 0, 0, [])], [(.getfield 146, 12, 25, []), zN, zN, (.iload_n 1, 1, 0, []), (.i2l, 0, 0, []), (.lcmp, 0, 0, []), (.ifCond .ne 7, 29, 0, []), zN, zN, (.iconst 1, 0, 0, []), (.goto 4, 30, 0, []), zN, zN, (.iconst 0, 0, 0, []), (.ireturn, 1, 0, [])]]
def zcX12_opens : List (List zE) := [[(.aload_n 0, 0, 0, []), (.getfield 162, 12, 26, []), zN, zN, (.iconst 5, 0, 0, []), (.if_icmp .ne 9, 14, 0, []), zN, zN, (.aload_n 0, 0, 0, []), (.invokevirtual 165, 1000, 0, [(12, 145)]), zN, zN, (.iconst 0, 0, 0, []), (.ireturn, 1, 0, []), (.aload_n 0, 0, 0, []), (.dup, 0, 0, [])], [(.getfield 162, 12, 26, []), zN, zN, (.iconst 1, 0, 0, []), (.iadd, 0, 0, []), (.putfield 162, 12, 26, []), zN, zN, (.aload_n 0, 0, 0, []), (.invokevirtual 168, 1000, 0, [(12, 144)]), zN, zN, (.iconst 1, 0, 0, []), (.ireturn, 1, 0, [])]]
def zcX12_name : List (List zE) := [[(.aload_n 0, 0, 0, []), (.bipush 119, 0, 0, []), zN, (.bipush 111, 0, 0, []), zN, (.bipush 114, 0, 0, []), zN, (.bipush 100, 0, 0, []), zN, (.bipush 115, 0, 0, []), zN, (.iconst 0, 0, 0, []), (.iconst 0, 0, 0, []), (.iconst 0, 0, 0, []), (.invokevirtual 171, 1000, 8, [(12, 147)]), zN], [zN, (.ifCond .eq 8, 25, 0, []), zN, zN, (.aload_n 0, 0, 0, []), (.getfield 175, 12, 14, []), zN, zN, (.ireturn, 0, 0, []), (.aload_n 0, 0, 0, []), (.bipush 109, 0, 0, []), zN, (.bipush 101, 0, 0, []), zN, (.bipush 109, 0, 0, []), zN], [(.bipush 111, 0, 0, []), zN, (.bipush 114, 0, 0, []), zN, (.bipush 121, 0, 0, []), zN, (.iconst 0, 0, 0, []), (.iconst 0, 0, 0, []), (.invokevirtual 171, 1000, 8, [(12, 147)]), zN, zN, (.ifCond .eq 8, 51, 0, []), zN, zN, (.aload_n 0, 0, 0, []), (.getfield 178, 12, 15, [])], [zN, zN, (.ireturn, 0, 0, []), (.aload_n 0, 0, 0, []), (.bipush 110, 0, 0, []), zN, (.bipush 117, 0, 0, []), zN, (.bipush 109, 0, 0, []), zN, (.bipush 98, 0, 0, []), zN, (.bipush 101, 0, 0, []), zN, (.bipush 114, 0, 0, []), zN], [(.iconst 0, 0, 0, []), (.iconst 0, 0, 0, []), (.invokevirtual 171, 1000, 8, [(12, 147)]), zN, zN, (.ifCond .eq 8, 77, 0, []), zN, zN, (.aload_n 0, 0, 0, []), (.getfield 181, 12, 16, []), zN, zN, (.ireturn, 0, 0, []), (.aload_n 0, 0, 0, []), (.bipush 100, 0, 0, []), zN], [(.bipush 97, 0, 0, []), zN, (.bipush 121, 0, 0, []), zN, (.iconst 0, 0, 0, []), (.iconst 0, 0, 0, []), (.iconst 0, 0, 0, []), (.iconst 0, 0, 0, []), (.iconst 0, 0, 0, []), (.invokevirtual 171, 1000, 8, [(12, 147)]), zN, zN, (.ifCond .eq 8, 100, 0, []), zN, zN, (.aload_n 0, 0, 0, [])], [(.getfield 184, 12, 17, []), zN, zN, (.ireturn, 0, 0, []), (.aload_n 0, 0, 0, []), (.bipush 112, 0, 0, []), zN, (.bipush 97, 0, 0, []), zN, (.bipush 114, 0, 0, []), zN, (.bipush 116, 0, 0, []), zN, (.bipush 115, 0, 0, []), zN, (.iconst 0, 0, 0, [])], [(.iconst 0, 0, 0, []), (.iconst 0, 0, 0, []), (.invokevirtual 171, 1000, 8, [(12, 147)]), zN, zN, (.ifCond .eq 8, 125, 0, []), zN, zN, (.aload_n 0, 0, 0, []), (.getfield 187, 12, 18, []), zN, zN, (.ireturn, 0, 0, []), (.aload_n 0, 0, 0, []), (.bipush 115, 0, 0, []), zN], [(.bipush 97, 0, 0, []), zN, (.bipush 105, 0, 0, []), zN, (.bipush 100, 0, 0, []), zN, (.iconst 0, 0, 0, []), (.iconst 0, 0, 0, []), (.iconst 0, 0, 0, []), (.iconst 0, 0, 0, []), (.invokevirtual 171, 1000, 8, [(12, 147)]), zN, zN, (.ifCond .eq 8, 149, 0, []), zN, zN], [(.aload_n 0, 0, 0, []), (.getfield 190, 12, 19, []), zN, zN, (.ireturn, 0, 0, []), (.aload_n 0, 0, 0, []), (.invokevirtual 165, 1000, 0, [(12, 145)]), zN, zN, (.iconst 0, 0, 0, []), (.ireturn, 0, 0, [])]]
def zcX12_atom : List (List zE) := [[(.iconst 0, 0, 0, []), (.istore_n 1, 1, 0, []), (.aload_n 0, 0, 0, []), (.bipush 45, 0, 0, []), zN, (.invokevirtual 193, 1000, 1, [(12, 148)]), zN, zN, (.ifCond .eq 29, 37, 0, []), zN, zN, (.aload_n 0, 0, 0, []), (.invokevirtual 196, 1000, 0, [(12, 149)]), zN, zN, (.ifCond .eq 146, 161, 0, [])], [zN, zN, (.aload_n 0, 0, 0, []), (.invokevirtual 200, 1000, 0, [(12, 151)]), zN, zN, (.ineg, 0, 0, []), (.istore_n 1, 1, 0, []), (.aload_n 0, 0, 0, []), (.dup, 0, 0, []), (.getfield 162, 12, 26, []), zN, zN, (.iconst 1, 0, 0, []), (.isub, 0, 0, []), (.putfield 162, 12, 26, [])], [zN, zN, (.goto 127, 161, 0, []), zN, zN, (.aload_n 0, 0, 0, []), (.bipush 40, 0, 0, []), zN, (.invokevirtual 193, 1000, 1, [(12, 148)]), zN, zN, (.ifCond .eq 52, 95, 0, []), zN, zN, (.aload_n 0, 0, 0, []), (.invokevirtual 196, 1000, 0, [(12, 149)])], [zN, zN, (.ifCond .eq 111, 161, 0, []), zN, zN, (.aload_n 0, 0, 0, []), (.invokevirtual 204, 1000, 0, [(12, 156)]), zN, zN, (.istore_n 1, 1, 0, []), (.aload_n 0, 0, 0, []), (.bipush 41, 0, 0, []), zN, (.invokevirtual 193, 1000, 1, [(12, 148)]), zN, zN], [(.ifCond .ne 7, 71, 0, []), zN, zN, (.aload_n 0, 0, 0, []), (.invokevirtual 165, 1000, 0, [(12, 145)]), zN, zN, (.aload_n 0, 0, 0, []), (.dup, 0, 0, []), (.getfield 162, 12, 26, []), zN, zN, (.iconst 1, 0, 0, []), (.isub, 0, 0, []), (.putfield 162, 12, 26, []), zN], [zN, (.aload_n 0, 0, 0, []), (.getfield 152, 12, 27, []), zN, zN, (.ifCond .ne 76, 161, 0, []), zN, zN, (.aload_n 0, 0, 0, []), (.invokevirtual 168, 1000, 0, [(12, 144)]), zN, zN, (.goto 69, 161, 0, []), zN, zN, (.aload_n 0, 0, 0, [])], [(.getfield 152, 12, 27, []), zN, zN, (.ifCond .ne 24, 123, 0, []), zN, zN, (.aload_n 0, 0, 0, []), (.getfield 135, 12, 23, []), zN, zN, (.iconst 2, 0, 0, []), (.if_icmp .ne 16, 123, 0, []), zN, zN, (.aload_n 0, 0, 0, []), (.getfield 146, 12, 25, [])], [zN, zN, (.l2i, 0, 0, []), (.istore_n 1, 1, 0, []), (.aload_n 0, 0, 0, []), (.invokevirtual 168, 1000, 0, [(12, 144)]), zN, zN, (.goto 41, 161, 0, []), zN, zN, (.aload_n 0, 0, 0, []), (.getfield 152, 12, 27, []), zN, zN, (.ifCond .ne 30, 157, 0, [])], [zN, zN, (.aload_n 0, 0, 0, []), (.getfield 135, 12, 23, []), zN, zN, (.iconst 1, 0, 0, []), (.if_icmp .ne 22, 157, 0, []), zN, zN, (.aload_n 0, 0, 0, []), (.invokevirtual 207, 1000, 0, [(12, 150)]), zN, zN, (.istore_n 1, 1, 0, []), (.aload_n 0, 0, 0, [])], [(.getfield 152, 12, 27, []), zN, zN, (.ifCond .ne 14, 161, 0, []), zN, zN, (.aload_n 0, 0, 0, []), (.invokevirtual 168, 1000, 0, [(12, 144)]), zN, zN, (.goto 7, 161, 0, []), zN, zN, (.aload_n 0, 0, 0, []), (.invokevirtual 165, 1000, 0, [(12, 145)]), zN], [zN, (.iload_n 1, 1, 0, []), (.ireturn, 0, 0, [])]]
def zcX12_term : List (List zE) := [[(.aload_n 0, 0, 0, []), (.invokevirtual 200, 1000, 0, [(12, 151)]), zN, zN, (.istore_n 1, 1, 0, []), (.aload_n 0, 0, 0, []), (.bipush 42, 0, 0, []), zN, (.invokevirtual 193, 1000, 1, [(12, 148)]), zN, zN, (.ifCond .eq 17, 28, 0, []), zN, zN, (.aload_n 0, 0, 0, []), (.invokevirtual 168, 1000, 0, [(12, 144)])], [zN, zN, (.iload_n 1, 1, 0, []), (.aload_n 0, 0, 0, []), (.invokevirtual 200, 1000, 0, [(12, 151)]), zN, zN, (.imul, 0, 0, []), (.istore_n 1, 1, 0, []), (.goto (-20), 5, 0, []), zN, zN, (.iload_n 1, 1, 0, []), (.ireturn, 0, 0, [])]]
def zcX12_added : List (List zE) := [[(.aload_n 0, 0, 0, []), (.invokevirtual 210, 1000, 0, [(12, 152)]), zN, zN, (.istore_n 1, 1, 0, []), (.aload_n 0, 0, 0, []), (.bipush 43, 0, 0, []), zN, (.invokevirtual 193, 1000, 1, [(12, 148)]), zN, zN, (.ifCond .ne 12, 23, 0, []), zN, zN, (.aload_n 0, 0, 0, []), (.bipush 45, 0, 0, [])], [zN, (.invokevirtual 193, 1000, 1, [(12, 148)]), zN, zN, (.ifCond .eq 46, 66, 0, []), zN, zN, (.aload_n 0, 0, 0, []), (.getfield 146, 12, 25, []), zN, zN, (.ldc2_w 213, 0, 0, [(43, 0)]), zN, zN, (.lcmp, 0, 0, []), (.ifCond .ne 7, 38, 0, [])], [zN, zN, (.iconst 1, 0, 0, []), (.goto 4, 39, 0, []), zN, zN, (.iconst 0, 0, 0, []), (.istore_n 2, 2, 0, []), (.aload_n 0, 0, 0, []), (.invokevirtual 168, 1000, 0, [(12, 144)]), zN, zN, (.aload_n 0, 0, 0, []), (.invokevirtual 210, 1000, 0, [(12, 152)]), zN, zN], [(.istore_n 3, 3, 0, []), (.iload_n 2, 2, 0, []), (.ifCond .eq 9, 59, 0, []), zN, zN, (.iload_n 1, 1, 0, []), (.iload_n 3, 3, 0, []), (.iadd, 0, 0, []), (.goto 6, 62, 0, []), zN, zN, (.iload_n 1, 1, 0, []), (.iload_n 3, 3, 0, []), (.isub, 0, 0, []), (.istore_n 1, 1, 0, []), (.goto (-58), 5, 0, [])], [zN, zN, (.iload_n 1, 1, 0, []), (.ireturn, 0, 0, [])]]
def zcX12_not : List (List zE) := [[(.aload_n 0, 0, 0, []), (.bipush 110, 0, 0, []), zN, (.bipush 111, 0, 0, []), zN, (.bipush 116, 0, 0, []), zN, (.iconst 0, 0, 0, []), (.iconst 0, 0, 0, []), (.iconst 0, 0, 0, []), (.iconst 0, 0, 0, []), (.iconst 0, 0, 0, []), (.invokevirtual 171, 1000, 8, [(12, 147)]), zN, zN, (.ifCond .eq 37, 52, 0, [])], [zN, zN, (.aload_n 0, 0, 0, []), (.invokevirtual 196, 1000, 0, [(12, 149)]), zN, zN, (.ifCond .ne 5, 27, 0, []), zN, zN, (.iconst 0, 0, 0, []), (.ireturn, 0, 0, []), (.aload_n 0, 0, 0, []), (.invokevirtual 215, 1000, 0, [(12, 154)]), zN, zN, (.istore_n 1, 1, 0, [])], [(.aload_n 0, 0, 0, []), (.dup, 0, 0, []), (.getfield 162, 12, 26, []), zN, zN, (.iconst 1, 0, 0, []), (.isub, 0, 0, []), (.putfield 162, 12, 26, []), zN, zN, (.iload_n 1, 1, 0, []), (.ifCond .ne 7, 50, 0, []), zN, zN, (.iconst 1, 0, 0, []), (.goto 4, 51, 0, [])], [zN, zN, (.iconst 0, 0, 0, []), (.ireturn, 0, 0, []), (.aload_n 0, 0, 0, []), (.invokevirtual 218, 1000, 0, [(12, 153)]), zN, zN, (.istore_n 1, 1, 0, []), (.aload_n 0, 0, 0, []), (.bipush 60, 0, 0, []), zN, (.invokevirtual 193, 1000, 1, [(12, 148)]), zN, zN, (.ifCond .ne 14, 77, 0, [])], [zN, zN, (.aload_n 0, 0, 0, []), (.bipush 61, 0, 0, []), zN, (.invokevirtual 193, 1000, 1, [(12, 148)]), zN, zN, (.ifCond .ne 5, 77, 0, []), zN, zN, (.iload_n 1, 1, 0, []), (.ireturn, 0, 0, []), (.aload_n 0, 0, 0, []), (.getfield 146, 12, 25, []), zN], [zN, (.ldc2_w 221, 0, 0, [(60, 0)]), zN, zN, (.lcmp, 0, 0, []), (.ifCond .ne 7, 92, 0, []), zN, zN, (.iconst 1, 0, 0, []), (.goto 4, 93, 0, []), zN, zN, (.iconst 0, 0, 0, []), (.istore_n 2, 2, 0, []), (.aload_n 0, 0, 0, []), (.invokevirtual 168, 1000, 0, [(12, 144)])], [zN, zN, (.aload_n 0, 0, 0, []), (.invokevirtual 218, 1000, 0, [(12, 153)]), zN, zN, (.istore_n 3, 3, 0, []), (.iload_n 2, 2, 0, []), (.ifCond .eq 11, 115, 0, []), zN, zN, (.iload_n 1, 1, 0, []), (.iload_n 3, 3, 0, []), (.if_icmp .ge 15, 124, 0, []), zN, zN], [(.goto 8, 120, 0, []), zN, zN, (.iload_n 1, 1, 0, []), (.iload_n 3, 3, 0, []), (.if_icmp .ne 7, 124, 0, []), zN, zN, (.iconst 1, 0, 0, []), (.goto 4, 125, 0, []), zN, zN, (.iconst 0, 0, 0, []), (.ireturn, 0, 0, [])]]
def zcX12_both : List (List zE) := [[(.aload_n 0, 0, 0, []), (.invokevirtual 215, 1000, 0, [(12, 154)]), zN, zN, (.istore_n 1, 1, 0, []), (.aload_n 0, 0, 0, []), (.bipush 97, 0, 0, []), zN, (.bipush 110, 0, 0, []), zN, (.bipush 100, 0, 0, []), zN, (.iconst 0, 0, 0, []), (.iconst 0, 0, 0, []), (.iconst 0, 0, 0, []), (.iconst 0, 0, 0, [])], [(.iconst 0, 0, 0, []), (.invokevirtual 171, 1000, 8, [(12, 147)]), zN, zN, (.ifCond .eq 29, 49, 0, []), zN, zN, (.aload_n 0, 0, 0, []), (.invokevirtual 168, 1000, 0, [(12, 144)]), zN, zN, (.aload_n 0, 0, 0, []), (.invokevirtual 215, 1000, 0, [(12, 154)]), zN, zN, (.istore_n 2, 2, 0, [])], [(.iload_n 1, 1, 0, []), (.ifCond .eq 11, 44, 0, []), zN, zN, (.iload_n 2, 2, 0, []), (.ifCond .eq 7, 44, 0, []), zN, zN, (.iconst 1, 0, 0, []), (.goto 4, 45, 0, []), zN, zN, (.iconst 0, 0, 0, []), (.istore_n 1, 1, 0, []), (.goto (-41), 5, 0, []), zN], [zN, (.iload_n 1, 1, 0, []), (.ireturn, 0, 0, [])]]
def zcX12_either : List (List zE) := [[(.aload_n 0, 0, 0, []), (.invokevirtual 223, 1000, 0, [(12, 155)]), zN, zN, (.istore_n 1, 1, 0, []), (.aload_n 0, 0, 0, []), (.bipush 111, 0, 0, []), zN, (.bipush 114, 0, 0, []), zN, (.iconst 0, 0, 0, []), (.iconst 0, 0, 0, []), (.iconst 0, 0, 0, []), (.iconst 0, 0, 0, []), (.iconst 0, 0, 0, []), (.iconst 0, 0, 0, [])], [(.invokevirtual 171, 1000, 8, [(12, 147)]), zN, zN, (.ifCond .eq 29, 48, 0, []), zN, zN, (.aload_n 0, 0, 0, []), (.invokevirtual 168, 1000, 0, [(12, 144)]), zN, zN, (.aload_n 0, 0, 0, []), (.invokevirtual 223, 1000, 0, [(12, 155)]), zN, zN, (.istore_n 2, 2, 0, []), (.iload_n 1, 1, 0, [])], [(.ifCond .ne 7, 39, 0, []), zN, zN, (.iload_n 2, 2, 0, []), (.ifCond .eq 7, 43, 0, []), zN, zN, (.iconst 1, 0, 0, []), (.goto 4, 44, 0, []), zN, zN, (.iconst 0, 0, 0, []), (.istore_n 1, 1, 0, []), (.goto (-40), 5, 0, []), zN, zN], [(.iload_n 1, 1, 0, []), (.ireturn, 0, 0, [])]]
def zcX12_part : List (List zE) := [[(.iload_n 1, 1, 0, []), (.ifCond .ne 7, 8, 0, []), zN, zN, (.aload_n 0, 0, 0, []), (.invokevirtual 165, 1000, 0, [(12, 145)]), zN, zN, (.aload_n 0, 0, 0, []), (.getfield 152, 12, 27, []), zN, zN, (.ifCond .ne 7, 19, 0, []), zN, zN, (.aload_n 0, 0, 0, [])], [(.invokevirtual 168, 1000, 0, [(12, 144)]), zN, zN, (.aload_n 0, 0, 0, []), (.getfield 152, 12, 27, []), zN, zN, (.ifCond .eq 7, 30, 0, []), zN, zN, (.iconst 0, 0, 0, []), (.goto 7, 34, 0, []), zN, zN, (.aload_n 0, 0, 0, []), (.invokevirtual 204, 1000, 0, [(12, 156)])], [zN, zN, (.istore_n 2, 2, 0, []), (.aload_n 0, 0, 0, []), (.bipush 59, 0, 0, []), zN, (.invokevirtual 193, 1000, 1, [(12, 148)]), zN, zN, (.ifCond .ne 7, 48, 0, []), zN, zN, (.aload_n 0, 0, 0, []), (.invokevirtual 165, 1000, 0, [(12, 145)]), zN, zN], [(.aload_n 0, 0, 0, []), (.getfield 152, 12, 27, []), zN, zN, (.ifCond .ne 7, 59, 0, []), zN, zN, (.aload_n 0, 0, 0, []), (.invokevirtual 168, 1000, 0, [(12, 144)]), zN, zN, (.iload_n 2, 2, 0, []), (.ireturn, 0, 0, [])]]
def zcX12_read : List (List zE) := [[(.aload_n 0, 0, 0, []), (.sipush 160, 0, 0, []), zN, zN, (.iload_n 1, 1, 0, []), (.imul, 0, 0, []), (.putfield 123, 12, 20, []), zN, zN, (.aload_n 0, 0, 0, []), (.aload_n 0, 0, 0, []), (.getfield 17, 12, 2, []), zN, zN, (.iload_n 1, 1, 0, []), (.iaload, 0, 0, [])], [(.putfield 120, 12, 21, []), zN, zN, (.aload_n 0, 0, 0, []), (.iconst 0, 0, 0, []), (.putfield 126, 12, 22, []), zN, zN, (.aload_n 0, 0, 0, []), (.iconst 0, 0, 0, []), (.putfield 162, 12, 26, []), zN, zN, (.aload_n 0, 0, 0, []), (.iconst 0, 0, 0, []), (.putfield 152, 12, 27, [])], [zN, zN, (.aload_n 0, 0, 0, []), (.invokevirtual 168, 1000, 0, [(12, 144)]), zN, zN, (.aload_n 0, 0, 0, []), (.aload_n 0, 0, 0, []), (.bipush 107, 0, 0, []), zN, (.bipush 101, 0, 0, []), zN, (.bipush 101, 0, 0, []), zN, (.bipush 112, 0, 0, []), zN], [(.bipush 115, 0, 0, []), zN, (.iconst 0, 0, 0, []), (.iconst 0, 0, 0, []), (.iconst 0, 0, 0, []), (.invokevirtual 171, 1000, 8, [(12, 147)]), zN, zN, (.invokevirtual 226, 1000, 1, [(12, 157)]), zN, zN, (.istore_n 3, 3, 0, []), (.aload_n 0, 0, 0, []), (.getfield 152, 12, 27, []), zN, zN], [(.ifCond .eq 7, 71, 0, []), zN, zN, (.iconst 0, 0, 0, []), (.goto 24, 92, 0, []), zN, zN, (.aload_n 0, 0, 0, []), (.aload_n 0, 0, 0, []), (.bipush 116, 0, 0, []), zN, (.bipush 105, 0, 0, []), zN, (.bipush 114, 0, 0, []), zN, (.bipush 101, 0, 0, [])], [zN, (.bipush 115, 0, 0, []), zN, (.iconst 0, 0, 0, []), (.iconst 0, 0, 0, []), (.iconst 0, 0, 0, []), (.invokevirtual 171, 1000, 8, [(12, 147)]), zN, zN, (.invokevirtual 226, 1000, 1, [(12, 157)]), zN, zN, (.istore 4, 4, 0, []), zN, (.aload_n 0, 0, 0, []), (.getfield 152, 12, 27, [])], [zN, zN, (.ifCond .eq 7, 105, 0, []), zN, zN, (.iconst 0, 0, 0, []), (.goto 25, 127, 0, []), zN, zN, (.aload_n 0, 0, 0, []), (.aload_n 0, 0, 0, []), (.bipush 108, 0, 0, []), zN, (.bipush 101, 0, 0, []), zN, (.bipush 97, 0, 0, [])], [zN, (.bipush 114, 0, 0, []), zN, (.bipush 110, 0, 0, []), zN, (.bipush 115, 0, 0, []), zN, (.iconst 0, 0, 0, []), (.iconst 0, 0, 0, []), (.invokevirtual 171, 1000, 8, [(12, 147)]), zN, zN, (.invokevirtual 226, 1000, 1, [(12, 157)]), zN, zN, (.istore 5, 5, 0, [])], [zN, (.aload_n 0, 0, 0, []), (.getfield 152, 12, 27, []), zN, zN, (.ifCond .ne 14, 147, 0, []), zN, zN, (.aload_n 0, 0, 0, []), (.getfield 135, 12, 23, []), zN, zN, (.ifCond .eq 7, 147, 0, []), zN, zN, (.aload_n 0, 0, 0, [])], [(.invokevirtual 165, 1000, 0, [(12, 145)]), zN, zN, (.iload_n 2, 2, 0, []), (.ifCond .ne 7, 155, 0, []), zN, zN, (.iload_n 3, 3, 0, []), (.goto 15, 167, 0, []), zN, zN, (.iload_n 2, 2, 0, []), (.iconst 1, 0, 0, []), (.if_icmp .ne 8, 165, 0, []), zN, zN], [(.iload 4, 4, 0, []), zN, (.goto 5, 167, 0, []), zN, zN, (.iload 5, 5, 0, []), zN, (.ireturn, 0, 0, [])]]
def zcX12_text : List (List zE) := [[(.aload_n 0, 0, 0, []), (.getfield 61, 12, 3, []), zN, zN, (.bipush 6, 0, 0, []), zN, (.if_icmp .ne 6, 12, 0, []), zN, zN, (.bipush (-4), 0, 0, []), zN, (.ireturn, 0, 0, []), (.iconst 0, 0, 0, []), (.istore_n 1, 1, 0, []), (.iload_n 1, 1, 0, []), (.aload_n 0, 0, 0, [])], [(.getfield 117, 12, 6, []), zN, zN, (.if_icmp .ge 30, 49, 0, []), zN, zN, (.aload_n 0, 0, 0, []), (.getfield 13, 12, 1, []), zN, zN, (.sipush 160, 0, 0, []), zN, zN, (.aload_n 0, 0, 0, []), (.getfield 61, 12, 3, []), zN], [zN, (.imul, 0, 0, []), (.iload_n 1, 1, 0, []), (.iadd, 0, 0, []), (.aload_n 0, 0, 0, []), (.getfield 20, 12, 5, []), zN, zN, (.iload_n 1, 1, 0, []), (.iaload, 0, 0, []), (.iastore, 0, 0, []), (.iinc 1 1, 1, 0, []), zN, zN, (.goto (-32), 14, 0, []), zN], [zN, (.aload_n 0, 0, 0, []), (.getfield 17, 12, 2, []), zN, zN, (.aload_n 0, 0, 0, []), (.getfield 61, 12, 3, []), zN, zN, (.aload_n 0, 0, 0, []), (.getfield 117, 12, 6, []), zN, zN, (.iastore, 0, 0, []), (.aload_n 0, 0, 0, []), (.iconst 0, 0, 0, [])], [(.putfield 117, 12, 6, []), zN, zN, (.aload_n 0, 0, 0, []), (.aload_n 0, 0, 0, []), (.getfield 61, 12, 3, []), zN, zN, (.iconst 0, 0, 0, []), (.invokevirtual 230, 1000, 2, [(12, 158)]), zN, zN, (.istore_n 1, 1, 0, []), (.aload_n 0, 0, 0, []), (.getfield 152, 12, 27, []), zN], [zN, (.ifCond .eq 11, 92, 0, []), zN, zN, (.bipush (-100), 0, 0, []), zN, (.aload_n 0, 0, 0, []), (.getfield 156, 12, 28, []), zN, zN, (.isub, 0, 0, []), (.ireturn, 0, 0, []), (.aload_n 0, 0, 0, []), (.dup, 0, 0, []), (.getfield 61, 12, 3, []), zN], [zN, (.iconst 1, 0, 0, []), (.iadd, 0, 0, []), (.putfield 61, 12, 3, []), zN, zN, (.aload_n 0, 0, 0, []), (.getfield 61, 12, 3, []), zN, zN, (.iconst 1, 0, 0, []), (.isub, 0, 0, []), (.ireturn, 0, 0, [])]]
def zcX12_force : List (List zE) := [[(.iload_n 1, 1, 0, []), (.i2l, 0, 0, []), (.lconst 0, 0, 0, []), (.aload_n 0, 0, 0, []), (.getfield 61, 12, 3, []), zN, zN, (.iconst 1, 0, 0, []), (.isub, 0, 0, []), (.i2l, 0, 0, []), (.invokestatic 67, 130, 3, [(0, 0)]), zN, zN, (.ifCond .ne 6, 19, 0, []), zN, zN], [(.bipush (-2), 0, 0, []), zN, (.ireturn, 0, 0, []), (.aload_n 0, 0, 0, []), (.getfield 99, 12, 4, []), zN, zN, (.istore_n 2, 2, 0, []), (.aload_n 0, 0, 0, []), (.iload_n 1, 1, 0, []), (.putfield 99, 12, 4, []), zN, zN, (.iload_n 2, 2, 0, []), (.ireturn, 0, 0, [])]]
def zcX12_bitsOf : List (List zE) := [[(.iconst 0, 0, 0, []), (.istore_n 1, 1, 0, []), (.iload_n 0, 0, 0, []), (.istore_n 2, 2, 0, []), (.iload_n 2, 2, 0, []), (.ifCond .eq 15, 20, 0, []), zN, zN, (.iinc 1 1, 1, 0, []), zN, zN, (.iload_n 2, 2, 0, []), (.iload_n 2, 2, 0, []), (.iconst 1, 0, 0, []), (.isub, 0, 0, []), (.iand, 0, 0, [])], [(.istore_n 2, 2, 0, []), (.goto (-13), 4, 0, []), zN, zN, (.iload_n 1, 1, 0, []), (.ireturn, 0, 0, [])]]
def zcX12_wordsOf : List (List zE) := [[(.aload_n 0, 0, 0, []), (.getfield 23, 12, 8, []), zN, zN, (.iconst 5, 0, 0, []), (.iload_n 1, 1, 0, []), (.imul, 0, 0, []), (.iconst 1, 0, 0, []), (.iadd, 0, 0, []), (.iaload, 0, 0, []), (.aload_n 0, 0, 0, []), (.getfield 233, 12, 13, []), zN, zN, (.ior, 0, 0, []), (.ireturn, 0, 0, [])]]
def zcX12_says : List (List zE) := [[(.aload_n 0, 0, 0, []), (.aload_n 0, 0, 0, []), (.iload_n 2, 2, 0, []), (.invokevirtual 236, 1000, 1, [(12, 162)]), zN, zN, (.invokestatic 239, 161, 1, [(0, 0)]), zN, zN, (.putfield 175, 12, 14, []), zN, zN, (.aload_n 0, 0, 0, []), (.aload_n 0, 0, 0, []), (.getfield 23, 12, 8, []), zN], [zN, (.iconst 5, 0, 0, []), (.iload_n 2, 2, 0, []), (.imul, 0, 0, []), (.iconst 2, 0, 0, []), (.iadd, 0, 0, []), (.iaload, 0, 0, []), (.putfield 178, 12, 15, []), zN, zN, (.aload_n 0, 0, 0, []), (.aload_n 0, 0, 0, []), (.getfield 23, 12, 8, []), zN, zN, (.iconst 5, 0, 0, [])], [(.iload_n 2, 2, 0, []), (.imul, 0, 0, []), (.iaload, 0, 0, []), (.putfield 181, 12, 16, []), zN, zN, (.aload_n 0, 0, 0, []), (.aload_n 0, 0, 0, []), (.getfield 96, 12, 7, []), zN, zN, (.putfield 184, 12, 17, []), zN, zN, (.aload_n 0, 0, 0, []), (.iload_n 3, 3, 0, [])], [(.invokestatic 239, 161, 1, [(0, 0)]), zN, zN, (.putfield 187, 12, 18, []), zN, zN, (.aload_n 0, 0, 0, []), (.aload_n 0, 0, 0, []), (.getfield 23, 12, 8, []), zN, zN, (.iconst 5, 0, 0, []), (.iload_n 2, 2, 0, []), (.imul, 0, 0, []), (.iconst 3, 0, 0, []), (.iadd, 0, 0, [])], [(.iaload, 0, 0, []), (.putfield 190, 12, 19, []), zN, zN, (.aload_n 0, 0, 0, []), (.aload_n 0, 0, 0, []), (.getfield 99, 12, 4, []), zN, zN, (.iload_n 1, 1, 0, []), (.invokevirtual 230, 1000, 2, [(12, 158)]), zN, zN, (.iconst 0, 0, 0, []), (.bipush 99, 0, 0, []), zN], [(.invokestatic 242, 131, 3, [(0, 0)]), zN, zN, (.ireturn, 0, 0, [])]]
def zcX12_keepsOf : List (List zE) := [[(.aload_n 0, 0, 0, []), (.getfield 23, 12, 8, []), zN, zN, (.iconst 5, 0, 0, []), (.iload_n 1, 1, 0, []), (.imul, 0, 0, []), (.iconst 4, 0, 0, []), (.iadd, 0, 0, []), (.iaload, 0, 0, []), (.istore_n 3, 3, 0, []), (.iload_n 3, 3, 0, []), (.iconst 4, 0, 0, []), (.if_icmp .ne 15, 28, 0, []), zN, zN], [(.aload_n 0, 0, 0, []), (.getfield 96, 12, 7, []), zN, zN, (.iconst 4, 0, 0, []), (.irem, 0, 0, []), (.ifCond .ne 6, 28, 0, []), zN, zN, (.bipush 10, 0, 0, []), zN, (.ireturn, 0, 0, []), (.aload_n 0, 0, 0, []), (.iconst 0, 0, 0, []), (.iload_n 1, 1, 0, []), (.iload_n 2, 2, 0, [])], [(.invokevirtual 246, 1000, 3, [(12, 163)]), zN, zN, (.istore 4, 4, 0, []), zN, (.iload_n 3, 3, 0, []), (.iconst 1, 0, 0, []), (.if_icmp .eq 8, 47, 0, []), zN, zN, (.iload_n 3, 3, 0, []), (.iconst 3, 0, 0, []), (.if_icmp .ne 10, 54, 0, []), zN, zN, (.iload 4, 4, 0, [])], [zN, (.iconst 1, 0, 0, []), (.iadd, 0, 0, []), (.goto 34, 85, 0, []), zN, zN, (.iload_n 3, 3, 0, []), (.iconst 2, 0, 0, []), (.if_icmp .eq 8, 64, 0, []), zN, zN, (.iload_n 3, 3, 0, []), (.iconst 4, 0, 0, []), (.if_icmp .ne 10, 71, 0, []), zN, zN], [(.iconst 2, 0, 0, []), (.iload 4, 4, 0, []), zN, (.imul, 0, 0, []), (.goto 17, 85, 0, []), zN, zN, (.iload_n 3, 3, 0, []), (.iconst 5, 0, 0, []), (.if_icmp .ne 10, 83, 0, []), zN, zN, (.iload 4, 4, 0, []), zN, (.iconst 2, 0, 0, []), (.idiv, 0, 0, [])], [(.goto 5, 85, 0, []), zN, zN, (.iload 4, 4, 0, []), zN, (.iconst 0, 0, 0, []), (.bipush 10, 0, 0, []), zN, (.invokestatic 242, 131, 3, [(0, 0)]), zN, zN, (.ireturn, 0, 0, [])]]
def zcX12_tellsOf : List (List zE) := [[(.aload_n 0, 0, 0, []), (.getfield 23, 12, 8, []), zN, zN, (.iconst 5, 0, 0, []), (.iload_n 1, 1, 0, []), (.imul, 0, 0, []), (.iconst 4, 0, 0, []), (.iadd, 0, 0, []), (.iaload, 0, 0, []), (.istore_n 3, 3, 0, []), (.iload_n 2, 2, 0, []), (.aload_n 0, 0, 0, []), (.iload_n 1, 1, 0, []), (.invokevirtual 236, 1000, 1, [(12, 162)]), zN], [zN, (.iand, 0, 0, []), (.istore 4, 4, 0, []), zN, (.iconst 0, 0, 0, []), (.istore 5, 5, 0, []), zN, (.aload_n 0, 0, 0, []), (.iload_n 1, 1, 0, []), (.iload_n 2, 2, 0, []), (.invokevirtual 249, 1000, 2, [(12, 164)]), zN, zN, (.istore 6, 6, 0, []), zN, (.iload 6, 6, 0, [])], [zN, (.ifCond .le 29, 62, 0, []), zN, zN, (.iload 5, 5, 0, []), zN, (.iload 4, 4, 0, []), zN, (.iload 4, 4, 0, []), zN, (.ineg, 0, 0, []), (.iand, 0, 0, []), (.ior, 0, 0, []), (.istore 5, 5, 0, []), zN, (.iload 4, 4, 0, [])], [zN, (.iload 4, 4, 0, []), zN, (.iconst 1, 0, 0, []), (.isub, 0, 0, []), (.iand, 0, 0, []), (.istore 4, 4, 0, []), zN, (.iinc 6 (-1), 6, 0, []), zN, zN, (.goto (-28), 31, 0, []), zN, zN, (.aload_n 0, 0, 0, []), (.getfield 23, 12, 8, [])], [zN, zN, (.iconst 5, 0, 0, []), (.iload_n 1, 1, 0, []), (.imul, 0, 0, []), (.iaload, 0, 0, []), (.istore 6, 6, 0, []), zN, (.iload 5, 5, 0, []), zN, (.iload 5, 5, 0, []), zN, (.iconst 1, 0, 0, []), (.ishl, 0, 0, []), (.iload_n 2, 2, 0, []), (.iand, 0, 0, [])], [(.ior, 0, 0, []), (.istore 7, 7, 0, []), zN, (.iload_n 3, 3, 0, []), (.iconst 1, 0, 0, []), (.if_icmp .eq 8, 93, 0, []), zN, zN, (.iload_n 3, 3, 0, []), (.iconst 3, 0, 0, []), (.if_icmp .ne 34, 124, 0, []), zN, zN, (.iload_n 3, 3, 0, []), (.iconst 1, 0, 0, []), (.if_icmp .ne 13, 108, 0, [])], [zN, zN, (.iload 5, 5, 0, []), zN, (.iconst 1, 0, 0, []), (.iload 6, 6, 0, []), zN, (.ishl, 0, 0, []), (.ior, 0, 0, []), (.goto 18, 123, 0, []), zN, zN, (.iload 5, 5, 0, []), zN, (.iconst 1, 0, 0, []), (.iload 6, 6, 0, [])], [zN, (.ishl, 0, 0, []), (.ior, 0, 0, []), (.iconst 1, 0, 0, []), (.bipush 9, 0, 0, []), zN, (.iload 6, 6, 0, []), zN, (.isub, 0, 0, []), (.ishl, 0, 0, []), (.ixor, 0, 0, []), (.ireturn, 0, 0, []), (.iload_n 3, 3, 0, []), (.iconst 4, 0, 0, []), (.if_icmp .ne 30, 156, 0, []), zN], [zN, (.iload 7, 7, 0, []), zN, (.ifCond .ne 7, 138, 0, []), zN, zN, (.iconst 0, 0, 0, []), (.goto 20, 155, 0, []), zN, zN, (.iload 7, 7, 0, []), zN, (.aload_n 0, 0, 0, []), (.iload_n 1, 1, 0, []), (.invokevirtual 236, 1000, 1, [(12, 162)]), zN], [zN, (.iload 7, 7, 0, []), zN, (.iload 7, 7, 0, []), zN, (.ineg, 0, 0, []), (.iand, 0, 0, []), (.iconst 1, 0, 0, []), (.isub, 0, 0, []), (.iand, 0, 0, []), (.ior, 0, 0, []), (.ireturn, 0, 0, []), (.iload_n 3, 3, 0, []), (.iconst 2, 0, 0, []), (.if_icmp .ne 8, 166, 0, []), zN], [zN, (.iload 7, 7, 0, []), zN, (.goto 18, 181, 0, []), zN, zN, (.iload_n 3, 3, 0, []), (.iconst 5, 0, 0, []), (.if_icmp .ne 11, 179, 0, []), zN, zN, (.iload 5, 5, 0, []), zN, (.bipush 31, 0, 0, []), zN, (.iand, 0, 0, [])], [(.goto 5, 181, 0, []), zN, zN, (.iload 5, 5, 0, []), zN, (.ireturn, 0, 0, [])]]
def zcX12_tiresOf : List (List zE) := [[(.aload_n 0, 0, 0, []), (.getfield 23, 12, 8, []), zN, zN, (.iconst 5, 0, 0, []), (.iload_n 1, 1, 0, []), (.imul, 0, 0, []), (.iconst 4, 0, 0, []), (.iadd, 0, 0, []), (.iaload, 0, 0, []), (.istore_n 3, 3, 0, []), (.iload_n 3, 3, 0, []), (.iconst 1, 0, 0, []), (.if_icmp .eq 8, 21, 0, []), zN, zN], [(.iload_n 3, 3, 0, []), (.iconst 3, 0, 0, []), (.if_icmp .ne 21, 39, 0, []), zN, zN, (.iload_n 3, 3, 0, []), (.iconst 3, 0, 0, []), (.if_icmp .ne 14, 37, 0, []), zN, zN, (.aload_n 0, 0, 0, []), (.getfield 23, 12, 8, []), zN, zN, (.iconst 5, 0, 0, []), (.iload_n 1, 1, 0, [])], [(.imul, 0, 0, []), (.iaload, 0, 0, []), (.goto 4, 38, 0, []), zN, zN, (.iconst 0, 0, 0, []), (.ireturn, 0, 0, []), (.aload_n 0, 0, 0, []), (.iconst 1, 0, 0, []), (.iload_n 1, 1, 0, []), (.iload_n 2, 2, 0, []), (.invokevirtual 246, 1000, 3, [(12, 163)]), zN, zN, (.istore 4, 4, 0, []), zN], [(.iload_n 3, 3, 0, []), (.iconst 2, 0, 0, []), (.if_icmp .ne 10, 60, 0, []), zN, zN, (.iload 4, 4, 0, []), zN, (.iconst 1, 0, 0, []), (.iadd, 0, 0, []), (.goto 44, 101, 0, []), zN, zN, (.iload_n 3, 3, 0, []), (.iconst 4, 0, 0, []), (.if_icmp .ne 12, 74, 0, []), zN], [zN, (.iload 4, 4, 0, []), zN, (.iconst 1, 0, 0, []), (.iadd, 0, 0, []), (.iconst 2, 0, 0, []), (.idiv, 0, 0, []), (.goto 30, 101, 0, []), zN, zN, (.iload_n 3, 3, 0, []), (.iconst 5, 0, 0, []), (.if_icmp .ne 23, 99, 0, []), zN, zN, (.aload_n 0, 0, 0, [])], [(.getfield 23, 12, 8, []), zN, zN, (.iconst 5, 0, 0, []), (.iload_n 1, 1, 0, []), (.imul, 0, 0, []), (.iconst 3, 0, 0, []), (.iadd, 0, 0, []), (.iaload, 0, 0, []), (.iconst 2, 0, 0, []), (.irem, 0, 0, []), (.iconst 1, 0, 0, []), (.if_icmp .ne 7, 99, 0, []), zN, zN, (.iconst 0, 0, 0, [])], [(.goto 5, 101, 0, []), zN, zN, (.iload 4, 4, 0, []), zN, (.ireturn, 0, 0, [])]]
def zcX12_learns : List (List zE) := [[(.aload_n 0, 0, 0, []), (.getfield 23, 12, 8, []), zN, zN, (.iconst 5, 0, 0, []), (.iload_n 1, 1, 0, []), (.imul, 0, 0, []), (.iconst 4, 0, 0, []), (.iadd, 0, 0, []), (.iaload, 0, 0, []), (.istore_n 3, 3, 0, []), (.iload_n 3, 3, 0, []), (.iconst 1, 0, 0, []), (.if_icmp .eq 8, 21, 0, []), zN, zN], [(.iload_n 3, 3, 0, []), (.iconst 5, 0, 0, []), (.if_icmp .ne 5, 23, 0, []), zN, zN, (.iconst 0, 0, 0, []), (.ireturn, 1, 0, []), (.aload_n 0, 0, 0, []), (.iconst 2, 0, 0, []), (.iload_n 1, 1, 0, []), (.iload_n 2, 2, 0, []), (.invokevirtual 246, 1000, 3, [(12, 163)]), zN, zN, (.ifCond .ne 21, 51, 0, []), zN], [zN, (.iload_n 3, 3, 0, []), (.iconst 2, 0, 0, []), (.if_icmp .eq 8, 43, 0, []), zN, zN, (.iload_n 3, 3, 0, []), (.iconst 4, 0, 0, []), (.if_icmp .ne 15, 55, 0, []), zN, zN, (.iload_n 2, 2, 0, []), (.invokestatic 239, 161, 1, [(0, 0)]), zN, zN, (.iconst 1, 0, 0, [])], [(.if_icmp .ne 7, 55, 0, []), zN, zN, (.iconst 1, 0, 0, []), (.goto 4, 56, 0, []), zN, zN, (.iconst 0, 0, 0, []), (.ireturn, 1, 0, [])]]
def zcX12_asks : List (List zE) := [[(.aload_n 0, 0, 0, []), (.iload_n 1, 1, 0, []), (.invokevirtual 74, 1000, 1, [(12, 134)]), zN, zN, (.ifCond .eq 27, 32, 0, []), zN, zN, (.iload_n 2, 2, 0, []), (.i2l, 0, 0, []), (.lconst 0, 0, 0, []), (.ldc2_w 106, 0, 0, [(1023, 0)]), zN, zN, (.invokestatic 67, 130, 3, [(0, 0)]), zN], [zN, (.ifCond .eq 15, 32, 0, []), zN, zN, (.iload_n 3, 3, 0, []), (.i2l, 0, 0, []), (.lconst 0, 0, 0, []), (.ldc2_w 252, 0, 0, [(3, 0)]), zN, zN, (.invokestatic 67, 130, 3, [(0, 0)]), zN, zN, (.ifCond .ne 6, 35, 0, []), zN, zN], [(.bipush (-2), 0, 0, []), zN, (.ireturn, 0, 0, []), (.iload_n 3, 3, 0, []), (.ifCond .ne 12, 48, 0, []), zN, zN, (.aload_n 0, 0, 0, []), (.iload_n 1, 1, 0, []), (.iload_n 2, 2, 0, []), (.invokevirtual 254, 1000, 2, [(12, 165)]), zN, zN, (.goto 45, 90, 0, []), zN, zN], [(.iload_n 3, 3, 0, []), (.iconst 1, 0, 0, []), (.if_icmp .ne 12, 62, 0, []), zN, zN, (.aload_n 0, 0, 0, []), (.iload_n 1, 1, 0, []), (.iload_n 2, 2, 0, []), (.invokevirtual 249, 1000, 2, [(12, 164)]), zN, zN, (.goto 31, 90, 0, []), zN, zN, (.iload_n 3, 3, 0, []), (.iconst 2, 0, 0, [])], [(.if_icmp .ne 12, 76, 0, []), zN, zN, (.aload_n 0, 0, 0, []), (.iload_n 1, 1, 0, []), (.iload_n 2, 2, 0, []), (.invokevirtual 257, 1000, 2, [(12, 166)]), zN, zN, (.goto 17, 90, 0, []), zN, zN, (.aload_n 0, 0, 0, []), (.iload_n 1, 1, 0, []), (.iload_n 2, 2, 0, []), (.invokevirtual 260, 1000, 2, [(12, 167)])], [zN, zN, (.ifCond .eq 7, 89, 0, []), zN, zN, (.iconst 1, 0, 0, []), (.goto 4, 90, 0, []), zN, zN, (.iconst 0, 0, 0, []), (.ireturn, 0, 0, [])]]
def zcX12_byAll : List (List zE) := [[(.iload_n 1, 1, 0, []), (.istore_n 2, 2, 0, []), (.iconst 0, 0, 0, []), (.istore_n 3, 3, 0, []), (.iload_n 3, 3, 0, []), (.aload_n 0, 0, 0, []), (.getfield 64, 12, 9, []), zN, zN, (.if_icmp .ge 16, 25, 0, []), zN, zN, (.aload_n 0, 0, 0, []), (.iload_n 3, 3, 0, []), (.iload_n 2, 2, 0, []), (.invokevirtual 254, 1000, 2, [(12, 165)])], [zN, zN, (.istore_n 2, 2, 0, []), (.iinc 3 1, 3, 0, []), zN, zN, (.goto (-18), 4, 0, []), zN, zN, (.iload_n 2, 2, 0, []), (.ireturn, 0, 0, [])]]
def zcX12_off : List (List zE) := [[(.iload_n 0, 0, 0, []), (.iload_n 1, 1, 0, []), (.ixor, 0, 0, []), (.invokestatic 239, 161, 1, [(0, 0)]), zN, zN, (.ireturn, 0, 0, [])]]
def zcX12_over : List (List zE) := [[(.iload_n 1, 1, 0, []), (.invokestatic 263, 195, 1, [(0, 0)]), zN, zN, (.ifCond .eq 27, 31, 0, []), zN, zN, (.iload_n 2, 2, 0, []), (.i2l, 0, 0, []), (.lconst 0, 0, 0, []), (.ldc2_w 106, 0, 0, [(1023, 0)]), zN, zN, (.invokestatic 67, 130, 3, [(0, 0)]), zN, zN], [(.ifCond .eq 15, 31, 0, []), zN, zN, (.iload_n 3, 3, 0, []), (.i2l, 0, 0, []), (.lconst 0, 0, 0, []), (.ldc2_w 252, 0, 0, [(3, 0)]), zN, zN, (.invokestatic 67, 130, 3, [(0, 0)]), zN, zN, (.ifCond .ne 6, 34, 0, []), zN, zN, (.bipush (-2), 0, 0, [])], [zN, (.ireturn, 0, 0, []), (.aload_n 0, 0, 0, []), (.getfield 44, 12, 41, []), zN, zN, (.iload_n 1, 1, 0, []), (.baload, 0, 0, []), (.ifCond .ne 6, 46, 0, []), zN, zN, (.bipush (-11), 0, 0, []), zN, (.ireturn, 0, 0, []), (.iload_n 2, 2, 0, []), (.istore 4, 4, 0, [])], [zN, (.iconst 0, 0, 0, []), (.istore 5, 5, 0, []), zN, (.iload 5, 5, 0, []), zN, (.aload_n 0, 0, 0, []), (.getfield 51, 12, 43, []), zN, zN, (.iload_n 1, 1, 0, []), (.iaload, 0, 0, []), (.if_icmp .ge 31, 91, 0, []), zN, zN, (.aload_n 0, 0, 0, [])], [(.aload_n 0, 0, 0, []), (.getfield 54, 12, 44, []), zN, zN, (.bipush 40, 0, 0, []), zN, (.iload_n 1, 1, 0, []), (.imul, 0, 0, []), (.iload 5, 5, 0, []), zN, (.iadd, 0, 0, []), (.iaload, 0, 0, []), (.invokevirtual 74, 1000, 1, [(12, 134)]), zN, zN, (.ifCond .ne 6, 85, 0, [])], [zN, zN, (.bipush (-2), 0, 0, []), zN, (.ireturn, 0, 0, []), (.iinc 5 1, 5, 0, []), zN, zN, (.goto (-36), 52, 0, []), zN, zN, (.iconst 0, 0, 0, []), (.istore 5, 5, 0, []), zN, (.iload 5, 5, 0, []), zN], [(.aload_n 0, 0, 0, []), (.getfield 51, 12, 43, []), zN, zN, (.iload_n 1, 1, 0, []), (.iaload, 0, 0, []), (.if_icmp .ge 29, 131, 0, []), zN, zN, (.aload_n 0, 0, 0, []), (.aload_n 0, 0, 0, []), (.getfield 54, 12, 44, []), zN, zN, (.bipush 40, 0, 0, []), zN], [(.iload_n 1, 1, 0, []), (.imul, 0, 0, []), (.iload 5, 5, 0, []), zN, (.iadd, 0, 0, []), (.iaload, 0, 0, []), (.iload 4, 4, 0, []), zN, (.invokevirtual 254, 1000, 2, [(12, 165)]), zN, zN, (.istore 4, 4, 0, []), zN, (.iinc 5 1, 5, 0, []), zN, zN], [(.goto (-34), 94, 0, []), zN, zN, (.iload_n 3, 3, 0, []), (.ifCond .ne 8, 140, 0, []), zN, zN, (.iload 4, 4, 0, []), zN, (.goto 37, 174, 0, []), zN, zN, (.iload_n 3, 3, 0, []), (.iconst 1, 0, 0, []), (.if_icmp .ne 12, 154, 0, []), zN], [zN, (.iload_n 2, 2, 0, []), (.iload 4, 4, 0, []), zN, (.invokestatic 266, 170, 2, [(0, 0)]), zN, zN, (.goto 23, 174, 0, []), zN, zN, (.iload_n 3, 3, 0, []), (.iconst 2, 0, 0, []), (.if_icmp .ne 12, 168, 0, []), zN, zN, (.iload_n 2, 2, 0, [])], [(.iload 4, 4, 0, []), zN, (.iconst (-1), 0, 0, []), (.ixor, 0, 0, []), (.iand, 0, 0, []), (.goto 9, 174, 0, []), zN, zN, (.iload 4, 4, 0, []), zN, (.iload_n 2, 2, 0, []), (.iconst (-1), 0, 0, []), (.ixor, 0, 0, []), (.iand, 0, 0, []), (.ireturn, 0, 0, [])]]
def zcX12_tellsTruly : List (List zE) := [[(.iconst 5, 0, 0, []), (.iload_n 1, 1, 0, []), (.imul, 0, 0, []), (.istore_n 3, 3, 0, []), (.aload_n 0, 0, 0, []), (.iload_n 1, 1, 0, []), (.iload_n 2, 2, 0, []), (.invokevirtual 254, 1000, 2, [(12, 165)]), zN, zN, (.istore 4, 4, 0, []), zN, (.aload_n 0, 0, 0, []), (.iload_n 1, 1, 0, []), (.iload_n 2, 2, 0, []), (.invokevirtual 257, 1000, 2, [(12, 166)])], [zN, zN, (.istore 5, 5, 0, []), zN, (.iload_n 2, 2, 0, []), (.aload_n 0, 0, 0, []), (.getfield 23, 12, 8, []), zN, zN, (.iload_n 3, 3, 0, []), (.iconst 1, 0, 0, []), (.iadd, 0, 0, []), (.iaload, 0, 0, []), (.iconst (-1), 0, 0, []), (.ixor, 0, 0, []), (.iand, 0, 0, [])], [(.istore 6, 6, 0, []), zN, (.aload_n 0, 0, 0, []), (.getfield 23, 12, 8, []), zN, zN, (.iload_n 3, 3, 0, []), (.iconst 1, 0, 0, []), (.iadd, 0, 0, []), (.dup2, 0, 0, []), (.iaload, 0, 0, []), (.aload_n 0, 0, 0, []), (.iload_n 1, 1, 0, []), (.iload_n 2, 2, 0, []), (.invokevirtual 260, 1000, 2, [(12, 167)]), zN], [zN, (.ifCond .eq 12, 61, 0, []), zN, zN, (.iload 6, 6, 0, []), zN, (.iload 6, 6, 0, []), zN, (.ineg, 0, 0, []), (.iand, 0, 0, []), (.goto 4, 62, 0, []), zN, zN, (.iconst 0, 0, 0, []), (.ior, 0, 0, []), (.iastore, 0, 0, [])], [(.aload_n 0, 0, 0, []), (.getfield 23, 12, 8, []), zN, zN, (.iload_n 3, 3, 0, []), (.iconst 2, 0, 0, []), (.iadd, 0, 0, []), (.aload_n 0, 0, 0, []), (.getfield 23, 12, 8, []), zN, zN, (.iload_n 3, 3, 0, []), (.iconst 2, 0, 0, []), (.iadd, 0, 0, []), (.iaload, 0, 0, []), (.iload 5, 5, 0, [])], [zN, (.isub, 0, 0, []), (.iconst 0, 0, 0, []), (.bipush 99, 0, 0, []), zN, (.invokestatic 242, 131, 3, [(0, 0)]), zN, zN, (.iastore, 0, 0, []), (.aload_n 0, 0, 0, []), (.getfield 23, 12, 8, []), zN, zN, (.iload_n 3, 3, 0, []), (.iconst 3, 0, 0, []), (.iadd, 0, 0, [])], [(.aload_n 0, 0, 0, []), (.getfield 23, 12, 8, []), zN, zN, (.iload_n 3, 3, 0, []), (.iconst 3, 0, 0, []), (.iadd, 0, 0, []), (.iaload, 0, 0, []), (.iconst 1, 0, 0, []), (.iadd, 0, 0, []), (.iconst 0, 0, 0, []), (.bipush 99, 0, 0, []), zN, (.invokestatic 242, 131, 3, [(0, 0)]), zN, zN], [(.iastore, 0, 0, []), (.iload 4, 4, 0, []), zN, (.ireturn, 0, 0, [])]]
def zcX12_passes : List (List zE) := [[(.iconst (-1), 0, 0, []), (.istore_n 1, 1, 0, []), (.aload_n 0, 0, 0, []), (.getfield 71, 12, 11, []), zN, zN, (.ifCond .le 90, 96, 0, []), zN, zN, (.aload_n 0, 0, 0, []), (.getfield 26, 12, 10, []), zN, zN, (.iconst 0, 0, 0, []), (.iaload, 0, 0, []), (.istore_n 1, 1, 0, [])], [(.iconst 0, 0, 0, []), (.istore_n 2, 2, 0, []), (.iload_n 2, 2, 0, []), (.aload_n 0, 0, 0, []), (.getfield 64, 12, 9, []), zN, zN, (.if_icmp .ge 16, 39, 0, []), zN, zN, (.aload_n 0, 0, 0, []), (.iload_n 2, 2, 0, []), (.iload_n 1, 1, 0, []), (.invokevirtual 269, 1000, 2, [(12, 172)]), zN, zN], [(.istore_n 1, 1, 0, []), (.iinc 2 1, 2, 0, []), zN, zN, (.goto (-18), 18, 0, []), zN, zN, (.aload_n 0, 0, 0, []), (.dup, 0, 0, []), (.getfield 71, 12, 11, []), zN, zN, (.iconst 1, 0, 0, []), (.isub, 0, 0, []), (.putfield 71, 12, 11, []), zN], [zN, (.iconst 0, 0, 0, []), (.istore_n 2, 2, 0, []), (.iload_n 2, 2, 0, []), (.aload_n 0, 0, 0, []), (.getfield 71, 12, 11, []), zN, zN, (.if_icmp .ge 23, 79, 0, []), zN, zN, (.aload_n 0, 0, 0, []), (.getfield 26, 12, 10, []), zN, zN, (.iload_n 2, 2, 0, [])], [(.aload_n 0, 0, 0, []), (.getfield 26, 12, 10, []), zN, zN, (.iload_n 2, 2, 0, []), (.iconst 1, 0, 0, []), (.iadd, 0, 0, []), (.iaload, 0, 0, []), (.iastore, 0, 0, []), (.iinc 2 1, 2, 0, []), zN, zN, (.goto (-25), 51, 0, []), zN, zN, (.aload_n 0, 0, 0, [])], [(.aload_n 0, 0, 0, []), (.getfield 112, 12, 12, []), zN, zN, (.iconst 1, 0, 0, []), (.iadd, 0, 0, []), (.iconst 0, 0, 0, []), (.sipush 999, 0, 0, []), zN, zN, (.invokestatic 242, 131, 3, [(0, 0)]), zN, zN, (.putfield 112, 12, 12, []), zN, zN], [(.aload_n 0, 0, 0, []), (.dup, 0, 0, []), (.getfield 96, 12, 7, []), zN, zN, (.iconst 1, 0, 0, []), (.iadd, 0, 0, []), (.putfield 96, 12, 7, []), zN, zN, (.iload_n 1, 1, 0, []), (.ireturn, 0, 0, [])]]
def zcX12_day : List (List zE) := [[(.aload_n 0, 0, 0, []), (.getfield 96, 12, 7, []), zN, zN, (.sipush 999, 0, 0, []), zN, zN, (.if_icmp .ne 8, 15, 0, []), zN, zN, (.bipush (-3), 0, 0, []), zN, (.goto 7, 19, 0, []), zN, zN, (.aload_n 0, 0, 0, [])], [(.invokevirtual 272, 1000, 0, [(12, 173)]), zN, zN, (.ireturn, 0, 0, [])]]
def zcX12_laysAside : List (List zE) := [[(.iconst 0, 0, 0, []), (.istore_n 1, 1, 0, []), (.iload_n 1, 1, 0, []), (.bipush 25, 0, 0, []), zN, (.if_icmp .ge 21, 26, 0, []), zN, zN, (.aload_n 0, 0, 0, []), (.getfield 29, 12, 29, []), zN, zN, (.iload_n 1, 1, 0, []), (.aload_n 0, 0, 0, []), (.getfield 23, 12, 8, []), zN], [zN, (.iload_n 1, 1, 0, []), (.iaload, 0, 0, []), (.iastore, 0, 0, []), (.iinc 1 1, 1, 0, []), zN, zN, (.goto (-21), 2, 0, []), zN, zN, (.iconst 0, 0, 0, []), (.istore_n 1, 1, 0, []), (.iload_n 1, 1, 0, []), (.bipush 8, 0, 0, []), zN, (.if_icmp .ge 24, 55, 0, [])], [zN, zN, (.aload_n 0, 0, 0, []), (.getfield 29, 12, 29, []), zN, zN, (.bipush 25, 0, 0, []), zN, (.iload_n 1, 1, 0, []), (.iadd, 0, 0, []), (.aload_n 0, 0, 0, []), (.getfield 26, 12, 10, []), zN, zN, (.iload_n 1, 1, 0, []), (.iaload, 0, 0, [])], [(.iastore, 0, 0, []), (.iinc 1 1, 1, 0, []), zN, zN, (.goto (-24), 28, 0, []), zN, zN, (.aload_n 0, 0, 0, []), (.getfield 29, 12, 29, []), zN, zN, (.bipush 33, 0, 0, []), zN, (.aload_n 0, 0, 0, []), (.getfield 71, 12, 11, []), zN], [zN, (.iastore, 0, 0, []), (.aload_n 0, 0, 0, []), (.getfield 29, 12, 29, []), zN, zN, (.bipush 34, 0, 0, []), zN, (.aload_n 0, 0, 0, []), (.getfield 112, 12, 12, []), zN, zN, (.iastore, 0, 0, []), (.aload_n 0, 0, 0, []), (.getfield 29, 12, 29, []), zN], [zN, (.bipush 35, 0, 0, []), zN, (.aload_n 0, 0, 0, []), (.getfield 96, 12, 7, []), zN, zN, (.iastore, 0, 0, []), (.return_, 0, 0, [])]]
def zcX12_laysBack : List (List zE) := [[(.iconst 0, 0, 0, []), (.istore_n 1, 1, 0, []), (.iload_n 1, 1, 0, []), (.bipush 25, 0, 0, []), zN, (.if_icmp .ge 21, 26, 0, []), zN, zN, (.aload_n 0, 0, 0, []), (.getfield 23, 12, 8, []), zN, zN, (.iload_n 1, 1, 0, []), (.aload_n 0, 0, 0, []), (.getfield 29, 12, 29, []), zN], [zN, (.iload_n 1, 1, 0, []), (.iaload, 0, 0, []), (.iastore, 0, 0, []), (.iinc 1 1, 1, 0, []), zN, zN, (.goto (-21), 2, 0, []), zN, zN, (.iconst 0, 0, 0, []), (.istore_n 1, 1, 0, []), (.iload_n 1, 1, 0, []), (.bipush 8, 0, 0, []), zN, (.if_icmp .ge 24, 55, 0, [])], [zN, zN, (.aload_n 0, 0, 0, []), (.getfield 26, 12, 10, []), zN, zN, (.iload_n 1, 1, 0, []), (.aload_n 0, 0, 0, []), (.getfield 29, 12, 29, []), zN, zN, (.bipush 25, 0, 0, []), zN, (.iload_n 1, 1, 0, []), (.iadd, 0, 0, []), (.iaload, 0, 0, [])], [(.iastore, 0, 0, []), (.iinc 1 1, 1, 0, []), zN, zN, (.goto (-24), 28, 0, []), zN, zN, (.aload_n 0, 0, 0, []), (.aload_n 0, 0, 0, []), (.getfield 29, 12, 29, []), zN, zN, (.bipush 33, 0, 0, []), zN, (.iaload, 0, 0, []), (.putfield 71, 12, 11, [])], [zN, zN, (.aload_n 0, 0, 0, []), (.aload_n 0, 0, 0, []), (.getfield 29, 12, 29, []), zN, zN, (.bipush 34, 0, 0, []), zN, (.iaload, 0, 0, []), (.putfield 112, 12, 12, []), zN, zN, (.aload_n 0, 0, 0, []), (.aload_n 0, 0, 0, []), (.getfield 29, 12, 29, [])], [zN, zN, (.bipush 35, 0, 0, []), zN, (.iaload, 0, 0, []), (.putfield 96, 12, 7, []), zN, zN, (.return_, 0, 0, [])]]
def zcX12_run : List (List zE) := [[(.iload_n 2, 2, 0, []), (.i2l, 0, 0, []), (.ldc2_w 150, 0, 0, [(10, 0)]), zN, zN, (.ldc2_w 275, 0, 0, [(14, 0)]), zN, zN, (.invokestatic 67, 130, 3, [(0, 0)]), zN, zN, (.ifCond .ne 17, 28, 0, []), zN, zN, (.iload_n 2, 2, 0, []), (.i2l, 0, 0, [])], [(.ldc2_w 277, 0, 0, [(20, 0)]), zN, zN, (.ldc2_w 279, 0, 0, [(24, 0)]), zN, zN, (.invokestatic 67, 130, 3, [(0, 0)]), zN, zN, (.ifCond .eq 18, 43, 0, []), zN, zN, (.aload_n 0, 0, 0, []), (.iload_n 2, 2, 0, []), (.bipush 10, 0, 0, []), zN], [(.irem, 0, 0, []), (.invokevirtual 74, 1000, 1, [(12, 134)]), zN, zN, (.ifCond .eq 7, 43, 0, []), zN, zN, (.iconst 1, 0, 0, []), (.goto 4, 44, 0, []), zN, zN, (.iconst 0, 0, 0, []), (.istore_n 3, 3, 0, []), (.iload_n 1, 1, 0, []), (.i2l, 0, 0, []), (.lconst 0, 0, 0, [])], [(.ldc2_w 277, 0, 0, [(20, 0)]), zN, zN, (.invokestatic 67, 130, 3, [(0, 0)]), zN, zN, (.ifCond .eq 17, 71, 0, []), zN, zN, (.iload_n 2, 2, 0, []), (.i2l, 0, 0, []), (.lconst 0, 0, 0, []), (.lconst 1, 0, 0, []), (.invokestatic 67, 130, 3, [(0, 0)]), zN, zN], [(.ifCond .ne 11, 75, 0, []), zN, zN, (.iload_n 3, 3, 0, []), (.ifCond .ne 7, 75, 0, []), zN, zN, (.sipush (-1000), 0, 0, []), zN, zN, (.ireturn, 0, 0, []), (.aload_n 0, 0, 0, []), (.invokevirtual 281, 1000, 0, [(12, 175)]), zN, zN, (.iconst (-1), 0, 0, [])], [(.istore 4, 4, 0, []), zN, (.iconst 0, 0, 0, []), (.istore 5, 5, 0, []), zN, (.iconst 0, 0, 0, []), (.istore 6, 6, 0, []), zN, (.iload 6, 6, 0, []), zN, (.iload_n 1, 1, 0, []), (.if_icmp .ge 46, 137, 0, []), zN, zN, (.aload_n 0, 0, 0, []), (.invokevirtual 272, 1000, 0, [(12, 173)])], [zN, zN, (.istore 7, 7, 0, []), zN, (.iload 7, 7, 0, []), zN, (.iconst (-1), 0, 0, []), (.if_icmp .ne 8, 111, 0, []), zN, zN, (.iload 4, 4, 0, []), zN, (.goto 5, 113, 0, []), zN, zN, (.iload 7, 7, 0, [])], [zN, (.istore 4, 4, 0, []), zN, (.iload 5, 5, 0, []), zN, (.iload 7, 7, 0, []), zN, (.iconst (-1), 0, 0, []), (.if_icmp .ne 7, 127, 0, []), zN, zN, (.iconst 0, 0, 0, []), (.goto 4, 128, 0, []), zN, zN, (.iconst 1, 0, 0, [])], [(.iadd, 0, 0, []), (.istore 5, 5, 0, []), zN, (.iinc 6 1, 6, 0, []), zN, zN, (.goto (-46), 88, 0, []), zN, zN, (.iload_n 2, 2, 0, []), (.ifCond .ne 8, 146, 0, []), zN, zN, (.iload 4, 4, 0, []), zN, (.goto 29, 172, 0, [])], [zN, zN, (.iload_n 2, 2, 0, []), (.iconst 1, 0, 0, []), (.if_icmp .ne 8, 156, 0, []), zN, zN, (.iload 5, 5, 0, []), zN, (.goto 19, 172, 0, []), zN, zN, (.aload_n 0, 0, 0, []), (.getfield 23, 12, 8, []), zN, zN], [(.iconst 5, 0, 0, []), (.iload_n 2, 2, 0, []), (.bipush 10, 0, 0, []), zN, (.irem, 0, 0, []), (.imul, 0, 0, []), (.iload_n 2, 2, 0, []), (.bipush 10, 0, 0, []), zN, (.idiv, 0, 0, []), (.iadd, 0, 0, []), (.iaload, 0, 0, []), (.istore 6, 6, 0, []), zN, (.aload_n 0, 0, 0, []), (.invokevirtual 284, 1000, 0, [(12, 176)])], [zN, zN, (.iload 6, 6, 0, []), zN, (.ireturn, 0, 0, [])]]
def zcX12_fro : List (List zE) := [[(.iload_n 1, 1, 0, []), (.i2l, 0, 0, []), (.lconst 0, 0, 0, []), (.ldc2_w 106, 0, 0, [(1023, 0)]), zN, zN, (.invokestatic 67, 130, 3, [(0, 0)]), zN, zN, (.ifCond .eq 13, 22, 0, []), zN, zN, (.iload_n 2, 2, 0, []), (.i2l, 0, 0, []), (.lconst 0, 0, 0, []), (.lconst 1, 0, 0, [])], [(.invokestatic 67, 130, 3, [(0, 0)]), zN, zN, (.ifCond .ne 6, 25, 0, []), zN, zN, (.bipush (-2), 0, 0, []), zN, (.ireturn, 0, 0, []), (.aload_n 0, 0, 0, []), (.getfield 32, 12, 30, []), zN, zN, (.iconst 0, 0, 0, []), (.iload_n 1, 1, 0, []), (.iastore, 0, 0, [])], [(.iconst 1, 0, 0, []), (.istore_n 3, 3, 0, []), (.iload_n 3, 3, 0, []), (.bipush 60, 0, 0, []), zN, (.if_icmp .gt 73, 110, 0, []), zN, zN, (.aload_n 0, 0, 0, []), (.getfield 32, 12, 30, []), zN, zN, (.iload_n 3, 3, 0, []), (.aload_n 0, 0, 0, []), (.aload_n 0, 0, 0, []), (.getfield 32, 12, 30, [])], [zN, zN, (.iload_n 3, 3, 0, []), (.iconst 1, 0, 0, []), (.isub, 0, 0, []), (.iaload, 0, 0, []), (.invokevirtual 287, 1000, 1, [(12, 169)]), zN, zN, (.iastore, 0, 0, []), (.iconst 0, 0, 0, []), (.istore 4, 4, 0, []), zN, (.iload 4, 4, 0, []), zN, (.iload_n 3, 3, 0, [])], [(.if_icmp .ge 40, 104, 0, []), zN, zN, (.aload_n 0, 0, 0, []), (.getfield 32, 12, 30, []), zN, zN, (.iload 4, 4, 0, []), zN, (.iaload, 0, 0, []), (.aload_n 0, 0, 0, []), (.getfield 32, 12, 30, []), zN, zN, (.iload_n 3, 3, 0, []), (.iaload, 0, 0, [])], [(.if_icmp .ne 18, 98, 0, []), zN, zN, (.iload_n 2, 2, 0, []), (.ifCond .ne 7, 91, 0, []), zN, zN, (.iload_n 3, 3, 0, []), (.goto 9, 97, 0, []), zN, zN, (.aload_n 0, 0, 0, []), (.getfield 32, 12, 30, []), zN, zN, (.iload_n 3, 3, 0, [])], [(.iaload, 0, 0, []), (.ireturn, 0, 0, []), (.iinc 4 1, 4, 0, []), zN, zN, (.goto (-40), 61, 0, []), zN, zN, (.iinc 3 1, 3, 0, []), zN, zN, (.goto (-73), 34, 0, []), zN, zN, (.iconst (-1), 0, 0, []), (.ireturn, 0, 0, [])]]
def zcX12_rowsFrom : List (List zE) := [[(.iload_n 1, 1, 0, []), (.iload_n 2, 2, 0, []), (.invokestatic 266, 170, 2, [(0, 0)]), zN, zN, (.istore 7, 7, 0, []), zN, (.iload_n 3, 3, 0, []), (.ifCond .le 46, 54, 0, []), zN, zN, (.iload 7, 7, 0, []), zN, (.aload_n 0, 0, 0, []), (.getfield 290, 12, 32, []), zN], [zN, (.if_icmp .lt 20, 37, 0, []), zN, zN, (.iload 7, 7, 0, []), zN, (.aload_n 0, 0, 0, []), (.getfield 290, 12, 32, []), zN, zN, (.if_icmp .ne 28, 54, 0, []), zN, zN, (.iload_n 3, 3, 0, []), (.aload_n 0, 0, 0, []), (.getfield 293, 12, 33, [])], [zN, zN, (.if_icmp .ge 20, 54, 0, []), zN, zN, (.aload_n 0, 0, 0, []), (.iload 6, 6, 0, []), zN, (.putfield 296, 12, 31, []), zN, zN, (.aload_n 0, 0, 0, []), (.iload 7, 7, 0, []), zN, (.putfield 290, 12, 32, []), zN], [zN, (.aload_n 0, 0, 0, []), (.iload_n 3, 3, 0, []), (.putfield 293, 12, 33, []), zN, zN, (.iconst 0, 0, 0, []), (.istore 8, 8, 0, []), zN, (.iload 8, 8, 0, []), zN, (.aload_n 0, 0, 0, []), (.getfield 64, 12, 9, []), zN, zN, (.if_icmp .ge 59, 122, 0, [])], [zN, zN, (.iload_n 3, 3, 0, []), (.iload 4, 4, 0, []), zN, (.if_icmp .ge 53, 122, 0, []), zN, zN, (.iload 5, 5, 0, []), zN, (.iload 8, 8, 0, []), zN, (.ishr, 0, 0, []), (.iconst 1, 0, 0, []), (.iand, 0, 0, []), (.ifCond .ne 37, 116, 0, [])], [zN, zN, (.aload_n 0, 0, 0, []), (.iload_n 1, 1, 0, []), (.aload_n 0, 0, 0, []), (.iload 8, 8, 0, []), zN, (.iload_n 2, 2, 0, []), (.invokevirtual 254, 1000, 2, [(12, 165)]), zN, zN, (.iload_n 3, 3, 0, []), (.iconst 1, 0, 0, []), (.iadd, 0, 0, []), (.iload 4, 4, 0, []), zN], [(.iload 5, 5, 0, []), zN, (.iconst 1, 0, 0, []), (.iload 8, 8, 0, []), zN, (.ishl, 0, 0, []), (.ior, 0, 0, []), (.bipush 10, 0, 0, []), zN, (.iload 6, 6, 0, []), zN, (.imul, 0, 0, []), (.iload 8, 8, 0, []), zN, (.iadd, 0, 0, []), (.iconst 1, 0, 0, [])], [(.iadd, 0, 0, []), (.invokevirtual 299, 1000, 6, [(12, 179)]), zN, zN, (.iinc 8 1, 8, 0, []), zN, zN, (.goto (-62), 57, 0, []), zN, zN, (.return_, 0, 0, [])]]
def zcX12_row : List (List zE) := [[(.iload_n 1, 1, 0, []), (.i2l, 0, 0, []), (.lconst 0, 0, 0, []), (.ldc2_w 106, 0, 0, [(1023, 0)]), zN, zN, (.invokestatic 67, 130, 3, [(0, 0)]), zN, zN, (.ifCond .eq 25, 34, 0, []), zN, zN, (.iload_n 2, 2, 0, []), (.i2l, 0, 0, []), (.lconst 1, 0, 0, []), (.ldc2_w 252, 0, 0, [(3, 0)])], [zN, zN, (.invokestatic 67, 130, 3, [(0, 0)]), zN, zN, (.ifCond .eq 13, 34, 0, []), zN, zN, (.iload_n 3, 3, 0, []), (.i2l, 0, 0, []), (.lconst 0, 0, 0, []), (.lconst 1, 0, 0, []), (.invokestatic 67, 130, 3, [(0, 0)]), zN, zN, (.ifCond .ne 6, 37, 0, [])], [zN, zN, (.bipush (-2), 0, 0, []), zN, (.ireturn, 0, 0, []), (.aload_n 0, 0, 0, []), (.getfield 64, 12, 9, []), zN, zN, (.ifCond .ne 5, 46, 0, []), zN, zN, (.iconst (-1), 0, 0, []), (.ireturn, 0, 0, []), (.aload_n 0, 0, 0, []), (.bipush 100, 0, 0, [])], [zN, (.putfield 290, 12, 32, []), zN, zN, (.aload_n 0, 0, 0, []), (.iload_n 1, 1, 0, []), (.iload_n 1, 1, 0, []), (.iconst 0, 0, 0, []), (.iload_n 2, 2, 0, []), (.iconst 0, 0, 0, []), (.iconst 0, 0, 0, []), (.invokevirtual 299, 1000, 6, [(12, 179)]), zN, zN, (.iload_n 3, 3, 0, []), (.ifCond .ne 10, 73, 0, [])], [zN, zN, (.aload_n 0, 0, 0, []), (.getfield 296, 12, 31, []), zN, zN, (.goto 7, 77, 0, []), zN, zN, (.aload_n 0, 0, 0, []), (.getfield 290, 12, 32, []), zN, zN, (.ireturn, 0, 0, [])]]
def zcX12_learn : List (List zE) := [[(.iload_n 1, 1, 0, []), (.i2l, 0, 0, []), (.lconst 0, 0, 0, []), (.ldc2_w 106, 0, 0, [(1023, 0)]), zN, zN, (.invokestatic 67, 130, 3, [(0, 0)]), zN, zN, (.ifCond .eq 13, 22, 0, []), zN, zN, (.iload_n 2, 2, 0, []), (.i2l, 0, 0, []), (.lconst 0, 0, 0, []), (.lconst 1, 0, 0, [])], [(.invokestatic 67, 130, 3, [(0, 0)]), zN, zN, (.ifCond .ne 6, 25, 0, []), zN, zN, (.bipush (-2), 0, 0, []), zN, (.ireturn, 0, 0, []), (.iconst (-1), 0, 0, []), (.istore_n 3, 3, 0, []), (.iconst 0, 0, 0, []), (.istore 4, 4, 0, []), zN, (.iload 4, 4, 0, []), zN], [(.sipush 1023, 0, 0, []), zN, zN, (.if_icmp .gt 48, 83, 0, []), zN, zN, (.iload_n 3, 3, 0, []), (.iconst (-1), 0, 0, []), (.if_icmp .eq 15, 55, 0, []), zN, zN, (.iload 4, 4, 0, []), zN, (.invokestatic 239, 161, 1, [(0, 0)]), zN, zN], [(.iload_n 3, 3, 0, []), (.invokestatic 239, 161, 1, [(0, 0)]), zN, zN, (.if_icmp .ge 25, 77, 0, []), zN, zN, (.aload_n 0, 0, 0, []), (.iload 4, 4, 0, []), zN, (.putfield 233, 12, 13, []), zN, zN, (.aload_n 0, 0, 0, []), (.iload_n 1, 1, 0, []), (.invokevirtual 287, 1000, 1, [(12, 169)])], [zN, zN, (.iload_n 1, 1, 0, []), (.if_icmp .ne 8, 75, 0, []), zN, zN, (.iload 4, 4, 0, []), zN, (.goto 4, 76, 0, []), zN, zN, (.iload_n 3, 3, 0, []), (.istore_n 3, 3, 0, []), (.iinc 4 1, 4, 0, []), zN, zN], [(.goto (-50), 30, 0, []), zN, zN, (.aload_n 0, 0, 0, []), (.iconst 0, 0, 0, []), (.putfield 233, 12, 13, []), zN, zN, (.iload_n 2, 2, 0, []), (.ifCond .eq 8, 97, 0, []), zN, zN, (.iload_n 3, 3, 0, []), (.iconst (-1), 0, 0, []), (.if_icmp .ne 7, 101, 0, []), zN], [zN, (.iload_n 3, 3, 0, []), (.goto 7, 105, 0, []), zN, zN, (.iload_n 3, 3, 0, []), (.invokestatic 239, 161, 1, [(0, 0)]), zN, zN, (.ireturn, 0, 0, [])]]
def zcX12_from : List (List zE) := [[(.iload_n 1, 1, 0, []), (.i2l, 0, 0, []), (.lconst 0, 0, 0, []), (.ldc2_w 106, 0, 0, [(1023, 0)]), zN, zN, (.invokestatic 67, 130, 3, [(0, 0)]), zN, zN, (.ifCond .eq 13, 22, 0, []), zN, zN, (.iload_n 2, 2, 0, []), (.i2l, 0, 0, []), (.lconst 0, 0, 0, []), (.lconst 1, 0, 0, [])], [(.invokestatic 67, 130, 3, [(0, 0)]), zN, zN, (.ifCond .ne 6, 25, 0, []), zN, zN, (.bipush (-2), 0, 0, []), zN, (.ireturn, 0, 0, []), (.iconst 0, 0, 0, []), (.istore_n 3, 3, 0, []), (.iconst (-1), 0, 0, []), (.istore 4, 4, 0, []), zN, (.sipush 1023, 0, 0, []), zN], [zN, (.istore 5, 5, 0, []), zN, (.iload 5, 5, 0, []), zN, (.ifCond .lt 26, 63, 0, []), zN, zN, (.aload_n 0, 0, 0, []), (.iload 5, 5, 0, []), zN, (.invokevirtual 287, 1000, 1, [(12, 169)]), zN, zN, (.iload_n 1, 1, 0, []), (.if_icmp .ne 10, 57, 0, [])], [zN, zN, (.iinc 3 1, 3, 0, []), zN, zN, (.iload 5, 5, 0, []), zN, (.istore 4, 4, 0, []), zN, (.iinc 5 (-1), 5, 0, []), zN, zN, (.goto (-25), 35, 0, []), zN, zN, (.iload_n 2, 2, 0, [])], [(.ifCond .ne 7, 71, 0, []), zN, zN, (.iload_n 3, 3, 0, []), (.goto 5, 73, 0, []), zN, zN, (.iload 4, 4, 0, []), zN, (.ireturn, 0, 0, [])]]
def zcX12_lowest : List (List zE) := [[(.lload_n 0, 0, 0, []), (.lstore 5, 5, 0, []), zN, (.lload_n 2, 2, 0, []), (.lstore 7, 7, 0, []), zN, (.lload 7, 7, 0, []), zN, (.lconst 0, 0, 0, []), (.lcmp, 0, 0, []), (.ifCond .eq 21, 31, 0, []), zN, zN, (.lload 5, 5, 0, []), zN, (.lload 7, 7, 0, [])], [zN, (.lrem, 0, 0, []), (.lstore 9, 9, 0, []), zN, (.lload 7, 7, 0, []), zN, (.lstore 5, 5, 0, []), zN, (.lload 9, 9, 0, []), zN, (.lstore 7, 7, 0, []), zN, (.goto (-22), 6, 0, []), zN, zN, (.iload 4, 4, 0, [])], [zN, (.ifCond .ne 10, 43, 0, []), zN, zN, (.lload_n 0, 0, 0, []), (.lload 5, 5, 0, []), zN, (.ldiv, 0, 0, []), (.goto 7, 47, 0, []), zN, zN, (.lload_n 2, 2, 0, []), (.lload 5, 5, 0, []), zN, (.ldiv, 0, 0, []), (.lreturn, 0, 0, [])]]
def zcX12_mean : List (List zE) := [[(.iload_n 1, 1, 0, []), (.i2l, 0, 0, []), (.lconst 0, 0, 0, []), (.lconst 1, 0, 0, []), (.invokestatic 67, 130, 3, [(0, 0)]), zN, zN, (.ifCond .eq 10, 17, 0, []), zN, zN, (.aload_n 0, 0, 0, []), (.getfield 64, 12, 9, []), zN, zN, (.ifCond .ne 7, 21, 0, []), zN], [zN, (.ldc2_w 303, 0, 0, [((-4611686018427387904), 0)]), zN, zN, (.lreturn, 0, 0, []), (.iconst 0, 0, 0, []), (.istore_n 2, 2, 0, []), (.iconst 0, 0, 0, []), (.istore_n 3, 3, 0, []), (.iload_n 3, 3, 0, []), (.aload_n 0, 0, 0, []), (.getfield 64, 12, 9, []), zN, zN, (.if_icmp .ge 25, 55, 0, []), zN], [zN, (.iload_n 2, 2, 0, []), (.aload_n 0, 0, 0, []), (.getfield 23, 12, 8, []), zN, zN, (.iconst 5, 0, 0, []), (.iload_n 3, 3, 0, []), (.imul, 0, 0, []), (.iconst 1, 0, 0, []), (.iadd, 0, 0, []), (.iaload, 0, 0, []), (.invokestatic 239, 161, 1, [(0, 0)]), zN, zN, (.iadd, 0, 0, [])], [(.istore_n 2, 2, 0, []), (.iinc 3 1, 3, 0, []), zN, zN, (.goto (-27), 25, 0, []), zN, zN, (.iload_n 2, 2, 0, []), (.i2l, 0, 0, []), (.aload_n 0, 0, 0, []), (.getfield 64, 12, 9, []), zN, zN, (.i2l, 0, 0, []), (.iload_n 1, 1, 0, []), (.invokestatic 305, 183, 3, [(0, 0)])], [zN, zN, (.lreturn, 0, 0, [])]]
def zcX12_firstOther : List (List zE) := [[(.iconst 0, 0, 0, []), (.istore_n 3, 3, 0, []), (.iload_n 3, 3, 0, []), (.aload_n 0, 0, 0, []), (.getfield 51, 12, 43, []), zN, zN, (.iload_n 1, 1, 0, []), (.iaload, 0, 0, []), (.if_icmp .ge 33, 42, 0, []), zN, zN, (.aload_n 0, 0, 0, []), (.iload_n 2, 2, 0, []), (.iconst 1, 0, 0, []), (.iload_n 3, 3, 0, [])], [(.ishl, 0, 0, []), (.invokevirtual 254, 1000, 2, [(12, 165)]), zN, zN, (.aload_n 0, 0, 0, []), (.getfield 54, 12, 44, []), zN, zN, (.bipush 40, 0, 0, []), zN, (.iload_n 1, 1, 0, []), (.imul, 0, 0, []), (.iload_n 3, 3, 0, []), (.iadd, 0, 0, []), (.iaload, 0, 0, []), (.if_icmp .eq 5, 36, 0, [])], [zN, zN, (.iload_n 3, 3, 0, []), (.ireturn, 0, 0, []), (.iinc 3 1, 3, 0, []), zN, zN, (.goto (-37), 2, 0, []), zN, zN, (.iconst (-1), 0, 0, []), (.ireturn, 0, 0, [])]]
def zcX12_likeSet : List (List zE) := [[(.iconst 0, 0, 0, []), (.istore_n 2, 2, 0, []), (.iconst 0, 0, 0, []), (.istore_n 3, 3, 0, []), (.iload_n 3, 3, 0, []), (.aload_n 0, 0, 0, []), (.getfield 64, 12, 9, []), zN, zN, (.if_icmp .ge 29, 38, 0, []), zN, zN, (.iload_n 2, 2, 0, []), (.aload_n 0, 0, 0, []), (.iload_n 1, 1, 0, []), (.iload_n 3, 3, 0, [])], [(.invokevirtual 309, 1000, 2, [(12, 185)]), zN, zN, (.iconst (-1), 0, 0, []), (.if_icmp .ne 7, 27, 0, []), zN, zN, (.iconst 1, 0, 0, []), (.goto 4, 28, 0, []), zN, zN, (.iconst 0, 0, 0, []), (.iload_n 3, 3, 0, []), (.ishl, 0, 0, []), (.ior, 0, 0, []), (.istore_n 2, 2, 0, [])], [(.iinc 3 1, 3, 0, []), zN, zN, (.goto (-31), 4, 0, []), zN, zN, (.iload_n 2, 2, 0, []), (.ireturn, 0, 0, [])]]
def zcX12_tells : List (List zE) := [[(.iload_n 1, 1, 0, []), (.invokestatic 263, 195, 1, [(0, 0)]), zN, zN, (.ifCond .eq 23, 27, 0, []), zN, zN, (.aload_n 0, 0, 0, []), (.iload_n 2, 2, 0, []), (.invokevirtual 74, 1000, 1, [(12, 134)]), zN, zN, (.ifCond .eq 15, 27, 0, []), zN, zN, (.iload_n 3, 3, 0, [])], [(.i2l, 0, 0, []), (.lconst 0, 0, 0, []), (.ldc2_w 110, 0, 0, [(8, 0)]), zN, zN, (.invokestatic 67, 130, 3, [(0, 0)]), zN, zN, (.ifCond .ne 6, 30, 0, []), zN, zN, (.bipush (-2), 0, 0, []), zN, (.ireturn, 0, 0, []), (.aload_n 0, 0, 0, []), (.getfield 44, 12, 41, [])], [zN, zN, (.iload_n 1, 1, 0, []), (.baload, 0, 0, []), (.ifCond .ne 6, 42, 0, []), zN, zN, (.bipush (-11), 0, 0, []), zN, (.ireturn, 0, 0, []), (.aload_n 0, 0, 0, []), (.getfield 51, 12, 43, []), zN, zN, (.iload_n 1, 1, 0, []), (.iaload, 0, 0, [])], [(.bipush 10, 0, 0, []), zN, (.if_icmp .le 6, 56, 0, []), zN, zN, (.bipush (-2), 0, 0, []), zN, (.ireturn, 0, 0, []), (.iload_n 3, 3, 0, []), (.ifCond .eq 9, 66, 0, []), zN, zN, (.iload_n 3, 3, 0, []), (.bipush 8, 0, 0, []), zN, (.if_icmp .ne 22, 85, 0, [])], [zN, zN, (.iload_n 3, 3, 0, []), (.ifCond .ne 12, 79, 0, []), zN, zN, (.aload_n 0, 0, 0, []), (.iload_n 1, 1, 0, []), (.iload_n 2, 2, 0, []), (.invokevirtual 309, 1000, 2, [(12, 185)]), zN, zN, (.goto 8, 84, 0, []), zN, zN, (.aload_n 0, 0, 0, [])], [(.iload_n 1, 1, 0, []), (.invokevirtual 312, 1000, 1, [(12, 186)]), zN, zN, (.ireturn, 0, 0, []), (.iload_n 3, 3, 0, []), (.iconst 1, 0, 0, []), (.if_icmp .ne 7, 94, 0, []), zN, zN, (.iconst 5, 0, 0, []), (.goto 33, 124, 0, []), zN, zN, (.iload_n 3, 3, 0, []), (.iconst 2, 0, 0, [])], [(.if_icmp .ne 7, 103, 0, []), zN, zN, (.iconst 1, 0, 0, []), (.goto 24, 124, 0, []), zN, zN, (.iload_n 3, 3, 0, []), (.iconst 5, 0, 0, []), (.if_icmp .ge 7, 112, 0, []), zN, zN, (.iconst 3, 0, 0, []), (.goto 15, 124, 0, []), zN, zN], [(.iload_n 3, 3, 0, []), (.bipush 7, 0, 0, []), zN, (.if_icmp .ge 7, 122, 0, []), zN, zN, (.iconst 2, 0, 0, []), (.goto 5, 124, 0, []), zN, zN, (.bipush 6, 0, 0, []), zN, (.istore 4, 4, 0, []), zN, (.iload 4, 4, 0, []), zN], [(.bipush 6, 0, 0, []), zN, (.if_icmp .ne 10, 140, 0, []), zN, zN, (.aload_n 0, 0, 0, []), (.getfield 99, 12, 4, []), zN, zN, (.goto 10, 147, 0, []), zN, zN, (.aload_n 0, 0, 0, []), (.iload_n 2, 2, 0, []), (.iload 4, 4, 0, []), zN], [(.invokevirtual 88, 1000, 2, [(12, 140)]), zN, zN, (.istore 5, 5, 0, []), zN, (.iload 4, 4, 0, []), zN, (.bipush 6, 0, 0, []), zN, (.if_icmp .ne 12, 165, 0, []), zN, zN, (.aload_n 0, 0, 0, []), (.getfield 61, 12, 3, []), zN, zN], [(.iconst 1, 0, 0, []), (.isub, 0, 0, []), (.goto 38, 200, 0, []), zN, zN, (.iload 4, 4, 0, []), zN, (.iconst 5, 0, 0, []), (.if_icmp .ne 7, 175, 0, []), zN, zN, (.iconst 5, 0, 0, []), (.goto 28, 200, 0, []), zN, zN, (.iload 4, 4, 0, [])], [zN, (.iconst 1, 0, 0, []), (.if_icmp .ne 8, 186, 0, []), zN, zN, (.bipush 9, 0, 0, []), zN, (.goto 17, 200, 0, []), zN, zN, (.iload 4, 4, 0, []), zN, (.iconst 3, 0, 0, []), (.if_icmp .ne 8, 197, 0, []), zN, zN], [(.bipush 99, 0, 0, []), zN, (.goto 6, 200, 0, []), zN, zN, (.sipush 1023, 0, 0, []), zN, zN, (.istore 6, 6, 0, []), zN, (.iconst 0, 0, 0, []), (.istore 7, 7, 0, []), zN, (.iconst 0, 0, 0, []), (.istore 8, 8, 0, []), zN], [(.iconst (-1), 0, 0, []), (.istore 9, 9, 0, []), zN, (.iload 6, 6, 0, []), zN, (.istore 10, 10, 0, []), zN, (.iload 10, 10, 0, []), zN, (.ifCond .lt 55, 272, 0, []), zN, zN, (.aload_n 0, 0, 0, []), (.iload 4, 4, 0, []), zN, (.iload_n 2, 2, 0, [])], [(.iload 10, 10, 0, []), zN, (.invokevirtual 92, 1000, 3, [(12, 138)]), zN, zN, (.aload_n 0, 0, 0, []), (.iload_n 1, 1, 0, []), (.iload_n 2, 2, 0, []), (.invokevirtual 309, 1000, 2, [(12, 185)]), zN, zN, (.iconst (-1), 0, 0, []), (.if_icmp .ne 30, 266, 0, []), zN, zN, (.iload 7, 7, 0, [])], [zN, (.iload 10, 10, 0, []), zN, (.bipush 10, 0, 0, []), zN, (.if_icmp .ge 10, 255, 0, []), zN, zN, (.iconst 1, 0, 0, []), (.iload 10, 10, 0, []), zN, (.ishl, 0, 0, []), (.goto 4, 256, 0, []), zN, zN, (.iconst 0, 0, 0, [])], [(.ior, 0, 0, []), (.istore 7, 7, 0, []), zN, (.iinc 8 1, 8, 0, []), zN, zN, (.iload 10, 10, 0, []), zN, (.istore 9, 9, 0, []), zN, (.iinc 10 (-1), 10, 0, []), zN, zN, (.goto (-54), 215, 0, []), zN, zN], [(.aload_n 0, 0, 0, []), (.iload 4, 4, 0, []), zN, (.iload_n 2, 2, 0, []), (.iload 5, 5, 0, []), zN, (.invokevirtual 92, 1000, 3, [(12, 138)]), zN, zN, (.iload_n 3, 3, 0, []), (.iconst 3, 0, 0, []), (.if_icmp .eq 8, 291, 0, []), zN, zN, (.iload_n 3, 3, 0, []), (.iconst 5, 0, 0, [])], [(.if_icmp .ne 8, 296, 0, []), zN, zN, (.iload 8, 8, 0, []), zN, (.goto 21, 314, 0, []), zN, zN, (.iload_n 3, 3, 0, []), (.iconst 4, 0, 0, []), (.if_icmp .eq 9, 307, 0, []), zN, zN, (.iload_n 3, 3, 0, []), (.bipush 6, 0, 0, []), zN], [(.if_icmp .ne 8, 312, 0, []), zN, zN, (.iload 9, 9, 0, []), zN, (.goto 5, 314, 0, []), zN, zN, (.iload 7, 7, 0, []), zN, (.ireturn, 0, 0, [])]]
def zcX12_film : List (List zE) := [[(.iload_n 1, 1, 0, []), (.invokestatic 263, 195, 1, [(0, 0)]), zN, zN, (.ifCond .eq 11, 15, 0, []), zN, zN, (.aload_n 0, 0, 0, []), (.iload_n 2, 2, 0, []), (.invokevirtual 74, 1000, 1, [(12, 134)]), zN, zN, (.ifCond .ne 6, 18, 0, []), zN, zN, (.bipush (-2), 0, 0, [])], [zN, (.ireturn, 0, 0, []), (.aload_n 0, 0, 0, []), (.iload_n 1, 1, 0, []), (.iconst 1, 0, 0, []), (.bipush 10, 0, 0, []), zN, (.invokevirtual 315, 1000, 3, [(12, 196)]), zN, zN, (.pop, 0, 0, []), (.iconst 0, 0, 0, []), (.istore_n 3, 3, 0, []), (.iconst 0, 0, 0, []), (.istore 4, 4, 0, []), zN], [(.iload 4, 4, 0, []), zN, (.bipush 10, 0, 0, []), zN, (.if_icmp .ge 51, 87, 0, []), zN, zN, (.aload_n 0, 0, 0, []), (.iload_n 2, 2, 0, []), (.iconst 1, 0, 0, []), (.iload 4, 4, 0, []), zN, (.ishl, 0, 0, []), (.invokevirtual 254, 1000, 2, [(12, 165)]), zN, zN], [(.istore 5, 5, 0, []), zN, (.aload_n 0, 0, 0, []), (.getfield 54, 12, 44, []), zN, zN, (.bipush 40, 0, 0, []), zN, (.iload_n 1, 1, 0, []), (.imul, 0, 0, []), (.iload 4, 4, 0, []), zN, (.iadd, 0, 0, []), (.iload 5, 5, 0, []), zN, (.iastore, 0, 0, [])], [(.iload_n 3, 3, 0, []), (.iload 5, 5, 0, []), zN, (.iconst 1, 0, 0, []), (.iload 4, 4, 0, []), zN, (.ishl, 0, 0, []), (.if_icmp .ne 7, 78, 0, []), zN, zN, (.iconst 1, 0, 0, []), (.goto 4, 79, 0, []), zN, zN, (.iconst 0, 0, 0, []), (.iadd, 0, 0, [])], [(.istore_n 3, 3, 0, []), (.iinc 4 1, 4, 0, []), zN, zN, (.goto (-52), 32, 0, []), zN, zN, (.iload_n 3, 3, 0, []), (.ireturn, 0, 0, [])]]
def zcX12_offDrawn : List (List zE) := [[(.iload_n 1, 1, 0, []), (.istore_n 3, 3, 0, []), (.iconst 0, 0, 0, []), (.istore 4, 4, 0, []), zN, (.iconst 0, 0, 0, []), (.istore 5, 5, 0, []), zN, (.iload 5, 5, 0, []), zN, (.iload_n 2, 2, 0, []), (.if_icmp .ge 45, 56, 0, []), zN, zN, (.iload_n 3, 3, 0, []), (.ldc_w 318, 0, 0, [(1103515245, 0)])], [zN, zN, (.imul, 0, 0, []), (.sipush 12345, 0, 0, []), zN, zN, (.iadd, 0, 0, []), (.istore_n 3, 3, 0, []), (.iload_n 3, 3, 0, []), (.bipush 9, 0, 0, []), zN, (.iushr, 0, 0, []), (.sipush 1024, 0, 0, []), zN, zN, (.irem, 0, 0, [])], [(.istore 6, 6, 0, []), zN, (.iload 4, 4, 0, []), zN, (.iload 6, 6, 0, []), zN, (.aload_n 0, 0, 0, []), (.iload 6, 6, 0, []), zN, (.invokevirtual 287, 1000, 1, [(12, 169)]), zN, zN, (.invokestatic 266, 170, 2, [(0, 0)]), zN, zN, (.iadd, 0, 0, [])], [(.istore 4, 4, 0, []), zN, (.iinc 5 1, 5, 0, []), zN, zN, (.goto (-45), 8, 0, []), zN, zN, (.iload 4, 4, 0, []), zN, (.ireturn, 0, 0, [])]]
def zcX12_drawn : List (List zE) := [[(.iload_n 2, 2, 0, []), (.i2l, 0, 0, []), (.lconst 0, 0, 0, []), (.ldc2_w 319, 0, 0, [(40, 0)]), zN, zN, (.invokestatic 67, 130, 3, [(0, 0)]), zN, zN, (.ifCond .eq 12, 21, 0, []), zN, zN, (.aload_n 0, 0, 0, []), (.iload_n 1, 1, 0, []), (.iload_n 2, 2, 0, []), (.invokevirtual 321, 1000, 2, [(12, 189)])], [zN, zN, (.goto 5, 23, 0, []), zN, zN, (.bipush (-2), 0, 0, []), zN, (.ireturn, 0, 0, [])]]
def zcX12_chance : List (List zE) := [[(.iload_n 2, 2, 0, []), (.i2l, 0, 0, []), (.lconst 1, 0, 0, []), (.ldc2_w 319, 0, 0, [(40, 0)]), zN, zN, (.invokestatic 67, 130, 3, [(0, 0)]), zN, zN, (.ifCond .eq 26, 35, 0, []), zN, zN, (.iload_n 3, 3, 0, []), (.i2l, 0, 0, []), (.lconst 0, 0, 0, []), (.ldc2_w 150, 0, 0, [(10, 0)])], [zN, zN, (.invokestatic 67, 130, 3, [(0, 0)]), zN, zN, (.ifCond .eq 14, 35, 0, []), zN, zN, (.iload 4, 4, 0, []), zN, (.i2l, 0, 0, []), (.lconst 0, 0, 0, []), (.lconst 1, 0, 0, []), (.invokestatic 67, 130, 3, [(0, 0)]), zN, zN], [(.ifCond .ne 7, 39, 0, []), zN, zN, (.ldc2_w 303, 0, 0, [((-4611686018427387904), 0)]), zN, zN, (.lreturn, 0, 0, []), (.lconst 0, 0, 0, []), (.lstore 5, 5, 0, []), zN, (.iconst 0, 0, 0, []), (.istore 7, 7, 0, []), zN, (.iload 7, 7, 0, []), zN, (.iload_n 2, 2, 0, [])], [(.if_icmp .ge 32, 80, 0, []), zN, zN, (.lload 5, 5, 0, []), zN, (.aload_n 0, 0, 0, []), (.iload_n 1, 1, 0, []), (.iload 7, 7, 0, []), zN, (.iadd, 0, 0, []), (.iconst 1, 0, 0, []), (.invokevirtual 321, 1000, 2, [(12, 189)]), zN, zN, (.iload_n 3, 3, 0, []), (.if_icmp .gt 7, 70, 0, [])], [zN, zN, (.lconst 1, 0, 0, []), (.goto 4, 71, 0, []), zN, zN, (.lconst 0, 0, 0, []), (.ladd, 0, 0, []), (.lstore 5, 5, 0, []), zN, (.iinc 7 1, 7, 0, []), zN, zN, (.goto (-32), 45, 0, []), zN, zN], [(.lload 5, 5, 0, []), zN, (.iload_n 2, 2, 0, []), (.i2l, 0, 0, []), (.iload 4, 4, 0, []), zN, (.invokestatic 305, 183, 3, [(0, 0)]), zN, zN, (.lreturn, 0, 0, [])]]
def zcX12_image : List (List zE) := [[(.iconst 0, 0, 0, []), (.istore_n 1, 1, 0, []), (.iload_n 1, 1, 0, []), (.bipush 25, 0, 0, []), zN, (.if_icmp .ge 21, 26, 0, []), zN, zN, (.aload_n 0, 0, 0, []), (.getfield 35, 12, 34, []), zN, zN, (.iload_n 1, 1, 0, []), (.aload_n 0, 0, 0, []), (.getfield 23, 12, 8, []), zN], [zN, (.iload_n 1, 1, 0, []), (.iaload, 0, 0, []), (.iastore, 0, 0, []), (.iinc 1 1, 1, 0, []), zN, zN, (.goto (-21), 2, 0, []), zN, zN, (.iconst 0, 0, 0, []), (.istore_n 1, 1, 0, []), (.iload_n 1, 1, 0, []), (.bipush 8, 0, 0, []), zN, (.if_icmp .ge 21, 52, 0, [])], [zN, zN, (.aload_n 0, 0, 0, []), (.getfield 38, 12, 35, []), zN, zN, (.iload_n 1, 1, 0, []), (.aload_n 0, 0, 0, []), (.getfield 26, 12, 10, []), zN, zN, (.iload_n 1, 1, 0, []), (.iaload, 0, 0, []), (.iastore, 0, 0, []), (.iinc 1 1, 1, 0, []), zN], [zN, (.goto (-21), 28, 0, []), zN, zN, (.aload_n 0, 0, 0, []), (.aload_n 0, 0, 0, []), (.getfield 64, 12, 9, []), zN, zN, (.putfield 41, 12, 36, []), zN, zN, (.aload_n 0, 0, 0, []), (.aload_n 0, 0, 0, []), (.getfield 71, 12, 11, []), zN], [zN, (.putfield 324, 12, 37, []), zN, zN, (.aload_n 0, 0, 0, []), (.aload_n 0, 0, 0, []), (.getfield 112, 12, 12, []), zN, zN, (.putfield 327, 12, 38, []), zN, zN, (.aload_n 0, 0, 0, []), (.aload_n 0, 0, 0, []), (.getfield 96, 12, 7, []), zN], [zN, (.putfield 330, 12, 39, []), zN, zN, (.aload_n 0, 0, 0, []), (.aload_n 0, 0, 0, []), (.getfield 99, 12, 4, []), zN, zN, (.putfield 333, 12, 40, []), zN, zN, (.aload_n 0, 0, 0, []), (.getfield 64, 12, 9, []), zN, zN], [(.ireturn, 0, 0, [])]]
def zcX12_back : List (List zE) := [[(.aload_n 0, 0, 0, []), (.getfield 41, 12, 36, []), zN, zN, (.iconst (-1), 0, 0, []), (.if_icmp .ne 6, 11, 0, []), zN, zN, (.bipush (-3), 0, 0, []), zN, (.ireturn, 0, 0, []), (.iconst 0, 0, 0, []), (.istore_n 1, 1, 0, []), (.iload_n 1, 1, 0, []), (.bipush 25, 0, 0, []), zN], [(.if_icmp .ge 21, 37, 0, []), zN, zN, (.aload_n 0, 0, 0, []), (.getfield 23, 12, 8, []), zN, zN, (.iload_n 1, 1, 0, []), (.aload_n 0, 0, 0, []), (.getfield 35, 12, 34, []), zN, zN, (.iload_n 1, 1, 0, []), (.iaload, 0, 0, []), (.iastore, 0, 0, []), (.iinc 1 1, 1, 0, [])], [zN, zN, (.goto (-21), 13, 0, []), zN, zN, (.iconst 0, 0, 0, []), (.istore_n 1, 1, 0, []), (.iload_n 1, 1, 0, []), (.bipush 8, 0, 0, []), zN, (.if_icmp .ge 21, 63, 0, []), zN, zN, (.aload_n 0, 0, 0, []), (.getfield 26, 12, 10, []), zN], [zN, (.iload_n 1, 1, 0, []), (.aload_n 0, 0, 0, []), (.getfield 38, 12, 35, []), zN, zN, (.iload_n 1, 1, 0, []), (.iaload, 0, 0, []), (.iastore, 0, 0, []), (.iinc 1 1, 1, 0, []), zN, zN, (.goto (-21), 39, 0, []), zN, zN, (.aload_n 0, 0, 0, [])], [(.aload_n 0, 0, 0, []), (.getfield 41, 12, 36, []), zN, zN, (.putfield 64, 12, 9, []), zN, zN, (.aload_n 0, 0, 0, []), (.aload_n 0, 0, 0, []), (.getfield 324, 12, 37, []), zN, zN, (.putfield 71, 12, 11, []), zN, zN, (.aload_n 0, 0, 0, [])], [(.aload_n 0, 0, 0, []), (.getfield 327, 12, 38, []), zN, zN, (.putfield 112, 12, 12, []), zN, zN, (.aload_n 0, 0, 0, []), (.aload_n 0, 0, 0, []), (.getfield 330, 12, 39, []), zN, zN, (.putfield 96, 12, 7, []), zN, zN, (.aload_n 0, 0, 0, [])], [(.aload_n 0, 0, 0, []), (.getfield 333, 12, 40, []), zN, zN, (.putfield 99, 12, 4, []), zN, zN, (.aload_n 0, 0, 0, []), (.getfield 64, 12, 9, []), zN, zN, (.ireturn, 0, 0, [])]]
def zcX12_count : List (List zE) := [[(.iload_n 1, 1, 0, []), (.i2l, 0, 0, []), (.lconst 0, 0, 0, []), (.ldc2_w 102, 0, 0, [(5, 0)]), zN, zN, (.invokestatic 67, 130, 3, [(0, 0)]), zN, zN, (.ifCond .ne 6, 15, 0, []), zN, zN, (.bipush (-2), 0, 0, []), zN, (.ireturn, 0, 0, []), (.iload_n 1, 1, 0, [])], [(.ifCond .ne 10, 26, 0, []), zN, zN, (.aload_n 0, 0, 0, []), (.getfield 64, 12, 9, []), zN, zN, (.goto 55, 78, 0, []), zN, zN, (.iload_n 1, 1, 0, []), (.iconst 1, 0, 0, []), (.if_icmp .ne 10, 38, 0, []), zN, zN, (.aload_n 0, 0, 0, [])], [(.getfield 71, 12, 11, []), zN, zN, (.goto 43, 78, 0, []), zN, zN, (.iload_n 1, 1, 0, []), (.iconst 2, 0, 0, []), (.if_icmp .ne 10, 50, 0, []), zN, zN, (.aload_n 0, 0, 0, []), (.getfield 96, 12, 7, []), zN, zN, (.goto 31, 78, 0, [])], [zN, zN, (.iload_n 1, 1, 0, []), (.iconst 3, 0, 0, []), (.if_icmp .ne 10, 62, 0, []), zN, zN, (.aload_n 0, 0, 0, []), (.getfield 61, 12, 3, []), zN, zN, (.goto 19, 78, 0, []), zN, zN, (.iload_n 1, 1, 0, []), (.iconst 4, 0, 0, [])], [(.if_icmp .ne 10, 74, 0, []), zN, zN, (.aload_n 0, 0, 0, []), (.getfield 117, 12, 6, []), zN, zN, (.goto 7, 78, 0, []), zN, zN, (.aload_n 0, 0, 0, []), (.getfield 99, 12, 4, []), zN, zN, (.ireturn, 0, 0, [])]]
def zcX12_isSheet : List (List zE) := [[(.iload_n 0, 0, 0, []), (.i2l, 0, 0, []), (.lconst 0, 0, 0, []), (.ldc2_w 252, 0, 0, [(3, 0)]), zN, zN, (.invokestatic 67, 130, 3, [(0, 0)]), zN, zN, (.ireturn, 1, 0, [])]]
def zcX12_sheet : List (List zE) := [[(.iload_n 1, 1, 0, []), (.invokestatic 263, 195, 1, [(0, 0)]), zN, zN, (.ifCond .eq 27, 31, 0, []), zN, zN, (.iload_n 2, 2, 0, []), (.i2l, 0, 0, []), (.ldc2_w 336, 0, 0, [((-1), 0)]), zN, zN, (.ldc2_w 338, 0, 0, [(2, 0)]), zN, zN, (.invokestatic 67, 130, 3, [(0, 0)])], [zN, zN, (.ifCond .eq 13, 31, 0, []), zN, zN, (.iload_n 2, 2, 0, []), (.ifCond .lt 12, 34, 0, []), zN, zN, (.iload_n 3, 3, 0, []), (.bipush 40, 0, 0, []), zN, (.if_icmp .le 6, 34, 0, []), zN, zN, (.bipush (-2), 0, 0, [])], [zN, (.ireturn, 0, 0, []), (.iload_n 2, 2, 0, []), (.ifCond .lt 10, 45, 0, []), zN, zN, (.iload_n 3, 3, 0, []), (.ifCond .ge 6, 45, 0, []), zN, zN, (.bipush (-14), 0, 0, []), zN, (.ireturn, 0, 0, []), (.aload_n 0, 0, 0, []), (.getfield 44, 12, 41, []), zN], [zN, (.iload_n 1, 1, 0, []), (.iload_n 2, 2, 0, []), (.ifCond .lt 7, 58, 0, []), zN, zN, (.iconst 1, 0, 0, []), (.goto 4, 59, 0, []), zN, zN, (.iconst 0, 0, 0, []), (.bastore, 0, 0, []), (.aload_n 0, 0, 0, []), (.getfield 48, 12, 42, []), zN, zN], [(.iload_n 1, 1, 0, []), (.iload_n 2, 2, 0, []), (.iastore, 0, 0, []), (.aload_n 0, 0, 0, []), (.getfield 51, 12, 43, []), zN, zN, (.iload_n 1, 1, 0, []), (.iload_n 3, 3, 0, []), (.iastore, 0, 0, []), (.iconst 0, 0, 0, []), (.istore 4, 4, 0, []), zN, (.iload 4, 4, 0, []), zN, (.iload_n 3, 3, 0, [])], [(.if_icmp .ge 26, 106, 0, []), zN, zN, (.iload_n 2, 2, 0, []), (.ifCond .lt 22, 106, 0, []), zN, zN, (.aload_n 0, 0, 0, []), (.getfield 54, 12, 44, []), zN, zN, (.bipush 40, 0, 0, []), zN, (.iload_n 1, 1, 0, []), (.imul, 0, 0, []), (.iload 4, 4, 0, [])], [zN, (.iadd, 0, 0, []), (.iconst 0, 0, 0, []), (.iastore, 0, 0, []), (.iinc 4 1, 4, 0, []), zN, zN, (.goto (-26), 77, 0, []), zN, zN, (.iconst 1, 0, 0, []), (.ireturn, 0, 0, [])]]
def zcX12_cell : List (List zE) := [[(.iload_n 1, 1, 0, []), (.invokestatic 263, 195, 1, [(0, 0)]), zN, zN, (.ifCond .ne 6, 10, 0, []), zN, zN, (.bipush (-2), 0, 0, []), zN, (.ireturn, 0, 0, []), (.aload_n 0, 0, 0, []), (.getfield 44, 12, 41, []), zN, zN, (.iload_n 1, 1, 0, []), (.baload, 0, 0, [])], [(.ifCond .ne 6, 22, 0, []), zN, zN, (.bipush (-11), 0, 0, []), zN, (.ireturn, 0, 0, []), (.iload_n 2, 2, 0, []), (.i2l, 0, 0, []), (.lconst 0, 0, 0, []), (.aload_n 0, 0, 0, []), (.getfield 51, 12, 43, []), zN, zN, (.iload_n 1, 1, 0, []), (.iaload, 0, 0, []), (.iconst 1, 0, 0, [])], [(.isub, 0, 0, []), (.i2l, 0, 0, []), (.invokestatic 67, 130, 3, [(0, 0)]), zN, zN, (.ifCond .ne 6, 43, 0, []), zN, zN, (.bipush (-12), 0, 0, []), zN, (.ireturn, 0, 0, []), (.aload_n 0, 0, 0, []), (.getfield 54, 12, 44, []), zN, zN, (.bipush 40, 0, 0, [])], [zN, (.iload_n 1, 1, 0, []), (.imul, 0, 0, []), (.iload_n 2, 2, 0, []), (.iadd, 0, 0, []), (.aload_n 0, 0, 0, []), (.getfield 48, 12, 42, []), zN, zN, (.iload_n 1, 1, 0, []), (.iaload, 0, 0, []), (.ifCond .ne 8, 67, 0, []), zN, zN, (.iload_n 3, 3, 0, []), (.i2b, 0, 0, [])], [(.goto 19, 83, 0, []), zN, zN, (.aload_n 0, 0, 0, []), (.getfield 48, 12, 42, []), zN, zN, (.iload_n 1, 1, 0, []), (.iaload, 0, 0, []), (.iconst 1, 0, 0, []), (.if_icmp .ne 8, 82, 0, []), zN, zN, (.iload_n 3, 3, 0, []), (.i2s, 0, 0, []), (.goto 4, 83, 0, [])], [zN, zN, (.iload_n 3, 3, 0, []), (.iastore, 0, 0, []), (.iconst 1, 0, 0, []), (.ireturn, 0, 0, [])]]
def zcX12_copy : List (List zE) := [[(.iload_n 1, 1, 0, []), (.invokestatic 263, 195, 1, [(0, 0)]), zN, zN, (.ifCond .eq 10, 14, 0, []), zN, zN, (.iload_n 3, 3, 0, []), (.invokestatic 263, 195, 1, [(0, 0)]), zN, zN, (.ifCond .ne 6, 17, 0, []), zN, zN, (.bipush (-2), 0, 0, []), zN], [(.ireturn, 0, 0, []), (.aload_n 0, 0, 0, []), (.getfield 44, 12, 41, []), zN, zN, (.iload_n 1, 1, 0, []), (.baload, 0, 0, []), (.ifCond .eq 12, 35, 0, []), zN, zN, (.aload_n 0, 0, 0, []), (.getfield 44, 12, 41, []), zN, zN, (.iload_n 3, 3, 0, []), (.baload, 0, 0, [])], [(.ifCond .ne 6, 38, 0, []), zN, zN, (.bipush (-11), 0, 0, []), zN, (.ireturn, 0, 0, []), (.aload_n 0, 0, 0, []), (.getfield 48, 12, 42, []), zN, zN, (.iload_n 1, 1, 0, []), (.iaload, 0, 0, []), (.aload_n 0, 0, 0, []), (.getfield 48, 12, 42, []), zN, zN], [(.iload_n 3, 3, 0, []), (.iaload, 0, 0, []), (.if_icmp .eq 6, 56, 0, []), zN, zN, (.bipush (-13), 0, 0, []), zN, (.ireturn, 0, 0, []), (.iload 5, 5, 0, []), zN, (.ifCond .lt 39, 97, 0, []), zN, zN, (.iload_n 2, 2, 0, []), (.ifCond .lt 35, 97, 0, []), zN], [zN, (.iload 4, 4, 0, []), zN, (.ifCond .lt 30, 97, 0, []), zN, zN, (.iload_n 2, 2, 0, []), (.aload_n 0, 0, 0, []), (.getfield 51, 12, 43, []), zN, zN, (.iload_n 1, 1, 0, []), (.iaload, 0, 0, []), (.iload 5, 5, 0, []), zN, (.isub, 0, 0, [])], [(.if_icmp .gt 17, 97, 0, []), zN, zN, (.iload 4, 4, 0, []), zN, (.aload_n 0, 0, 0, []), (.getfield 51, 12, 43, []), zN, zN, (.iload_n 3, 3, 0, []), (.iaload, 0, 0, []), (.iload 5, 5, 0, []), zN, (.isub, 0, 0, []), (.if_icmp .le 6, 100, 0, []), zN], [zN, (.bipush (-12), 0, 0, []), zN, (.ireturn, 0, 0, []), (.iload_n 1, 1, 0, []), (.iload_n 3, 3, 0, []), (.if_icmp .ne 13, 115, 0, []), zN, zN, (.iload_n 2, 2, 0, []), (.iload 4, 4, 0, []), zN, (.if_icmp .ge 7, 115, 0, []), zN, zN, (.iconst 1, 0, 0, [])], [(.goto 4, 116, 0, []), zN, zN, (.iconst 0, 0, 0, []), (.istore 6, 6, 0, []), zN, (.iconst 0, 0, 0, []), (.istore 7, 7, 0, []), zN, (.iload 7, 7, 0, []), zN, (.iload 5, 5, 0, []), zN, (.if_icmp .ge 57, 182, 0, []), zN, zN], [(.iload 6, 6, 0, []), zN, (.ifCond .eq 13, 143, 0, []), zN, zN, (.iload 5, 5, 0, []), zN, (.iconst 1, 0, 0, []), (.isub, 0, 0, []), (.iload 7, 7, 0, []), zN, (.isub, 0, 0, []), (.goto 5, 145, 0, []), zN, zN, (.iload 7, 7, 0, [])], [zN, (.istore 8, 8, 0, []), zN, (.aload_n 0, 0, 0, []), (.getfield 54, 12, 44, []), zN, zN, (.bipush 40, 0, 0, []), zN, (.iload_n 3, 3, 0, []), (.imul, 0, 0, []), (.iload 4, 4, 0, []), zN, (.iadd, 0, 0, []), (.iload 8, 8, 0, []), zN], [(.iadd, 0, 0, []), (.aload_n 0, 0, 0, []), (.getfield 54, 12, 44, []), zN, zN, (.bipush 40, 0, 0, []), zN, (.iload_n 1, 1, 0, []), (.imul, 0, 0, []), (.iload_n 2, 2, 0, []), (.iadd, 0, 0, []), (.iload 8, 8, 0, []), zN, (.iadd, 0, 0, []), (.iaload, 0, 0, []), (.iastore, 0, 0, [])], [(.iinc 7 1, 7, 0, []), zN, zN, (.goto (-58), 121, 0, []), zN, zN, (.iload 5, 5, 0, []), zN, (.ireturn, 0, 0, [])]]
def zcX12_crew : List (List zE) := [[(.iload_n 1, 1, 0, []), (.invokestatic 263, 195, 1, [(0, 0)]), zN, zN, (.ifCond .eq 28, 32, 0, []), zN, zN, (.iload_n 2, 2, 0, []), (.i2l, 0, 0, []), (.lconst 0, 0, 0, []), (.ldc2_w 338, 0, 0, [(2, 0)]), zN, zN, (.invokestatic 67, 130, 3, [(0, 0)]), zN, zN], [(.ifCond .eq 16, 32, 0, []), zN, zN, (.iload 4, 4, 0, []), zN, (.i2l, 0, 0, []), (.lconst 0, 0, 0, []), (.ldc2_w 102, 0, 0, [(5, 0)]), zN, zN, (.invokestatic 67, 130, 3, [(0, 0)]), zN, zN, (.ifCond .ne 6, 35, 0, []), zN, zN], [(.bipush (-2), 0, 0, []), zN, (.ireturn, 0, 0, []), (.aload_n 0, 0, 0, []), (.getfield 44, 12, 41, []), zN, zN, (.iload_n 1, 1, 0, []), (.baload, 0, 0, []), (.ifCond .eq 16, 57, 0, []), zN, zN, (.aload_n 0, 0, 0, []), (.getfield 48, 12, 42, []), zN, zN], [(.iload_n 1, 1, 0, []), (.iaload, 0, 0, []), (.iload_n 2, 2, 0, []), (.if_icmp .eq 6, 57, 0, []), zN, zN, (.bipush (-13), 0, 0, []), zN, (.ireturn, 0, 0, []), (.aload_n 0, 0, 0, []), (.getfield 44, 12, 41, []), zN, zN, (.iload_n 1, 1, 0, []), (.baload, 0, 0, []), (.ifCond .ne 6, 69, 0, [])], [zN, zN, (.bipush (-11), 0, 0, []), zN, (.ireturn, 0, 0, []), (.iconst 0, 0, 0, []), (.istore 5, 5, 0, []), zN, (.iconst 0, 0, 0, []), (.istore 6, 6, 0, []), zN, (.iload 6, 6, 0, []), zN, (.iload 4, 4, 0, []), zN, (.if_icmp .ge 97, 176, 0, [])], [zN, zN, (.iload_n 3, 3, 0, []), (.ifCond .lt 20, 103, 0, []), zN, zN, (.iload_n 3, 3, 0, []), (.aload_n 0, 0, 0, []), (.getfield 51, 12, 43, []), zN, zN, (.iload_n 1, 1, 0, []), (.iaload, 0, 0, []), (.iconst 4, 0, 0, []), (.iload 6, 6, 0, []), zN], [(.imul, 0, 0, []), (.isub, 0, 0, []), (.iconst 4, 0, 0, []), (.isub, 0, 0, []), (.if_icmp .le 6, 106, 0, []), zN, zN, (.bipush (-12), 0, 0, []), zN, (.ireturn, 0, 0, []), (.bipush 40, 0, 0, []), zN, (.iload_n 1, 1, 0, []), (.imul, 0, 0, []), (.iload_n 3, 3, 0, []), (.iadd, 0, 0, [])], [(.iconst 4, 0, 0, []), (.iload 6, 6, 0, []), zN, (.imul, 0, 0, []), (.iadd, 0, 0, []), (.istore 7, 7, 0, []), zN, (.iload 5, 5, 0, []), zN, (.aload_n 0, 0, 0, []), (.aload_n 0, 0, 0, []), (.getfield 54, 12, 44, []), zN, zN, (.iload 7, 7, 0, []), zN], [(.iaload, 0, 0, []), (.aload_n 0, 0, 0, []), (.getfield 54, 12, 44, []), zN, zN, (.iload 7, 7, 0, []), zN, (.iconst 1, 0, 0, []), (.iadd, 0, 0, []), (.iaload, 0, 0, []), (.aload_n 0, 0, 0, []), (.getfield 54, 12, 44, []), zN, zN, (.iload 7, 7, 0, []), zN], [(.iconst 2, 0, 0, []), (.iadd, 0, 0, []), (.iaload, 0, 0, []), (.aload_n 0, 0, 0, []), (.getfield 54, 12, 44, []), zN, zN, (.iload 7, 7, 0, []), zN, (.iconst 3, 0, 0, []), (.iadd, 0, 0, []), (.iaload, 0, 0, []), (.invokevirtual 340, 1000, 4, [(12, 139)]), zN, zN, (.ifCond .lt 7, 166, 0, [])], [zN, zN, (.iconst 1, 0, 0, []), (.goto 4, 167, 0, []), zN, zN, (.iconst 0, 0, 0, []), (.iadd, 0, 0, []), (.istore 5, 5, 0, []), zN, (.iinc 6 1, 6, 0, []), zN, zN, (.goto (-98), 75, 0, []), zN, zN], [(.iload 5, 5, 0, []), zN, (.ireturn, 0, 0, [])]]
def zcX12_above : List (List zE) := [[(.iload_n 0, 0, 0, []), (.ifCond .ne 7, 8, 0, []), zN, zN, (.iconst (-1), 0, 0, []), (.goto 22, 27, 0, []), zN, zN, (.iload_n 0, 0, 0, []), (.iconst 3, 0, 0, []), (.if_icmp .ne 7, 17, 0, []), zN, zN, (.iconst 1, 0, 0, []), (.goto 13, 27, 0, []), zN], [zN, (.iload_n 0, 0, 0, []), (.iconst 4, 0, 0, []), (.if_icmp .ne 7, 26, 0, []), zN, zN, (.iconst 2, 0, 0, []), (.goto 4, 27, 0, []), zN, zN, (.iconst 0, 0, 0, []), (.ireturn, 0, 0, [])]]
def zcX12_taken : List (List zE) := [[(.iload_n 2, 2, 0, []), (.i2l, 0, 0, []), (.lconst 0, 0, 0, []), (.ldc2_w 102, 0, 0, [(5, 0)]), zN, zN, (.invokestatic 67, 130, 3, [(0, 0)]), zN, zN, (.ifCond .ne 6, 15, 0, []), zN, zN, (.bipush (-2), 0, 0, []), zN, (.ireturn, 0, 0, []), (.aload_n 0, 0, 0, [])], [(.iload_n 1, 1, 0, []), (.invokevirtual 74, 1000, 1, [(12, 134)]), zN, zN, (.ifCond .ne 6, 26, 0, []), zN, zN, (.bipush (-11), 0, 0, []), zN, (.ireturn, 0, 0, []), (.aload_n 0, 0, 0, []), (.getfield 23, 12, 8, []), zN, zN, (.iconst 5, 0, 0, []), (.iload_n 1, 1, 0, [])], [(.imul, 0, 0, []), (.iconst 4, 0, 0, []), (.iadd, 0, 0, []), (.iaload, 0, 0, []), (.istore_n 3, 3, 0, []), (.iload_n 3, 3, 0, []), (.iconst (-1), 0, 0, []), (.if_icmp .eq 16, 55, 0, []), zN, zN, (.iload_n 3, 3, 0, []), (.iload_n 2, 2, 0, []), (.if_icmp .eq 11, 55, 0, []), zN, zN, (.iload_n 3, 3, 0, [])], [(.invokestatic 344, 200, 1, [(0, 0)]), zN, zN, (.istore_n 3, 3, 0, []), (.goto (-15), 37, 0, []), zN, zN, (.iload_n 3, 3, 0, []), (.iload_n 2, 2, 0, []), (.if_icmp .ne 14, 71, 0, []), zN, zN, (.aload_n 0, 0, 0, []), (.getfield 23, 12, 8, []), zN, zN], [(.iconst 5, 0, 0, []), (.iload_n 1, 1, 0, []), (.imul, 0, 0, []), (.iaload, 0, 0, []), (.goto 5, 73, 0, []), zN, zN, (.bipush (-13), 0, 0, []), zN, (.ireturn, 0, 0, [])]]
def zcJ6_bitCount_0f7a4 : List (List zE) := [[(.iload_n 0, 0, 0, []), (.iload_n 0, 0, 0, []), (.iconst 1, 0, 0, []), (.iushr, 0, 0, []), (.ldc_w 265, 0, 0, [(1431655765, 0)]), zN, zN, (.iand, 0, 0, []), (.isub, 0, 0, []), (.istore_n 0, 0, 0, []), (.iload_n 0, 0, 0, []), (.ldc_w 266, 0, 0, [(858993459, 0)]), zN, zN, (.iand, 0, 0, []), (.iload_n 0, 0, 0, [])], [(.iconst 2, 0, 0, []), (.iushr, 0, 0, []), (.ldc_w 266, 0, 0, [(858993459, 0)]), zN, zN, (.iand, 0, 0, []), (.iadd, 0, 0, []), (.istore_n 0, 0, 0, []), (.iload_n 0, 0, 0, []), (.iload_n 0, 0, 0, []), (.iconst 4, 0, 0, []), (.iushr, 0, 0, []), (.iadd, 0, 0, []), (.ldc_w 267, 0, 0, [(252645135, 0)]), zN, zN], [(.iand, 0, 0, []), (.istore_n 0, 0, 0, []), (.iload_n 0, 0, 0, []), (.iload_n 0, 0, 0, []), (.bipush 8, 0, 0, []), zN, (.iushr, 0, 0, []), (.iadd, 0, 0, []), (.istore_n 0, 0, 0, []), (.iload_n 0, 0, 0, []), (.iload_n 0, 0, 0, []), (.bipush 16, 0, 0, []), zN, (.iushr, 0, 0, []), (.iadd, 0, 0, []), (.istore_n 0, 0, 0, [])], [(.iload_n 0, 0, 0, []), (.bipush 63, 0, 0, []), zN, (.iand, 0, 0, []), (.ireturn, 0, 0, [])]]
def zcJ9_max_7cf53 : List (List zE) := [[(.iload_n 0, 0, 0, []), (.iload_n 1, 1, 0, []), (.if_icmp .lt 7, 9, 0, []), zN, zN, (.iload_n 0, 0, 0, []), (.goto 4, 10, 0, []), zN, zN, (.iload_n 1, 1, 0, []), (.ireturn, 0, 0, [])]]
def zcJ9_min_7cf53 : List (List zE) := [[(.iload_n 0, 0, 0, []), (.iload_n 1, 1, 0, []), (.if_icmp .gt 7, 9, 0, []), zN, zN, (.iload_n 0, 0, 0, []), (.goto 4, 10, 0, []), zN, zN, (.iload_n 1, 1, 0, []), (.ireturn, 0, 0, [])]]
def zcL_law : List (List zE) := [[(.new 7, 11, 0, []), zN, zN, (.dup, 0, 0, []), (.invokespecial 9, 76, 0, [(2, 0)]), zN, zN, (.astore_n 1, 1, 0, []), (.new 10, 12, 0, []), zN, zN, (.dup, 0, 0, []), (.invokespecial 12, 132, 0, [(2, 0)]), zN, zN, (.astore_n 2, 2, 0, [])], [(.iconst 0, 0, 0, []), (.istore_n 3, 3, 0, []), (.iload_n 3, 3, 0, []), (.aload_n 0, 0, 0, []), (.arraylength, 1, 0, []), (.bipush 6, 0, 0, []), zN, (.isub, 0, 0, []), (.if_icmp .gt 1098, 1122, 0, []), zN, zN, (.aload_n 0, 0, 0, []), (.iload_n 3, 3, 0, []), (.iaload, 1, 0, []), (.bipush 31, 0, 0, []), zN], [(.iand, 0, 0, []), (.tableswitch 1083 0 27 #[127, 170, 223, 256, 279, 322, 345, 358, 381, 424, 437, 470, 503, 546, 579, 612, 636, 679, 712, 745, 799, 812, 825, 848, 891, 934, 997, 1050], 1116, 0, [(0, 160), (1, 203), (2, 256), (3, 289), (4, 312), (5, 355), (6, 378), (7, 391), (8, 414), (9, 457), (10, 470), (11, 503), (12, 536), (13, 579), (14, 612), (15, 645), (16, 669), (17, 712), (18, 745), (19, 778), (20, 832), (21, 845), (22, 858), (23, 881), (24, 924), (25, 967), (26, 1030), (27, 1083)]), zN, zN, zN, zN, zN, zN, zN, zN, zN, zN, zN, zN, zN, zN], [zN, zN, zN, zN, zN, zN, zN, zN, zN, zN, zN, zN, zN, zN, zN, zN], [zN, zN, zN, zN, zN, zN, zN, zN, zN, zN, zN, zN, zN, zN, zN, zN], [zN, zN, zN, zN, zN, zN, zN, zN, zN, zN, zN, zN, zN, zN, zN, zN], [zN, zN, zN, zN, zN, zN, zN, zN, zN, zN, zN, zN, zN, zN, zN, zN], [zN, zN, zN, zN, zN, zN, zN, zN, zN, zN, zN, zN, zN, zN, zN, zN], [zN, zN, zN, zN, zN, zN, zN, zN, zN, zN, zN, zN, zN, zN, zN, zN], [zN, zN, zN, zN, zN, zN, zN, zN, zN, zN, zN, zN, zN, zN, zN, zN], [(.aload_n 1, 1, 0, []), (.aload_n 0, 0, 0, []), (.iload_n 3, 3, 0, []), (.iconst 1, 0, 0, []), (.iadd, 0, 0, []), (.iaload, 1, 0, []), (.aload_n 0, 0, 0, []), (.iload_n 3, 3, 0, []), (.iconst 2, 0, 0, []), (.iadd, 0, 0, []), (.iaload, 1, 0, []), (.aload_n 0, 0, 0, []), (.iload_n 3, 3, 0, []), (.iconst 3, 0, 0, []), (.iadd, 0, 0, []), (.iaload, 1, 0, [])], [(.invokevirtual 13, 1000, 3, [(11, 77)]), zN, zN, (.aload_n 2, 2, 0, []), (.aload_n 0, 0, 0, []), (.iload_n 3, 3, 0, []), (.iconst 1, 0, 0, []), (.iadd, 0, 0, []), (.iaload, 1, 0, []), (.aload_n 0, 0, 0, []), (.iload_n 3, 3, 0, []), (.iconst 2, 0, 0, []), (.iadd, 0, 0, []), (.iaload, 1, 0, []), (.aload_n 0, 0, 0, []), (.iload_n 3, 3, 0, [])], [(.iconst 3, 0, 0, []), (.iadd, 0, 0, []), (.iaload, 1, 0, []), (.invokevirtual 17, 1000, 3, [(12, 137)]), zN, zN, (.if_icmp .eq 918, 1116, 0, []), zN, zN, (.iconst 0, 0, 0, []), (.ireturn, 1, 0, []), (.aload_n 1, 1, 0, []), (.aload_n 0, 0, 0, []), (.iload_n 3, 3, 0, []), (.iconst 1, 0, 0, []), (.iadd, 0, 0, [])], [(.iaload, 1, 0, []), (.aload_n 0, 0, 0, []), (.iload_n 3, 3, 0, []), (.iconst 2, 0, 0, []), (.iadd, 0, 0, []), (.iaload, 1, 0, []), (.aload_n 0, 0, 0, []), (.iload_n 3, 3, 0, []), (.iconst 3, 0, 0, []), (.iadd, 0, 0, []), (.iaload, 1, 0, []), (.aload_n 0, 0, 0, []), (.iload_n 3, 3, 0, []), (.iconst 4, 0, 0, []), (.iadd, 0, 0, []), (.iaload, 1, 0, [])], [(.invokevirtual 18, 1000, 4, [(11, 78)]), zN, zN, (.aload_n 2, 2, 0, []), (.aload_n 0, 0, 0, []), (.iload_n 3, 3, 0, []), (.iconst 1, 0, 0, []), (.iadd, 0, 0, []), (.iaload, 1, 0, []), (.aload_n 0, 0, 0, []), (.iload_n 3, 3, 0, []), (.iconst 2, 0, 0, []), (.iadd, 0, 0, []), (.iaload, 1, 0, []), (.aload_n 0, 0, 0, []), (.iload_n 3, 3, 0, [])], [(.iconst 3, 0, 0, []), (.iadd, 0, 0, []), (.iaload, 1, 0, []), (.aload_n 0, 0, 0, []), (.iload_n 3, 3, 0, []), (.iconst 4, 0, 0, []), (.iadd, 0, 0, []), (.iaload, 1, 0, []), (.invokevirtual 22, 1000, 4, [(12, 139)]), zN, zN, (.if_icmp .eq 865, 1116, 0, []), zN, zN, (.iconst 0, 0, 0, []), (.ireturn, 1, 0, [])], [(.aload_n 1, 1, 0, []), (.aload_n 0, 0, 0, []), (.iload_n 3, 3, 0, []), (.iconst 1, 0, 0, []), (.iadd, 0, 0, []), (.iaload, 1, 0, []), (.aload_n 0, 0, 0, []), (.iload_n 3, 3, 0, []), (.iconst 2, 0, 0, []), (.iadd, 0, 0, []), (.iaload, 1, 0, []), (.invokevirtual 23, 1000, 2, [(11, 79)]), zN, zN, (.aload_n 2, 2, 0, []), (.aload_n 0, 0, 0, [])], [(.iload_n 3, 3, 0, []), (.iconst 1, 0, 0, []), (.iadd, 0, 0, []), (.iaload, 1, 0, []), (.aload_n 0, 0, 0, []), (.iload_n 3, 3, 0, []), (.iconst 2, 0, 0, []), (.iadd, 0, 0, []), (.iaload, 1, 0, []), (.invokevirtual 27, 1000, 2, [(12, 140)]), zN, zN, (.if_icmp .eq 832, 1116, 0, []), zN, zN, (.iconst 0, 0, 0, [])], [(.ireturn, 1, 0, []), (.aload_n 1, 1, 0, []), (.aload_n 0, 0, 0, []), (.iload_n 3, 3, 0, []), (.iconst 1, 0, 0, []), (.iadd, 0, 0, []), (.iaload, 1, 0, []), (.invokevirtual 28, 1000, 1, [(11, 80)]), zN, zN, (.aload_n 2, 2, 0, []), (.aload_n 0, 0, 0, []), (.iload_n 3, 3, 0, []), (.iconst 1, 0, 0, []), (.iadd, 0, 0, []), (.iaload, 1, 0, [])], [(.invokevirtual 32, 1000, 1, [(12, 141)]), zN, zN, (.if_icmp .eq 809, 1116, 0, []), zN, zN, (.iconst 0, 0, 0, []), (.ireturn, 1, 0, []), (.aload_n 1, 1, 0, []), (.aload_n 0, 0, 0, []), (.iload_n 3, 3, 0, []), (.iconst 1, 0, 0, []), (.iadd, 0, 0, []), (.iaload, 1, 0, []), (.aload_n 0, 0, 0, []), (.iload_n 3, 3, 0, [])], [(.iconst 2, 0, 0, []), (.iadd, 0, 0, []), (.iaload, 1, 0, []), (.aload_n 0, 0, 0, []), (.iload_n 3, 3, 0, []), (.iconst 3, 0, 0, []), (.iadd, 0, 0, []), (.iaload, 1, 0, []), (.invokevirtual 33, 1000, 3, [(11, 81)]), zN, zN, (.aload_n 2, 2, 0, []), (.aload_n 0, 0, 0, []), (.iload_n 3, 3, 0, []), (.iconst 1, 0, 0, []), (.iadd, 0, 0, [])], [(.iaload, 1, 0, []), (.aload_n 0, 0, 0, []), (.iload_n 3, 3, 0, []), (.iconst 2, 0, 0, []), (.iadd, 0, 0, []), (.iaload, 1, 0, []), (.aload_n 0, 0, 0, []), (.iload_n 3, 3, 0, []), (.iconst 3, 0, 0, []), (.iadd, 0, 0, []), (.iaload, 1, 0, []), (.invokevirtual 36, 1000, 3, [(12, 168)]), zN, zN, (.if_icmp .eq 766, 1116, 0, []), zN], [zN, (.iconst 0, 0, 0, []), (.ireturn, 1, 0, []), (.aload_n 1, 1, 0, []), (.aload_n 0, 0, 0, []), (.iload_n 3, 3, 0, []), (.iconst 1, 0, 0, []), (.iadd, 0, 0, []), (.iaload, 1, 0, []), (.invokevirtual 37, 1000, 1, [(11, 84)]), zN, zN, (.aload_n 2, 2, 0, []), (.aload_n 0, 0, 0, []), (.iload_n 3, 3, 0, []), (.iconst 1, 0, 0, [])], [(.iadd, 0, 0, []), (.iaload, 1, 0, []), (.invokevirtual 40, 1000, 1, [(12, 142)]), zN, zN, (.if_icmp .eq 743, 1116, 0, []), zN, zN, (.iconst 0, 0, 0, []), (.ireturn, 1, 0, []), (.aload_n 1, 1, 0, []), (.invokevirtual 41, 1000, 0, [(11, 85)]), zN, zN, (.aload_n 2, 2, 0, []), (.invokevirtual 45, 1000, 0, [(12, 159)])], [zN, zN, (.if_icmp .eq 730, 1116, 0, []), zN, zN, (.iconst 0, 0, 0, []), (.ireturn, 1, 0, []), (.aload_n 1, 1, 0, []), (.aload_n 0, 0, 0, []), (.iload_n 3, 3, 0, []), (.iconst 1, 0, 0, []), (.iadd, 0, 0, []), (.iaload, 1, 0, []), (.invokevirtual 46, 1000, 1, [(11, 86)]), zN, zN], [(.aload_n 2, 2, 0, []), (.aload_n 0, 0, 0, []), (.iload_n 3, 3, 0, []), (.iconst 1, 0, 0, []), (.iadd, 0, 0, []), (.iaload, 1, 0, []), (.invokevirtual 49, 1000, 1, [(12, 160)]), zN, zN, (.if_icmp .eq 707, 1116, 0, []), zN, zN, (.iconst 0, 0, 0, []), (.ireturn, 1, 0, []), (.aload_n 1, 1, 0, []), (.aload_n 0, 0, 0, [])], [(.iload_n 3, 3, 0, []), (.iconst 1, 0, 0, []), (.iadd, 0, 0, []), (.iaload, 1, 0, []), (.aload_n 0, 0, 0, []), (.iload_n 3, 3, 0, []), (.iconst 2, 0, 0, []), (.iadd, 0, 0, []), (.iaload, 1, 0, []), (.aload_n 0, 0, 0, []), (.iload_n 3, 3, 0, []), (.iconst 3, 0, 0, []), (.iadd, 0, 0, []), (.iaload, 1, 0, []), (.invokevirtual 50, 1000, 3, [(11, 88)]), zN], [zN, (.aload_n 2, 2, 0, []), (.aload_n 0, 0, 0, []), (.iload_n 3, 3, 0, []), (.iconst 1, 0, 0, []), (.iadd, 0, 0, []), (.iaload, 1, 0, []), (.aload_n 0, 0, 0, []), (.iload_n 3, 3, 0, []), (.iconst 2, 0, 0, []), (.iadd, 0, 0, []), (.iaload, 1, 0, []), (.aload_n 0, 0, 0, []), (.iload_n 3, 3, 0, []), (.iconst 3, 0, 0, []), (.iadd, 0, 0, [])], [(.iaload, 1, 0, []), (.invokevirtual 53, 1000, 3, [(12, 171)]), zN, zN, (.if_icmp .eq 664, 1116, 0, []), zN, zN, (.iconst 0, 0, 0, []), (.ireturn, 1, 0, []), (.aload_n 1, 1, 0, []), (.invokevirtual 54, 1000, 0, [(11, 89)]), zN, zN, (.aload_n 2, 2, 0, []), (.invokevirtual 57, 1000, 0, [(12, 174)]), zN], [zN, (.if_icmp .eq 651, 1116, 0, []), zN, zN, (.iconst 0, 0, 0, []), (.ireturn, 1, 0, []), (.aload_n 1, 1, 0, []), (.aload_n 0, 0, 0, []), (.iload_n 3, 3, 0, []), (.iconst 1, 0, 0, []), (.iadd, 0, 0, []), (.iaload, 1, 0, []), (.aload_n 0, 0, 0, []), (.iload_n 3, 3, 0, []), (.iconst 2, 0, 0, []), (.iadd, 0, 0, [])], [(.iaload, 1, 0, []), (.invokevirtual 58, 1000, 2, [(11, 90)]), zN, zN, (.aload_n 2, 2, 0, []), (.aload_n 0, 0, 0, []), (.iload_n 3, 3, 0, []), (.iconst 1, 0, 0, []), (.iadd, 0, 0, []), (.iaload, 1, 0, []), (.aload_n 0, 0, 0, []), (.iload_n 3, 3, 0, []), (.iconst 2, 0, 0, []), (.iadd, 0, 0, []), (.iaload, 1, 0, []), (.invokevirtual 61, 1000, 2, [(12, 177)])], [zN, zN, (.if_icmp .eq 618, 1116, 0, []), zN, zN, (.iconst 0, 0, 0, []), (.ireturn, 1, 0, []), (.aload_n 1, 1, 0, []), (.aload_n 0, 0, 0, []), (.iload_n 3, 3, 0, []), (.iconst 1, 0, 0, []), (.iadd, 0, 0, []), (.iaload, 1, 0, []), (.aload_n 0, 0, 0, []), (.iload_n 3, 3, 0, []), (.iconst 2, 0, 0, [])], [(.iadd, 0, 0, []), (.iaload, 1, 0, []), (.invokevirtual 62, 1000, 2, [(11, 104)]), zN, zN, (.aload_n 2, 2, 0, []), (.aload_n 0, 0, 0, []), (.iload_n 3, 3, 0, []), (.iconst 1, 0, 0, []), (.iadd, 0, 0, []), (.iaload, 1, 0, []), (.aload_n 0, 0, 0, []), (.iload_n 3, 3, 0, []), (.iconst 2, 0, 0, []), (.iadd, 0, 0, []), (.iaload, 1, 0, [])], [(.invokevirtual 65, 1000, 2, [(12, 178)]), zN, zN, (.if_icmp .eq 585, 1116, 0, []), zN, zN, (.iconst 0, 0, 0, []), (.ireturn, 1, 0, []), (.aload_n 1, 1, 0, []), (.aload_n 0, 0, 0, []), (.iload_n 3, 3, 0, []), (.iconst 1, 0, 0, []), (.iadd, 0, 0, []), (.iaload, 1, 0, []), (.aload_n 0, 0, 0, []), (.iload_n 3, 3, 0, [])], [(.iconst 2, 0, 0, []), (.iadd, 0, 0, []), (.iaload, 1, 0, []), (.aload_n 0, 0, 0, []), (.iload_n 3, 3, 0, []), (.iconst 3, 0, 0, []), (.iadd, 0, 0, []), (.iaload, 1, 0, []), (.invokevirtual 66, 1000, 3, [(11, 105)]), zN, zN, (.aload_n 2, 2, 0, []), (.aload_n 0, 0, 0, []), (.iload_n 3, 3, 0, []), (.iconst 1, 0, 0, []), (.iadd, 0, 0, [])], [(.iaload, 1, 0, []), (.aload_n 0, 0, 0, []), (.iload_n 3, 3, 0, []), (.iconst 2, 0, 0, []), (.iadd, 0, 0, []), (.iaload, 1, 0, []), (.aload_n 0, 0, 0, []), (.iload_n 3, 3, 0, []), (.iconst 3, 0, 0, []), (.iadd, 0, 0, []), (.iaload, 1, 0, []), (.invokevirtual 69, 1000, 3, [(12, 180)]), zN, zN, (.if_icmp .eq 542, 1116, 0, []), zN], [zN, (.iconst 0, 0, 0, []), (.ireturn, 1, 0, []), (.aload_n 1, 1, 0, []), (.aload_n 0, 0, 0, []), (.iload_n 3, 3, 0, []), (.iconst 1, 0, 0, []), (.iadd, 0, 0, []), (.iaload, 1, 0, []), (.aload_n 0, 0, 0, []), (.iload_n 3, 3, 0, []), (.iconst 2, 0, 0, []), (.iadd, 0, 0, []), (.iaload, 1, 0, []), (.invokevirtual 70, 1000, 2, [(11, 107)]), zN], [zN, (.aload_n 2, 2, 0, []), (.aload_n 0, 0, 0, []), (.iload_n 3, 3, 0, []), (.iconst 1, 0, 0, []), (.iadd, 0, 0, []), (.iaload, 1, 0, []), (.aload_n 0, 0, 0, []), (.iload_n 3, 3, 0, []), (.iconst 2, 0, 0, []), (.iadd, 0, 0, []), (.iaload, 1, 0, []), (.invokevirtual 73, 1000, 2, [(12, 181)]), zN, zN, (.if_icmp .eq 509, 1116, 0, [])], [zN, zN, (.iconst 0, 0, 0, []), (.ireturn, 1, 0, []), (.aload_n 1, 1, 0, []), (.aload_n 0, 0, 0, []), (.iload_n 3, 3, 0, []), (.iconst 1, 0, 0, []), (.iadd, 0, 0, []), (.iaload, 1, 0, []), (.aload_n 0, 0, 0, []), (.iload_n 3, 3, 0, []), (.iconst 2, 0, 0, []), (.iadd, 0, 0, []), (.iaload, 1, 0, []), (.invokevirtual 74, 1000, 2, [(11, 109)])], [zN, zN, (.aload_n 2, 2, 0, []), (.aload_n 0, 0, 0, []), (.iload_n 3, 3, 0, []), (.iconst 1, 0, 0, []), (.iadd, 0, 0, []), (.iaload, 1, 0, []), (.aload_n 0, 0, 0, []), (.iload_n 3, 3, 0, []), (.iconst 2, 0, 0, []), (.iadd, 0, 0, []), (.iaload, 1, 0, []), (.invokevirtual 77, 1000, 2, [(12, 182)]), zN, zN], [(.if_icmp .eq 476, 1116, 0, []), zN, zN, (.iconst 0, 0, 0, []), (.ireturn, 1, 0, []), (.aload_n 1, 1, 0, []), (.aload_n 0, 0, 0, []), (.iload_n 3, 3, 0, []), (.iconst 1, 0, 0, []), (.iadd, 0, 0, []), (.iaload, 1, 0, []), (.invokevirtual 78, 1000, 1, [(11, 110)]), zN, zN, (.aload_n 2, 2, 0, []), (.aload_n 0, 0, 0, [])], [(.iload_n 3, 3, 0, []), (.iconst 1, 0, 0, []), (.iadd, 0, 0, []), (.iaload, 1, 0, []), (.invokevirtual 82, 1000, 1, [(12, 184)]), zN, zN, (.lcmp, 0, 0, []), (.ifCond .eq 452, 1116, 0, []), zN, zN, (.iconst 0, 0, 0, []), (.ireturn, 1, 0, []), (.aload_n 1, 1, 0, []), (.aload_n 0, 0, 0, []), (.iload_n 3, 3, 0, [])], [(.iconst 1, 0, 0, []), (.iadd, 0, 0, []), (.iaload, 1, 0, []), (.aload_n 0, 0, 0, []), (.iload_n 3, 3, 0, []), (.iconst 2, 0, 0, []), (.iadd, 0, 0, []), (.iaload, 1, 0, []), (.aload_n 0, 0, 0, []), (.iload_n 3, 3, 0, []), (.iconst 3, 0, 0, []), (.iadd, 0, 0, []), (.iaload, 1, 0, []), (.invokevirtual 83, 1000, 3, [(11, 113)]), zN, zN], [(.aload_n 2, 2, 0, []), (.aload_n 0, 0, 0, []), (.iload_n 3, 3, 0, []), (.iconst 1, 0, 0, []), (.iadd, 0, 0, []), (.iaload, 1, 0, []), (.aload_n 0, 0, 0, []), (.iload_n 3, 3, 0, []), (.iconst 2, 0, 0, []), (.iadd, 0, 0, []), (.iaload, 1, 0, []), (.aload_n 0, 0, 0, []), (.iload_n 3, 3, 0, []), (.iconst 3, 0, 0, []), (.iadd, 0, 0, []), (.iaload, 1, 0, [])], [(.invokevirtual 86, 1000, 3, [(12, 187)]), zN, zN, (.if_icmp .eq 409, 1116, 0, []), zN, zN, (.iconst 0, 0, 0, []), (.ireturn, 1, 0, []), (.aload_n 1, 1, 0, []), (.aload_n 0, 0, 0, []), (.iload_n 3, 3, 0, []), (.iconst 1, 0, 0, []), (.iadd, 0, 0, []), (.iaload, 1, 0, []), (.aload_n 0, 0, 0, []), (.iload_n 3, 3, 0, [])], [(.iconst 2, 0, 0, []), (.iadd, 0, 0, []), (.iaload, 1, 0, []), (.invokevirtual 87, 1000, 2, [(11, 117)]), zN, zN, (.aload_n 2, 2, 0, []), (.aload_n 0, 0, 0, []), (.iload_n 3, 3, 0, []), (.iconst 1, 0, 0, []), (.iadd, 0, 0, []), (.iaload, 1, 0, []), (.aload_n 0, 0, 0, []), (.iload_n 3, 3, 0, []), (.iconst 2, 0, 0, []), (.iadd, 0, 0, [])], [(.iaload, 1, 0, []), (.invokevirtual 90, 1000, 2, [(12, 188)]), zN, zN, (.if_icmp .eq 376, 1116, 0, []), zN, zN, (.iconst 0, 0, 0, []), (.ireturn, 1, 0, []), (.aload_n 1, 1, 0, []), (.aload_n 0, 0, 0, []), (.iload_n 3, 3, 0, []), (.iconst 1, 0, 0, []), (.iadd, 0, 0, []), (.iaload, 1, 0, []), (.aload_n 0, 0, 0, [])], [(.iload_n 3, 3, 0, []), (.iconst 2, 0, 0, []), (.iadd, 0, 0, []), (.iaload, 1, 0, []), (.invokevirtual 91, 1000, 2, [(11, 118)]), zN, zN, (.aload_n 2, 2, 0, []), (.aload_n 0, 0, 0, []), (.iload_n 3, 3, 0, []), (.iconst 1, 0, 0, []), (.iadd, 0, 0, []), (.iaload, 1, 0, []), (.aload_n 0, 0, 0, []), (.iload_n 3, 3, 0, []), (.iconst 2, 0, 0, [])], [(.iadd, 0, 0, []), (.iaload, 1, 0, []), (.invokevirtual 94, 1000, 2, [(12, 190)]), zN, zN, (.if_icmp .eq 343, 1116, 0, []), zN, zN, (.iconst 0, 0, 0, []), (.ireturn, 1, 0, []), (.aload_n 1, 1, 0, []), (.aload_n 0, 0, 0, []), (.iload_n 3, 3, 0, []), (.iconst 1, 0, 0, []), (.iadd, 0, 0, []), (.iaload, 1, 0, [])], [(.aload_n 0, 0, 0, []), (.iload_n 3, 3, 0, []), (.iconst 2, 0, 0, []), (.iadd, 0, 0, []), (.iaload, 1, 0, []), (.aload_n 0, 0, 0, []), (.iload_n 3, 3, 0, []), (.iconst 3, 0, 0, []), (.iadd, 0, 0, []), (.iaload, 1, 0, []), (.aload_n 0, 0, 0, []), (.iload_n 3, 3, 0, []), (.iconst 4, 0, 0, []), (.iadd, 0, 0, []), (.iaload, 1, 0, []), (.invokevirtual 95, 1000, 4, [(11, 119)])], [zN, zN, (.aload_n 2, 2, 0, []), (.aload_n 0, 0, 0, []), (.iload_n 3, 3, 0, []), (.iconst 1, 0, 0, []), (.iadd, 0, 0, []), (.iaload, 1, 0, []), (.aload_n 0, 0, 0, []), (.iload_n 3, 3, 0, []), (.iconst 2, 0, 0, []), (.iadd, 0, 0, []), (.iaload, 1, 0, []), (.aload_n 0, 0, 0, []), (.iload_n 3, 3, 0, []), (.iconst 3, 0, 0, [])], [(.iadd, 0, 0, []), (.iaload, 1, 0, []), (.aload_n 0, 0, 0, []), (.iload_n 3, 3, 0, []), (.iconst 4, 0, 0, []), (.iadd, 0, 0, []), (.iaload, 1, 0, []), (.invokevirtual 99, 1000, 4, [(12, 191)]), zN, zN, (.lcmp, 0, 0, []), (.ifCond .eq 289, 1116, 0, []), zN, zN, (.iconst 0, 0, 0, []), (.ireturn, 1, 0, [])], [(.aload_n 1, 1, 0, []), (.invokevirtual 100, 1000, 0, [(11, 121)]), zN, zN, (.aload_n 2, 2, 0, []), (.invokevirtual 103, 1000, 0, [(12, 192)]), zN, zN, (.if_icmp .eq 276, 1116, 0, []), zN, zN, (.iconst 0, 0, 0, []), (.ireturn, 1, 0, []), (.aload_n 1, 1, 0, []), (.invokevirtual 104, 1000, 0, [(11, 122)]), zN], [zN, (.aload_n 2, 2, 0, []), (.invokevirtual 107, 1000, 0, [(12, 193)]), zN, zN, (.if_icmp .eq 263, 1116, 0, []), zN, zN, (.iconst 0, 0, 0, []), (.ireturn, 1, 0, []), (.aload_n 1, 1, 0, []), (.aload_n 0, 0, 0, []), (.iload_n 3, 3, 0, []), (.iconst 1, 0, 0, []), (.iadd, 0, 0, []), (.iaload, 1, 0, [])], [(.invokevirtual 108, 1000, 1, [(11, 123)]), zN, zN, (.aload_n 2, 2, 0, []), (.aload_n 0, 0, 0, []), (.iload_n 3, 3, 0, []), (.iconst 1, 0, 0, []), (.iadd, 0, 0, []), (.iaload, 1, 0, []), (.invokevirtual 111, 1000, 1, [(12, 194)]), zN, zN, (.if_icmp .eq 240, 1116, 0, []), zN, zN, (.iconst 0, 0, 0, [])], [(.ireturn, 1, 0, []), (.aload_n 1, 1, 0, []), (.aload_n 0, 0, 0, []), (.iload_n 3, 3, 0, []), (.iconst 1, 0, 0, []), (.iadd, 0, 0, []), (.iaload, 1, 0, []), (.aload_n 0, 0, 0, []), (.iload_n 3, 3, 0, []), (.iconst 2, 0, 0, []), (.iadd, 0, 0, []), (.iaload, 1, 0, []), (.aload_n 0, 0, 0, []), (.iload_n 3, 3, 0, []), (.iconst 3, 0, 0, []), (.iadd, 0, 0, [])], [(.iaload, 1, 0, []), (.invokevirtual 112, 1000, 3, [(11, 124)]), zN, zN, (.aload_n 2, 2, 0, []), (.aload_n 0, 0, 0, []), (.iload_n 3, 3, 0, []), (.iconst 1, 0, 0, []), (.iadd, 0, 0, []), (.iaload, 1, 0, []), (.aload_n 0, 0, 0, []), (.iload_n 3, 3, 0, []), (.iconst 2, 0, 0, []), (.iadd, 0, 0, []), (.iaload, 1, 0, []), (.aload_n 0, 0, 0, [])], [(.iload_n 3, 3, 0, []), (.iconst 3, 0, 0, []), (.iadd, 0, 0, []), (.iaload, 1, 0, []), (.invokevirtual 115, 1000, 3, [(12, 196)]), zN, zN, (.if_icmp .eq 197, 1116, 0, []), zN, zN, (.iconst 0, 0, 0, []), (.ireturn, 1, 0, []), (.aload_n 1, 1, 0, []), (.aload_n 0, 0, 0, []), (.iload_n 3, 3, 0, []), (.iconst 1, 0, 0, [])], [(.iadd, 0, 0, []), (.iaload, 1, 0, []), (.aload_n 0, 0, 0, []), (.iload_n 3, 3, 0, []), (.iconst 2, 0, 0, []), (.iadd, 0, 0, []), (.iaload, 1, 0, []), (.aload_n 0, 0, 0, []), (.iload_n 3, 3, 0, []), (.iconst 3, 0, 0, []), (.iadd, 0, 0, []), (.iaload, 1, 0, []), (.invokevirtual 116, 1000, 3, [(11, 125)]), zN, zN, (.aload_n 2, 2, 0, [])], [(.aload_n 0, 0, 0, []), (.iload_n 3, 3, 0, []), (.iconst 1, 0, 0, []), (.iadd, 0, 0, []), (.iaload, 1, 0, []), (.aload_n 0, 0, 0, []), (.iload_n 3, 3, 0, []), (.iconst 2, 0, 0, []), (.iadd, 0, 0, []), (.iaload, 1, 0, []), (.aload_n 0, 0, 0, []), (.iload_n 3, 3, 0, []), (.iconst 3, 0, 0, []), (.iadd, 0, 0, []), (.iaload, 1, 0, []), (.invokevirtual 119, 1000, 3, [(12, 197)])], [zN, zN, (.if_icmp .eq 154, 1116, 0, []), zN, zN, (.iconst 0, 0, 0, []), (.ireturn, 1, 0, []), (.aload_n 1, 1, 0, []), (.aload_n 0, 0, 0, []), (.iload_n 3, 3, 0, []), (.iconst 1, 0, 0, []), (.iadd, 0, 0, []), (.iaload, 1, 0, []), (.aload_n 0, 0, 0, []), (.iload_n 3, 3, 0, []), (.iconst 2, 0, 0, [])], [(.iadd, 0, 0, []), (.iaload, 1, 0, []), (.aload_n 0, 0, 0, []), (.iload_n 3, 3, 0, []), (.iconst 3, 0, 0, []), (.iadd, 0, 0, []), (.iaload, 1, 0, []), (.aload_n 0, 0, 0, []), (.iload_n 3, 3, 0, []), (.iconst 4, 0, 0, []), (.iadd, 0, 0, []), (.iaload, 1, 0, []), (.aload_n 0, 0, 0, []), (.iload_n 3, 3, 0, []), (.iconst 5, 0, 0, []), (.iadd, 0, 0, [])], [(.iaload, 1, 0, []), (.invokevirtual 120, 1000, 5, [(11, 126)]), zN, zN, (.aload_n 2, 2, 0, []), (.aload_n 0, 0, 0, []), (.iload_n 3, 3, 0, []), (.iconst 1, 0, 0, []), (.iadd, 0, 0, []), (.iaload, 1, 0, []), (.aload_n 0, 0, 0, []), (.iload_n 3, 3, 0, []), (.iconst 2, 0, 0, []), (.iadd, 0, 0, []), (.iaload, 1, 0, []), (.aload_n 0, 0, 0, [])], [(.iload_n 3, 3, 0, []), (.iconst 3, 0, 0, []), (.iadd, 0, 0, []), (.iaload, 1, 0, []), (.aload_n 0, 0, 0, []), (.iload_n 3, 3, 0, []), (.iconst 4, 0, 0, []), (.iadd, 0, 0, []), (.iaload, 1, 0, []), (.aload_n 0, 0, 0, []), (.iload_n 3, 3, 0, []), (.iconst 5, 0, 0, []), (.iadd, 0, 0, []), (.iaload, 1, 0, []), (.invokevirtual 124, 1000, 5, [(12, 198)]), zN], [zN, (.if_icmp .eq 91, 1116, 0, []), zN, zN, (.iconst 0, 0, 0, []), (.ireturn, 1, 0, []), (.aload_n 1, 1, 0, []), (.aload_n 0, 0, 0, []), (.iload_n 3, 3, 0, []), (.iconst 1, 0, 0, []), (.iadd, 0, 0, []), (.iaload, 1, 0, []), (.aload_n 0, 0, 0, []), (.iload_n 3, 3, 0, []), (.iconst 2, 0, 0, []), (.iadd, 0, 0, [])], [(.iaload, 1, 0, []), (.aload_n 0, 0, 0, []), (.iload_n 3, 3, 0, []), (.iconst 3, 0, 0, []), (.iadd, 0, 0, []), (.iaload, 1, 0, []), (.aload_n 0, 0, 0, []), (.iload_n 3, 3, 0, []), (.iconst 4, 0, 0, []), (.iadd, 0, 0, []), (.iaload, 1, 0, []), (.invokevirtual 125, 1000, 4, [(11, 127)]), zN, zN, (.aload_n 2, 2, 0, []), (.aload_n 0, 0, 0, [])], [(.iload_n 3, 3, 0, []), (.iconst 1, 0, 0, []), (.iadd, 0, 0, []), (.iaload, 1, 0, []), (.aload_n 0, 0, 0, []), (.iload_n 3, 3, 0, []), (.iconst 2, 0, 0, []), (.iadd, 0, 0, []), (.iaload, 1, 0, []), (.aload_n 0, 0, 0, []), (.iload_n 3, 3, 0, []), (.iconst 3, 0, 0, []), (.iadd, 0, 0, []), (.iaload, 1, 0, []), (.aload_n 0, 0, 0, []), (.iload_n 3, 3, 0, [])], [(.iconst 4, 0, 0, []), (.iadd, 0, 0, []), (.iaload, 1, 0, []), (.invokevirtual 128, 1000, 4, [(12, 199)]), zN, zN, (.if_icmp .eq 38, 1116, 0, []), zN, zN, (.iconst 0, 0, 0, []), (.ireturn, 1, 0, []), (.aload_n 1, 1, 0, []), (.aload_n 0, 0, 0, []), (.iload_n 3, 3, 0, []), (.iconst 1, 0, 0, []), (.iadd, 0, 0, [])], [(.iaload, 1, 0, []), (.aload_n 0, 0, 0, []), (.iload_n 3, 3, 0, []), (.iconst 2, 0, 0, []), (.iadd, 0, 0, []), (.iaload, 1, 0, []), (.invokevirtual 129, 1000, 2, [(11, 128)]), zN, zN, (.aload_n 2, 2, 0, []), (.aload_n 0, 0, 0, []), (.iload_n 3, 3, 0, []), (.iconst 1, 0, 0, []), (.iadd, 0, 0, []), (.iaload, 1, 0, []), (.aload_n 0, 0, 0, [])], [(.iload_n 3, 3, 0, []), (.iconst 2, 0, 0, []), (.iadd, 0, 0, []), (.iaload, 1, 0, []), (.invokevirtual 132, 1000, 2, [(12, 201)]), zN, zN, (.if_icmp .eq 5, 1116, 0, []), zN, zN, (.iconst 0, 0, 0, []), (.ireturn, 1, 0, []), (.iinc 3 6, 3, 0, []), zN, zN, (.goto (-1101), 18, 0, [])], [zN, zN, (.iconst 1, 0, 0, []), (.ireturn, 1, 0, [])]]
def zCs : List (List (List (List zE))) := [[zcX0_init, zcX0_isThere, zcX0_takeFirst, zcX0_become, zcX1_init, zcX1_isUnder, zcX1_keptOf, zcX1_wordsFor, zcX1_wearies, zcX1_takesIn, zcX2_init, zcX2_isUnder, zcX2_keptOf, zcX2_wordsFor, zcX2_wearies, zcX2_takesIn], [zcX3_init, zcX3_isUnder, zcX3_wordsFor, zcX3_wearies, zcX3_takesIn, zcX4_init, zcX4_isUnder, zcX4_keptOf, zcX4_wordsFor, zcX4_wearies, zcX5_init, zcX5_worth, zcX5_become, zcX5_become_, zcX6_init, zcX6_isUnder], [zcX6_keptOf, zcX6_wordsFor, zcX6_wearies, zcX6_takesIn, zcX7_init, zcX7_put, zcX7_readInto, zcX7_readPart, zcX7_readOrs, zcX7_readAnds, zcX7_readNot, zcX7_readSum, zcX7_readTerm, zcX7_readOne, zcX7_opens, zcX7_expect], [zcX7_fail, zcX7_advance, zcX7_split, zcX7_addToken, zcX7_splitOff, zcX7_splitWord, zcX7_splitNumber, zcX7_isSign, zcX7_nameCode, zcX7_keyToken, zcX7_isWord, zcX8_init, zcX8_isMissing, zcX8_has, zcX8_become, zcX8_put], [zcX9_init, zcX9_isUnder, zcX9_keptOf, zcX9_wordsFor, zcX9_wearies, zcX9_takesIn, zcX10_init, zcX10_add, zcX10_worth, zcX10_named, zcX10_ofOne, zcX10_ofTwo, zcX11_init, zcX11_set, zcX11_person, zcX11_told], [zcX11_brings, zcX11_asks, zcX11_most, zcX11_isSet, zcX11_feed, zcX11_text, zcX11_force, zcX11_ruleOf, zcX11_over, zcX11_day, zcX11_run, zcX11_isAskedOfRun, zcX11_kindOf, zcX11_keeping, zcX11_telling, zcX11_tiring], [zcX11_learning, zcX11_toldByAll, zcX11_toldByRow, zcX11_passDay, zcX11_tellTruly, zcX11_off, zcX11_lowest, zcX11_within, zcX11_fro, zcX11_row, zcX11_tryRows, zcX11_learn, zcX11_toldWithMore, zcX11_from, zcX11_mean, zcX11_inLowestTerms], [zcX11_commonDivisor, zcX11_tells, zcX11_suiting, zcX11_vary, zcX11_firstOtherwise, zcX11_film, zcX11_drawn, zcX11_chance, zcX11_offOfDrawn, zcX11_image, zcX11_back, zcX11_count, zcX11_sheet, zcX11_cell, zcX11_copy, zcX11_crew], [zcX11_taken, zcX11_isSheet, zcX12_in, zcX12_within, zcX12_init, zcX12_spell, zcX12_isOne, zcX12_isOf, zcX12_mostOf, zcX12_set, zcX12_lays, zcX12_person, zcX12_told, zcX12_brings, zcX12_feed, zcX12_byteAt], [zcX12_next, zcX12_fail, zcX12_isLetter, zcX12_isWord, zcX12_isSign, zcX12_opens, zcX12_name, zcX12_atom, zcX12_term, zcX12_added, zcX12_not, zcX12_both, zcX12_either, zcX12_part, zcX12_read, zcX12_text], [zcX12_force, zcX12_bitsOf, zcX12_wordsOf, zcX12_says, zcX12_keepsOf, zcX12_tellsOf, zcX12_tiresOf, zcX12_learns, zcX12_asks, zcX12_byAll, zcX12_off, zcX12_over, zcX12_tellsTruly, zcX12_passes, zcX12_day, zcX12_laysAside], [zcX12_laysBack, zcX12_run, zcX12_fro, zcX12_rowsFrom, zcX12_row, zcX12_learn, zcX12_from, zcX12_lowest, zcX12_mean, zcX12_firstOther, zcX12_likeSet, zcX12_tells, zcX12_film, zcX12_offDrawn, zcX12_drawn, zcX12_chance], [zcX12_image, zcX12_back, zcX12_count, zcX12_isSheet, zcX12_sheet, zcX12_cell, zcX12_copy, zcX12_crew, zcX12_above, zcX12_taken, zcJ6_bitCount_0f7a4, zcJ9_max_7cf53, zcJ9_min_7cf53, zcL_law]]
def zCode (k : Nat) : List (List zE) := zgt [] (zgt [] zCs (k / 16)) (k % 16)
def zF (k pc : Nat) : zE := zgt zN (zgt [] (zCode k) (pc / 16)) (pc % 16)
def zSs : List (List (Nat × Nat)) := [[(11, 13), (104, 6), (0, 7), (102, 5), (100, 8), (5, 5), (5, 5), (5, 5), (5, 5), (5, 5), (0, 7), (102, 5), (100, 8), (5, 5), (5, 5), (5, 5)], [(5, 5), (5, 5), (0, 7), (102, 5), (100, 8), (5, 5), (5, 5), (5, 5), (5, 5), (5, 5), (105, 6), (100, 160), (103, 4), (100, 61), (9, 0), (2, 0)], [(1, 0), (3, 0), (4, 0), (6, 0), (8, 3), (100, 40), (8, 3), (100, 40), (8, 3), (100, 40), (8, 3), (100, 40), (10, 3), (100, 160), (100, 3), (10, 3)], [(100, 160), (100, 3), (10, 3), (100, 160), (100, 3), (10, 3), (100, 160), (100, 3), (10, 3), (100, 160), (100, 3), (10, 3), (100, 160), (100, 3), (7, 10), (100, 160)], [(100, 161), (100, 161), (100, 161), (12, 45), (100, 960), (100, 6), (100, 160), (100, 25), (100, 8), (100, 36), (100, 61), (100, 25), (100, 8), (101, 4), (100, 4), (100, 4)], [(100, 160)]]
/-- the shapes of all cells: below 100 an object of that class, else an array of a type (100 int, 101 boolean, 102 on references), and the length -/
def zSh (x : Nat) : Nat × Nat := zgt (999, 0) (zgt [] zSs (x / 16)) (x % 16)
def zRs_ : List (List (List (Option Nat))) := [[[some 1, some 2, some 10, some 18, none, some 26, some 62, none, some 27, some 28, some 29], [some 30, some 31, some 32, some 33, some 34, some 35], [some 3, some 4], [some 5, some 6, some 7, some 8, some 9], [], [], [], [], [], [], [some 11, some 12], [some 13, some 14, some 15, some 16, some 17], [], [], [], []], [[], [], [some 19, some 20], [some 21, some 22, some 23, some 24, some 25], [], [], [], [], [], [], [some 44, some 47, some 50, some 53, some 56, some 59], [], [some 36, some 38, some 40, some 42], [], [], []], [[], [], [], [], [some 37], [], [some 39], [], [some 41], [], [some 43], [], [some 45, some 46], [], [], [some 48, some 49]], [[], [], [some 51, some 52], [], [], [some 54, some 55], [], [], [some 57, some 58], [], [], [some 60, some 61], [], [], [some 63, none, some 64, some 65, some 66], []], [[], [], [], [none, some 68, some 69, none, none, some 70, none, none, some 71, none, some 72, none, none, none, none, none, none, none, none, none, none, none, none, none, none, none, none, none, none, some 73, some 74, none, none, none, some 75, some 76, none, none, none, none, none, some 77, some 78, some 79, some 80], [], [], [], [], [], [], [], [], [], [], [], []], [[]]]
/-- the references that stand once all is made -/
def zR0 (x j : Nat) : Option Nat := zgt none (zgt [] (zgt [] zRs_ (x / 16)) (x % 16)) j
def zRg (g x j : Nat) : Option Nat := match Nat.beq x 62, Nat.beq j 9 with | true, true => some g | _, _ => zR0 x j
def zFT : List (Nat × Nat × Nat × Nat) := [(0, 11, 0, 0), (0, 17, 0, 1), (0, 22, 0, 2), (0, 26, 0, 3), (0, 29, 0, 4), (0, 32, 0, 5), (0, 35, 0, 6), (2, 21, 5, 1), (3, 17, 5, 1), (4, 21, 5, 2), (5, 9, 5, 1), (5, 15, 5, 2), (5, 18, 5, 3), (5, 21, 5, 4), (5, 24, 5, 0), (6, 23, 5, 4), (7, 9, 7, 0), (7, 15, 7, 2), (7, 18, 7, 3), (7, 21, 7, 4), (7, 24, 7, 9), (7, 28, 7, 1), (7, 32, 10, 2), (7, 38, 7, 8), (7, 41, 7, 6), (7, 44, 7, 7), (7, 58, 10, 1), (7, 89, 7, 5), (8, 9, 8, 0), (8, 15, 8, 1), (8, 19, 8, 2), (9, 9, 5, 2), (10, 9, 10, 0), (10, 15, 10, 1), (10, 18, 10, 2), (10, 37, 5, 2), (10, 48, 5, 3), (10, 51, 5, 1), (10, 54, 5, 4), (11, 11, 11, 0), (11, 18, 11, 1), (11, 22, 11, 2), (11, 25, 11, 3), (11, 30, 11, 5), (11, 34, 11, 8), (11, 40, 11, 9), (11, 44, 11, 10), (11, 70, 11, 6), (11, 94, 11, 7), (11, 105, 0, 4), (11, 108, 0, 0), (11, 124, 0, 2), (11, 127, 5, 0), (11, 130, 5, 1), (11, 133, 5, 2), (11, 136, 5, 3), (11, 139, 5, 4), (11, 142, 0, 3), (11, 145, 0, 1), (11, 148, 0, 5), (11, 165, 7, 1), (11, 168, 0, 6), (11, 178, 8, 2), (11, 179, 8, 0), (11, 255, 11, 11), (11, 258, 11, 12), (11, 295, 11, 4), (11, 303, 8, 1), (12, 13, 12, 1), (12, 17, 12, 2), (12, 20, 12, 5), (12, 23, 12, 8), (12, 26, 12, 10), (12, 29, 12, 29), (12, 32, 12, 30), (12, 35, 12, 34), (12, 38, 12, 35), (12, 41, 12, 36), (12, 44, 12, 41), (12, 48, 12, 42), (12, 51, 12, 43), (12, 54, 12, 44), (12, 61, 12, 3), (12, 64, 12, 9), (12, 71, 12, 11), (12, 96, 12, 7), (12, 99, 12, 4), (12, 112, 12, 12), (12, 117, 12, 6), (12, 120, 12, 21), (12, 123, 12, 20), (12, 126, 12, 22), (12, 132, 12, 24), (12, 135, 12, 23), (12, 146, 12, 25), (12, 152, 12, 27), (12, 156, 12, 28), (12, 162, 12, 26), (12, 175, 12, 14), (12, 178, 12, 15), (12, 181, 12, 16), (12, 184, 12, 17), (12, 187, 12, 18), (12, 190, 12, 19), (12, 233, 12, 13), (12, 290, 12, 32), (12, 293, 12, 33), (12, 296, 12, 31), (12, 324, 12, 37), (12, 327, 12, 38), (12, 330, 12, 39), (12, 333, 12, 40)]
def zST : List (Nat × Nat × Nat × Nat) := [(1, 25, 202, 1), (7, 96, 203, 2), (7, 112, 55, 1), (10, 22, 73, 4), (10, 26, 74, 2), (10, 30, 75, 3), (10, 42, 202, 1), (11, 101, 82, 1), (11, 121, 83, 1), (11, 171, 129, 1), (11, 186, 101, 2), (11, 214, 103, 2), (11, 235, 102, 1), (11, 238, 203, 2), (11, 243, 204, 2), (11, 246, 202, 1), (11, 270, 111, 3), (11, 274, 112, 2), (12, 67, 130, 3), (12, 84, 136, 1), (12, 239, 161, 1), (12, 242, 131, 3), (12, 263, 195, 1), (12, 266, 170, 2), (12, 305, 183, 3), (12, 344, 200, 1)]
def zSN : List (Nat × Nat × Nat × Nat) := [(4, 27, 102, 1), (8, 22, 103, 2), (9, 15, 102, 1), (10, 34, 103, 2)]
def zIT : List (Nat × Nat × Nat × Nat) := [(11, 17, 0, 0), (11, 67, 36, 1), (15, 9, 76, 0), (15, 12, 132, 0)]
def zIN : List (Nat × Nat × Nat × Nat) := [(0, 21, 26, 0), (1, 3, 64, 0), (2, 3, 64, 0), (3, 3, 10, 0), (4, 3, 4, 0), (6, 3, 64, 0), (11, 47, 64, 0), (11, 50, 10, 0), (11, 53, 4, 0), (11, 56, 16, 0), (11, 59, 21, 0), (11, 62, 30, 0), (11, 63, 59, 0), (11, 64, 70, 0)]
def zOT : List (Nat × Nat) := [(0, 3), (5, 3), (7, 3), (8, 3), (9, 3), (10, 3), (11, 1), (12, 7)]
def zUT : List (Nat × Nat × Nat × Nat) := [(1, 9, 65, 1), (1, 13, 66, 2), (1, 17, 67, 3), (1, 21, 68, 2), (2, 9, 65, 1), (2, 13, 66, 2), (2, 17, 67, 3), (3, 9, 11, 1), (3, 13, 13, 3), (4, 9, 5, 1), (4, 13, 6, 2), (4, 17, 7, 3), (4, 31, 8, 2), (6, 9, 65, 1), (6, 13, 66, 2), (6, 17, 67, 3), (6, 29, 68, 2)]
def zVT : List (Nat × Nat × Nat × Nat × Nat) := [(0, 38, 5, 29, 1), (7, 35, 7, 50, 0), (7, 47, 7, 39, 2), (7, 51, 7, 47, 1), (7, 55, 7, 40, 1), (7, 61, 7, 41, 1), (7, 64, 7, 49, 0), (7, 67, 10, 71, 1), (7, 70, 7, 42, 1), (7, 73, 7, 46, 1), (7, 77, 7, 43, 1), (7, 80, 7, 44, 1), (7, 83, 7, 45, 1), (7, 86, 7, 48, 0), (7, 92, 7, 52, 1), (7, 102, 7, 51, 3), (7, 106, 7, 53, 1), (7, 109, 7, 54, 1), (7, 115, 7, 56, 2), (7, 118, 7, 57, 2), (7, 123, 7, 58, 3), (11, 86, 7, 37, 1), (11, 90, 7, 38, 1), (11, 98, 0, 1, 1), (11, 112, 5, 27, 1), (11, 117, 5, 28, 2), (11, 151, 11, 94, 3), (11, 155, 11, 93, 3), (11, 158, 11, 95, 3), (11, 161, 11, 96, 3), (11, 174, 8, 60, 0), (11, 182, 11, 98, 2), (11, 190, 11, 99, 1), (11, 194, 11, 91, 1), (11, 197, 0, 3, 1), (11, 200, 11, 92, 1), (11, 204, 11, 87, 1), (11, 208, 10, 72, 5), (11, 211, 9, 66, 2), (11, 217, 9, 67, 3), (11, 221, 9, 68, 2), (11, 225, 9, 69, 2), (11, 229, 0, 2, 0), (11, 232, 11, 100, 3), (11, 251, 11, 97, 2), (11, 261, 11, 106, 5), (11, 265, 11, 108, 2), (11, 277, 11, 116, 2), (11, 280, 11, 114, 5), (11, 284, 11, 115, 3), (11, 288, 8, 62, 2), (11, 289, 8, 63, 2), (11, 291, 11, 120, 2), (11, 299, 8, 61, 2), (11, 312, 11, 78, 4), (11, 316, 9, 65, 1), (12, 57, 12, 133, 9), (12, 74, 12, 134, 1), (12, 80, 12, 135, 2), (12, 88, 12, 140, 2), (12, 92, 12, 138, 3), (12, 129, 12, 143, 1), (12, 159, 12, 146, 2), (12, 165, 12, 145, 0), (12, 168, 12, 144, 0), (12, 171, 12, 147, 8), (12, 193, 12, 148, 1), (12, 196, 12, 149, 0), (12, 200, 12, 151, 0), (12, 204, 12, 156, 0), (12, 207, 12, 150, 0), (12, 210, 12, 152, 0), (12, 215, 12, 154, 0), (12, 218, 12, 153, 0), (12, 223, 12, 155, 0), (12, 226, 12, 157, 1), (12, 230, 12, 158, 2), (12, 236, 12, 162, 1), (12, 246, 12, 163, 3), (12, 249, 12, 164, 2), (12, 254, 12, 165, 2), (12, 257, 12, 166, 2), (12, 260, 12, 167, 2), (12, 269, 12, 172, 2), (12, 272, 12, 173, 0), (12, 281, 12, 175, 0), (12, 284, 12, 176, 0), (12, 287, 12, 169, 1), (12, 299, 12, 179, 6), (12, 309, 12, 185, 2), (12, 312, 12, 186, 1), (12, 315, 12, 196, 3), (12, 321, 12, 189, 2), (12, 340, 12, 139, 4), (15, 13, 11, 77, 3), (15, 17, 12, 137, 3), (15, 18, 11, 78, 4), (15, 22, 12, 139, 4), (15, 23, 11, 79, 2), (15, 27, 12, 140, 2), (15, 28, 11, 80, 1), (15, 32, 12, 141, 1), (15, 33, 11, 81, 3), (15, 36, 12, 168, 3), (15, 37, 11, 84, 1), (15, 40, 12, 142, 1), (15, 41, 11, 85, 0), (15, 45, 12, 159, 0), (15, 46, 11, 86, 1), (15, 49, 12, 160, 1), (15, 50, 11, 88, 3), (15, 53, 12, 171, 3), (15, 54, 11, 89, 0), (15, 57, 12, 174, 0), (15, 58, 11, 90, 2), (15, 61, 12, 177, 2), (15, 62, 11, 104, 2), (15, 65, 12, 178, 2), (15, 66, 11, 105, 3), (15, 69, 12, 180, 3), (15, 70, 11, 107, 2), (15, 73, 12, 181, 2), (15, 74, 11, 109, 2), (15, 77, 12, 182, 2), (15, 78, 11, 110, 1), (15, 82, 12, 184, 1), (15, 83, 11, 113, 3), (15, 86, 12, 187, 3), (15, 87, 11, 117, 2), (15, 90, 12, 188, 2), (15, 91, 11, 118, 2), (15, 94, 12, 190, 2), (15, 95, 11, 119, 4), (15, 99, 12, 191, 4), (15, 100, 11, 121, 0), (15, 103, 12, 192, 0), (15, 104, 11, 122, 0), (15, 107, 12, 193, 0), (15, 108, 11, 123, 1), (15, 111, 12, 194, 1), (15, 112, 11, 124, 3), (15, 115, 12, 196, 3), (15, 116, 11, 125, 3), (15, 119, 12, 197, 3), (15, 120, 11, 126, 5), (15, 124, 12, 198, 5), (15, 125, 11, 127, 4), (15, 128, 12, 199, 4), (15, 129, 11, 128, 2), (15, 132, 12, 201, 2)]
def zWT : List (Nat × Nat × Nat × Nat × Nat × Nat) := [(11, 211, 1, 6, 2, 66), (11, 211, 2, 12, 2, 66), (11, 211, 3, 12, 2, 66), (11, 211, 4, 23, 2, 66), (11, 211, 6, 32, 2, 66), (11, 217, 1, 7, 3, 67), (11, 217, 2, 13, 3, 67), (11, 217, 3, 18, 3, 67), (11, 217, 4, 24, 3, 67), (11, 217, 6, 33, 3, 67), (11, 221, 1, 8, 2, 68), (11, 221, 2, 14, 2, 68), (11, 221, 3, 19, 2, 68), (11, 221, 4, 25, 2, 68), (11, 221, 6, 34, 2, 68), (11, 225, 1, 9, 2, 69), (11, 225, 2, 15, 2, 69), (11, 225, 3, 20, 2, 69), (11, 225, 4, 9, 2, 69), (11, 225, 6, 35, 2, 69), (11, 316, 1, 5, 1, 65), (11, 316, 2, 11, 1, 65), (11, 316, 3, 17, 1, 65), (11, 316, 4, 22, 1, 65), (11, 316, 6, 31, 1, 65)]
def zCT : List (Nat × Nat × Nat) := [(0, 9, 5), (11, 15, 0), (11, 9, 9), (11, 48, 2), (11, 51, 1), (11, 54, 3), (11, 57, 4), (11, 60, 6), (11, 38, 8), (11, 28, 10), (11, 65, 7), (15, 7, 11), (15, 10, 12)]
def zAT : List (Nat × Nat × Nat) := [(0, 9, 2), (11, 9, 4), (11, 28, 5), (11, 38, 3)]
def zGT : List (Nat × Nat × Nat) := [(7, 121, 1), (7, 127, 2), (7, 129, 3), (7, 131, 4), (7, 133, 5), (7, 135, 6), (7, 137, 7), (7, 139, 8), (7, 141, 9), (7, 143, 10), (7, 145, 11), (7, 147, 12), (11, 74, 0)]
def zYT : List (Nat × Nat) := [(11, 306)]
def zKT : List (Nat × Nat × Int) := [(11, 294, 1103515245), (12, 318, 1103515245), (13, 265, 1431655765), (13, 266, 858993459), (13, 267, 252645135)]
def zLT : List (Nat × Nat × Int) := [(11, 268, (-4611686018427387904)), (12, 78, 4), (12, 102, 5), (12, 104, 9), (12, 106, 1023), (12, 108, 99), (12, 110, 8), (12, 115, 255), (12, 138, 97), (12, 140, 122), (12, 142, 48), (12, 144, 57), (12, 150, 10), (12, 213, 43), (12, 221, 60), (12, 252, 3), (12, 275, 14), (12, 277, 20), (12, 279, 24), (12, 303, (-4611686018427387904)), (12, 319, 40), (12, 336, (-1)), (12, 338, 2)]
def zVS : List (List Int) := [[107, 101, 101, 112, 115, 32, 109, 101, 109, 111, 114, 121, 32, 59, 32, 116, 105, 114, 101, 115, 32, 48, 32, 59, 32, 108, 101, 97, 114, 110, 115, 32, 48, 32, 59], [119, 111, 114, 100, 115], [109, 101, 109, 111, 114, 121], [110, 117, 109, 98, 101, 114], [100, 97, 121], [112, 97, 114, 116, 115], [115, 97, 105, 100], [107, 101, 101, 112, 115], [116, 105, 114, 101, 115], [108, 101, 97, 114, 110, 115], [111, 114], [97, 110, 100], [110, 111, 116]]
end
section
/-! the machine over logical cells (numbers in the order of their making), as a transformer of predicates: ints are Int in their range -/
abbrev zV : Type := Int ⊕ (Int ⊕ Option Nat)
abbrev zi (x : Int) : zV := .inl x
abbrev zl (x : Int) : zV := .inr (.inl x)
abbrev zr (x : Nat) : zV := .inr (.inr (some x))
/-- cells made, slots made, the script's length; ints and longs; references -/
abbrev zH : Type := (Nat × Nat × Nat) × (Nat → Nat → Int) × (Nat → Nat → Option Nat)
abbrev zLv : Type := List (Option zV)
abbrev zK : Type := Nat → zLv → List zV → zH → Prop
abbrev zQ : Type := Option zV → zH → Prop
abbrev zCt : Type := Nat → Nat → Nat → List zV → zH → zQ → Prop
def zwr (x : Int) : Int := (x + 2147483648) % 4294967296 - 2147483648
def zwl (x : Int) : Int := (x + 9223372036854775808) % 18446744073709551616 - 9223372036854775808
def z2 {α : Type} (f : Nat → Nat → α) (a j : Nat) (x : α) : Nat → Nat → α := fun b k => if b = a ∧ k = j then x else f b k
def z1 {α : Type} (f : Nat → Nat → α) (a : Nat) (x : α) : Nat → Nat → α := fun b k => if b = a then x else f b k
/-- n values of cell a from place i on come to cell b's place j on -/
def zcp {α : Type} (f : Nat → Nat → α) (a i b j n : Nat) : Nat → Nat → α := fun x k => if x = b ∧ j ≤ k ∧ k < j + n then f a (i + (k - j)) else f x k
def zsu {α : Type} : List α → Nat → α → List α | [], _, _ => [] | _ :: l, 0, v => v :: l | a :: l, n + 1, v => a :: zsu l n v
/-- a long stands just ahead of that place -/
def zlg (ls : zLv) : Nat → Bool
  | 0 => false
  | j + 1 => match zgt none ls j with
    | some (.inr (.inl _)) => true
    | _ => false
def zva (v : Option zV) (r : List zV) : List zV := match v with
  | some v => v :: r
  | none => r
def zvsLen (x : Nat) : Nat := (zgt [] zVS (x - 1000)).length
def zvsAt (x i : Nat) : Int := zgt 0 (zgt [] zVS (x - 1000)) i
-- bits
def zand (x y : Int) : Int := (Int32.ofInt x &&& Int32.ofInt y).toInt
def zor (x y : Int) : Int := (Int32.ofInt x ||| Int32.ofInt y).toInt
def zxor (x y : Int) : Int := (Int32.ofInt x ^^^ Int32.ofInt y).toInt
def zshl (x y : Int) : Int := (Int32.ofInt x <<< (Int32.ofInt y &&& 31)).toInt
def zshr (x y : Int) : Int := (Int32.ofInt x >>> (Int32.ofInt y &&& 31)).toInt
def zushr (x y : Int) : Int := ((Int32.ofInt x).toUInt32 >>> ((Int32.ofInt y).toUInt32 &&& Int32.toUInt32 31)).toInt32.toInt
def zi2b (x : Int) : Int := (Int32.ofInt x).toInt8.toInt32.toInt
def zi2s (x : Int) : Int := (Int32.ofInt x).toInt16.toInt32.toInt
def zcmp (x y : Int) : Int := if x < y then -1 else if x = y then 0 else 1
-- operations
def zo_li (i n : Nat) (K : zK) (pc : Nat) (ls : zLv) (st : List zV) (h : zH) : Prop := match zgt none ls i with
  | some (.inl x) => K (pc + n) ls (.inl x :: st) h
  | _ => False
def zo_ll (i n : Nat) (K : zK) (pc : Nat) (ls : zLv) (st : List zV) (h : zH) : Prop := match zgt none ls i with
  | some (.inr (.inl x)) => K (pc + n) ls (.inr (.inl x) :: st) h
  | _ => False
def zo_lr (i n : Nat) (K : zK) (pc : Nat) (ls : zLv) (st : List zV) (h : zH) : Prop := match zgt none ls i with
  | some (.inr (.inr (some x))) => K (pc + n) ls (.inr (.inr (some x)) :: st) h
  | _ => False
def zo_si (i n : Nat) (K : zK) (pc : Nat) (ls : zLv) (st : List zV) (h : zH) : Prop := match st with
  | .inl x :: r => match zlg ls i with
    | true => False
    | false => K (pc + n) (zsu ls i (some (.inl x))) r h
  | _ => False
def zo_sr (i n : Nat) (K : zK) (pc : Nat) (ls : zLv) (st : List zV) (h : zH) : Prop := match st with
  | .inr (.inr (some x)) :: r => match zlg ls i with
    | true => False
    | false => K (pc + n) (zsu ls i (some (.inr (.inr (some x))))) r h
  | _ => False
def zo_sl (i n : Nat) (K : zK) (pc : Nat) (ls : zLv) (st : List zV) (h : zH) : Prop := match st with
  | .inr (.inl x) :: r => match zlg ls i with
    | true => False
    | false => K (pc + n) (zsu (zsu ls i (some (.inr (.inl x)))) (i + 1) none) r h
  | _ => False
def zo_inc (i : Nat) (d : Int) (K : zK) (pc : Nat) (ls : zLv) (st : List zV) (h : zH) : Prop := match zgt none ls i with
  | some (.inl x) => match zlg ls i with
    | true => False
    | false => K (pc + 3) (zsu ls i (some (.inl (zwr (x + d))))) st h
  | _ => False
def zo_i2 (f : Int → Int → Int) (K : zK) (pc : Nat) (ls : zLv) (st : List zV) (h : zH) : Prop := match st with
  | .inl y :: .inl x :: r => K (pc + 1) ls (.inl (f x y) :: r) h
  | _ => False
def zo_i2n (f : Int → Int → Int) (K : zK) (pc : Nat) (ls : zLv) (st : List zV) (h : zH) : Prop := match st with
  | .inl y :: .inl x :: r => y ≠ 0 ∧ K (pc + 1) ls (.inl (f x y) :: r) h
  | _ => False
def zo_i1 (f : Int → Int) (K : zK) (pc : Nat) (ls : zLv) (st : List zV) (h : zH) : Prop := match st with
  | .inl x :: r => K (pc + 1) ls (.inl (f x) :: r) h
  | _ => False
def zo_l2 (f : Int → Int → Int) (K : zK) (pc : Nat) (ls : zLv) (st : List zV) (h : zH) : Prop := match st with
  | .inr (.inl y) :: .inr (.inl x) :: r => K (pc + 1) ls (.inr (.inl (f x y)) :: r) h
  | _ => False
def zo_l2n (f : Int → Int → Int) (K : zK) (pc : Nat) (ls : zLv) (st : List zV) (h : zH) : Prop := match st with
  | .inr (.inl y) :: .inr (.inl x) :: r => y ≠ 0 ∧ K (pc + 1) ls (.inr (.inl (f x y)) :: r) h
  | _ => False
def zo_lcmp (K : zK) (pc : Nat) (ls : zLv) (st : List zV) (h : zH) : Prop := match st with
  | .inr (.inl y) :: .inr (.inl x) :: r => K (pc + 1) ls (.inl (zcmp x y) :: r) h
  | _ => False
def zo_i2l (K : zK) (pc : Nat) (ls : zLv) (st : List zV) (h : zH) : Prop := match st with
  | .inl x :: r => K (pc + 1) ls (.inr (.inl x) :: r) h
  | _ => False
def zo_l2i (K : zK) (pc : Nat) (ls : zLv) (st : List zV) (h : zH) : Prop := match st with
  | .inr (.inl x) :: r => K (pc + 1) ls (.inl (zwr x) :: r) h
  | _ => False
def zo_dup (K : zK) (pc : Nat) (ls : zLv) (st : List zV) (h : zH) : Prop := match st with
  | .inl x :: r => K (pc + 1) ls (.inl x :: .inl x :: r) h
  | .inr (.inr x) :: r => K (pc + 1) ls (.inr (.inr x) :: .inr (.inr x) :: r) h
  | _ => False
def zo_dup2 (K : zK) (pc : Nat) (ls : zLv) (st : List zV) (h : zH) : Prop := match st with
  | .inl x :: .inr (.inr y) :: r => K (pc + 1) ls (.inl x :: .inr (.inr y) :: .inl x :: .inr (.inr y) :: r) h
  | _ => False
def zo_dupx (K : zK) (pc : Nat) (ls : zLv) (st : List zV) (h : zH) : Prop := match st with
  | .inl x :: .inr (.inr y) :: r => K (pc + 1) ls (.inl x :: .inr (.inr y) :: .inl x :: r) h
  | .inl x :: .inl y :: r => K (pc + 1) ls (.inl x :: .inl y :: .inl x :: r) h
  | _ => False
def zo_pop (K : zK) (pc : Nat) (ls : zLv) (st : List zV) (h : zH) : Prop := match st with
  | .inl _ :: r => K (pc + 1) ls r h
  | .inr (.inr _) :: r => K (pc + 1) ls r h
  | _ => False
def zo_c1 (c : Jvm.ClassFile.Cond) (t : Nat) (K : zK) (pc : Nat) (ls : zLv) (st : List zV) (h : zH) : Prop := match st with
  | .inl x :: r => match c with
    | .eq => (x = 0 → K t ls r h) ∧ (¬ x = 0 → K (pc + 3) ls r h)
    | .ne => (x ≠ 0 → K t ls r h) ∧ (¬ x ≠ 0 → K (pc + 3) ls r h)
    | .lt => (x < 0 → K t ls r h) ∧ (¬ x < 0 → K (pc + 3) ls r h)
    | .ge => (0 ≤ x → K t ls r h) ∧ (¬ 0 ≤ x → K (pc + 3) ls r h)
    | .gt => (0 < x → K t ls r h) ∧ (¬ 0 < x → K (pc + 3) ls r h)
    | .le => (x ≤ 0 → K t ls r h) ∧ (¬ x ≤ 0 → K (pc + 3) ls r h)
  | _ => False
def zo_c2 (c : Jvm.ClassFile.Cond) (t : Nat) (K : zK) (pc : Nat) (ls : zLv) (st : List zV) (h : zH) : Prop := match st with
  | .inl y :: .inl x :: r => match c with
    | .eq => (x = y → K t ls r h) ∧ (¬ x = y → K (pc + 3) ls r h)
    | .ne => (x ≠ y → K t ls r h) ∧ (¬ x ≠ y → K (pc + 3) ls r h)
    | .lt => (x < y → K t ls r h) ∧ (¬ x < y → K (pc + 3) ls r h)
    | .ge => (y ≤ x → K t ls r h) ∧ (¬ y ≤ x → K (pc + 3) ls r h)
    | .gt => (y < x → K t ls r h) ∧ (¬ y < x → K (pc + 3) ls r h)
    | .le => (x ≤ y → K t ls r h) ∧ (¬ x ≤ y → K (pc + 3) ls r h)
  | _ => False
def zsw (x : Int) (d : Nat) (K : Nat → Prop) : List (Int × Nat) → Prop
  | [] => K d
  | (c, t) :: l => (x = c → K t) ∧ (¬ x = c → zsw x d K l)
def zo_sw (d : Nat) (l : List (Int × Nat)) (K : zK) (ls : zLv) (st : List zV) (h : zH) : Prop := match st with
  | .inl x :: r => zsw x d (fun t => K t ls r h) l
  | _ => False
def zo_gf (c j : Nat) (K : zK) (pc : Nat) (ls : zLv) (st : List zV) (h : zH) : Prop := match st with
  | .inr (.inr (some x)) :: r => (zSh x).1 = c ∧ match zKd c j with
    | 1 => K (pc + 3) ls (.inr (.inl (h.2.1 x j)) :: r) h
    | 2 => ∃ v, h.2.2 x j = v ∧ K (pc + 3) ls (.inr (.inr v) :: r) h
    | _ => K (pc + 3) ls (.inl (h.2.1 x j) :: r) h
  | _ => False
def zo_pf (c j : Nat) (K : zK) (pc : Nat) (ls : zLv) (st : List zV) (h : zH) : Prop := match st with
  | v :: .inr (.inr (some x)) :: r => (zSh x).1 = c ∧ match zKd c j, v with
    | 0, .inl y => K (pc + 3) ls r (h.1, z2 h.2.1 x j y, h.2.2)
    | 1, .inr (.inl y) => K (pc + 3) ls r (h.1, z2 h.2.1 x j y, h.2.2)
    | 2, .inr (.inr (some y)) => K (pc + 3) ls r (h.1, h.2.1, z2 h.2.2 x j (some y))
    | 3, .inl y => (y = 0 ∨ y = 1) ∧ K (pc + 3) ls r (h.1, z2 h.2.1 x j y, h.2.2)
    | _, _ => False
  | _ => False
def zo_ild (t : Nat) (K : zK) (pc : Nat) (ls : zLv) (st : List zV) (h : zH) : Prop := match st with
  | .inl i :: .inr (.inr (some x)) :: r => (zSh x).1 = t ∧ (0 ≤ i ∧ i < ((zSh x).2 : Nat)) ∧ K (pc + 1) ls (.inl (h.2.1 x i.toNat) :: r) h
  | _ => False
/-- the script's own element -/
def zo_sld (K : zK) (pc : Nat) (ls : zLv) (st : List zV) (h : zH) : Prop := match st with
  | .inl i :: .inr (.inr (some x)) :: r => x = 2000 ∧ (0 ≤ i ∧ i < (h.1.2.2 : Nat)) ∧ K (pc + 1) ls (.inl (h.2.1 2000 i.toNat) :: r) h
  | _ => False
def zo_ist (t : Nat) (K : zK) (pc : Nat) (ls : zLv) (st : List zV) (h : zH) : Prop := match st with
  | .inl y :: .inl i :: .inr (.inr (some x)) :: r => (zSh x).1 = t ∧ (0 ≤ i ∧ i < ((zSh x).2 : Nat)) ∧ K (pc + 1) ls r (h.1, z2 h.2.1 x i.toNat y, h.2.2)
  | _ => False
def zo_zst (K : zK) (pc : Nat) (ls : zLv) (st : List zV) (h : zH) : Prop := match st with
  | .inl y :: .inl i :: .inr (.inr (some x)) :: r => (zSh x).1 = 101 ∧ (0 ≤ i ∧ i < ((zSh x).2 : Nat)) ∧ (y = 0 ∨ y = 1) ∧ K (pc + 1) ls r (h.1, z2 h.2.1 x i.toNat y, h.2.2)
  | _ => False
def zo_ald (K : zK) (pc : Nat) (ls : zLv) (st : List zV) (h : zH) : Prop := match st with
  | .inl i :: .inr (.inr (some x)) :: r => (102 ≤ (zSh x).1 ∧ (zSh x).1 ≤ 105) ∧ (0 ≤ i ∧ i < ((zSh x).2 : Nat)) ∧ ∃ v, h.2.2 x i.toNat = v ∧ K (pc + 1) ls (.inr (.inr v) :: r) h
  | _ => False
/-- the classes whose objects a row of references of that type takes -/
def zfit (t c : Nat) : Bool := (t == 102 && c == 5) || (t == 103 && c == 8) || (t == 105 && c == 10) || (t == 104 && (c == 9 || c == 1 || c == 2 || c == 3 || c == 4 || c == 6))
def zo_ast (K : zK) (pc : Nat) (ls : zLv) (st : List zV) (h : zH) : Prop := match st with
  | .inr (.inr (some y)) :: .inl i :: .inr (.inr (some x)) :: r => zfit (zSh x).1 (zSh y).1 = true ∧ (0 ≤ i ∧ i < ((zSh x).2 : Nat)) ∧ K (pc + 1) ls r (h.1, h.2.1, z2 h.2.2 x i.toNat (some y))
  | _ => False
def zo_len (K : zK) (pc : Nat) (ls : zLv) (st : List zV) (h : zH) : Prop := match st with
  | .inr (.inr (some x)) :: r => (100 ≤ (zSh x).1 ∧ (zSh x).1 ≤ 105) ∧ K (pc + 1) ls (.inl ((zSh x).2 : Nat) :: r) h
  | _ => False
def zo_slen (K : zK) (pc : Nat) (ls : zLv) (st : List zV) (h : zH) : Prop := match st with
  | .inr (.inr (some x)) :: r => x = 2000 ∧ K (pc + 1) ls (.inl (h.1.2.2 : Nat) :: r) h
  | _ => False
/-- a new cell; B: how many cells and slots there may be -/
def zo_new (c n : Nat) (B : Nat × Nat) (K : zK) (pc : Nat) (ls : zLv) (st : List zV) (h : zH) : Prop :=
  zSh h.1.1 = (c, n) ∧ h.1.1 + 1 ≤ B.1 ∧ h.1.2.1 + n ≤ B.2 ∧ h.1.1 < 1000 ∧ K pc ls (.inr (.inr (some h.1.1)) :: st) ((h.1.1 + 1, h.1.2.1 + n, h.1.2.2), z1 h.2.1 h.1.1 0, z1 h.2.2 h.1.1 none)
def zo_newa (t : Nat) (B : Nat × Nat) (K : zK) (pc : Nat) (ls : zLv) (st : List zV) (h : zH) : Prop := match st with
  | .inl n :: r => (0 ≤ n ∧ n < 1000) ∧ zo_new (100 + t) n.toNat B K pc ls r h
  | _ => False
def zcs : List zV → Nat
  | [] => 0
  | .inr (.inl _) :: l => zcs l + 2
  | _ :: l => zcs l + 1
def zo_call (C : zCt) (B : Nat × Nat) (k : Nat) (As r : List zV) (K : zK) (pc : Nat) (ls : zLv) (h : zH) : Prop :=
  zcs r ≤ 8 ∧ ∃ mc ms : Nat, (mc = 0 ∨ h.1.1 + mc ≤ B.1) ∧ (ms = 0 ∨ h.1.2.1 + ms ≤ B.2) ∧ C k mc ms As h (fun v h1 => K (pc + 3) ls (zva v r) h1)
def ztk (n : Nat) (st acc : List zV) : List zV × List zV := match n, st with
  | 0, st => (acc, st)
  | n + 1, v :: st => ztk n st (v :: acc)
  | _, [] => ([], [])
def zsel (c : Int) : List (Int × Nat) → Option Nat
  | [] => none
  | (a, k) :: l => match decide (a = c) with
    | true => some k
    | false => zsel c l
def zo_slenS (K : zK) (pc : Nat) (ls : zLv) (st : List zV) (h : zH) : Prop := match st with
  | .inr (.inr (some x)) :: r => (1000 ≤ x ∧ x < 1013) ∧ K (pc + 3) ls (.inl (zvsLen x : Nat) :: r) h
  | _ => False
def zo_satS (K : zK) (pc : Nat) (ls : zLv) (st : List zV) (h : zH) : Prop := match st with
  | .inl i :: .inr (.inr (some x)) :: r => (1000 ≤ x ∧ x < 1013) ∧ (0 ≤ i ∧ i < (zvsLen x : Nat)) ∧ K (pc + 3) ls (.inl (zvsAt x i.toNat) :: r) h
  | _ => False
def zo_acp (K : zK) (pc : Nat) (ls : zLv) (st : List zV) (h : zH) : Prop := match st with
  | .inl n :: .inl j :: .inr (.inr (some b)) :: .inl i :: .inr (.inr (some a)) :: r => zcs r ≤ 8 ∧ (zSh a).1 = 100 ∧ (zSh b).1 = 100 ∧ (0 ≤ n ∧ 0 ≤ i ∧ 0 ≤ j ∧ i + n ≤ ((zSh a).2 : Nat) ∧ j + n ≤ ((zSh b).2 : Nat)) ∧ K (pc + 3) ls r (h.1, zcp h.2.1 a i.toNat b j.toNat n.toNat, h.2.2)
  | _ => False
def zo_stat (C : zCt) (B : Nat × Nat) (k n : Nat) (K : zK) (pc : Nat) (ls : zLv) (st : List zV) (h : zH) : Prop := match ztk n st [] with
  | (As, r) => zo_call C B k As r K pc ls h
def zo_spec (C : zCt) (B : Nat × Nat) (k n : Nat) (K : zK) (pc : Nat) (ls : zLv) (st : List zV) (h : zH) : Prop := match ztk n st [] with
  | (As, .inr (.inr (some x)) :: r) => zo_call C B k (.inr (.inr (some x)) :: As) r K pc ls h
  | _ => False
def zo_virt (C : zCt) (B : Nat × Nat) (l : List (Int × Nat)) (n : Nat) (K : zK) (pc : Nat) (ls : zLv) (st : List zV) (h : zH) : Prop := match ztk n st [] with
  | (As, .inr (.inr (some x)) :: r) => ∃ k, zsel ((zSh x).1 : Nat) l = some k ∧ zo_call C B k (.inr (.inr (some x)) :: As) r K pc ls h
  | _ => False
def zo_oi (K : zK) (pc : Nat) (ls : zLv) (st : List zV) (h : zH) : Prop := match st with
  | .inr (.inr (some _)) :: r => K (pc + 3) ls r h
  | _ => False
def zo_ri (Q : zQ) (st : List zV) (h : zH) : Prop := match st with
  | [.inl x] => Q (some (.inl x)) h
  | _ => False
def zo_rz (Q : zQ) (st : List zV) (h : zH) : Prop := match st with
  | [.inl x] => (x = 0 ∨ x = 1) ∧ Q (some (.inl x)) h
  | _ => False
def zo_rl (Q : zQ) (st : List zV) (h : zH) : Prop := match st with
  | [.inr (.inl x)] => Q (some (.inr (.inl x))) h
  | _ => False
def zo_rr (Q : zQ) (st : List zV) (h : zH) : Prop := match st with
  | [.inr (.inr (some x))] => Q (some (.inr (.inr (some x)))) h
  | _ => False
def zo_rv (Q : zQ) (st : List zV) (h : zH) : Prop := match st with
  | [] => Q none h
  | _ => False
def zhd (l : List (Int × Nat)) : Int := match l with
  | (x, _) :: _ => x
  | [] => 0
def zstep (C : zCt) (B : Nat × Nat) (Q : zQ) (K : zK) (e : zE) (pc : Nat) (ls : zLv) (st : List zV) (h : zH) : Prop :=
  match e.1 with
  | .iconst n => K (pc + 1) ls (.inl n :: st) h
  | .bipush n => K (pc + 2) ls (.inl n :: st) h
  | .sipush n => K (pc + 3) ls (.inl n :: st) h
  | .lconst n => K (pc + 1) ls (.inr (.inl (n.val : Nat)) :: st) h
  | .ldc _ => match e.2.1 with
    | 0 => K (pc + 2) ls (.inl (zhd e.2.2.2) :: st) h
    | _ => K (pc + 2) ls (.inr (.inr (some (1000 + e.2.2.1))) :: st) h
  | .ldc_w _ => K (pc + 3) ls (.inl (zhd e.2.2.2) :: st) h
  | .ldc2_w _ => K (pc + 3) ls (.inr (.inl (zhd e.2.2.2)) :: st) h
  | .iload_n _ => zo_li e.2.1 1 K pc ls st h
  | .iload _ => zo_li e.2.1 2 K pc ls st h
  | .lload_n _ => zo_ll e.2.1 1 K pc ls st h
  | .lload _ => zo_ll e.2.1 2 K pc ls st h
  | .aload_n _ => zo_lr e.2.1 1 K pc ls st h
  | .aload _ => zo_lr e.2.1 2 K pc ls st h
  | .istore_n _ => zo_si e.2.1 1 K pc ls st h
  | .istore _ => zo_si e.2.1 2 K pc ls st h
  | .lstore_n _ => zo_sl e.2.1 1 K pc ls st h
  | .lstore _ => zo_sl e.2.1 2 K pc ls st h
  | .astore_n _ => zo_sr e.2.1 1 K pc ls st h
  | .astore _ => zo_sr e.2.1 2 K pc ls st h
  | .iinc _ d => zo_inc e.2.1 d K pc ls st h
  | .iadd => zo_i2 (fun x y => zwr (x + y)) K pc ls st h
  | .isub => zo_i2 (fun x y => zwr (x - y)) K pc ls st h
  | .imul => zo_i2 (fun x y => zwr (x * y)) K pc ls st h
  | .idiv => zo_i2n (fun x y => zwr (x.tdiv y)) K pc ls st h
  | .irem => zo_i2n (fun x y => zwr (x.tmod y)) K pc ls st h
  | .ineg => zo_i1 (fun x => zwr (-x)) K pc ls st h
  | .iand => zo_i2 zand K pc ls st h
  | .ior => zo_i2 zor K pc ls st h
  | .ixor => zo_i2 zxor K pc ls st h
  | .ishl => zo_i2 zshl K pc ls st h
  | .ishr => zo_i2 zshr K pc ls st h
  | .iushr => zo_i2 zushr K pc ls st h
  | .i2b => zo_i1 zi2b K pc ls st h
  | .i2s => zo_i1 zi2s K pc ls st h
  | .i2l => zo_i2l K pc ls st h
  | .l2i => zo_l2i K pc ls st h
  | .ladd => zo_l2 (fun x y => zwl (x + y)) K pc ls st h
  | .lsub => zo_l2 (fun x y => zwl (x - y)) K pc ls st h
  | .lmul => zo_l2 (fun x y => zwl (x * y)) K pc ls st h
  | .ldiv => zo_l2n (fun x y => zwl (x.tdiv y)) K pc ls st h
  | .lrem => zo_l2n (fun x y => zwl (x.tmod y)) K pc ls st h
  | .lcmp => zo_lcmp K pc ls st h
  | .dup => zo_dup K pc ls st h
  | .dup2 => zo_dup2 K pc ls st h
  | .dup_x1 => zo_dupx K pc ls st h
  | .pop => zo_pop K pc ls st h
  | .ifCond c _ => zo_c1 c e.2.1 K pc ls st h
  | .if_icmp c _ => zo_c2 c e.2.1 K pc ls st h
  | .goto _ => K e.2.1 ls st h
  | .tableswitch _ _ _ _ => zo_sw e.2.1 e.2.2.2 K ls st h
  | .lookupswitch _ _ => zo_sw e.2.1 e.2.2.2 K ls st h
  | .getfield _ => zo_gf e.2.1 e.2.2.1 K pc ls st h
  | .putfield _ => zo_pf e.2.1 e.2.2.1 K pc ls st h
  | .iaload => match e.2.1 with
    | 0 => zo_ild 100 K pc ls st h
    | _ => zo_sld K pc ls st h
  | .baload => zo_ild 101 K pc ls st h
  | .aaload => zo_ald K pc ls st h
  | .iastore => zo_ist 100 K pc ls st h
  | .bastore => zo_zst K pc ls st h
  | .aastore => zo_ast K pc ls st h
  | .arraylength => match e.2.1 with
    | 0 => zo_len K pc ls st h
    | _ => zo_slen K pc ls st h
  | .new _ => zo_new e.2.1 (zNF e.2.1) B K (pc + 3) ls st h
  | .newarray _ => zo_newa e.2.1 B K (pc + 2) ls st h
  | .anewarray _ => zo_newa e.2.1 B K (pc + 3) ls st h
  | .invokestatic _ => match e.2.1 with
    | 1000 => zo_acp K pc ls st h
    | k => zo_stat C B k e.2.2.1 K pc ls st h
  | .invokespecial _ => match e.2.1 with
    | 1003 => zo_oi K pc ls st h
    | k => zo_spec C B k e.2.2.1 K pc ls st h
  | .invokevirtual _ => match e.2.1 with
    | 1001 => zo_slenS K pc ls st h
    | 1002 => zo_satS K pc ls st h
    | _ => zo_virt C B e.2.2.2 e.2.2.1 K pc ls st h
  | .ireturn => match e.2.1 with
    | 0 => zo_ri Q st h
    | _ => zo_rz Q st h
  | .lreturn => zo_rl Q st h
  | .areturn => zo_rr Q st h
  | .return_ => zo_rv Q st h
  | _ => False
/-- from here the machine comes to its end with Q: the least such -/
def zRn (C : zCt) (k : Nat) (B : Nat × Nat) (Q : zQ) (pc : Nat) (ls : zLv) (st : List zV) (h : zH) : Prop :=
  ∀ P : zK, (∀ pc ls st h, zstep C B Q P (zF k pc) pc ls st h → P pc ls st h) → P pc ls st h
/-- the places of cells that there are -/
def zEq (h h1 : zH) : Prop := h.1 = h1.1 ∧ (∀ x, (x < h.1.1 ∨ x = 2000) → ∀ j, h.2.1 x j = h1.2.1 x j) ∧ ∀ x, x < h.1.1 → ∀ j, j < (zSh x).2 → h.2.2 x j = h1.2.2 x j
def zens : Nat → List zV → zLv
  | n, [] => List.replicate n none
  | n + 2, .inr (.inl x) :: l => some (.inr (.inl x)) :: none :: zens n l
  | n + 1, v :: l => some v :: zens n l
  | _, _ => []
def zcl : Nat → zCt
  | 0 => fun _ _ _ _ _ _ => False
  | d + 1 => fun k mc ms As h Q => ∃ h1, zEq h h1 ∧ zRn (zcl d) k (h.1.1 + mc, h.1.2.1 + ms) (fun v h2 => h2.1 = (h.1.1 + mc, h.1.2.1 + ms, h.1.2.2) ∧ Q v h2) 0 (zens (zL k) As) [] h1
-- monotone
theorem zsw_mono {x : Int} {d : Nat} {K K1 : Nat → Prop} (hK : ∀ t, K t → K1 t) : ∀ l, zsw x d K l → zsw x d K1 l
  | [], h => hK _ h
  | (_, _) :: l, h => ⟨fun e => hK _ (h.1 e), fun e => zsw_mono hK l (h.2 e)⟩
section
variable {C : zCt} {B : Nat × Nat} {Q Q2 : zQ} {K K1 : zK}
theorem zo_call_mono (hK : ∀ pc ls st h, K pc ls st h → K1 pc ls st h) (hC : ∀ k mc ms As h Q Q1, (∀ v h, Q v h → Q1 v h) → C k mc ms As h Q → C k mc ms As h Q1) {k : Nat} {As r : List zV} {pc : Nat} {ls : zLv} {h : zH} (H : zo_call C B k As r K pc ls h) : zo_call C B k As r K1 pc ls h := by
  obtain ⟨h0, mc, ms, h1, h2, h3⟩ := H
  exact ⟨h0, mc, ms, h1, h2, hC _ _ _ _ _ _ _ (fun v h => hK _ _ _ _) h3⟩
set_option maxHeartbeats 4000000 in
theorem zstep_mono (hK : ∀ pc ls st h, K pc ls st h → K1 pc ls st h) (hQ : ∀ v h, Q v h → Q2 v h) (hC : ∀ k mc ms As h Q Q1, (∀ v h, Q v h → Q1 v h) → C k mc ms As h Q → C k mc ms As h Q1) (e : zE) (pc : Nat) (ls : zLv) (st : List zV) (h : zH) : zstep C B Q K e pc ls st h → zstep C B Q2 K1 e pc ls st h := by
  intro H
  unfold zstep at H ⊢
  split at H
  all_goals first
    | exact hK _ _ _ _ H
    | (unfold zo_li at H ⊢; split at H <;> first | exact hK _ _ _ _ H | exact H)
    | (unfold zo_ll at H ⊢; split at H <;> first | exact hK _ _ _ _ H | exact H)
    | (unfold zo_lr at H ⊢; split at H <;> first | exact hK _ _ _ _ H | exact H)
    | (unfold zo_i2 at H ⊢; split at H <;> first | exact hK _ _ _ _ H | exact H)
    | (unfold zo_i2n at H ⊢; split at H <;> first | exact ⟨H.1, hK _ _ _ _ H.2⟩ | exact H)
    | (unfold zo_i1 at H ⊢; split at H <;> first | exact hK _ _ _ _ H | exact H)
    | (unfold zo_l2 at H ⊢; split at H <;> first | exact hK _ _ _ _ H | exact H)
    | (unfold zo_l2n at H ⊢; split at H <;> first | exact ⟨H.1, hK _ _ _ _ H.2⟩ | exact H)
    | (unfold zo_lcmp at H ⊢; split at H <;> first | exact hK _ _ _ _ H | exact H)
    | (unfold zo_i2l at H ⊢; split at H <;> first | exact hK _ _ _ _ H | exact H)
    | (unfold zo_l2i at H ⊢; split at H <;> first | exact hK _ _ _ _ H | exact H)
    | (unfold zo_dup at H ⊢; split at H <;> first | exact hK _ _ _ _ H | exact H)
    | (unfold zo_dup2 at H ⊢; split at H <;> first | exact hK _ _ _ _ H | exact H)
    | (unfold zo_dupx at H ⊢; split at H <;> first | exact hK _ _ _ _ H | exact H)
    | (unfold zo_pop at H ⊢; split at H <;> first | exact hK _ _ _ _ H | exact H)
    | (unfold zo_c1 at H ⊢; split at H <;> first | (split at H <;> exact ⟨fun e => hK _ _ _ _ (H.1 e), fun e => hK _ _ _ _ (H.2 e)⟩) | exact H)
    | (unfold zo_c2 at H ⊢; split at H <;> first | (split at H <;> exact ⟨fun e => hK _ _ _ _ (H.1 e), fun e => hK _ _ _ _ (H.2 e)⟩) | exact H)
    | (unfold zo_si at H ⊢; split at H <;> first | (split at H <;> first | exact hK _ _ _ _ H | exact H) | exact H)
    | (unfold zo_sr at H ⊢; split at H <;> first | (split at H <;> first | exact hK _ _ _ _ H | exact H) | exact H)
    | (unfold zo_sl at H ⊢; split at H <;> first | (split at H <;> first | exact hK _ _ _ _ H | exact H) | exact H)
    | (unfold zo_inc at H ⊢; split at H <;> first | (split at H <;> first | exact hK _ _ _ _ H | exact H) | exact H)
    | (unfold zo_sw at H ⊢; split at H <;> first | exact zsw_mono (fun t => hK _ _ _ _) _ H | exact H)
    | (unfold zo_gf at H ⊢; split at H <;> first | (refine ⟨H.1, ?_⟩; have H2 := H.2; split at H2 <;> first | exact hK _ _ _ _ H2 | exact ⟨H2.choose, H2.choose_spec.1, hK _ _ _ _ H2.choose_spec.2⟩) | exact H)
    | (unfold zo_pf at H ⊢; split at H <;> first | (refine ⟨H.1, ?_⟩; have H2 := H.2; split at H2 <;> first | exact hK _ _ _ _ H2 | exact ⟨H2.1, hK _ _ _ _ H2.2⟩ | exact H2) | exact H)
    | (unfold zo_ild at H ⊢; split at H <;> first | exact ⟨H.1, H.2.1, hK _ _ _ _ H.2.2⟩ | exact H)
    | (unfold zo_ist at H ⊢; split at H <;> first | exact ⟨H.1, H.2.1, hK _ _ _ _ H.2.2⟩ | exact H)
    | (unfold zo_ast at H ⊢; split at H <;> first | exact ⟨H.1, H.2.1, hK _ _ _ _ H.2.2⟩ | exact H)
    | (unfold zo_zst at H ⊢; split at H <;> first | exact ⟨H.1, H.2.1, H.2.2.1, hK _ _ _ _ H.2.2.2⟩ | exact H)
    | (unfold zo_ald at H ⊢; split at H <;> first | exact ⟨H.1, H.2.1, H.2.2.choose, H.2.2.choose_spec.1, hK _ _ _ _ H.2.2.choose_spec.2⟩ | exact H)
    | (unfold zo_new at H ⊢; exact ⟨H.1, H.2.1, H.2.2.1, H.2.2.2.1, hK _ _ _ _ H.2.2.2.2⟩)
    | (unfold zo_newa zo_new at H ⊢; split at H <;> first | exact ⟨H.1, H.2.1, H.2.2.1, H.2.2.2.1, H.2.2.2.2.1, hK _ _ _ _ H.2.2.2.2.2⟩ | exact H)
    | (split at H <;> first
        | exact hK _ _ _ _ H
        | (unfold zo_ild at H ⊢; split at H <;> first | exact ⟨H.1, H.2.1, hK _ _ _ _ H.2.2⟩ | exact H)
        | (unfold zo_sld at H ⊢; split at H <;> first | exact ⟨H.1, H.2.1, hK _ _ _ _ H.2.2⟩ | exact H)
        | (unfold zo_len at H ⊢; split at H <;> first | exact ⟨H.1, hK _ _ _ _ H.2⟩ | exact H)
        | (unfold zo_slen at H ⊢; split at H <;> first | exact ⟨H.1, hK _ _ _ _ H.2⟩ | exact H)
        | (unfold zo_acp at H ⊢; split at H <;> first | exact ⟨H.1, H.2.1, H.2.2.1, H.2.2.2.1, hK _ _ _ _ H.2.2.2.2⟩ | exact H)
        | (unfold zo_oi at H ⊢; split at H <;> first | exact hK _ _ _ _ H | exact H)
        | (unfold zo_slenS at H ⊢; split at H <;> first | exact ⟨H.1, hK _ _ _ _ H.2⟩ | exact H)
        | (unfold zo_satS at H ⊢; split at H <;> first | exact ⟨H.1, H.2.1, hK _ _ _ _ H.2.2⟩ | exact H)
        | (unfold zo_stat at H ⊢; split at H; exact zo_call_mono hK hC H)
        | (unfold zo_spec at H ⊢; split at H <;> first | exact zo_call_mono hK hC H | exact H)
        | (unfold zo_virt at H ⊢; split at H <;> first | exact ⟨H.choose, H.choose_spec.1, zo_call_mono hK hC H.choose_spec.2⟩ | exact H))
    | (split at H <;> first | (unfold zo_ri at H ⊢; split at H <;> first | exact hQ _ _ H | exact H) | (unfold zo_rz at H ⊢; split at H <;> first | exact ⟨H.1, hQ _ _ H.2⟩ | exact H))
    | (unfold zo_rl at H ⊢; split at H <;> first | exact hQ _ _ H | exact H)
    | (unfold zo_rr at H ⊢; split at H <;> first | exact hQ _ _ H | exact H)
    | (unfold zo_rv at H ⊢; split at H <;> first | exact hQ _ _ H | exact H)
    | exact H
end
end
section
/-! the least runs: how they are entered, left, and gone through to stops -/
theorem zRn_monoQ {C : zCt} {k : Nat} {B : Nat × Nat} {Q Q1 : zQ} (hC : ∀ k mc ms As h Q Q1, (∀ v h, Q v h → Q1 v h) → C k mc ms As h Q → C k mc ms As h Q1) (hQ : ∀ v h, Q v h → Q1 v h) {pc : Nat} {ls : zLv} {st : List zV} {h : zH} (H : zRn C k B Q pc ls st h) : zRn C k B Q1 pc ls st h :=
  fun P hP => H P (fun pc ls st h hs => hP pc ls st h (zstep_mono (fun _ _ _ _ x => x) hQ hC _ pc ls st h hs))
theorem zcl_mono : ∀ (d k mc ms : Nat) (As : List zV) (h : zH) (Q Q1 : zQ), (∀ v h, Q v h → Q1 v h) → zcl d k mc ms As h Q → zcl d k mc ms As h Q1
  | 0, _, _, _, _, _, _, _, _, H => H
  | d + 1, k, mc, ms, As, h, Q, Q1, hQ, H => by
    obtain ⟨h1, e, H⟩ := H
    exact ⟨h1, e, zRn_monoQ (zcl_mono d) (fun v h2 q => ⟨q.1, hQ _ _ q.2⟩) H⟩
theorem zRn_in {C : zCt} (hC : ∀ k mc ms As h Q Q1, (∀ v h, Q v h → Q1 v h) → C k mc ms As h Q → C k mc ms As h Q1) {k : Nat} {B : Nat × Nat} {Q : zQ} {pc : Nat} {ls : zLv} {st : List zV} {h : zH} (H : zstep C B Q (zRn C k B Q) (zF k pc) pc ls st h) : zRn C k B Q pc ls st h :=
  fun P hP => hP pc ls st h (zstep_mono (fun _ _ _ _ x => x P hP) (fun _ _ x => x) hC _ pc ls st h H)
def zmem (p : Nat) : List Nat → Bool
  | [] => false
  | a :: l => match Nat.beq p a with
    | true => true
    | false => zmem p l
/-- at most n steps, to one of the stops -/
def zRs (C : zCt) (k : Nat) (B : Nat × Nat) (Q : zQ) (s : List Nat) : Nat → zK
  | 0 => zRn C k B Q
  | n + 1 => fun pc ls st h => match zmem pc s with
    | true => zRn C k B Q pc ls st h
    | false => zstep C B Q (zRs C k B Q s n) (zF k pc) pc ls st h
theorem zRs_in {C : zCt} (hC : ∀ k mc ms As h Q Q1, (∀ v h, Q v h → Q1 v h) → C k mc ms As h Q → C k mc ms As h Q1) {k : Nat} {B : Nat × Nat} {Q : zQ} (s : List Nat) : ∀ (n : Nat) (pc : Nat) (ls : zLv) (st : List zV) (h : zH), zRs C k B Q s n pc ls st h → zRn C k B Q pc ls st h
  | 0, _, _, _, _, H => H
  | n + 1, pc, ls, st, h, H => by
    unfold zRs at H
    cases hm : zmem pc s with
    | true => rw [hm] at H; exact H
    | false =>
      rw [hm] at H
      exact zRn_in hC (zstep_mono (zRs_in hC s n) (fun _ _ x => x) hC _ _ _ _ _ H)
/-- the first step, then at most n more to a stop -/
theorem zgo (s : List Nat) (n : Nat) {d k : Nat} {B : Nat × Nat} {Q : zQ} {pc : Nat} {ls : zLv} {st : List zV} {h : zH} (H : zstep (zcl d) B Q (zRs (zcl d) k B Q s n) (zF k pc) pc ls st h) : zRn (zcl d) k B Q pc ls st h :=
  zRn_in (zcl_mono d) (zstep_mono (zRs_in (zcl_mono d) s n) (fun _ _ x => x) (zcl_mono d) _ _ _ _ _ H)
theorem zEq.rf (h : zH) : zEq h h := ⟨rfl, fun _ _ _ => rfl, fun _ _ _ _ => rfl⟩
/-- a method is entered -/
theorem zent {d k mc ms : Nat} {As : List zV} {h : zH} {Q : zQ} {ls : zLv} (hl : zens (zL k) As = ls) (H : zRn (zcl d) k (h.1.1 + mc, h.1.2.1 + ms) (fun v h2 => h2.1 = (h.1.1 + mc, h.1.2.1 + ms, h.1.2.2) ∧ Q v h2) 0 ls [] h) : zcl (d + 1) k mc ms As h Q := ⟨h, zEq.rf h, by rw [hl]; exact H⟩
theorem zcl_eq {d k mc ms : Nat} {As : List zV} {h h1 : zH} {Q : zQ} (e : zEq h h1) (H : zcl d k mc ms As h1 Q) : zcl d k mc ms As h Q := by
  cases d with
  | zero => exact H
  | succ d =>
    obtain ⟨h2, e2, H⟩ := H
    refine ⟨h2, ⟨e.1.trans e2.1, fun x hx j => ?_, fun x hx j hj => ?_⟩, ?_⟩
    · rw [e.2.1 x hx j]; exact e2.2.1 x (by rw [← e.1]; exact hx) j
    · rw [e.2.2 x hx j hj]; exact e2.2.2 x (by rw [← e.1]; exact hx) j hj
    · rw [e.1]; exact H
end
section
/-! rules of the stretches of the class, written by wip/whole/seg.py -/
theorem g_x0_isThere_0 {d : Nat} {B : Nat × Nat} {Q : zQ} {c : Nat × Nat × Nat} {I : Nat → Nat → Int} {g : Nat} {x1 : Int} {a0 : Nat}
    (t : (x1 < 0 → (Q (some (zi 0)) (c, I, zRg g))) ∧ (¬ (x1 < 0) → (((zSh a0).1 = 0) ∧ ((I a0 2 ≤ x1 → (Q (some (zi 0)) (c, I, zRg g))) ∧ (¬ (I a0 2 ≤ x1) → (Q (some (zi 1)) (c, I, zRg g))))))) :
    zRn (zcl d) 1 B Q 0 [some (zr a0), some (zi x1)] [] (c, I, zRg g) :=
  zgo [] 8 (And.intro (fun u1 => And.intro (Or.inl rfl) (t.1 u1)) (fun u1 => And.intro (t.2 u1).1 (And.intro (fun u2 => And.intro (Or.inl rfl) ((t.2 u1).2.1 u2)) (fun u2 => And.intro (Or.inr rfl) ((t.2 u1).2.2 u2)))))
theorem g_x0_takeFirst_0 {d : Nat} {B : Nat × Nat} {Q : zQ} {c : Nat × Nat × Nat} {I : Nat → Nat → Int} {g : Nat} {a0 y1 : Nat}
    (t : ((zSh a0).1 = 0) ∧ ((zRg g a0 1 = some y1) ∧ (((zSh y1).1 = 100) ∧ ((0 ≤ (0 : Int) ∧ (0 : Int) < ((zSh y1).2 : Nat)) ∧ (zRn (zcl d) 2 B Q 9 [some (zr a0), some (zi (I y1 0)), some (zi 1)] [] (c, I, zRg g)))))) :
    zRn (zcl d) 2 B Q 0 [some (zr a0), none, none] [] (c, I, zRg g) :=
  zgo [9] 7 (And.intro t.1 (Exists.intro (some y1) (And.intro t.2.1 (And.intro t.2.2.1 (And.intro t.2.2.2.1 t.2.2.2.2)))))
theorem g_x0_takeFirst_9 {d : Nat} {B : Nat × Nat} {Q : zQ} {c : Nat × Nat × Nat} {I : Nat → Nat → Int} {g : Nat} {x1 x2 : Int} {a0 y1 y2 : Nat}
    (t : ((zSh a0).1 = 0) ∧ ((I a0 3 ≤ x2 → (((zSh a0).1 = 0) ∧ (((zSh a0).1 = 0) ∧ (Q (some (zi x1)) (c, (z2 I a0 3 (zwr ((I a0 3) - 1))), zRg g))))) ∧ (¬ (I a0 3 ≤ x2) → (((zSh a0).1 = 0) ∧ ((zRg g a0 1 = some y1) ∧ (((zSh a0).1 = 0) ∧ ((zRg g a0 1 = some y2) ∧ (((zSh y2).1 = 100) ∧ ((0 ≤ x2 ∧ x2 < ((zSh y2).2 : Nat)) ∧ (((zSh y1).1 = 100) ∧ ((0 ≤ zwr (x2 - 1) ∧ zwr (x2 - 1) < ((zSh y1).2 : Nat)) ∧ (zRn (zcl d) 2 B Q 9 [some (zr a0), some (zi x1), some (zi (zwr (x2 + 1)))] [] (c, (z2 I y1 (zwr (x2 - 1)).toNat (I y2 x2.toNat)), zRg g))))))))))))) :
    zRn (zcl d) 2 B Q 9 [some (zr a0), some (zi x1), some (zi x2)] [] (c, I, zRg g) :=
  zgo [9] 16 (And.intro t.1 (And.intro (fun u3 => And.intro (t.2.1 u3).1 (And.intro (t.2.1 u3).2.1 ((t.2.1 u3).2.2))) (fun u3 => And.intro (t.2.2 u3).1 (Exists.intro (some y1) (And.intro (t.2.2 u3).2.1 (And.intro (t.2.2 u3).2.2.1 (Exists.intro (some y2) (And.intro (t.2.2 u3).2.2.2.1 (And.intro (t.2.2 u3).2.2.2.2.1 (And.intro (t.2.2 u3).2.2.2.2.2.1 (And.intro (t.2.2 u3).2.2.2.2.2.2.1 (And.intro (t.2.2 u3).2.2.2.2.2.2.2.1 ((t.2.2 u3).2.2.2.2.2.2.2.2)))))))))))))
theorem g_x0_become_0 {d : Nat} {B : Nat × Nat} {Q : zQ} {c : Nat × Nat × Nat} {I : Nat → Nat → Int} {g : Nat} {a0 a1 : Nat}
    (t : ((zSh a1).1 = 0) ∧ (((zSh a0).1 = 0) ∧ (((zSh a1).1 = 0) ∧ (((zSh a0).1 = 0) ∧ (((zSh a1).1 = 0) ∧ (((zSh a0).1 = 0) ∧ (((zSh a1).1 = 0) ∧ (((zSh a0).1 = 0) ∧ (((zSh a1).1 = 0) ∧ (((zSh a0).1 = 0) ∧ (zRn (zcl d) 3 B Q 42 [some (zr a0), some (zr a1), some (zi 0)] [] (c, (z2 (z2 (z2 (z2 (z2 I a0 2 (I a1 2)) a0 3 ((z2 I a0 2 (I a1 2)) a1 3)) a0 4 ((z2 (z2 I a0 2 (I a1 2)) a0 3 ((z2 I a0 2 (I a1 2)) a1 3)) a1 4)) a0 5 ((z2 (z2 (z2 I a0 2 (I a1 2)) a0 3 ((z2 I a0 2 (I a1 2)) a1 3)) a0 4 ((z2 (z2 I a0 2 (I a1 2)) a0 3 ((z2 I a0 2 (I a1 2)) a1 3)) a1 4)) a1 5)) a0 6 ((z2 (z2 (z2 (z2 I a0 2 (I a1 2)) a0 3 ((z2 I a0 2 (I a1 2)) a1 3)) a0 4 ((z2 (z2 I a0 2 (I a1 2)) a0 3 ((z2 I a0 2 (I a1 2)) a1 3)) a1 4)) a0 5 ((z2 (z2 (z2 I a0 2 (I a1 2)) a0 3 ((z2 I a0 2 (I a1 2)) a1 3)) a0 4 ((z2 (z2 I a0 2 (I a1 2)) a0 3 ((z2 I a0 2 (I a1 2)) a1 3)) a1 4)) a1 5)) a1 6)), zRg g)))))))))))) :
    zRn (zcl d) 3 B Q 0 [some (zr a0), some (zr a1), none] [] (c, I, zRg g) :=
  zgo [42, 65, 73] 22 (And.intro t.1 (And.intro t.2.1 (And.intro t.2.2.1 (And.intro t.2.2.2.1 (And.intro t.2.2.2.2.1 (And.intro t.2.2.2.2.2.1 (And.intro t.2.2.2.2.2.2.1 (And.intro t.2.2.2.2.2.2.2.1 (And.intro t.2.2.2.2.2.2.2.2.1 (And.intro t.2.2.2.2.2.2.2.2.2.1 t.2.2.2.2.2.2.2.2.2.2))))))))))
theorem g_x0_become_42 {d : Nat} {B : Nat × Nat} {Q : zQ} {c : Nat × Nat × Nat} {I : Nat → Nat → Int} {g : Nat} {x2 : Int} {a0 a1 y1 y2 y3 y4 : Nat}
    (t : ((zSh a0).1 = 0) ∧ ((I a0 2 ≤ x2 → (zRn (zcl d) 3 B Q 73 [some (zr a0), some (zr a1), some (zi 0)] [] (c, I, zRg g))) ∧ (¬ (I a0 2 ≤ x2) → (((zSh a0).1 = 0) ∧ ((zRg g a0 0 = some y1) ∧ ((102 ≤ (zSh y1).1 ∧ (zSh y1).1 ≤ 105) ∧ ((0 ≤ x2 ∧ x2 < ((zSh y1).2 : Nat)) ∧ ((zRg g y1 x2.toNat = some y2) ∧ (((zSh a1).1 = 0) ∧ ((zRg g a1 0 = some y3) ∧ ((102 ≤ (zSh y3).1 ∧ (zSh y3).1 ≤ 105) ∧ ((0 ≤ x2 ∧ x2 < ((zSh y3).2 : Nat)) ∧ ((zRg g y3 x2.toNat = some y4) ∧ ((zsel ((zSh y2).1 : Nat) [(5, 29)] = some 29) ∧ (zcl d 29 0 0 [zr y2, zr y4] (c, I, zRg g) (fun v h1 => zRn (zcl d) 3 B Q 65 [some (zr a0), some (zr a1), some (zi x2)] (zva v []) h1)))))))))))))))) :
    zRn (zcl d) 3 B Q 42 [some (zr a0), some (zr a1), some (zi x2)] [] (c, I, zRg g) :=
  zgo [42, 65, 73] 12 (And.intro t.1 (And.intro (fun u4 => (t.2.1 u4)) (fun u4 => And.intro (t.2.2 u4).1 (Exists.intro (some y1) (And.intro (t.2.2 u4).2.1 (And.intro (t.2.2 u4).2.2.1 (And.intro (t.2.2 u4).2.2.2.1 (Exists.intro (some y2) (And.intro (t.2.2 u4).2.2.2.2.1 (And.intro (t.2.2 u4).2.2.2.2.2.1 (Exists.intro (some y3) (And.intro (t.2.2 u4).2.2.2.2.2.2.1 (And.intro (t.2.2 u4).2.2.2.2.2.2.2.1 (And.intro (t.2.2 u4).2.2.2.2.2.2.2.2.1 (Exists.intro (some y4) (And.intro (t.2.2 u4).2.2.2.2.2.2.2.2.2.1 (Exists.intro 29 (And.intro (t.2.2 u4).2.2.2.2.2.2.2.2.2.2.1 (And.intro (Nat.le_of_ble_eq_true rfl) (Exists.intro 0 (Exists.intro 0 (And.intro (Or.inl rfl) (And.intro (Or.inl rfl) ((t.2.2 u4).2.2.2.2.2.2.2.2.2.2.2))))))))))))))))))))))))
theorem g_x0_become_65 {d : Nat} {B : Nat × Nat} {Q : zQ} {c : Nat × Nat × Nat} {I : Nat → Nat → Int} {g : Nat} {x2 : Int} {a0 a1 : Nat}
    (t : zRn (zcl d) 3 B Q 42 [some (zr a0), some (zr a1), some (zi (zwr (x2 + 1)))] [] (c, I, zRg g)) :
    zRn (zcl d) 3 B Q 65 [some (zr a0), some (zr a1), some (zi x2)] [] (c, I, zRg g) :=
  zgo [42, 65, 73] 2 (t)
theorem g_x0_become_73 {d : Nat} {B : Nat × Nat} {Q : zQ} {c : Nat × Nat × Nat} {I : Nat → Nat → Int} {g : Nat} {x2 : Int} {a0 a1 y1 y2 : Nat}
    (t : ((zSh a0).1 = 0) ∧ ((I a0 3 ≤ x2 → (Q none (c, I, zRg g))) ∧ (¬ (I a0 3 ≤ x2) → (((zSh a0).1 = 0) ∧ ((zRg g a0 1 = some y1) ∧ (((zSh a1).1 = 0) ∧ ((zRg g a1 1 = some y2) ∧ (((zSh y2).1 = 100) ∧ ((0 ≤ x2 ∧ x2 < ((zSh y2).2 : Nat)) ∧ (((zSh y1).1 = 100) ∧ ((0 ≤ x2 ∧ x2 < ((zSh y1).2 : Nat)) ∧ (zRn (zcl d) 3 B Q 73 [some (zr a0), some (zr a1), some (zi (zwr (x2 + 1)))] [] (c, (z2 I y1 x2.toNat (I y2 x2.toNat)), zRg g))))))))))))) :
    zRn (zcl d) 3 B Q 73 [some (zr a0), some (zr a1), some (zi x2)] [] (c, I, zRg g) :=
  zgo [42, 65, 73] 14 (And.intro t.1 (And.intro (fun u5 => (t.2.1 u5)) (fun u5 => And.intro (t.2.2 u5).1 (Exists.intro (some y1) (And.intro (t.2.2 u5).2.1 (And.intro (t.2.2 u5).2.2.1 (Exists.intro (some y2) (And.intro (t.2.2 u5).2.2.2.1 (And.intro (t.2.2 u5).2.2.2.2.1 (And.intro (t.2.2 u5).2.2.2.2.2.1 (And.intro (t.2.2 u5).2.2.2.2.2.2.1 (And.intro (t.2.2 u5).2.2.2.2.2.2.2.1 ((t.2.2 u5).2.2.2.2.2.2.2.2)))))))))))))
theorem g_x1_isUnder_0 {d : Nat} {B : Nat × Nat} {Q : zQ} {c : Nat × Nat × Nat} {I : Nat → Nat → Int} {g : Nat} {x1 : Int} {a0 : Nat}
    (t : (x1 = 2 → (Q (some (zi 1)) (c, I, zRg g))) ∧ (¬ (x1 = 2) → (zcl d 65 0 0 [zr a0, zi x1] (c, I, zRg g) (fun v h1 => zRn (zcl d) 5 B Q 10 [some (zr a0), some (zi x1)] (zva v []) h1)))) :
    zRn (zcl d) 5 B Q 0 [some (zr a0), some (zi x1)] [] (c, I, zRg g) :=
  zgo [10] 5 (And.intro (fun u6 => And.intro (Or.inr rfl) (t.1 u6)) (fun u6 => And.intro (Nat.le_of_ble_eq_true rfl) (Exists.intro 0 (Exists.intro 0 (And.intro (Or.inl rfl) (And.intro (Or.inl rfl) (t.2 u6)))))))
theorem g_x1_isUnder_10 {d : Nat} {B : Nat × Nat} {Q : zQ} {c : Nat × Nat × Nat} {I : Nat → Nat → Int} {g : Nat} {x1 s0 : Int} {a0 : Nat}
    (t : (s0 = 0 → (Q (some (zi 0)) (c, I, zRg g))) ∧ (¬ (s0 = 0) → (Q (some (zi 1)) (c, I, zRg g)))) :
    zRn (zcl d) 5 B Q 10 [some (zr a0), some (zi x1)] [zi s0] (c, I, zRg g) :=
  zgo [10] 3 (And.intro (fun u7 => And.intro (Or.inl rfl) (t.1 u7)) (fun u7 => And.intro (Or.inr rfl) (t.2 u7)))
theorem g_x1_keptOf_0 {d : Nat} {B : Nat × Nat} {Q : zQ} {c : Nat × Nat × Nat} {I : Nat → Nat → Int} {g : Nat} {x1 x2 : Int} {a0 : Nat}
    (t : zcl d 66 0 0 [zr a0, zi x1, zi x2] (c, I, zRg g) (fun v h1 => zRn (zcl d) 6 B Q 6 [some (zr a0), some (zi x1), some (zi x2)] (zva v []) h1)) :
    zRn (zcl d) 6 B Q 0 [some (zr a0), some (zi x1), some (zi x2)] [] (c, I, zRg g) :=
  zgo [6] 3 (And.intro (Nat.le_of_ble_eq_true rfl) (Exists.intro 0 (Exists.intro 0 (And.intro (Or.inl rfl) (And.intro (Or.inl rfl) t)))))
theorem g_x1_keptOf_6 {d : Nat} {B : Nat × Nat} {Q : zQ} {c : Nat × Nat × Nat} {I : Nat → Nat → Int} {g : Nat} {x1 x2 s0 : Int} {a0 : Nat}
    (t : Q (some (zi (zwr (s0 * 2)))) (c, I, zRg g)) :
    zRn (zcl d) 6 B Q 6 [some (zr a0), some (zi x1), some (zi x2)] [zi s0] (c, I, zRg g) :=
  zgo [6] 2 (t)
theorem g_x1_wordsFor_0 {d : Nat} {B : Nat × Nat} {Q : zQ} {c : Nat × Nat × Nat} {I : Nat → Nat → Int} {g : Nat} {x2 x3 : Int} {a0 a1 : Nat}
    (t : zcl d 67 0 0 [zr a0, zr a1, zi x2, zi x3] (c, I, zRg g) (fun v h1 => zRn (zcl d) 7 B Q 7 [some (zr a0), some (zr a1), some (zi x2), some (zi x3), none] (zva v []) h1)) :
    zRn (zcl d) 7 B Q 0 [some (zr a0), some (zr a1), some (zi x2), some (zi x3), none] [] (c, I, zRg g) :=
  zgo [7] 4 (And.intro (Nat.le_of_ble_eq_true rfl) (Exists.intro 0 (Exists.intro 0 (And.intro (Or.inl rfl) (And.intro (Or.inl rfl) t)))))
theorem g_x1_wordsFor_7 {d : Nat} {B : Nat × Nat} {Q : zQ} {c : Nat × Nat × Nat} {I : Nat → Nat → Int} {g : Nat} {x2 x3 s0 : Int} {a0 a1 : Nat}
    (t : Q (some (zi (zor s0 (zand (zshl s0 1) x2)))) (c, I, zRg g)) :
    zRn (zcl d) 7 B Q 7 [some (zr a0), some (zr a1), some (zi x2), some (zi x3), none] [zi s0] (c, I, zRg g) :=
  zgo [7] 8 (t)
theorem g_x1_wearies_0 {d : Nat} {B : Nat × Nat} {Q : zQ} {c : Nat × Nat × Nat} {I : Nat → Nat → Int} {g : Nat} {x1 : Int} {a0 a2 : Nat}
    (t : zcl d 68 0 0 [zr a0, zi x1, zr a2] (c, I, zRg g) (fun v h1 => zRn (zcl d) 8 B Q 6 [some (zr a0), some (zi x1), some (zr a2)] (zva v []) h1)) :
    zRn (zcl d) 8 B Q 0 [some (zr a0), some (zi x1), some (zr a2)] [] (c, I, zRg g) :=
  zgo [6] 3 (And.intro (Nat.le_of_ble_eq_true rfl) (Exists.intro 0 (Exists.intro 0 (And.intro (Or.inl rfl) (And.intro (Or.inl rfl) t)))))
theorem g_x1_wearies_6 {d : Nat} {B : Nat × Nat} {Q : zQ} {c : Nat × Nat × Nat} {I : Nat → Nat → Int} {g : Nat} {x1 s0 : Int} {a0 a2 : Nat}
    (t : Q (some (zi (zwr (s0 + 1)))) (c, I, zRg g)) :
    zRn (zcl d) 8 B Q 6 [some (zr a0), some (zi x1), some (zr a2)] [zi s0] (c, I, zRg g) :=
  zgo [6] 2 (t)
theorem g_x1_takesIn_0 {d : Nat} {B : Nat × Nat} {Q : zQ} {c : Nat × Nat × Nat} {I : Nat → Nat → Int} {g : Nat} {x1 x2 : Int} {a0 : Nat}
    (t : (x1 ≠ 0 → (Q (some (zi 1)) (c, I, zRg g))) ∧ (¬ (x1 ≠ 0) → (zcl d 202 0 0 [zi x2] (c, I, zRg g) (fun v h1 => zRn (zcl d) 9 B Q 8 [some (zr a0), some (zi x1), some (zi x2)] (zva v []) h1)))) :
    zRn (zcl d) 9 B Q 0 [some (zr a0), some (zi x1), some (zi x2)] [] (c, I, zRg g) :=
  zgo [8] 4 (And.intro (fun u8 => And.intro (Or.inr rfl) (t.1 u8)) (fun u8 => And.intro (Nat.le_of_ble_eq_true rfl) (Exists.intro 0 (Exists.intro 0 (And.intro (Or.inl rfl) (And.intro (Or.inl rfl) (t.2 u8)))))))
theorem g_x1_takesIn_8 {d : Nat} {B : Nat × Nat} {Q : zQ} {c : Nat × Nat × Nat} {I : Nat → Nat → Int} {g : Nat} {x1 x2 s0 : Int} {a0 : Nat}
    (t : (s0 ≠ 1 → (Q (some (zi 0)) (c, I, zRg g))) ∧ (¬ (s0 ≠ 1) → (Q (some (zi 1)) (c, I, zRg g)))) :
    zRn (zcl d) 9 B Q 8 [some (zr a0), some (zi x1), some (zi x2)] [zi s0] (c, I, zRg g) :=
  zgo [8] 4 (And.intro (fun u9 => And.intro (Or.inl rfl) (t.1 u9)) (fun u9 => And.intro (Or.inr rfl) (t.2 u9)))
theorem g_x2_isUnder_0 {d : Nat} {B : Nat × Nat} {Q : zQ} {c : Nat × Nat × Nat} {I : Nat → Nat → Int} {g : Nat} {x1 : Int} {a0 : Nat}
    (t : (x1 = 1 → (Q (some (zi 1)) (c, I, zRg g))) ∧ (¬ (x1 = 1) → (zcl d 65 0 0 [zr a0, zi x1] (c, I, zRg g) (fun v h1 => zRn (zcl d) 11 B Q 10 [some (zr a0), some (zi x1)] (zva v []) h1)))) :
    zRn (zcl d) 11 B Q 0 [some (zr a0), some (zi x1)] [] (c, I, zRg g) :=
  zgo [10] 5 (And.intro (fun u10 => And.intro (Or.inr rfl) (t.1 u10)) (fun u10 => And.intro (Nat.le_of_ble_eq_true rfl) (Exists.intro 0 (Exists.intro 0 (And.intro (Or.inl rfl) (And.intro (Or.inl rfl) (t.2 u10)))))))
theorem g_x2_isUnder_10 {d : Nat} {B : Nat × Nat} {Q : zQ} {c : Nat × Nat × Nat} {I : Nat → Nat → Int} {g : Nat} {x1 s0 : Int} {a0 : Nat}
    (t : (s0 = 0 → (Q (some (zi 0)) (c, I, zRg g))) ∧ (¬ (s0 = 0) → (Q (some (zi 1)) (c, I, zRg g)))) :
    zRn (zcl d) 11 B Q 10 [some (zr a0), some (zi x1)] [zi s0] (c, I, zRg g) :=
  zgo [10] 3 (And.intro (fun u11 => And.intro (Or.inl rfl) (t.1 u11)) (fun u11 => And.intro (Or.inr rfl) (t.2 u11)))
theorem g_x2_keptOf_0 {d : Nat} {B : Nat × Nat} {Q : zQ} {c : Nat × Nat × Nat} {I : Nat → Nat → Int} {g : Nat} {x1 x2 : Int} {a0 : Nat}
    (t : zcl d 66 0 0 [zr a0, zi x1, zi x2] (c, I, zRg g) (fun v h1 => zRn (zcl d) 12 B Q 6 [some (zr a0), some (zi x1), some (zi x2)] (zva v []) h1)) :
    zRn (zcl d) 12 B Q 0 [some (zr a0), some (zi x1), some (zi x2)] [] (c, I, zRg g) :=
  zgo [6] 3 (And.intro (Nat.le_of_ble_eq_true rfl) (Exists.intro 0 (Exists.intro 0 (And.intro (Or.inl rfl) (And.intro (Or.inl rfl) t)))))
theorem g_x2_keptOf_6 {d : Nat} {B : Nat × Nat} {Q : zQ} {c : Nat × Nat × Nat} {I : Nat → Nat → Int} {g : Nat} {x1 x2 s0 : Int} {a0 : Nat}
    (t : Q (some (zi (zwr (s0 + 1)))) (c, I, zRg g)) :
    zRn (zcl d) 12 B Q 6 [some (zr a0), some (zi x1), some (zi x2)] [zi s0] (c, I, zRg g) :=
  zgo [6] 2 (t)
theorem g_x2_wordsFor_0 {d : Nat} {B : Nat × Nat} {Q : zQ} {c : Nat × Nat × Nat} {I : Nat → Nat → Int} {g : Nat} {x2 x3 : Int} {a0 a1 : Nat}
    (t : zcl d 67 0 0 [zr a0, zr a1, zi x2, zi x3] (c, I, zRg g) (fun v h1 => zRn (zcl d) 13 B Q 7 [some (zr a0), some (zr a1), some (zi x2), some (zi x3)] (zva v []) h1)) :
    zRn (zcl d) 13 B Q 0 [some (zr a0), some (zr a1), some (zi x2), some (zi x3)] [] (c, I, zRg g) :=
  zgo [7] 4 (And.intro (Nat.le_of_ble_eq_true rfl) (Exists.intro 0 (Exists.intro 0 (And.intro (Or.inl rfl) (And.intro (Or.inl rfl) t)))))
theorem g_x2_wordsFor_7 {d : Nat} {B : Nat × Nat} {Q : zQ} {c : Nat × Nat × Nat} {I : Nat → Nat → Int} {g : Nat} {x2 x3 s0 : Int} {a0 a1 : Nat}
    (t : ((zSh a1).1 = 5) ∧ (Q (some (zi (zor s0 (zshl 1 (I a1 1))))) (c, I, zRg g))) :
    zRn (zcl d) 13 B Q 7 [some (zr a0), some (zr a1), some (zi x2), some (zi x3)] [zi s0] (c, I, zRg g) :=
  zgo [7] 5 (And.intro t.1 t.2)
theorem g_x2_wearies_0 {d : Nat} {B : Nat × Nat} {Q : zQ} {c : Nat × Nat × Nat} {I : Nat → Nat → Int} {g : Nat} {x1 : Int} {a0 a2 : Nat}
    (t : Q (some (zi 0)) (c, I, zRg g)) :
    zRn (zcl d) 14 B Q 0 [some (zr a0), some (zi x1), some (zr a2)] [] (c, I, zRg g) :=
  zgo [] 1 (t)
theorem g_x2_takesIn_0 {d : Nat} {B : Nat × Nat} {Q : zQ} {c : Nat × Nat × Nat} {I : Nat → Nat → Int} {g : Nat} {x1 x2 : Int} {a0 : Nat}
    (t : Q (some (zi 0)) (c, I, zRg g)) :
    zRn (zcl d) 15 B Q 0 [some (zr a0), some (zi x1), some (zi x2)] [] (c, I, zRg g) :=
  zgo [] 1 (And.intro (Or.inl rfl) t)
theorem g_x3_isUnder_0 {d : Nat} {B : Nat × Nat} {Q : zQ} {c : Nat × Nat × Nat} {I : Nat → Nat → Int} {g : Nat} {x1 : Int} {a0 : Nat}
    (t : (x1 = 3 → (Q (some (zi 1)) (c, I, zRg g))) ∧ (¬ (x1 = 3) → (zcl d 11 0 0 [zr a0, zi x1] (c, I, zRg g) (fun v h1 => zRn (zcl d) 17 B Q 10 [some (zr a0), some (zi x1)] (zva v []) h1)))) :
    zRn (zcl d) 17 B Q 0 [some (zr a0), some (zi x1)] [] (c, I, zRg g) :=
  zgo [10] 5 (And.intro (fun u12 => And.intro (Or.inr rfl) (t.1 u12)) (fun u12 => And.intro (Nat.le_of_ble_eq_true rfl) (Exists.intro 0 (Exists.intro 0 (And.intro (Or.inl rfl) (And.intro (Or.inl rfl) (t.2 u12)))))))
theorem g_x3_isUnder_10 {d : Nat} {B : Nat × Nat} {Q : zQ} {c : Nat × Nat × Nat} {I : Nat → Nat → Int} {g : Nat} {x1 s0 : Int} {a0 : Nat}
    (t : (s0 = 0 → (Q (some (zi 0)) (c, I, zRg g))) ∧ (¬ (s0 = 0) → (Q (some (zi 1)) (c, I, zRg g)))) :
    zRn (zcl d) 17 B Q 10 [some (zr a0), some (zi x1)] [zi s0] (c, I, zRg g) :=
  zgo [10] 3 (And.intro (fun u13 => And.intro (Or.inl rfl) (t.1 u13)) (fun u13 => And.intro (Or.inr rfl) (t.2 u13)))
theorem g_x3_wordsFor_0 {d : Nat} {B : Nat × Nat} {Q : zQ} {c : Nat × Nat × Nat} {I : Nat → Nat → Int} {g : Nat} {x2 x3 : Int} {a0 a1 : Nat}
    (t : zcl d 13 0 0 [zr a0, zr a1, zi x2, zi x3] (c, I, zRg g) (fun v h1 => zRn (zcl d) 18 B Q 7 [some (zr a0), some (zr a1), some (zi x2), some (zi x3)] (zva v []) h1)) :
    zRn (zcl d) 18 B Q 0 [some (zr a0), some (zr a1), some (zi x2), some (zi x3)] [] (c, I, zRg g) :=
  zgo [7] 4 (And.intro (Nat.le_of_ble_eq_true rfl) (Exists.intro 0 (Exists.intro 0 (And.intro (Or.inl rfl) (And.intro (Or.inl rfl) t)))))
theorem g_x3_wordsFor_7 {d : Nat} {B : Nat × Nat} {Q : zQ} {c : Nat × Nat × Nat} {I : Nat → Nat → Int} {g : Nat} {x2 x3 s0 : Int} {a0 a1 : Nat}
    (t : ((zSh a1).1 = 5) ∧ (Q (some (zi (zxor s0 (zshl 1 (zwr (9 - (I a1 1))))))) (c, I, zRg g))) :
    zRn (zcl d) 18 B Q 7 [some (zr a0), some (zr a1), some (zi x2), some (zi x3)] [zi s0] (c, I, zRg g) :=
  zgo [7] 7 (And.intro t.1 t.2)
theorem g_x3_wearies_0 {d : Nat} {B : Nat × Nat} {Q : zQ} {c : Nat × Nat × Nat} {I : Nat → Nat → Int} {g : Nat} {x1 : Int} {a0 a2 : Nat}
    (t : ((zSh a2).1 = 5) ∧ (Q (some (zi (I a2 1))) (c, I, zRg g))) :
    zRn (zcl d) 19 B Q 0 [some (zr a0), some (zi x1), some (zr a2)] [] (c, I, zRg g) :=
  zgo [] 2 (And.intro t.1 t.2)
theorem g_x3_takesIn_0 {d : Nat} {B : Nat × Nat} {Q : zQ} {c : Nat × Nat × Nat} {I : Nat → Nat → Int} {g : Nat} {x1 x2 : Int} {a0 : Nat}
    (t : (x1 = 0 ∨ x1 = 1) ∧ (Q (some (zi x1)) (c, I, zRg g))) :
    zRn (zcl d) 20 B Q 0 [some (zr a0), some (zi x1), some (zi x2)] [] (c, I, zRg g) :=
  zgo [] 1 (And.intro t.1 t.2)
theorem g_x4_isUnder_0 {d : Nat} {B : Nat × Nat} {Q : zQ} {c : Nat × Nat × Nat} {I : Nat → Nat → Int} {g : Nat} {x1 : Int} {a0 : Nat}
    (t : (x1 = 4 → (Q (some (zi 1)) (c, I, zRg g))) ∧ (¬ (x1 = 4) → (zcl d 5 0 0 [zr a0, zi x1] (c, I, zRg g) (fun v h1 => zRn (zcl d) 22 B Q 10 [some (zr a0), some (zi x1)] (zva v []) h1)))) :
    zRn (zcl d) 22 B Q 0 [some (zr a0), some (zi x1)] [] (c, I, zRg g) :=
  zgo [10] 5 (And.intro (fun u14 => And.intro (Or.inr rfl) (t.1 u14)) (fun u14 => And.intro (Nat.le_of_ble_eq_true rfl) (Exists.intro 0 (Exists.intro 0 (And.intro (Or.inl rfl) (And.intro (Or.inl rfl) (t.2 u14)))))))
theorem g_x4_isUnder_10 {d : Nat} {B : Nat × Nat} {Q : zQ} {c : Nat × Nat × Nat} {I : Nat → Nat → Int} {g : Nat} {x1 s0 : Int} {a0 : Nat}
    (t : (s0 = 0 → (Q (some (zi 0)) (c, I, zRg g))) ∧ (¬ (s0 = 0) → (Q (some (zi 1)) (c, I, zRg g)))) :
    zRn (zcl d) 22 B Q 10 [some (zr a0), some (zi x1)] [zi s0] (c, I, zRg g) :=
  zgo [10] 3 (And.intro (fun u15 => And.intro (Or.inl rfl) (t.1 u15)) (fun u15 => And.intro (Or.inr rfl) (t.2 u15)))
theorem g_x4_keptOf_0 {d : Nat} {B : Nat × Nat} {Q : zQ} {c : Nat × Nat × Nat} {I : Nat → Nat → Int} {g : Nat} {x1 x2 : Int} {a0 : Nat}
    (t : (zwr (Int.tmod x2 4) ≠ 0 → (zcl d 6 0 0 [zr a0, zi x1, zi x2] (c, I, zRg g) (fun v h1 => zRn (zcl d) 23 B Q 17 [some (zr a0), some (zi x1), some (zi x2)] (zva v []) h1))) ∧ (¬ (zwr (Int.tmod x2 4) ≠ 0) → (zRn (zcl d) 23 B Q 17 [some (zr a0), some (zi x1), some (zi x2)] [zi 10] (c, I, zRg g)))) :
    zRn (zcl d) 23 B Q 0 [some (zr a0), some (zi x1), some (zi x2)] [] (c, I, zRg g) :=
  zgo [17] 7 (And.intro (by decide) (And.intro (fun u16 => And.intro (Nat.le_of_ble_eq_true rfl) (Exists.intro 0 (Exists.intro 0 (And.intro (Or.inl rfl) (And.intro (Or.inl rfl) (t.1 u16)))))) (fun u16 => (t.2 u16))))
theorem g_x4_keptOf_17 {d : Nat} {B : Nat × Nat} {Q : zQ} {c : Nat × Nat × Nat} {I : Nat → Nat → Int} {g : Nat} {x1 x2 s0 : Int} {a0 : Nat}
    (t : Q (some (zi s0)) (c, I, zRg g)) :
    zRn (zcl d) 23 B Q 17 [some (zr a0), some (zi x1), some (zi x2)] [zi s0] (c, I, zRg g) :=
  zgo [17] 0 (t)
theorem g_x4_wordsFor_0 {d : Nat} {B : Nat × Nat} {Q : zQ} {c : Nat × Nat × Nat} {I : Nat → Nat → Int} {g : Nat} {x2 x3 : Int} {a0 a1 : Nat}
    (t : zcl d 7 0 0 [zr a0, zr a1, zi x2, zi x3] (c, I, zRg g) (fun v h1 => zRn (zcl d) 24 B Q 7 [some (zr a0), some (zr a1), some (zi x2), some (zi x3), none] (zva v []) h1)) :
    zRn (zcl d) 24 B Q 0 [some (zr a0), some (zr a1), some (zi x2), some (zi x3), none] [] (c, I, zRg g) :=
  zgo [7, 29] 4 (And.intro (Nat.le_of_ble_eq_true rfl) (Exists.intro 0 (Exists.intro 0 (And.intro (Or.inl rfl) (And.intro (Or.inl rfl) t)))))
theorem g_x4_wordsFor_7 {d : Nat} {B : Nat × Nat} {Q : zQ} {c : Nat × Nat × Nat} {I : Nat → Nat → Int} {g : Nat} {x2 x3 s0 : Int} {a0 a1 : Nat}
    (t : (s0 ≠ 0 → (((zSh a1).1 = 5) ∧ (zcl d 102 0 0 [zi s0] (c, I, zRg g) (fun v h1 => zRn (zcl d) 24 B Q 29 [some (zr a0), some (zr a1), some (zi x2), some (zi x3), some (zi s0)] (zva v [zi (I a1 2), zi s0]) h1)))) ∧ (¬ (s0 ≠ 0) → (Q (some (zi 0)) (c, I, zRg g)))) :
    zRn (zcl d) 24 B Q 7 [some (zr a0), some (zr a1), some (zi x2), some (zi x3), none] [zi s0] (c, I, zRg g) :=
  zgo [7, 29] 7 (And.intro (fun u17 => And.intro (t.1 u17).1 (And.intro (Nat.le_of_ble_eq_true rfl) (Exists.intro 0 (Exists.intro 0 (And.intro (Or.inl rfl) (And.intro (Or.inl rfl) ((t.1 u17).2))))))) (fun u17 => (t.2 u17)))
theorem g_x4_wordsFor_29 {d : Nat} {B : Nat × Nat} {Q : zQ} {c : Nat × Nat × Nat} {I : Nat → Nat → Int} {g : Nat} {x2 x3 x4 s0 s1 s2 : Int} {a0 a1 : Nat}
    (t : Q (some (zi (zor s2 (zand s1 (zwr (s0 - 1)))))) (c, I, zRg g)) :
    zRn (zcl d) 24 B Q 29 [some (zr a0), some (zr a1), some (zi x2), some (zi x3), some (zi x4)] [zi s0, zi s1, zi s2] (c, I, zRg g) :=
  zgo [7, 29] 4 (t)
theorem g_x4_wearies_0 {d : Nat} {B : Nat × Nat} {Q : zQ} {c : Nat × Nat × Nat} {I : Nat → Nat → Int} {g : Nat} {x1 : Int} {a0 a2 : Nat}
    (t : zcl d 8 0 0 [zr a0, zi x1, zr a2] (c, I, zRg g) (fun v h1 => zRn (zcl d) 25 B Q 6 [some (zr a0), some (zi x1), some (zr a2)] (zva v []) h1)) :
    zRn (zcl d) 25 B Q 0 [some (zr a0), some (zi x1), some (zr a2)] [] (c, I, zRg g) :=
  zgo [6] 3 (And.intro (Nat.le_of_ble_eq_true rfl) (Exists.intro 0 (Exists.intro 0 (And.intro (Or.inl rfl) (And.intro (Or.inl rfl) t)))))
theorem g_x4_wearies_6 {d : Nat} {B : Nat × Nat} {Q : zQ} {c : Nat × Nat × Nat} {I : Nat → Nat → Int} {g : Nat} {x1 s0 : Int} {a0 a2 : Nat}
    (t : Q (some (zi (zwr (Int.tdiv s0 2)))) (c, I, zRg g)) :
    zRn (zcl d) 25 B Q 6 [some (zr a0), some (zi x1), some (zr a2)] [zi s0] (c, I, zRg g) :=
  zgo [6] 2 (And.intro (by decide) t)
theorem g_x5_worth_0 {d : Nat} {B : Nat × Nat} {Q : zQ} {c : Nat × Nat × Nat} {I : Nat → Nat → Int} {g : Nat} {x1 : Int} {a0 : Nat}
    (t : (x1 = 1 → (((zSh a0).1 = 5) ∧ (Q (some (zi (I a0 1))) (c, I, zRg g)))) ∧ (¬ (x1 = 1) → ((x1 = 2 → (((zSh a0).1 = 5) ∧ (Q (some (zi (I a0 2))) (c, I, zRg g)))) ∧ (¬ (x1 = 2) → ((x1 = 3 → (((zSh a0).1 = 5) ∧ (Q (some (zi (I a0 3))) (c, I, zRg g)))) ∧ (¬ (x1 = 3) → ((x1 = 4 → (((zSh a0).1 = 5) ∧ (Q (some (zi (I a0 4))) (c, I, zRg g)))) ∧ (¬ (x1 = 4) → (((zSh a0).1 = 5) ∧ (Q (some (zi (I a0 0))) (c, I, zRg g))))))))))) :
    zRn (zcl d) 27 B Q 0 [some (zr a0), some (zi x1)] [] (c, I, zRg g) :=
  zgo [] 4 (And.intro (fun u18 => And.intro (t.1 u18).1 ((t.1 u18).2)) (fun u18 => And.intro (fun u19 => And.intro ((t.2 u18).1 u19).1 (((t.2 u18).1 u19).2)) (fun u19 => And.intro (fun u20 => And.intro (((t.2 u18).2 u19).1 u20).1 ((((t.2 u18).2 u19).1 u20).2)) (fun u20 => And.intro (fun u21 => And.intro ((((t.2 u18).2 u19).2 u20).1 u21).1 (((((t.2 u18).2 u19).2 u20).1 u21).2)) (fun u21 => And.intro ((((t.2 u18).2 u19).2 u20).2 u21).1 (((((t.2 u18).2 u19).2 u20).2 u21).2))))))
theorem g_x5_become_0 {d : Nat} {B : Nat × Nat} {Q : zQ} {c : Nat × Nat × Nat} {I : Nat → Nat → Int} {g : Nat} {x1 x2 : Int} {a0 : Nat}
    (t : (x1 = 1 → (((zSh a0).1 = 5) ∧ (Q none (c, (z2 I a0 1 x2), zRg g)))) ∧ (¬ (x1 = 1) → ((x1 = 2 → (((zSh a0).1 = 5) ∧ (Q none (c, (z2 I a0 2 x2), zRg g)))) ∧ (¬ (x1 = 2) → ((x1 = 3 → (((zSh a0).1 = 5) ∧ (Q none (c, (z2 I a0 3 x2), zRg g)))) ∧ (¬ (x1 = 3) → ((x1 = 4 → (((zSh a0).1 = 5) ∧ (Q none (c, (z2 I a0 4 x2), zRg g)))) ∧ (¬ (x1 = 4) → (((zSh a0).1 = 5) ∧ (Q none (c, (z2 I a0 0 x2), zRg g))))))))))) :
    zRn (zcl d) 28 B Q 0 [some (zr a0), some (zi x1), some (zi x2)] [] (c, I, zRg g) :=
  zgo [] 6 (And.intro (fun u22 => And.intro (t.1 u22).1 ((t.1 u22).2)) (fun u22 => And.intro (fun u23 => And.intro ((t.2 u22).1 u23).1 (((t.2 u22).1 u23).2)) (fun u23 => And.intro (fun u24 => And.intro (((t.2 u22).2 u23).1 u24).1 ((((t.2 u22).2 u23).1 u24).2)) (fun u24 => And.intro (fun u25 => And.intro ((((t.2 u22).2 u23).2 u24).1 u25).1 (((((t.2 u22).2 u23).2 u24).1 u25).2)) (fun u25 => And.intro ((((t.2 u22).2 u23).2 u24).2 u25).1 (((((t.2 u22).2 u23).2 u24).2 u25).2))))))
theorem g_x5_become__0 {d : Nat} {B : Nat × Nat} {Q : zQ} {c : Nat × Nat × Nat} {I : Nat → Nat → Int} {g : Nat} {a0 a1 : Nat}
    (t : ((zSh a1).1 = 5) ∧ (((zSh a0).1 = 5) ∧ (((zSh a1).1 = 5) ∧ (((zSh a0).1 = 5) ∧ (((zSh a1).1 = 5) ∧ (((zSh a0).1 = 5) ∧ (((zSh a1).1 = 5) ∧ (((zSh a0).1 = 5) ∧ (((zSh a1).1 = 5) ∧ (((zSh a0).1 = 5) ∧ (Q none (c, (z2 (z2 (z2 (z2 (z2 I a0 0 (I a1 0)) a0 1 ((z2 I a0 0 (I a1 0)) a1 1)) a0 2 ((z2 (z2 I a0 0 (I a1 0)) a0 1 ((z2 I a0 0 (I a1 0)) a1 1)) a1 2)) a0 3 ((z2 (z2 (z2 I a0 0 (I a1 0)) a0 1 ((z2 I a0 0 (I a1 0)) a1 1)) a0 2 ((z2 (z2 I a0 0 (I a1 0)) a0 1 ((z2 I a0 0 (I a1 0)) a1 1)) a1 2)) a1 3)) a0 4 ((z2 (z2 (z2 (z2 I a0 0 (I a1 0)) a0 1 ((z2 I a0 0 (I a1 0)) a1 1)) a0 2 ((z2 (z2 I a0 0 (I a1 0)) a0 1 ((z2 I a0 0 (I a1 0)) a1 1)) a1 2)) a0 3 ((z2 (z2 (z2 I a0 0 (I a1 0)) a0 1 ((z2 I a0 0 (I a1 0)) a1 1)) a0 2 ((z2 (z2 I a0 0 (I a1 0)) a0 1 ((z2 I a0 0 (I a1 0)) a1 1)) a1 2)) a1 3)) a1 4)), zRg g)))))))))))) :
    zRn (zcl d) 29 B Q 0 [some (zr a0), some (zr a1)] [] (c, I, zRg g) :=
  zgo [] 20 (And.intro t.1 (And.intro t.2.1 (And.intro t.2.2.1 (And.intro t.2.2.2.1 (And.intro t.2.2.2.2.1 (And.intro t.2.2.2.2.2.1 (And.intro t.2.2.2.2.2.2.1 (And.intro t.2.2.2.2.2.2.2.1 (And.intro t.2.2.2.2.2.2.2.2.1 (And.intro t.2.2.2.2.2.2.2.2.2.1 t.2.2.2.2.2.2.2.2.2.2))))))))))
theorem g_x6_isUnder_0 {d : Nat} {B : Nat × Nat} {Q : zQ} {c : Nat × Nat × Nat} {I : Nat → Nat → Int} {g : Nat} {x1 : Int} {a0 : Nat}
    (t : (x1 = 5 → (Q (some (zi 1)) (c, I, zRg g))) ∧ (¬ (x1 = 5) → (zcl d 65 0 0 [zr a0, zi x1] (c, I, zRg g) (fun v h1 => zRn (zcl d) 31 B Q 10 [some (zr a0), some (zi x1)] (zva v []) h1)))) :
    zRn (zcl d) 31 B Q 0 [some (zr a0), some (zi x1)] [] (c, I, zRg g) :=
  zgo [10] 5 (And.intro (fun u26 => And.intro (Or.inr rfl) (t.1 u26)) (fun u26 => And.intro (Nat.le_of_ble_eq_true rfl) (Exists.intro 0 (Exists.intro 0 (And.intro (Or.inl rfl) (And.intro (Or.inl rfl) (t.2 u26)))))))
theorem g_x6_isUnder_10 {d : Nat} {B : Nat × Nat} {Q : zQ} {c : Nat × Nat × Nat} {I : Nat → Nat → Int} {g : Nat} {x1 s0 : Int} {a0 : Nat}
    (t : (s0 = 0 → (Q (some (zi 0)) (c, I, zRg g))) ∧ (¬ (s0 = 0) → (Q (some (zi 1)) (c, I, zRg g)))) :
    zRn (zcl d) 31 B Q 10 [some (zr a0), some (zi x1)] [zi s0] (c, I, zRg g) :=
  zgo [10] 3 (And.intro (fun u27 => And.intro (Or.inl rfl) (t.1 u27)) (fun u27 => And.intro (Or.inr rfl) (t.2 u27)))
theorem g_x6_keptOf_0 {d : Nat} {B : Nat × Nat} {Q : zQ} {c : Nat × Nat × Nat} {I : Nat → Nat → Int} {g : Nat} {x1 x2 : Int} {a0 : Nat}
    (t : zcl d 66 0 0 [zr a0, zi x1, zi x2] (c, I, zRg g) (fun v h1 => zRn (zcl d) 32 B Q 6 [some (zr a0), some (zi x1), some (zi x2)] (zva v []) h1)) :
    zRn (zcl d) 32 B Q 0 [some (zr a0), some (zi x1), some (zi x2)] [] (c, I, zRg g) :=
  zgo [6] 3 (And.intro (Nat.le_of_ble_eq_true rfl) (Exists.intro 0 (Exists.intro 0 (And.intro (Or.inl rfl) (And.intro (Or.inl rfl) t)))))
theorem g_x6_keptOf_6 {d : Nat} {B : Nat × Nat} {Q : zQ} {c : Nat × Nat × Nat} {I : Nat → Nat → Int} {g : Nat} {x1 x2 s0 : Int} {a0 : Nat}
    (t : Q (some (zi (zwr (Int.tdiv s0 2)))) (c, I, zRg g)) :
    zRn (zcl d) 32 B Q 6 [some (zr a0), some (zi x1), some (zi x2)] [zi s0] (c, I, zRg g) :=
  zgo [6] 2 (And.intro (by decide) t)
theorem g_x6_wordsFor_0 {d : Nat} {B : Nat × Nat} {Q : zQ} {c : Nat × Nat × Nat} {I : Nat → Nat → Int} {g : Nat} {x2 x3 : Int} {a0 a1 : Nat}
    (t : zcl d 67 0 0 [zr a0, zr a1, zi x2, zi x3] (c, I, zRg g) (fun v h1 => zRn (zcl d) 33 B Q 7 [some (zr a0), some (zr a1), some (zi x2), some (zi x3)] (zva v []) h1)) :
    zRn (zcl d) 33 B Q 0 [some (zr a0), some (zr a1), some (zi x2), some (zi x3)] [] (c, I, zRg g) :=
  zgo [7] 4 (And.intro (Nat.le_of_ble_eq_true rfl) (Exists.intro 0 (Exists.intro 0 (And.intro (Or.inl rfl) (And.intro (Or.inl rfl) t)))))
theorem g_x6_wordsFor_7 {d : Nat} {B : Nat × Nat} {Q : zQ} {c : Nat × Nat × Nat} {I : Nat → Nat → Int} {g : Nat} {x2 x3 s0 : Int} {a0 a1 : Nat}
    (t : Q (some (zi (zand s0 31))) (c, I, zRg g)) :
    zRn (zcl d) 33 B Q 7 [some (zr a0), some (zr a1), some (zi x2), some (zi x3)] [zi s0] (c, I, zRg g) :=
  zgo [7] 2 (t)
theorem g_x6_wearies_0 {d : Nat} {B : Nat × Nat} {Q : zQ} {c : Nat × Nat × Nat} {I : Nat → Nat → Int} {g : Nat} {x1 : Int} {a0 a2 : Nat}
    (t : ((zSh a2).1 = 5) ∧ ((zwr (Int.tmod (I a2 4) 2) ≠ 0 → (Q (some (zi 0)) (c, I, zRg g))) ∧ (¬ (zwr (Int.tmod (I a2 4) 2) ≠ 0) → (zcl d 68 0 0 [zr a0, zi x1, zr a2] (c, I, zRg g) (fun v h1 => zRn (zcl d) 34 B Q 15 [some (zr a0), some (zi x1), some (zr a2)] (zva v []) h1))))) :
    zRn (zcl d) 34 B Q 0 [some (zr a0), some (zi x1), some (zr a2)] [] (c, I, zRg g) :=
  zgo [15] 8 (And.intro t.1 (And.intro (by decide) (And.intro (fun u28 => (t.2.1 u28)) (fun u28 => And.intro (Nat.le_of_ble_eq_true rfl) (Exists.intro 0 (Exists.intro 0 (And.intro (Or.inl rfl) (And.intro (Or.inl rfl) (t.2.2 u28)))))))))
theorem g_x6_wearies_15 {d : Nat} {B : Nat × Nat} {Q : zQ} {c : Nat × Nat × Nat} {I : Nat → Nat → Int} {g : Nat} {x1 s0 : Int} {a0 a2 : Nat}
    (t : Q (some (zi s0)) (c, I, zRg g)) :
    zRn (zcl d) 34 B Q 15 [some (zr a0), some (zi x1), some (zr a2)] [zi s0] (c, I, zRg g) :=
  zgo [15] 1 (t)
theorem g_x6_takesIn_0 {d : Nat} {B : Nat × Nat} {Q : zQ} {c : Nat × Nat × Nat} {I : Nat → Nat → Int} {g : Nat} {x1 x2 : Int} {a0 : Nat}
    (t : Q (some (zi 0)) (c, I, zRg g)) :
    zRn (zcl d) 35 B Q 0 [some (zr a0), some (zi x1), some (zi x2)] [] (c, I, zRg g) :=
  zgo [] 1 (And.intro (Or.inl rfl) t)
theorem g_x7_put_0 {d : Nat} {B : Nat × Nat} {Q : zQ} {c : Nat × Nat × Nat} {I : Nat → Nat → Int} {g : Nat} {x1 : Int}
    (t : (I 62 1 < 160 → ((0 ≤ I 62 1 ∧ I 62 1 < 160) ∧ (Q (some (zi 1)) (c, (z2 (z2 I 63 (I 62 1).toNat x1) 62 1 (zwr (((z2 I 63 (I 62 1).toNat x1) 62 1) + 1))), zRg g)))) ∧ (¬ (I 62 1 < 160) → (Q (some (zi 0)) (c, I, zRg g)))) :
    zRn (zcl d) 37 B Q 0 [some (zr 62), some (zi x1)] [] (c, I, zRg g) :=
  zgo [] 17 (And.intro rfl (And.intro (fun u29 => And.intro rfl (Exists.intro (some 63) (And.intro rfl (And.intro rfl (And.intro rfl (And.intro (t.1 u29).1 (And.intro rfl (And.intro rfl (And.intro (Or.inr rfl) ((t.1 u29).2)))))))))) (fun u29 => And.intro (Or.inl rfl) (t.2 u29))))
theorem g_x7_readPart_0 {d : Nat} {B : Nat × Nat} {Q : zQ} {c : Nat × Nat × Nat} {I : Nat → Nat → Int} {g : Nat} {x1 x2 : Int}
    (t : zcl d 47 0 0 [zr 62, zi x1] (c, I, zRg g) (fun v h1 => zRn (zcl d) 39 B Q 5 [some (zr 62), some (zi x1), some (zi x2)] (zva v []) h1)) :
    zRn (zcl d) 39 B Q 0 [some (zr 62), some (zi x1), some (zi x2)] [] (c, I, zRg g) :=
  zgo [5, 10, 16] 2 (Exists.intro 47 (And.intro rfl (And.intro (Nat.le_of_ble_eq_true rfl) (Exists.intro 0 (Exists.intro 0 (And.intro (Or.inl rfl) (And.intro (Or.inl rfl) t)))))))
theorem g_x7_readPart_5 {d : Nat} {B : Nat × Nat} {Q : zQ} {c : Nat × Nat × Nat} {I : Nat → Nat → Int} {g : Nat} {x1 x2 : Int}
    (t : zcl d 40 0 0 [zr 62, zi 0] (c, I, zRg g) (fun v h1 => zRn (zcl d) 39 B Q 10 [some (zr 62), some (zi x1), some (zi x2)] (zva v []) h1)) :
    zRn (zcl d) 39 B Q 5 [some (zr 62), some (zi x1), some (zi x2)] [] (c, I, zRg g) :=
  zgo [5, 10, 16] 2 (Exists.intro 40 (And.intro rfl (And.intro (Nat.le_of_ble_eq_true rfl) (Exists.intro 0 (Exists.intro 0 (And.intro (Or.inl rfl) (And.intro (Or.inl rfl) t)))))))
theorem g_x7_readPart_10 {d : Nat} {B : Nat × Nat} {Q : zQ} {c : Nat × Nat × Nat} {I : Nat → Nat → Int} {g : Nat} {x1 x2 : Int}
    (t : zcl d 47 0 0 [zr 62, zi 59] (c, I, zRg g) (fun v h1 => zRn (zcl d) 39 B Q 16 [some (zr 62), some (zi x1), some (zi x2)] (zva v []) h1)) :
    zRn (zcl d) 39 B Q 10 [some (zr 62), some (zi x1), some (zi x2)] [] (c, I, zRg g) :=
  zgo [5, 10, 16] 2 (Exists.intro 47 (And.intro rfl (And.intro (Nat.le_of_ble_eq_true rfl) (Exists.intro 0 (Exists.intro 0 (And.intro (Or.inl rfl) (And.intro (Or.inl rfl) t)))))))
theorem g_x7_readPart_16 {d : Nat} {B : Nat × Nat} {Q : zQ} {c : Nat × Nat × Nat} {I : Nat → Nat → Int} {g : Nat} {x1 x2 : Int} {y1 : Nat}
    (t : (x2 < 0 → (Q none (c, I, zRg g))) ∧ (¬ (x2 < 0) → ((3 ≤ x2 → (Q none (c, I, zRg g))) ∧ (¬ (3 ≤ x2) → (((zSh g).1 = 10) ∧ ((zRg g g 1 = some y1) ∧ (((zSh g).1 = 10) ∧ (((zSh y1).1 = 100) ∧ ((0 ≤ x2 ∧ x2 < ((zSh y1).2 : Nat)) ∧ (Q none (c, (z2 I y1 x2.toNat (I g 2)), zRg g))))))))))) :
    zRn (zcl d) 39 B Q 16 [some (zr 62), some (zi x1), some (zi x2)] [] (c, I, zRg g) :=
  zgo [5, 10, 16] 13 (And.intro (fun u30 => (t.1 u30)) (fun u30 => And.intro (fun u31 => ((t.2 u30).1 u31)) (fun u31 => And.intro rfl (Exists.intro (some g) (And.intro rfl (And.intro ((t.2 u30).2 u31).1 (Exists.intro (some y1) (And.intro ((t.2 u30).2 u31).2.1 (And.intro rfl (Exists.intro (some g) (And.intro rfl (And.intro ((t.2 u30).2 u31).2.2.1 (And.intro ((t.2 u30).2 u31).2.2.2.1 (And.intro ((t.2 u30).2 u31).2.2.2.2.1 (((t.2 u30).2 u31).2.2.2.2.2)))))))))))))))
theorem g_x7_readOrs_0 {d : Nat} {B : Nat × Nat} {Q : zQ} {c : Nat × Nat × Nat} {I : Nat → Nat → Int} {g : Nat} {x1 : Int}
    (t : zcl d 41 0 0 [zr 62, zi x1] (c, I, zRg g) (fun v h1 => zRn (zcl d) 40 B Q 5 [some (zr 62), some (zi x1), none] (zva v []) h1)) :
    zRn (zcl d) 40 B Q 0 [some (zr 62), some (zi x1), none] [] (c, I, zRg g) :=
  zgo [5, 7, 27, 32, 41] 2 (Exists.intro 41 (And.intro rfl (And.intro (Nat.le_of_ble_eq_true rfl) (Exists.intro 0 (Exists.intro 0 (And.intro (Or.inl rfl) (And.intro (Or.inl rfl) t)))))))
theorem g_x7_readOrs_5 {d : Nat} {B : Nat × Nat} {Q : zQ} {c : Nat × Nat × Nat} {I : Nat → Nat → Int} {g : Nat} {x1 : Int}
    (t : zRn (zcl d) 40 B Q 7 [some (zr 62), some (zi x1), some (zi 0)] [] (c, I, zRg g)) :
    zRn (zcl d) 40 B Q 5 [some (zr 62), some (zi x1), none] [] (c, I, zRg g) :=
  zgo [5, 7, 27, 32, 41] 2 (t)
theorem g_x7_readOrs_7 {d : Nat} {B : Nat × Nat} {Q : zQ} {c : Nat × Nat × Nat} {I : Nat → Nat → Int} {g : Nat} {x1 x2 : Int}
    (t : (160 ≤ x2 → (Q none (c, I, zRg g))) ∧ (¬ (160 ≤ x2) → ((I 62 7 ≠ (-8) → (Q none (c, I, zRg g))) ∧ (¬ (I 62 7 ≠ (-8)) → (zcl d 49 0 0 [zr 62] (c, I, zRg g) (fun v h1 => zRn (zcl d) 40 B Q 27 [some (zr 62), some (zi x1), some (zi x2)] (zva v []) h1)))))) :
    zRn (zcl d) 40 B Q 7 [some (zr 62), some (zi x1), some (zi x2)] [] (c, I, zRg g) :=
  zgo [5, 7, 27, 32, 41] 8 (And.intro (fun u32 => (t.1 u32)) (fun u32 => And.intro rfl (And.intro (fun u33 => ((t.2 u32).1 u33)) (fun u33 => Exists.intro 49 (And.intro rfl (And.intro (Nat.le_of_ble_eq_true rfl) (Exists.intro 0 (Exists.intro 0 (And.intro (Or.inl rfl) (And.intro (Or.inl rfl) ((t.2 u32).2 u33)))))))))))
theorem g_x7_readOrs_27 {d : Nat} {B : Nat × Nat} {Q : zQ} {c : Nat × Nat × Nat} {I : Nat → Nat → Int} {g : Nat} {x1 x2 : Int}
    (t : zcl d 41 0 0 [zr 62, zi x1] (c, I, zRg g) (fun v h1 => zRn (zcl d) 40 B Q 32 [some (zr 62), some (zi x1), some (zi x2)] (zva v []) h1)) :
    zRn (zcl d) 40 B Q 27 [some (zr 62), some (zi x1), some (zi x2)] [] (c, I, zRg g) :=
  zgo [5, 7, 27, 32, 41] 2 (Exists.intro 41 (And.intro rfl (And.intro (Nat.le_of_ble_eq_true rfl) (Exists.intro 0 (Exists.intro 0 (And.intro (Or.inl rfl) (And.intro (Or.inl rfl) t)))))))
theorem g_x7_readOrs_32 {d : Nat} {B : Nat × Nat} {Q : zQ} {c : Nat × Nat × Nat} {I : Nat → Nat → Int} {g : Nat} {x1 x2 : Int}
    (t : (zsel ((zSh g).1 : Nat) [(10, 71)] = some 71) ∧ (zcl d 71 0 0 [zr g, zi (-21)] (c, I, zRg g) (fun v h1 => zRn (zcl d) 40 B Q 41 [some (zr 62), some (zi x1), some (zi x2)] (zva v []) h1))) :
    zRn (zcl d) 40 B Q 32 [some (zr 62), some (zi x1), some (zi x2)] [] (c, I, zRg g) :=
  zgo [5, 7, 27, 32, 41] 3 (And.intro rfl (Exists.intro (some g) (And.intro rfl (Exists.intro 71 (And.intro t.1 (And.intro (Nat.le_of_ble_eq_true rfl) (Exists.intro 0 (Exists.intro 0 (And.intro (Or.inl rfl) (And.intro (Or.inl rfl) t.2))))))))))
theorem g_x7_readOrs_41 {d : Nat} {B : Nat × Nat} {Q : zQ} {c : Nat × Nat × Nat} {I : Nat → Nat → Int} {g : Nat} {x1 x2 : Int}
    (t : zRn (zcl d) 40 B Q 7 [some (zr 62), some (zi x1), some (zi (zwr (x2 + 1)))] [] (c, I, zRg g)) :
    zRn (zcl d) 40 B Q 41 [some (zr 62), some (zi x1), some (zi x2)] [] (c, I, zRg g) :=
  zgo [5, 7, 27, 32, 41] 2 (t)
theorem g_x7_readAnds_0 {d : Nat} {B : Nat × Nat} {Q : zQ} {c : Nat × Nat × Nat} {I : Nat → Nat → Int} {g : Nat} {x1 : Int}
    (t : zcl d 42 0 0 [zr 62, zi x1] (c, I, zRg g) (fun v h1 => zRn (zcl d) 41 B Q 5 [some (zr 62), some (zi x1), none] (zva v []) h1)) :
    zRn (zcl d) 41 B Q 0 [some (zr 62), some (zi x1), none] [] (c, I, zRg g) :=
  zgo [5, 7, 27, 32, 41] 2 (Exists.intro 42 (And.intro rfl (And.intro (Nat.le_of_ble_eq_true rfl) (Exists.intro 0 (Exists.intro 0 (And.intro (Or.inl rfl) (And.intro (Or.inl rfl) t)))))))
theorem g_x7_readAnds_5 {d : Nat} {B : Nat × Nat} {Q : zQ} {c : Nat × Nat × Nat} {I : Nat → Nat → Int} {g : Nat} {x1 : Int}
    (t : zRn (zcl d) 41 B Q 7 [some (zr 62), some (zi x1), some (zi 0)] [] (c, I, zRg g)) :
    zRn (zcl d) 41 B Q 5 [some (zr 62), some (zi x1), none] [] (c, I, zRg g) :=
  zgo [5, 7, 27, 32, 41] 2 (t)
theorem g_x7_readAnds_7 {d : Nat} {B : Nat × Nat} {Q : zQ} {c : Nat × Nat × Nat} {I : Nat → Nat → Int} {g : Nat} {x1 x2 : Int}
    (t : (160 ≤ x2 → (Q none (c, I, zRg g))) ∧ (¬ (160 ≤ x2) → ((I 62 7 ≠ (-9) → (Q none (c, I, zRg g))) ∧ (¬ (I 62 7 ≠ (-9)) → (zcl d 49 0 0 [zr 62] (c, I, zRg g) (fun v h1 => zRn (zcl d) 41 B Q 27 [some (zr 62), some (zi x1), some (zi x2)] (zva v []) h1)))))) :
    zRn (zcl d) 41 B Q 7 [some (zr 62), some (zi x1), some (zi x2)] [] (c, I, zRg g) :=
  zgo [5, 7, 27, 32, 41] 8 (And.intro (fun u34 => (t.1 u34)) (fun u34 => And.intro rfl (And.intro (fun u35 => ((t.2 u34).1 u35)) (fun u35 => Exists.intro 49 (And.intro rfl (And.intro (Nat.le_of_ble_eq_true rfl) (Exists.intro 0 (Exists.intro 0 (And.intro (Or.inl rfl) (And.intro (Or.inl rfl) ((t.2 u34).2 u35)))))))))))
theorem g_x7_readAnds_27 {d : Nat} {B : Nat × Nat} {Q : zQ} {c : Nat × Nat × Nat} {I : Nat → Nat → Int} {g : Nat} {x1 x2 : Int}
    (t : zcl d 42 0 0 [zr 62, zi x1] (c, I, zRg g) (fun v h1 => zRn (zcl d) 41 B Q 32 [some (zr 62), some (zi x1), some (zi x2)] (zva v []) h1)) :
    zRn (zcl d) 41 B Q 27 [some (zr 62), some (zi x1), some (zi x2)] [] (c, I, zRg g) :=
  zgo [5, 7, 27, 32, 41] 2 (Exists.intro 42 (And.intro rfl (And.intro (Nat.le_of_ble_eq_true rfl) (Exists.intro 0 (Exists.intro 0 (And.intro (Or.inl rfl) (And.intro (Or.inl rfl) t)))))))
theorem g_x7_readAnds_32 {d : Nat} {B : Nat × Nat} {Q : zQ} {c : Nat × Nat × Nat} {I : Nat → Nat → Int} {g : Nat} {x1 x2 : Int}
    (t : (zsel ((zSh g).1 : Nat) [(10, 71)] = some 71) ∧ (zcl d 71 0 0 [zr g, zi (-22)] (c, I, zRg g) (fun v h1 => zRn (zcl d) 41 B Q 41 [some (zr 62), some (zi x1), some (zi x2)] (zva v []) h1))) :
    zRn (zcl d) 41 B Q 32 [some (zr 62), some (zi x1), some (zi x2)] [] (c, I, zRg g) :=
  zgo [5, 7, 27, 32, 41] 3 (And.intro rfl (Exists.intro (some g) (And.intro rfl (Exists.intro 71 (And.intro t.1 (And.intro (Nat.le_of_ble_eq_true rfl) (Exists.intro 0 (Exists.intro 0 (And.intro (Or.inl rfl) (And.intro (Or.inl rfl) t.2))))))))))
theorem g_x7_readAnds_41 {d : Nat} {B : Nat × Nat} {Q : zQ} {c : Nat × Nat × Nat} {I : Nat → Nat → Int} {g : Nat} {x1 x2 : Int}
    (t : zRn (zcl d) 41 B Q 7 [some (zr 62), some (zi x1), some (zi (zwr (x2 + 1)))] [] (c, I, zRg g)) :
    zRn (zcl d) 41 B Q 41 [some (zr 62), some (zi x1), some (zi x2)] [] (c, I, zRg g) :=
  zgo [5, 7, 27, 32, 41] 2 (t)
theorem g_x7_readNot_0 {d : Nat} {B : Nat × Nat} {Q : zQ} {c : Nat × Nat × Nat} {I : Nat → Nat → Int} {g : Nat} {x1 : Int}
    (t : (I 62 7 ≠ (-10) → (zcl d 43 0 0 [zr 62, zi x1] (c, I, zRg g) (fun v h1 => zRn (zcl d) 42 B Q 40 [some (zr 62), some (zi x1), none] (zva v []) h1))) ∧ (¬ (I 62 7 ≠ (-10)) → (zcl d 46 0 0 [zr 62, zi x1] (c, I, zRg g) (fun v h1 => zRn (zcl d) 42 B Q 14 [some (zr 62), some (zi x1), none] (zva v []) h1)))) :
    zRn (zcl d) 42 B Q 0 [some (zr 62), some (zi x1), none] [] (c, I, zRg g) :=
  zgo [14, 25, 34, 40, 79, 84, 92] 6 (And.intro rfl (And.intro (fun u36 => Exists.intro 43 (And.intro rfl (And.intro (Nat.le_of_ble_eq_true rfl) (Exists.intro 0 (Exists.intro 0 (And.intro (Or.inl rfl) (And.intro (Or.inl rfl) (t.1 u36)))))))) (fun u36 => Exists.intro 46 (And.intro rfl (And.intro (Nat.le_of_ble_eq_true rfl) (Exists.intro 0 (Exists.intro 0 (And.intro (Or.inl rfl) (And.intro (Or.inl rfl) (t.2 u36))))))))))
theorem g_x7_readNot_14 {d : Nat} {B : Nat × Nat} {Q : zQ} {c : Nat × Nat × Nat} {I : Nat → Nat → Int} {g : Nat} {x1 s0 : Int}
    (t : (s0 ≠ 0 → (zcl d 42 0 0 [zr 62, zi (zwr (x1 + 1))] (c, I, zRg g) (fun v h1 => zRn (zcl d) 42 B Q 25 [some (zr 62), some (zi x1), none] (zva v []) h1))) ∧ (¬ (s0 ≠ 0) → (Q none (c, I, zRg g)))) :
    zRn (zcl d) 42 B Q 14 [some (zr 62), some (zi x1), none] [zi s0] (c, I, zRg g) :=
  zgo [14, 25, 34, 40, 79, 84, 92] 5 (And.intro (fun u41 => Exists.intro 42 (And.intro rfl (And.intro (Nat.le_of_ble_eq_true rfl) (Exists.intro 0 (Exists.intro 0 (And.intro (Or.inl rfl) (And.intro (Or.inl rfl) (t.1 u41)))))))) (fun u41 => (t.2 u41)))
theorem g_x7_readNot_25 {d : Nat} {B : Nat × Nat} {Q : zQ} {c : Nat × Nat × Nat} {I : Nat → Nat → Int} {g : Nat} {x1 : Int}
    (t : (zsel ((zSh g).1 : Nat) [(10, 71)] = some 71) ∧ (zcl d 71 0 0 [zr g, zi (-11)] (c, I, zRg g) (fun v h1 => zRn (zcl d) 42 B Q 34 [some (zr 62), some (zi x1), none] (zva v []) h1))) :
    zRn (zcl d) 42 B Q 25 [some (zr 62), some (zi x1), none] [] (c, I, zRg g) :=
  zgo [14, 25, 34, 40, 79, 84, 92] 3 (And.intro rfl (Exists.intro (some g) (And.intro rfl (Exists.intro 71 (And.intro t.1 (And.intro (Nat.le_of_ble_eq_true rfl) (Exists.intro 0 (Exists.intro 0 (And.intro (Or.inl rfl) (And.intro (Or.inl rfl) t.2))))))))))
theorem g_x7_readNot_34 {d : Nat} {B : Nat × Nat} {Q : zQ} {c : Nat × Nat × Nat} {I : Nat → Nat → Int} {g : Nat} {x1 : Int}
    (t : Q none (c, I, zRg g)) :
    zRn (zcl d) 42 B Q 34 [some (zr 62), some (zi x1), none] [] (c, I, zRg g) :=
  zgo [14, 25, 34, 40, 79, 84, 92] 0 (t)
theorem g_x7_readNot_40 {d : Nat} {B : Nat × Nat} {Q : zQ} {c : Nat × Nat × Nat} {I : Nat → Nat → Int} {g : Nat} {x1 : Int}
    (t : (I 62 7 = 60 → ((I 62 7 ≠ 60 → (zcl d 49 0 0 [zr 62] (c, I, zRg g) (fun v h1 => zRn (zcl d) 42 B Q 79 [some (zr 62), some (zi x1), some (zi (-24))] (zva v []) h1))) ∧ (¬ (I 62 7 ≠ 60) → (zcl d 49 0 0 [zr 62] (c, I, zRg g) (fun v h1 => zRn (zcl d) 42 B Q 79 [some (zr 62), some (zi x1), some (zi (-23))] (zva v []) h1))))) ∧ (¬ (I 62 7 = 60) → ((I 62 7 ≠ 61 → (zRn (zcl d) 42 B Q 92 [some (zr 62), some (zi x1), none] [] (c, I, zRg g))) ∧ (¬ (I 62 7 ≠ 61) → ((I 62 7 ≠ 60 → (zcl d 49 0 0 [zr 62] (c, I, zRg g) (fun v h1 => zRn (zcl d) 42 B Q 79 [some (zr 62), some (zi x1), some (zi (-24))] (zva v []) h1))) ∧ (¬ (I 62 7 ≠ 60) → (zcl d 49 0 0 [zr 62] (c, I, zRg g) (fun v h1 => zRn (zcl d) 42 B Q 79 [some (zr 62), some (zi x1), some (zi (-23))] (zva v []) h1)))))))) :
    zRn (zcl d) 42 B Q 40 [some (zr 62), some (zi x1), none] [] (c, I, zRg g) :=
  zgo [14, 25, 34, 40, 79, 84, 92] 16 (And.intro rfl (And.intro (fun u37 => And.intro rfl (And.intro (fun u38 => Exists.intro 49 (And.intro rfl (And.intro (Nat.le_of_ble_eq_true rfl) (Exists.intro 0 (Exists.intro 0 (And.intro (Or.inl rfl) (And.intro (Or.inl rfl) ((t.1 u37).1 u38)))))))) (fun u38 => Exists.intro 49 (And.intro rfl (And.intro (Nat.le_of_ble_eq_true rfl) (Exists.intro 0 (Exists.intro 0 (And.intro (Or.inl rfl) (And.intro (Or.inl rfl) ((t.1 u37).2 u38)))))))))) (fun u37 => And.intro rfl (And.intro (fun u39 => ((t.2 u37).1 u39)) (fun u39 => And.intro rfl (And.intro (fun u40 => Exists.intro 49 (And.intro rfl (And.intro (Nat.le_of_ble_eq_true rfl) (Exists.intro 0 (Exists.intro 0 (And.intro (Or.inl rfl) (And.intro (Or.inl rfl) (((t.2 u37).2 u39).1 u40)))))))) (fun u40 => Exists.intro 49 (And.intro rfl (And.intro (Nat.le_of_ble_eq_true rfl) (Exists.intro 0 (Exists.intro 0 (And.intro (Or.inl rfl) (And.intro (Or.inl rfl) (((t.2 u37).2 u39).2 u40))))))))))))))
theorem g_x7_readNot_79 {d : Nat} {B : Nat × Nat} {Q : zQ} {c : Nat × Nat × Nat} {I : Nat → Nat → Int} {g : Nat} {x1 x2 : Int}
    (t : zcl d 43 0 0 [zr 62, zi x1] (c, I, zRg g) (fun v h1 => zRn (zcl d) 42 B Q 84 [some (zr 62), some (zi x1), some (zi x2)] (zva v []) h1)) :
    zRn (zcl d) 42 B Q 79 [some (zr 62), some (zi x1), some (zi x2)] [] (c, I, zRg g) :=
  zgo [14, 25, 34, 40, 79, 84, 92] 2 (Exists.intro 43 (And.intro rfl (And.intro (Nat.le_of_ble_eq_true rfl) (Exists.intro 0 (Exists.intro 0 (And.intro (Or.inl rfl) (And.intro (Or.inl rfl) t)))))))
theorem g_x7_readNot_84 {d : Nat} {B : Nat × Nat} {Q : zQ} {c : Nat × Nat × Nat} {I : Nat → Nat → Int} {g : Nat} {x1 x2 : Int}
    (t : (zsel ((zSh g).1 : Nat) [(10, 71)] = some 71) ∧ (zcl d 71 0 0 [zr g, zi x2] (c, I, zRg g) (fun v h1 => zRn (zcl d) 42 B Q 92 [some (zr 62), some (zi x1), some (zi x2)] (zva v []) h1))) :
    zRn (zcl d) 42 B Q 84 [some (zr 62), some (zi x1), some (zi x2)] [] (c, I, zRg g) :=
  zgo [14, 25, 34, 40, 79, 84, 92] 3 (And.intro rfl (Exists.intro (some g) (And.intro rfl (Exists.intro 71 (And.intro t.1 (And.intro (Nat.le_of_ble_eq_true rfl) (Exists.intro 0 (Exists.intro 0 (And.intro (Or.inl rfl) (And.intro (Or.inl rfl) t.2))))))))))
theorem g_x7_readNot_92 {d : Nat} {B : Nat × Nat} {Q : zQ} {c : Nat × Nat × Nat} {I : Nat → Nat → Int} {g : Nat} {x1 : Int}
    (t : Q none (c, I, zRg g)) :
    zRn (zcl d) 42 B Q 92 [some (zr 62), some (zi x1), none] [] (c, I, zRg g) :=
  zgo [14, 25, 34, 40, 79, 84, 92] 0 (t)
theorem g_x7_readSum_0 {d : Nat} {B : Nat × Nat} {Q : zQ} {c : Nat × Nat × Nat} {I : Nat → Nat → Int} {g : Nat} {x1 : Int}
    (t : zcl d 44 0 0 [zr 62, zi x1] (c, I, zRg g) (fun v h1 => zRn (zcl d) 43 B Q 5 [some (zr 62), some (zi x1), none, none] (zva v []) h1)) :
    zRn (zcl d) 43 B Q 0 [some (zr 62), some (zi x1), none, none] [] (c, I, zRg g) :=
  zgo [5, 7, 53, 58, 66] 2 (Exists.intro 44 (And.intro rfl (And.intro (Nat.le_of_ble_eq_true rfl) (Exists.intro 0 (Exists.intro 0 (And.intro (Or.inl rfl) (And.intro (Or.inl rfl) t)))))))
theorem g_x7_readSum_5 {d : Nat} {B : Nat × Nat} {Q : zQ} {c : Nat × Nat × Nat} {I : Nat → Nat → Int} {g : Nat} {x1 : Int}
    (t : zRn (zcl d) 43 B Q 7 [some (zr 62), some (zi x1), some (zi 0), none] [] (c, I, zRg g)) :
    zRn (zcl d) 43 B Q 5 [some (zr 62), some (zi x1), none, none] [] (c, I, zRg g) :=
  zgo [5, 7, 53, 58, 66] 2 (t)
theorem g_x7_readSum_7 {d : Nat} {B : Nat × Nat} {Q : zQ} {c : Nat × Nat × Nat} {I : Nat → Nat → Int} {g : Nat} {x1 x2 : Int}
    (t : (160 ≤ x2 → (Q none (c, I, zRg g))) ∧ (¬ (160 ≤ x2) → ((I 62 7 = 43 → ((I 62 7 ≠ 43 → (zcl d 49 0 0 [zr 62] (c, I, zRg g) (fun v h1 => zRn (zcl d) 43 B Q 53 [some (zr 62), some (zi x1), some (zi x2), some (zi (-26))] (zva v []) h1))) ∧ (¬ (I 62 7 ≠ 43) → (zcl d 49 0 0 [zr 62] (c, I, zRg g) (fun v h1 => zRn (zcl d) 43 B Q 53 [some (zr 62), some (zi x1), some (zi x2), some (zi (-25))] (zva v []) h1))))) ∧ (¬ (I 62 7 = 43) → ((I 62 7 ≠ 45 → (Q none (c, I, zRg g))) ∧ (¬ (I 62 7 ≠ 45) → ((I 62 7 ≠ 43 → (zcl d 49 0 0 [zr 62] (c, I, zRg g) (fun v h1 => zRn (zcl d) 43 B Q 53 [some (zr 62), some (zi x1), some (zi x2), some (zi (-26))] (zva v []) h1))) ∧ (¬ (I 62 7 ≠ 43) → (zcl d 49 0 0 [zr 62] (c, I, zRg g) (fun v h1 => zRn (zcl d) 43 B Q 53 [some (zr 62), some (zi x1), some (zi x2), some (zi (-25))] (zva v []) h1)))))))))) :
    zRn (zcl d) 43 B Q 7 [some (zr 62), some (zi x1), some (zi x2), none] [] (c, I, zRg g) :=
  zgo [5, 7, 53, 58, 66] 19 (And.intro (fun u42 => (t.1 u42)) (fun u42 => And.intro rfl (And.intro (fun u43 => And.intro rfl (And.intro (fun u44 => Exists.intro 49 (And.intro rfl (And.intro (Nat.le_of_ble_eq_true rfl) (Exists.intro 0 (Exists.intro 0 (And.intro (Or.inl rfl) (And.intro (Or.inl rfl) (((t.2 u42).1 u43).1 u44)))))))) (fun u44 => Exists.intro 49 (And.intro rfl (And.intro (Nat.le_of_ble_eq_true rfl) (Exists.intro 0 (Exists.intro 0 (And.intro (Or.inl rfl) (And.intro (Or.inl rfl) (((t.2 u42).1 u43).2 u44)))))))))) (fun u43 => And.intro rfl (And.intro (fun u45 => (((t.2 u42).2 u43).1 u45)) (fun u45 => And.intro rfl (And.intro (fun u46 => Exists.intro 49 (And.intro rfl (And.intro (Nat.le_of_ble_eq_true rfl) (Exists.intro 0 (Exists.intro 0 (And.intro (Or.inl rfl) (And.intro (Or.inl rfl) ((((t.2 u42).2 u43).2 u45).1 u46)))))))) (fun u46 => Exists.intro 49 (And.intro rfl (And.intro (Nat.le_of_ble_eq_true rfl) (Exists.intro 0 (Exists.intro 0 (And.intro (Or.inl rfl) (And.intro (Or.inl rfl) ((((t.2 u42).2 u43).2 u45).2 u46)))))))))))))))
theorem g_x7_readSum_53 {d : Nat} {B : Nat × Nat} {Q : zQ} {c : Nat × Nat × Nat} {I : Nat → Nat → Int} {g : Nat} {x1 x2 x3 : Int}
    (t : zcl d 44 0 0 [zr 62, zi x1] (c, I, zRg g) (fun v h1 => zRn (zcl d) 43 B Q 58 [some (zr 62), some (zi x1), some (zi x2), some (zi x3)] (zva v []) h1)) :
    zRn (zcl d) 43 B Q 53 [some (zr 62), some (zi x1), some (zi x2), some (zi x3)] [] (c, I, zRg g) :=
  zgo [5, 7, 53, 58, 66] 2 (Exists.intro 44 (And.intro rfl (And.intro (Nat.le_of_ble_eq_true rfl) (Exists.intro 0 (Exists.intro 0 (And.intro (Or.inl rfl) (And.intro (Or.inl rfl) t)))))))
theorem g_x7_readSum_58 {d : Nat} {B : Nat × Nat} {Q : zQ} {c : Nat × Nat × Nat} {I : Nat → Nat → Int} {g : Nat} {x1 x2 x3 : Int}
    (t : (zsel ((zSh g).1 : Nat) [(10, 71)] = some 71) ∧ (zcl d 71 0 0 [zr g, zi x3] (c, I, zRg g) (fun v h1 => zRn (zcl d) 43 B Q 66 [some (zr 62), some (zi x1), some (zi x2), some (zi x3)] (zva v []) h1))) :
    zRn (zcl d) 43 B Q 58 [some (zr 62), some (zi x1), some (zi x2), some (zi x3)] [] (c, I, zRg g) :=
  zgo [5, 7, 53, 58, 66] 3 (And.intro rfl (Exists.intro (some g) (And.intro rfl (Exists.intro 71 (And.intro t.1 (And.intro (Nat.le_of_ble_eq_true rfl) (Exists.intro 0 (Exists.intro 0 (And.intro (Or.inl rfl) (And.intro (Or.inl rfl) t.2))))))))))
theorem g_x7_readSum_66 {d : Nat} {B : Nat × Nat} {Q : zQ} {c : Nat × Nat × Nat} {I : Nat → Nat → Int} {g : Nat} {x1 x2 x3 : Int}
    (t : zRn (zcl d) 43 B Q 7 [some (zr 62), some (zi x1), some (zi (zwr (x2 + 1))), some (zi x3)] [] (c, I, zRg g)) :
    zRn (zcl d) 43 B Q 66 [some (zr 62), some (zi x1), some (zi x2), some (zi x3)] [] (c, I, zRg g) :=
  zgo [5, 7, 53, 58, 66] 2 (t)
theorem g_x7_readTerm_0 {d : Nat} {B : Nat × Nat} {Q : zQ} {c : Nat × Nat × Nat} {I : Nat → Nat → Int} {g : Nat} {x1 : Int}
    (t : zcl d 45 0 0 [zr 62, zi x1] (c, I, zRg g) (fun v h1 => zRn (zcl d) 44 B Q 5 [some (zr 62), some (zi x1), none] (zva v []) h1)) :
    zRn (zcl d) 44 B Q 0 [some (zr 62), some (zi x1), none] [] (c, I, zRg g) :=
  zgo [5, 7, 27, 32, 41] 2 (Exists.intro 45 (And.intro rfl (And.intro (Nat.le_of_ble_eq_true rfl) (Exists.intro 0 (Exists.intro 0 (And.intro (Or.inl rfl) (And.intro (Or.inl rfl) t)))))))
theorem g_x7_readTerm_5 {d : Nat} {B : Nat × Nat} {Q : zQ} {c : Nat × Nat × Nat} {I : Nat → Nat → Int} {g : Nat} {x1 : Int}
    (t : zRn (zcl d) 44 B Q 7 [some (zr 62), some (zi x1), some (zi 0)] [] (c, I, zRg g)) :
    zRn (zcl d) 44 B Q 5 [some (zr 62), some (zi x1), none] [] (c, I, zRg g) :=
  zgo [5, 7, 27, 32, 41] 2 (t)
theorem g_x7_readTerm_7 {d : Nat} {B : Nat × Nat} {Q : zQ} {c : Nat × Nat × Nat} {I : Nat → Nat → Int} {g : Nat} {x1 x2 : Int}
    (t : (160 ≤ x2 → (Q none (c, I, zRg g))) ∧ (¬ (160 ≤ x2) → ((I 62 7 ≠ 42 → (Q none (c, I, zRg g))) ∧ (¬ (I 62 7 ≠ 42) → (zcl d 49 0 0 [zr 62] (c, I, zRg g) (fun v h1 => zRn (zcl d) 44 B Q 27 [some (zr 62), some (zi x1), some (zi x2)] (zva v []) h1)))))) :
    zRn (zcl d) 44 B Q 7 [some (zr 62), some (zi x1), some (zi x2)] [] (c, I, zRg g) :=
  zgo [5, 7, 27, 32, 41] 8 (And.intro (fun u47 => (t.1 u47)) (fun u47 => And.intro rfl (And.intro (fun u48 => ((t.2 u47).1 u48)) (fun u48 => Exists.intro 49 (And.intro rfl (And.intro (Nat.le_of_ble_eq_true rfl) (Exists.intro 0 (Exists.intro 0 (And.intro (Or.inl rfl) (And.intro (Or.inl rfl) ((t.2 u47).2 u48)))))))))))
theorem g_x7_readTerm_27 {d : Nat} {B : Nat × Nat} {Q : zQ} {c : Nat × Nat × Nat} {I : Nat → Nat → Int} {g : Nat} {x1 x2 : Int}
    (t : zcl d 45 0 0 [zr 62, zi x1] (c, I, zRg g) (fun v h1 => zRn (zcl d) 44 B Q 32 [some (zr 62), some (zi x1), some (zi x2)] (zva v []) h1)) :
    zRn (zcl d) 44 B Q 27 [some (zr 62), some (zi x1), some (zi x2)] [] (c, I, zRg g) :=
  zgo [5, 7, 27, 32, 41] 2 (Exists.intro 45 (And.intro rfl (And.intro (Nat.le_of_ble_eq_true rfl) (Exists.intro 0 (Exists.intro 0 (And.intro (Or.inl rfl) (And.intro (Or.inl rfl) t)))))))
theorem g_x7_readTerm_32 {d : Nat} {B : Nat × Nat} {Q : zQ} {c : Nat × Nat × Nat} {I : Nat → Nat → Int} {g : Nat} {x1 x2 : Int}
    (t : (zsel ((zSh g).1 : Nat) [(10, 71)] = some 71) ∧ (zcl d 71 0 0 [zr g, zi (-27)] (c, I, zRg g) (fun v h1 => zRn (zcl d) 44 B Q 41 [some (zr 62), some (zi x1), some (zi x2)] (zva v []) h1))) :
    zRn (zcl d) 44 B Q 32 [some (zr 62), some (zi x1), some (zi x2)] [] (c, I, zRg g) :=
  zgo [5, 7, 27, 32, 41] 3 (And.intro rfl (Exists.intro (some g) (And.intro rfl (Exists.intro 71 (And.intro t.1 (And.intro (Nat.le_of_ble_eq_true rfl) (Exists.intro 0 (Exists.intro 0 (And.intro (Or.inl rfl) (And.intro (Or.inl rfl) t.2))))))))))
theorem g_x7_readTerm_41 {d : Nat} {B : Nat × Nat} {Q : zQ} {c : Nat × Nat × Nat} {I : Nat → Nat → Int} {g : Nat} {x1 x2 : Int}
    (t : zRn (zcl d) 44 B Q 7 [some (zr 62), some (zi x1), some (zi (zwr (x2 + 1)))] [] (c, I, zRg g)) :
    zRn (zcl d) 44 B Q 41 [some (zr 62), some (zi x1), some (zi x2)] [] (c, I, zRg g) :=
  zgo [5, 7, 27, 32, 41] 2 (t)
theorem g_x7_readOne_0 {d : Nat} {B : Nat × Nat} {Q : zQ} {c : Nat × Nat × Nat} {I : Nat → Nat → Int} {g : Nat} {x1 : Int}
    (t : (I 62 7 = (-3) → ((0 ≤ I 62 6 ∧ I 62 6 < 161) ∧ ((zsel ((zSh g).1 : Nat) [(10, 71)] = some 71) ∧ (zcl d 71 0 0 [zr g, zi (I 65 ((I 62 6).toNat))] (c, I, zRg g) (fun v h1 => zRn (zcl d) 45 B Q 34 [some (zr 62), some (zi x1)] (zva v []) h1))))) ∧ (¬ (I 62 7 = (-3)) → ((I 62 7 ≠ (-4) → ((I 62 7 ≠ 45 → ((I 62 7 ≠ 40 → (zcl d 48 0 0 [zr 62] (c, I, zRg g) (fun v h1 => zRn (zcl d) 45 B Q 116 [some (zr 62), some (zi x1)] (zva v []) h1))) ∧ (¬ (I 62 7 ≠ 40) → (zcl d 46 0 0 [zr 62, zi x1] (c, I, zRg g) (fun v h1 => zRn (zcl d) 45 B Q 92 [some (zr 62), some (zi x1)] (zva v []) h1))))) ∧ (¬ (I 62 7 ≠ 45) → (zcl d 46 0 0 [zr 62, zi x1] (c, I, zRg g) (fun v h1 => zRn (zcl d) 45 B Q 55 [some (zr 62), some (zi x1)] (zva v []) h1))))) ∧ (¬ (I 62 7 ≠ (-4)) → ((0 ≤ I 62 6 ∧ I 62 6 < 161) ∧ ((zsel ((zSh g).1 : Nat) [(10, 71)] = some 71) ∧ (zcl d 71 0 0 [zr g, zi (I 65 ((I 62 6).toNat))] (c, I, zRg g) (fun v h1 => zRn (zcl d) 45 B Q 34 [some (zr 62), some (zi x1)] (zva v []) h1)))))))) :
    zRn (zcl d) 45 B Q 0 [some (zr 62), some (zi x1)] [] (c, I, zRg g) :=
  zgo [34, 38, 55, 66, 75, 92, 103, 109, 116] 18 (And.intro rfl (And.intro (fun u49 => And.intro rfl (Exists.intro (some g) (And.intro rfl (And.intro rfl (Exists.intro (some 65) (And.intro rfl (And.intro rfl (And.intro rfl (And.intro (t.1 u49).1 (Exists.intro 71 (And.intro (t.1 u49).2.1 (And.intro (Nat.le_of_ble_eq_true rfl) (Exists.intro 0 (Exists.intro 0 (And.intro (Or.inl rfl) (And.intro (Or.inl rfl) ((t.1 u49).2.2))))))))))))))))) (fun u49 => And.intro rfl (And.intro (fun u50 => And.intro rfl (And.intro (fun u51 => And.intro rfl (And.intro (fun u52 => Exists.intro 48 (And.intro rfl (And.intro (Nat.le_of_ble_eq_true rfl) (Exists.intro 0 (Exists.intro 0 (And.intro (Or.inl rfl) (And.intro (Or.inl rfl) ((((t.2 u49).1 u50).1 u51).1 u52)))))))) (fun u52 => Exists.intro 46 (And.intro rfl (And.intro (Nat.le_of_ble_eq_true rfl) (Exists.intro 0 (Exists.intro 0 (And.intro (Or.inl rfl) (And.intro (Or.inl rfl) ((((t.2 u49).1 u50).1 u51).2 u52)))))))))) (fun u51 => Exists.intro 46 (And.intro rfl (And.intro (Nat.le_of_ble_eq_true rfl) (Exists.intro 0 (Exists.intro 0 (And.intro (Or.inl rfl) (And.intro (Or.inl rfl) (((t.2 u49).1 u50).2 u51)))))))))) (fun u50 => And.intro rfl (Exists.intro (some g) (And.intro rfl (And.intro rfl (Exists.intro (some 65) (And.intro rfl (And.intro rfl (And.intro rfl (And.intro ((t.2 u49).2 u50).1 (Exists.intro 71 (And.intro ((t.2 u49).2 u50).2.1 (And.intro (Nat.le_of_ble_eq_true rfl) (Exists.intro 0 (Exists.intro 0 (And.intro (Or.inl rfl) (And.intro (Or.inl rfl) (((t.2 u49).2 u50).2.2)))))))))))))))))))))
theorem g_x7_readOne_34 {d : Nat} {B : Nat × Nat} {Q : zQ} {c : Nat × Nat × Nat} {I : Nat → Nat → Int} {g : Nat} {x1 : Int}
    (t : zcl d 49 0 0 [zr 62] (c, I, zRg g) (fun v h1 => zRn (zcl d) 45 B Q 38 [some (zr 62), some (zi x1)] (zva v []) h1)) :
    zRn (zcl d) 45 B Q 34 [some (zr 62), some (zi x1)] [] (c, I, zRg g) :=
  zgo [34, 38, 55, 66, 75, 92, 103, 109, 116] 1 (Exists.intro 49 (And.intro rfl (And.intro (Nat.le_of_ble_eq_true rfl) (Exists.intro 0 (Exists.intro 0 (And.intro (Or.inl rfl) (And.intro (Or.inl rfl) t)))))))
theorem g_x7_readOne_38 {d : Nat} {B : Nat × Nat} {Q : zQ} {c : Nat × Nat × Nat} {I : Nat → Nat → Int} {g : Nat} {x1 : Int}
    (t : zRn (zcl d) 45 B Q 116 [some (zr 62), some (zi x1)] [] (c, I, zRg g)) :
    zRn (zcl d) 45 B Q 38 [some (zr 62), some (zi x1)] [] (c, I, zRg g) :=
  zgo [34, 38, 55, 66, 75, 92, 103, 109, 116] 1 (t)
theorem g_x7_readOne_55 {d : Nat} {B : Nat × Nat} {Q : zQ} {c : Nat × Nat × Nat} {I : Nat → Nat → Int} {g : Nat} {x1 s0 : Int}
    (t : (s0 ≠ 0 → (zcl d 45 0 0 [zr 62, zi (zwr (x1 + 1))] (c, I, zRg g) (fun v h1 => zRn (zcl d) 45 B Q 66 [some (zr 62), some (zi x1)] (zva v []) h1))) ∧ (¬ (s0 ≠ 0) → (Q none (c, I, zRg g)))) :
    zRn (zcl d) 45 B Q 55 [some (zr 62), some (zi x1)] [zi s0] (c, I, zRg g) :=
  zgo [34, 38, 55, 66, 75, 92, 103, 109, 116] 5 (And.intro (fun u54 => Exists.intro 45 (And.intro rfl (And.intro (Nat.le_of_ble_eq_true rfl) (Exists.intro 0 (Exists.intro 0 (And.intro (Or.inl rfl) (And.intro (Or.inl rfl) (t.1 u54)))))))) (fun u54 => (t.2 u54)))
theorem g_x7_readOne_66 {d : Nat} {B : Nat × Nat} {Q : zQ} {c : Nat × Nat × Nat} {I : Nat → Nat → Int} {g : Nat} {x1 : Int}
    (t : (zsel ((zSh g).1 : Nat) [(10, 71)] = some 71) ∧ (zcl d 71 0 0 [zr g, zi (-12)] (c, I, zRg g) (fun v h1 => zRn (zcl d) 45 B Q 75 [some (zr 62), some (zi x1)] (zva v []) h1))) :
    zRn (zcl d) 45 B Q 66 [some (zr 62), some (zi x1)] [] (c, I, zRg g) :=
  zgo [34, 38, 55, 66, 75, 92, 103, 109, 116] 3 (And.intro rfl (Exists.intro (some g) (And.intro rfl (Exists.intro 71 (And.intro t.1 (And.intro (Nat.le_of_ble_eq_true rfl) (Exists.intro 0 (Exists.intro 0 (And.intro (Or.inl rfl) (And.intro (Or.inl rfl) t.2))))))))))
theorem g_x7_readOne_75 {d : Nat} {B : Nat × Nat} {Q : zQ} {c : Nat × Nat × Nat} {I : Nat → Nat → Int} {g : Nat} {x1 : Int}
    (t : zRn (zcl d) 45 B Q 116 [some (zr 62), some (zi x1)] [] (c, I, zRg g)) :
    zRn (zcl d) 45 B Q 75 [some (zr 62), some (zi x1)] [] (c, I, zRg g) :=
  zgo [34, 38, 55, 66, 75, 92, 103, 109, 116] 1 (t)
theorem g_x7_readOne_92 {d : Nat} {B : Nat × Nat} {Q : zQ} {c : Nat × Nat × Nat} {I : Nat → Nat → Int} {g : Nat} {x1 s0 : Int}
    (t : (s0 ≠ 0 → (zcl d 40 0 0 [zr 62, zi (zwr (x1 + 1))] (c, I, zRg g) (fun v h1 => zRn (zcl d) 45 B Q 103 [some (zr 62), some (zi x1)] (zva v []) h1))) ∧ (¬ (s0 ≠ 0) → (Q none (c, I, zRg g)))) :
    zRn (zcl d) 45 B Q 92 [some (zr 62), some (zi x1)] [zi s0] (c, I, zRg g) :=
  zgo [34, 38, 55, 66, 75, 92, 103, 109, 116] 5 (And.intro (fun u53 => Exists.intro 40 (And.intro rfl (And.intro (Nat.le_of_ble_eq_true rfl) (Exists.intro 0 (Exists.intro 0 (And.intro (Or.inl rfl) (And.intro (Or.inl rfl) (t.1 u53)))))))) (fun u53 => (t.2 u53)))
theorem g_x7_readOne_103 {d : Nat} {B : Nat × Nat} {Q : zQ} {c : Nat × Nat × Nat} {I : Nat → Nat → Int} {g : Nat} {x1 : Int}
    (t : zcl d 47 0 0 [zr 62, zi 41] (c, I, zRg g) (fun v h1 => zRn (zcl d) 45 B Q 109 [some (zr 62), some (zi x1)] (zva v []) h1)) :
    zRn (zcl d) 45 B Q 103 [some (zr 62), some (zi x1)] [] (c, I, zRg g) :=
  zgo [34, 38, 55, 66, 75, 92, 103, 109, 116] 2 (Exists.intro 47 (And.intro rfl (And.intro (Nat.le_of_ble_eq_true rfl) (Exists.intro 0 (Exists.intro 0 (And.intro (Or.inl rfl) (And.intro (Or.inl rfl) t)))))))
theorem g_x7_readOne_109 {d : Nat} {B : Nat × Nat} {Q : zQ} {c : Nat × Nat × Nat} {I : Nat → Nat → Int} {g : Nat} {x1 : Int}
    (t : zRn (zcl d) 45 B Q 116 [some (zr 62), some (zi x1)] [] (c, I, zRg g)) :
    zRn (zcl d) 45 B Q 109 [some (zr 62), some (zi x1)] [] (c, I, zRg g) :=
  zgo [34, 38, 55, 66, 75, 92, 103, 109, 116] 1 (t)
theorem g_x7_readOne_116 {d : Nat} {B : Nat × Nat} {Q : zQ} {c : Nat × Nat × Nat} {I : Nat → Nat → Int} {g : Nat} {x1 : Int}
    (t : Q none (c, I, zRg g)) :
    zRn (zcl d) 45 B Q 116 [some (zr 62), some (zi x1)] [] (c, I, zRg g) :=
  zgo [34, 38, 55, 66, 75, 92, 103, 109, 116] 0 (t)
theorem g_x7_opens_0 {d : Nat} {B : Nat × Nat} {Q : zQ} {c : Nat × Nat × Nat} {I : Nat → Nat → Int} {g : Nat} {x1 : Int}
    (t : (x1 < 5 → (zcl d 49 0 0 [zr 62] (c, I, zRg g) (fun v h1 => zRn (zcl d) 46 B Q 15 [some (zr 62), some (zi x1)] (zva v []) h1))) ∧ (¬ (x1 < 5) → (zcl d 48 0 0 [zr 62] (c, I, zRg g) (fun v h1 => zRn (zcl d) 46 B Q 9 [some (zr 62), some (zi x1)] (zva v []) h1)))) :
    zRn (zcl d) 46 B Q 0 [some (zr 62), some (zi x1)] [] (c, I, zRg g) :=
  zgo [9, 15] 4 (And.intro (fun u55 => Exists.intro 49 (And.intro rfl (And.intro (Nat.le_of_ble_eq_true rfl) (Exists.intro 0 (Exists.intro 0 (And.intro (Or.inl rfl) (And.intro (Or.inl rfl) (t.1 u55)))))))) (fun u55 => Exists.intro 48 (And.intro rfl (And.intro (Nat.le_of_ble_eq_true rfl) (Exists.intro 0 (Exists.intro 0 (And.intro (Or.inl rfl) (And.intro (Or.inl rfl) (t.2 u55)))))))))
theorem g_x7_opens_9 {d : Nat} {B : Nat × Nat} {Q : zQ} {c : Nat × Nat × Nat} {I : Nat → Nat → Int} {g : Nat} {x1 : Int}
    (t : Q (some (zi 0)) (c, I, zRg g)) :
    zRn (zcl d) 46 B Q 9 [some (zr 62), some (zi x1)] [] (c, I, zRg g) :=
  zgo [9, 15] 1 (And.intro (Or.inl rfl) t)
theorem g_x7_opens_15 {d : Nat} {B : Nat × Nat} {Q : zQ} {c : Nat × Nat × Nat} {I : Nat → Nat → Int} {g : Nat} {x1 : Int}
    (t : Q (some (zi 1)) (c, I, zRg g)) :
    zRn (zcl d) 46 B Q 15 [some (zr 62), some (zi x1)] [] (c, I, zRg g) :=
  zgo [9, 15] 1 (And.intro (Or.inr rfl) t)
theorem g_x7_expect_0 {d : Nat} {B : Nat × Nat} {Q : zQ} {c : Nat × Nat × Nat} {I : Nat → Nat → Int} {g : Nat} {x1 : Int}
    (t : (I 62 7 ≠ x1 → (zcl d 48 0 0 [zr 62] (c, I, zRg g) (fun v h1 => zRn (zcl d) 47 B Q 19 [some (zr 62), some (zi x1)] (zva v []) h1))) ∧ (¬ (I 62 7 ≠ x1) → (zcl d 49 0 0 [zr 62] (c, I, zRg g) (fun v h1 => zRn (zcl d) 47 B Q 12 [some (zr 62), some (zi x1)] (zva v []) h1)))) :
    zRn (zcl d) 47 B Q 0 [some (zr 62), some (zi x1)] [] (c, I, zRg g) :=
  zgo [12, 19] 5 (And.intro rfl (And.intro (fun u56 => Exists.intro 48 (And.intro rfl (And.intro (Nat.le_of_ble_eq_true rfl) (Exists.intro 0 (Exists.intro 0 (And.intro (Or.inl rfl) (And.intro (Or.inl rfl) (t.1 u56)))))))) (fun u56 => Exists.intro 49 (And.intro rfl (And.intro (Nat.le_of_ble_eq_true rfl) (Exists.intro 0 (Exists.intro 0 (And.intro (Or.inl rfl) (And.intro (Or.inl rfl) (t.2 u56))))))))))
theorem g_x7_expect_12 {d : Nat} {B : Nat × Nat} {Q : zQ} {c : Nat × Nat × Nat} {I : Nat → Nat → Int} {g : Nat} {x1 : Int}
    (t : zRn (zcl d) 47 B Q 19 [some (zr 62), some (zi x1)] [] (c, I, zRg g)) :
    zRn (zcl d) 47 B Q 12 [some (zr 62), some (zi x1)] [] (c, I, zRg g) :=
  zgo [12, 19] 1 (t)
theorem g_x7_expect_19 {d : Nat} {B : Nat × Nat} {Q : zQ} {c : Nat × Nat × Nat} {I : Nat → Nat → Int} {g : Nat} {x1 : Int}
    (t : Q none (c, I, zRg g)) :
    zRn (zcl d) 47 B Q 19 [some (zr 62), some (zi x1)] [] (c, I, zRg g) :=
  zgo [12, 19] 0 (t)
theorem g_x7_fail_0 {d : Nat} {B : Nat × Nat} {Q : zQ} {c : Nat × Nat × Nat} {I : Nat → Nat → Int} {g : Nat}
    (t : (I 62 8 ≠ (-1) → (Q none (c, (z2 I 62 7 (-2)), zRg g))) ∧ (¬ (I 62 8 ≠ (-1)) → ((0 ≤ I 62 6 ∧ I 62 6 < 161) ∧ (Q none (c, (z2 (z2 I 62 8 (I 66 ((I 62 6).toNat))) 62 7 (-2)), zRg g))))) :
    zRn (zcl d) 48 B Q 0 [some (zr 62)] [] (c, I, zRg g) :=
  zgo [] 14 (And.intro rfl (And.intro (fun u57 => And.intro rfl (t.1 u57)) (fun u57 => And.intro rfl (Exists.intro (some 66) (And.intro rfl (And.intro rfl (And.intro rfl (And.intro (t.2 u57).1 (And.intro rfl (And.intro rfl ((t.2 u57).2)))))))))))
theorem g_x7_advance_0 {d : Nat} {B : Nat × Nat} {Q : zQ} {c : Nat × Nat × Nat} {I : Nat → Nat → Int} {g : Nat}
    (t : (I 62 8 ≠ (-1) → (Q none (c, I, zRg g))) ∧ (¬ (I 62 8 ≠ (-1)) → ((zwr ((I 62 6) + 1) < I 62 5 → ((0 ≤ (zwr ((I 62 6) + 1)) ∧ (zwr ((I 62 6) + 1)) < 161) ∧ (Q none (c, (z2 (z2 I 62 6 (zwr ((I 62 6) + 1))) 62 7 ((z2 I 62 6 (zwr ((I 62 6) + 1))) 64 ((zwr ((I 62 6) + 1)).toNat))), zRg g)))) ∧ (¬ (zwr ((I 62 6) + 1) < I 62 5) → (Q none (c, I, zRg g)))))) :
    zRn (zcl d) 49 B Q 0 [some (zr 62)] [] (c, I, zRg g) :=
  zgo [] 24 (And.intro rfl (And.intro (fun u58 => (t.1 u58)) (fun u58 => And.intro rfl (And.intro rfl (And.intro (fun u59 => And.intro rfl (And.intro rfl (And.intro rfl (Exists.intro (some 64) (And.intro rfl (And.intro rfl (And.intro rfl (And.intro ((t.2 u58).1 u59).1 (And.intro rfl (((t.2 u58).1 u59).2)))))))))) (fun u59 => ((t.2 u58).2 u59)))))))
theorem g_x7_split_0 {d : Nat} {B : Nat × Nat} {Q : zQ} {c : Nat × Nat × Nat} {I : Nat → Nat → Int} {g : Nat}
    (t : zRn (zcl d) 50 B Q 7 [some (zr 62), some (zi 0), none] [] (c, (z2 I 62 5 0), zRg g)) :
    zRn (zcl d) 50 B Q 0 [some (zr 62), none, none] [] (c, I, zRg g) :=
  zgo [7, 61, 64, 78] 5 (And.intro rfl t)
theorem g_x7_split_7 {d : Nat} {B : Nat × Nat} {Q : zQ} {c : Nat × Nat × Nat} {I : Nat → Nat → Int} {g : Nat} {x1 : Int}
    (t : (I 62 1 ≤ x1 → (zcl d 51 0 0 [zr 62, zi (-1), zi 0, zi (I 62 1)] (c, I, zRg g) (fun v h1 => zRn (zcl d) 50 B Q 78 [some (zr 62), some (zi x1), none] (zva v []) h1))) ∧ (¬ (I 62 1 ≤ x1) → ((0 ≤ x1 ∧ x1 < 160) ∧ ((I 63 x1.toNat = 32 → (zRn (zcl d) 50 B Q 64 [some (zr 62), some (zi x1), some (zi 1)] [zi (zwr (x1 + 1))] (c, I, zRg g))) ∧ (¬ (I 63 x1.toNat = 32) → ((0 ≤ x1 ∧ x1 < 160) ∧ ((I 63 x1.toNat ≠ 10 → (zcl d 52 0 0 [zr 62, zi x1] (c, I, zRg g) (fun v h1 => zRn (zcl d) 50 B Q 61 [some (zr 62), some (zi x1), some (zi 0)] (zva v [zi (zwr (x1 + 1))]) h1))) ∧ (¬ (I 63 x1.toNat ≠ 10) → (zRn (zcl d) 50 B Q 64 [some (zr 62), some (zi x1), some (zi 1)] [zi (zwr (x1 + 1))] (c, I, zRg g)))))))))) :
    zRn (zcl d) 50 B Q 7 [some (zr 62), some (zi x1), none] [] (c, I, zRg g) :=
  zgo [7, 61, 64, 78] 25 (And.intro rfl (And.intro (fun u60 => And.intro rfl (Exists.intro 51 (And.intro rfl (And.intro (Nat.le_of_ble_eq_true rfl) (Exists.intro 0 (Exists.intro 0 (And.intro (Or.inl rfl) (And.intro (Or.inl rfl) (t.1 u60))))))))) (fun u60 => And.intro rfl (Exists.intro (some 63) (And.intro rfl (And.intro rfl (And.intro (t.2 u60).1 (And.intro (fun u61 => And.intro (fun n => absurd n (by decide)) (fun _ => ((t.2 u60).2.1 u61))) (fun u61 => And.intro rfl (Exists.intro (some 63) (And.intro rfl (And.intro rfl (And.intro ((t.2 u60).2.2 u61).1 (And.intro (fun u62 => And.intro (fun _ => Exists.intro 52 (And.intro rfl (And.intro (Nat.le_of_ble_eq_true rfl) (Exists.intro 0 (Exists.intro 0 (And.intro (Or.inl rfl) (And.intro (Or.inl rfl) (((t.2 u60).2.2 u61).2.1 u62)))))))) (fun n => absurd (by decide) n)) (fun u62 => And.intro (fun n => absurd n (by decide)) (fun _ => (((t.2 u60).2.2 u61).2.2 u62)))))))))))))))))
theorem g_x7_split_61 {d : Nat} {B : Nat × Nat} {Q : zQ} {c : Nat × Nat × Nat} {I : Nat → Nat → Int} {g : Nat} {x1 x2 s0 s1 : Int}
    (t : zcl d 203 0 0 [zi s1, zi s0] (c, I, zRg g) (fun v h1 => zRn (zcl d) 50 B Q 64 [some (zr 62), some (zi x1), some (zi x2)] (zva v []) h1)) :
    zRn (zcl d) 50 B Q 61 [some (zr 62), some (zi x1), some (zi x2)] [zi s0, zi s1] (c, I, zRg g) :=
  zgo [7, 61, 64, 78] 0 (And.intro (Nat.le_of_ble_eq_true rfl) (Exists.intro 0 (Exists.intro 0 (And.intro (Or.inl rfl) (And.intro (Or.inl rfl) t)))))
theorem g_x7_split_64 {d : Nat} {B : Nat × Nat} {Q : zQ} {c : Nat × Nat × Nat} {I : Nat → Nat → Int} {g : Nat} {x1 x2 s0 : Int}
    (t : zRn (zcl d) 50 B Q 7 [some (zr 62), some (zi s0), some (zi x2)] [] (c, I, zRg g)) :
    zRn (zcl d) 50 B Q 64 [some (zr 62), some (zi x1), some (zi x2)] [zi s0] (c, I, zRg g) :=
  zgo [7, 61, 64, 78] 2 (t)
theorem g_x7_split_78 {d : Nat} {B : Nat × Nat} {Q : zQ} {c : Nat × Nat × Nat} {I : Nat → Nat → Int} {g : Nat} {x1 : Int}
    (t : Q none (c, I, zRg g)) :
    zRn (zcl d) 50 B Q 78 [some (zr 62), some (zi x1), none] [] (c, I, zRg g) :=
  zgo [7, 61, 64, 78] 0 (t)
theorem g_x7_addToken_0 {d : Nat} {B : Nat × Nat} {Q : zQ} {c : Nat × Nat × Nat} {I : Nat → Nat → Int} {g : Nat} {x1 x2 x3 : Int}
    (t : (I 62 5 < 161 → ((0 ≤ I 62 5 ∧ I 62 5 < 161) ∧ ((0 ≤ (z2 I 64 (I 62 5).toNat x1) 62 5 ∧ (z2 I 64 (I 62 5).toNat x1) 62 5 < 161) ∧ ((0 ≤ (z2 (z2 I 64 (I 62 5).toNat x1) 65 ((z2 I 64 (I 62 5).toNat x1) 62 5).toNat x2) 62 5 ∧ (z2 (z2 I 64 (I 62 5).toNat x1) 65 ((z2 I 64 (I 62 5).toNat x1) 62 5).toNat x2) 62 5 < 161) ∧ (Q none (c, (z2 (z2 (z2 (z2 I 64 (I 62 5).toNat x1) 65 ((z2 I 64 (I 62 5).toNat x1) 62 5).toNat x2) 66 ((z2 (z2 I 64 (I 62 5).toNat x1) 65 ((z2 I 64 (I 62 5).toNat x1) 62 5).toNat x2) 62 5).toNat x3) 62 5 (zwr (((z2 (z2 (z2 I 64 (I 62 5).toNat x1) 65 ((z2 I 64 (I 62 5).toNat x1) 62 5).toNat x2) 66 ((z2 (z2 I 64 (I 62 5).toNat x1) 65 ((z2 I 64 (I 62 5).toNat x1) 62 5).toNat x2) 62 5).toNat x3) 62 5) + 1))), zRg g)))))) ∧ (¬ (I 62 5 < 161) → (Q none (c, I, zRg g)))) :
    zRn (zcl d) 51 B Q 0 [some (zr 62), some (zi x1), some (zi x2), some (zi x3)] [] (c, I, zRg g) :=
  zgo [] 30 (And.intro rfl (And.intro rfl (Exists.intro (some 64) (And.intro rfl (And.intro (by decide) (And.intro (fun u63 => And.intro rfl (Exists.intro (some 64) (And.intro rfl (And.intro rfl (And.intro rfl (And.intro (t.1 u63).1 (And.intro rfl (Exists.intro (some 65) (And.intro rfl (And.intro rfl (And.intro rfl (And.intro (t.1 u63).2.1 (And.intro rfl (Exists.intro (some 66) (And.intro rfl (And.intro rfl (And.intro rfl (And.intro (t.1 u63).2.2.1 (And.intro rfl (And.intro rfl ((t.1 u63).2.2.2))))))))))))))))))))) (fun u63 => (t.2 u63))))))))
theorem g_x7_splitOff_0 {d : Nat} {B : Nat × Nat} {Q : zQ} {c : Nat × Nat × Nat} {I : Nat → Nat → Int} {g : Nat} {x1 : Int}
    (t : (0 ≤ x1 ∧ x1 < 160) ∧ ((I 63 x1.toNat < 97 → ((I 63 x1.toNat < 48 → (zcl d 55 0 0 [zi (I 63 x1.toNat)] (c, I, zRg g) (fun v h1 => zRn (zcl d) 52 B Q 48 [some (zr 62), some (zi x1), some (zi (I 63 x1.toNat))] (zva v [zr 62]) h1))) ∧ (¬ (I 63 x1.toNat < 48) → ((57 < I 63 x1.toNat → (zcl d 55 0 0 [zi (I 63 x1.toNat)] (c, I, zRg g) (fun v h1 => zRn (zcl d) 52 B Q 48 [some (zr 62), some (zi x1), some (zi (I 63 x1.toNat))] (zva v [zr 62]) h1))) ∧ (¬ (57 < I 63 x1.toNat) → (zcl d 54 0 0 [zr 62, zi x1] (c, I, zRg g) (fun v h1 => zRn (zcl d) 52 B Q 42 [some (zr 62), some (zi x1), some (zi (I 63 x1.toNat))] (zva v []) h1))))))) ∧ (¬ (I 63 x1.toNat < 97) → ((122 < I 63 x1.toNat → ((I 63 x1.toNat < 48 → (zcl d 55 0 0 [zi (I 63 x1.toNat)] (c, I, zRg g) (fun v h1 => zRn (zcl d) 52 B Q 48 [some (zr 62), some (zi x1), some (zi (I 63 x1.toNat))] (zva v [zr 62]) h1))) ∧ (¬ (I 63 x1.toNat < 48) → ((57 < I 63 x1.toNat → (zcl d 55 0 0 [zi (I 63 x1.toNat)] (c, I, zRg g) (fun v h1 => zRn (zcl d) 52 B Q 48 [some (zr 62), some (zi x1), some (zi (I 63 x1.toNat))] (zva v [zr 62]) h1))) ∧ (¬ (57 < I 63 x1.toNat) → (zcl d 54 0 0 [zr 62, zi x1] (c, I, zRg g) (fun v h1 => zRn (zcl d) 52 B Q 42 [some (zr 62), some (zi x1), some (zi (I 63 x1.toNat))] (zva v []) h1))))))) ∧ (¬ (122 < I 63 x1.toNat) → (zcl d 53 0 0 [zr 62, zi x1] (c, I, zRg g) (fun v h1 => zRn (zcl d) 52 B Q 24 [some (zr 62), some (zi x1), some (zi (I 63 x1.toNat))] (zva v []) h1))))))) :
    zRn (zcl d) 52 B Q 0 [some (zr 62), some (zi x1), none] [] (c, I, zRg g) :=
  zgo [24, 42, 48, 62] 19 (And.intro rfl (Exists.intro (some 63) (And.intro rfl (And.intro rfl (And.intro t.1 (And.intro (fun u64 => And.intro (fun u65 => And.intro (Nat.le_of_ble_eq_true rfl) (Exists.intro 0 (Exists.intro 0 (And.intro (Or.inl rfl) (And.intro (Or.inl rfl) ((t.2.1 u64).1 u65)))))) (fun u65 => And.intro (fun u66 => And.intro (Nat.le_of_ble_eq_true rfl) (Exists.intro 0 (Exists.intro 0 (And.intro (Or.inl rfl) (And.intro (Or.inl rfl) (((t.2.1 u64).2 u65).1 u66)))))) (fun u66 => Exists.intro 54 (And.intro rfl (And.intro (Nat.le_of_ble_eq_true rfl) (Exists.intro 0 (Exists.intro 0 (And.intro (Or.inl rfl) (And.intro (Or.inl rfl) (((t.2.1 u64).2 u65).2 u66)))))))))) (fun u64 => And.intro (fun u67 => And.intro (fun u68 => And.intro (Nat.le_of_ble_eq_true rfl) (Exists.intro 0 (Exists.intro 0 (And.intro (Or.inl rfl) (And.intro (Or.inl rfl) (((t.2.2 u64).1 u67).1 u68)))))) (fun u68 => And.intro (fun u69 => And.intro (Nat.le_of_ble_eq_true rfl) (Exists.intro 0 (Exists.intro 0 (And.intro (Or.inl rfl) (And.intro (Or.inl rfl) ((((t.2.2 u64).1 u67).2 u68).1 u69)))))) (fun u69 => Exists.intro 54 (And.intro rfl (And.intro (Nat.le_of_ble_eq_true rfl) (Exists.intro 0 (Exists.intro 0 (And.intro (Or.inl rfl) (And.intro (Or.inl rfl) ((((t.2.2 u64).1 u67).2 u68).2 u69)))))))))) (fun u67 => Exists.intro 53 (And.intro rfl (And.intro (Nat.le_of_ble_eq_true rfl) (Exists.intro 0 (Exists.intro 0 (And.intro (Or.inl rfl) (And.intro (Or.inl rfl) ((t.2.2 u64).2 u67)))))))))))))))
theorem g_x7_splitOff_24 {d : Nat} {B : Nat × Nat} {Q : zQ} {c : Nat × Nat × Nat} {I : Nat → Nat → Int} {g : Nat} {x1 x2 s0 : Int}
    (t : Q (some (zi s0)) (c, I, zRg g)) :
    zRn (zcl d) 52 B Q 24 [some (zr 62), some (zi x1), some (zi x2)] [zi s0] (c, I, zRg g) :=
  zgo [24, 42, 48, 62] 0 (t)
theorem g_x7_splitOff_42 {d : Nat} {B : Nat × Nat} {Q : zQ} {c : Nat × Nat × Nat} {I : Nat → Nat → Int} {g : Nat} {x1 x2 s0 : Int}
    (t : Q (some (zi s0)) (c, I, zRg g)) :
    zRn (zcl d) 52 B Q 42 [some (zr 62), some (zi x1), some (zi x2)] [zi s0] (c, I, zRg g) :=
  zgo [24, 42, 48, 62] 0 (t)
theorem g_x7_splitOff_48 {d : Nat} {B : Nat × Nat} {Q : zQ} {c : Nat × Nat × Nat} {I : Nat → Nat → Int} {g : Nat} {x1 x2 s0 : Int}
    (t : (s0 = 0 → (zcl d 51 0 0 [zr 62, zi (-2), zi 0, zi x1] (c, I, zRg g) (fun v h1 => zRn (zcl d) 52 B Q 62 [some (zr 62), some (zi x1), some (zi x2)] (zva v []) h1))) ∧ (¬ (s0 = 0) → (zcl d 51 0 0 [zr 62, zi x2, zi 0, zi x1] (c, I, zRg g) (fun v h1 => zRn (zcl d) 52 B Q 62 [some (zr 62), some (zi x1), some (zi x2)] (zva v []) h1)))) :
    zRn (zcl d) 52 B Q 48 [some (zr 62), some (zi x1), some (zi x2)] [zi s0, zr 62] (c, I, zRg g) :=
  zgo [24, 42, 48, 62] 5 (And.intro (fun u70 => Exists.intro 51 (And.intro rfl (And.intro (Nat.le_of_ble_eq_true rfl) (Exists.intro 0 (Exists.intro 0 (And.intro (Or.inl rfl) (And.intro (Or.inl rfl) (t.1 u70)))))))) (fun u70 => Exists.intro 51 (And.intro rfl (And.intro (Nat.le_of_ble_eq_true rfl) (Exists.intro 0 (Exists.intro 0 (And.intro (Or.inl rfl) (And.intro (Or.inl rfl) (t.2 u70)))))))))
theorem g_x7_splitOff_62 {d : Nat} {B : Nat × Nat} {Q : zQ} {c : Nat × Nat × Nat} {I : Nat → Nat → Int} {g : Nat} {x1 x2 : Int}
    (t : Q (some (zi (zwr (x1 + 1)))) (c, I, zRg g)) :
    zRn (zcl d) 52 B Q 62 [some (zr 62), some (zi x1), some (zi x2)] [] (c, I, zRg g) :=
  zgo [24, 42, 48, 62] 3 (t)
theorem g_x7_splitWord_0 {d : Nat} {B : Nat × Nat} {Q : zQ} {c : Nat × Nat × Nat} {I : Nat → Nat → Int} {g : Nat} {x1 : Int}
    (t : zRn (zcl d) 53 B Q 2 [some (zr 62), some (zi x1), some (zi x1), none] [] (c, I, zRg g)) :
    zRn (zcl d) 53 B Q 0 [some (zr 62), some (zi x1), none, none] [] (c, I, zRg g) :=
  zgo [2, 44, 61, 66] 2 (t)
theorem g_x7_splitWord_2 {d : Nat} {B : Nat × Nat} {Q : zQ} {c : Nat × Nat × Nat} {I : Nat → Nat → Int} {g : Nat} {x1 x2 : Int}
    (t : (I 62 1 ≤ x2 → (zcl d 56 0 0 [zr 62, zi x1, zi x2] (c, I, zRg g) (fun v h1 => zRn (zcl d) 53 B Q 44 [some (zr 62), some (zi x1), some (zi x2), none] (zva v []) h1))) ∧ (¬ (I 62 1 ≤ x2) → ((0 ≤ x2 ∧ x2 < 160) ∧ ((I 63 x2.toNat < 97 → (zcl d 56 0 0 [zr 62, zi x1, zi x2] (c, I, zRg g) (fun v h1 => zRn (zcl d) 53 B Q 44 [some (zr 62), some (zi x1), some (zi x2), none] (zva v []) h1))) ∧ (¬ (I 63 x2.toNat < 97) → ((0 ≤ x2 ∧ x2 < 160) ∧ ((122 < I 63 x2.toNat → (zcl d 56 0 0 [zr 62, zi x1, zi x2] (c, I, zRg g) (fun v h1 => zRn (zcl d) 53 B Q 44 [some (zr 62), some (zi x1), some (zi x2), none] (zva v []) h1))) ∧ (¬ (122 < I 63 x2.toNat) → (zRn (zcl d) 53 B Q 2 [some (zr 62), some (zi x1), some (zi (zwr (x2 + 1))), none] [] (c, I, zRg g)))))))))) :
    zRn (zcl d) 53 B Q 2 [some (zr 62), some (zi x1), some (zi x2), none] [] (c, I, zRg g) :=
  zgo [2, 44, 61, 66] 19 (And.intro rfl (And.intro (fun u71 => Exists.intro 56 (And.intro rfl (And.intro (Nat.le_of_ble_eq_true rfl) (Exists.intro 0 (Exists.intro 0 (And.intro (Or.inl rfl) (And.intro (Or.inl rfl) (t.1 u71)))))))) (fun u71 => And.intro rfl (Exists.intro (some 63) (And.intro rfl (And.intro rfl (And.intro (t.2 u71).1 (And.intro (fun u72 => Exists.intro 56 (And.intro rfl (And.intro (Nat.le_of_ble_eq_true rfl) (Exists.intro 0 (Exists.intro 0 (And.intro (Or.inl rfl) (And.intro (Or.inl rfl) ((t.2 u71).2.1 u72)))))))) (fun u72 => And.intro rfl (Exists.intro (some 63) (And.intro rfl (And.intro rfl (And.intro ((t.2 u71).2.2 u72).1 (And.intro (fun u73 => Exists.intro 56 (And.intro rfl (And.intro (Nat.le_of_ble_eq_true rfl) (Exists.intro 0 (Exists.intro 0 (And.intro (Or.inl rfl) (And.intro (Or.inl rfl) (((t.2 u71).2.2 u72).2.1 u73)))))))) (fun u73 => (((t.2 u71).2.2 u72).2.2 u73))))))))))))))))
theorem g_x7_splitWord_44 {d : Nat} {B : Nat × Nat} {Q : zQ} {c : Nat × Nat × Nat} {I : Nat → Nat → Int} {g : Nat} {x1 x2 s0 : Int}
    (t : (s0 = 0 → (zcl d 57 0 0 [zr 62, zi x1, zi x2] (c, I, zRg g) (fun v h1 => zRn (zcl d) 53 B Q 61 [some (zr 62), some (zi x1), some (zi x2), some (zi s0)] (zva v [zr 62]) h1))) ∧ (¬ (s0 = 0) → (zRn (zcl d) 53 B Q 61 [some (zr 62), some (zi x1), some (zi x2), some (zi s0)] [zi (-4), zr 62] (c, I, zRg g)))) :
    zRn (zcl d) 53 B Q 44 [some (zr 62), some (zi x1), some (zi x2), none] [zi s0] (c, I, zRg g) :=
  zgo [2, 44, 61, 66] 7 (And.intro (fun u74 => Exists.intro 57 (And.intro rfl (And.intro (Nat.le_of_ble_eq_true rfl) (Exists.intro 0 (Exists.intro 0 (And.intro (Or.inl rfl) (And.intro (Or.inl rfl) (t.1 u74)))))))) (fun u74 => (t.2 u74)))
theorem g_x7_splitWord_61 {d : Nat} {B : Nat × Nat} {Q : zQ} {c : Nat × Nat × Nat} {I : Nat → Nat → Int} {g : Nat} {x1 x2 x3 s0 : Int}
    (t : zcl d 51 0 0 [zr 62, zi s0, zi x3, zi x1] (c, I, zRg g) (fun v h1 => zRn (zcl d) 53 B Q 66 [some (zr 62), some (zi x1), some (zi x2), some (zi x3)] (zva v []) h1)) :
    zRn (zcl d) 53 B Q 61 [some (zr 62), some (zi x1), some (zi x2), some (zi x3)] [zi s0, zr 62] (c, I, zRg g) :=
  zgo [2, 44, 61, 66] 2 (Exists.intro 51 (And.intro rfl (And.intro (Nat.le_of_ble_eq_true rfl) (Exists.intro 0 (Exists.intro 0 (And.intro (Or.inl rfl) (And.intro (Or.inl rfl) t)))))))
theorem g_x7_splitWord_66 {d : Nat} {B : Nat × Nat} {Q : zQ} {c : Nat × Nat × Nat} {I : Nat → Nat → Int} {g : Nat} {x1 x2 x3 : Int}
    (t : Q (some (zi x2)) (c, I, zRg g)) :
    zRn (zcl d) 53 B Q 66 [some (zr 62), some (zi x1), some (zi x2), some (zi x3)] [] (c, I, zRg g) :=
  zgo [2, 44, 61, 66] 1 (t)
theorem g_x7_splitNumber_0 {d : Nat} {B : Nat × Nat} {Q : zQ} {c : Nat × Nat × Nat} {I : Nat → Nat → Int} {g : Nat} {x1 : Int}
    (t : zRn (zcl d) 54 B Q 4 [some (zr 62), some (zi x1), some (zi x1), some (zi 0)] [] (c, I, zRg g)) :
    zRn (zcl d) 54 B Q 0 [some (zr 62), some (zi x1), none, none] [] (c, I, zRg g) :=
  zgo [4, 75] 4 (t)
theorem g_x7_splitNumber_4 {d : Nat} {B : Nat × Nat} {Q : zQ} {c : Nat × Nat × Nat} {I : Nat → Nat → Int} {g : Nat} {x1 x2 x3 : Int}
    (t : (I 62 1 ≤ x2 → ((4 < zwr (x2 - x1) → (zcl d 51 0 0 [zr 62, zi (-2), zi x3, zi x1] (c, I, zRg g) (fun v h1 => zRn (zcl d) 54 B Q 75 [some (zr 62), some (zi x1), some (zi x2), some (zi x3)] (zva v []) h1))) ∧ (¬ (4 < zwr (x2 - x1)) → (zcl d 51 0 0 [zr 62, zi (-3), zi x3, zi x1] (c, I, zRg g) (fun v h1 => zRn (zcl d) 54 B Q 75 [some (zr 62), some (zi x1), some (zi x2), some (zi x3)] (zva v []) h1))))) ∧ (¬ (I 62 1 ≤ x2) → ((0 ≤ x2 ∧ x2 < 160) ∧ ((I 63 x2.toNat < 48 → ((4 < zwr (x2 - x1) → (zcl d 51 0 0 [zr 62, zi (-2), zi x3, zi x1] (c, I, zRg g) (fun v h1 => zRn (zcl d) 54 B Q 75 [some (zr 62), some (zi x1), some (zi x2), some (zi x3)] (zva v []) h1))) ∧ (¬ (4 < zwr (x2 - x1)) → (zcl d 51 0 0 [zr 62, zi (-3), zi x3, zi x1] (c, I, zRg g) (fun v h1 => zRn (zcl d) 54 B Q 75 [some (zr 62), some (zi x1), some (zi x2), some (zi x3)] (zva v []) h1))))) ∧ (¬ (I 63 x2.toNat < 48) → ((0 ≤ x2 ∧ x2 < 160) ∧ ((57 < I 63 x2.toNat → ((4 < zwr (x2 - x1) → (zcl d 51 0 0 [zr 62, zi (-2), zi x3, zi x1] (c, I, zRg g) (fun v h1 => zRn (zcl d) 54 B Q 75 [some (zr 62), some (zi x1), some (zi x2), some (zi x3)] (zva v []) h1))) ∧ (¬ (4 < zwr (x2 - x1)) → (zcl d 51 0 0 [zr 62, zi (-3), zi x3, zi x1] (c, I, zRg g) (fun v h1 => zRn (zcl d) 54 B Q 75 [some (zr 62), some (zi x1), some (zi x2), some (zi x3)] (zva v []) h1))))) ∧ (¬ (57 < I 63 x2.toNat) → ((0 ≤ x2 ∧ x2 < 160) ∧ (zRn (zcl d) 54 B Q 4 [some (zr 62), some (zi x1), some (zi (zwr (x2 + 1))), some (zi (zwr ((zwr ((zwr (x3 * 10)) + (I 63 x2.toNat))) - 48)))] [] (c, I, zRg g))))))))))) :
    zRn (zcl d) 54 B Q 4 [some (zr 62), some (zi x1), some (zi x2), some (zi x3)] [] (c, I, zRg g) :=
  zgo [4, 75] 29 (And.intro rfl (And.intro (fun u75 => And.intro (fun u76 => Exists.intro 51 (And.intro rfl (And.intro (Nat.le_of_ble_eq_true rfl) (Exists.intro 0 (Exists.intro 0 (And.intro (Or.inl rfl) (And.intro (Or.inl rfl) ((t.1 u75).1 u76)))))))) (fun u76 => Exists.intro 51 (And.intro rfl (And.intro (Nat.le_of_ble_eq_true rfl) (Exists.intro 0 (Exists.intro 0 (And.intro (Or.inl rfl) (And.intro (Or.inl rfl) ((t.1 u75).2 u76))))))))) (fun u75 => And.intro rfl (Exists.intro (some 63) (And.intro rfl (And.intro rfl (And.intro (t.2 u75).1 (And.intro (fun u77 => And.intro (fun u78 => Exists.intro 51 (And.intro rfl (And.intro (Nat.le_of_ble_eq_true rfl) (Exists.intro 0 (Exists.intro 0 (And.intro (Or.inl rfl) (And.intro (Or.inl rfl) (((t.2 u75).2.1 u77).1 u78)))))))) (fun u78 => Exists.intro 51 (And.intro rfl (And.intro (Nat.le_of_ble_eq_true rfl) (Exists.intro 0 (Exists.intro 0 (And.intro (Or.inl rfl) (And.intro (Or.inl rfl) (((t.2 u75).2.1 u77).2 u78))))))))) (fun u77 => And.intro rfl (Exists.intro (some 63) (And.intro rfl (And.intro rfl (And.intro ((t.2 u75).2.2 u77).1 (And.intro (fun u79 => And.intro (fun u80 => Exists.intro 51 (And.intro rfl (And.intro (Nat.le_of_ble_eq_true rfl) (Exists.intro 0 (Exists.intro 0 (And.intro (Or.inl rfl) (And.intro (Or.inl rfl) ((((t.2 u75).2.2 u77).2.1 u79).1 u80)))))))) (fun u80 => Exists.intro 51 (And.intro rfl (And.intro (Nat.le_of_ble_eq_true rfl) (Exists.intro 0 (Exists.intro 0 (And.intro (Or.inl rfl) (And.intro (Or.inl rfl) ((((t.2 u75).2.2 u77).2.1 u79).2 u80))))))))) (fun u79 => And.intro rfl (Exists.intro (some 63) (And.intro rfl (And.intro rfl (And.intro (((t.2 u75).2.2 u77).2.2 u79).1 ((((t.2 u75).2.2 u77).2.2 u79).2))))))))))))))))))))
theorem g_x7_splitNumber_75 {d : Nat} {B : Nat × Nat} {Q : zQ} {c : Nat × Nat × Nat} {I : Nat → Nat → Int} {g : Nat} {x1 x2 x3 : Int}
    (t : Q (some (zi x2)) (c, I, zRg g)) :
    zRn (zcl d) 54 B Q 75 [some (zr 62), some (zi x1), some (zi x2), some (zi x3)] [] (c, I, zRg g) :=
  zgo [4, 75] 1 (t)
theorem g_x7_isSign_0 {d : Nat} {B : Nat × Nat} {Q : zQ} {c : Nat × Nat × Nat} {I : Nat → Nat → Int} {g : Nat} {x0 : Int}
    (t : (x0 = 40 → (Q (some (zi 1)) (c, I, zRg g))) ∧ (¬ (x0 = 40) → ((x0 = 41 → (Q (some (zi 1)) (c, I, zRg g))) ∧ (¬ (x0 = 41) → ((x0 = 42 → (Q (some (zi 1)) (c, I, zRg g))) ∧ (¬ (x0 = 42) → ((x0 = 43 → (Q (some (zi 1)) (c, I, zRg g))) ∧ (¬ (x0 = 43) → ((x0 = 44 → (Q (some (zi 0)) (c, I, zRg g))) ∧ (¬ (x0 = 44) → ((x0 = 45 → (Q (some (zi 1)) (c, I, zRg g))) ∧ (¬ (x0 = 45) → ((x0 = 46 → (Q (some (zi 0)) (c, I, zRg g))) ∧ (¬ (x0 = 46) → ((x0 = 47 → (Q (some (zi 0)) (c, I, zRg g))) ∧ (¬ (x0 = 47) → ((x0 = 48 → (Q (some (zi 0)) (c, I, zRg g))) ∧ (¬ (x0 = 48) → ((x0 = 49 → (Q (some (zi 0)) (c, I, zRg g))) ∧ (¬ (x0 = 49) → ((x0 = 50 → (Q (some (zi 0)) (c, I, zRg g))) ∧ (¬ (x0 = 50) → ((x0 = 51 → (Q (some (zi 0)) (c, I, zRg g))) ∧ (¬ (x0 = 51) → ((x0 = 52 → (Q (some (zi 0)) (c, I, zRg g))) ∧ (¬ (x0 = 52) → ((x0 = 53 → (Q (some (zi 0)) (c, I, zRg g))) ∧ (¬ (x0 = 53) → ((x0 = 54 → (Q (some (zi 0)) (c, I, zRg g))) ∧ (¬ (x0 = 54) → ((x0 = 55 → (Q (some (zi 0)) (c, I, zRg g))) ∧ (¬ (x0 = 55) → ((x0 = 56 → (Q (some (zi 0)) (c, I, zRg g))) ∧ (¬ (x0 = 56) → ((x0 = 57 → (Q (some (zi 0)) (c, I, zRg g))) ∧ (¬ (x0 = 57) → ((x0 = 58 → (Q (some (zi 0)) (c, I, zRg g))) ∧ (¬ (x0 = 58) → ((x0 = 59 → (Q (some (zi 1)) (c, I, zRg g))) ∧ (¬ (x0 = 59) → ((x0 = 60 → (Q (some (zi 1)) (c, I, zRg g))) ∧ (¬ (x0 = 60) → ((x0 = 61 → (Q (some (zi 1)) (c, I, zRg g))) ∧ (¬ (x0 = 61) → (Q (some (zi 0)) (c, I, zRg g)))))))))))))))))))))))))))))))))))))))))))))) :
    zRn (zcl d) 55 B Q 0 [some (zi x0)] [] (c, I, zRg g) :=
  zgo [] 3 (And.intro (fun u81 => And.intro (Or.inr rfl) (t.1 u81)) (fun u81 => And.intro (fun u82 => And.intro (Or.inr rfl) ((t.2 u81).1 u82)) (fun u82 => And.intro (fun u83 => And.intro (Or.inr rfl) (((t.2 u81).2 u82).1 u83)) (fun u83 => And.intro (fun u84 => And.intro (Or.inr rfl) ((((t.2 u81).2 u82).2 u83).1 u84)) (fun u84 => And.intro (fun u85 => And.intro (Or.inl rfl) (((((t.2 u81).2 u82).2 u83).2 u84).1 u85)) (fun u85 => And.intro (fun u86 => And.intro (Or.inr rfl) ((((((t.2 u81).2 u82).2 u83).2 u84).2 u85).1 u86)) (fun u86 => And.intro (fun u87 => And.intro (Or.inl rfl) (((((((t.2 u81).2 u82).2 u83).2 u84).2 u85).2 u86).1 u87)) (fun u87 => And.intro (fun u88 => And.intro (Or.inl rfl) ((((((((t.2 u81).2 u82).2 u83).2 u84).2 u85).2 u86).2 u87).1 u88)) (fun u88 => And.intro (fun u89 => And.intro (Or.inl rfl) (((((((((t.2 u81).2 u82).2 u83).2 u84).2 u85).2 u86).2 u87).2 u88).1 u89)) (fun u89 => And.intro (fun u90 => And.intro (Or.inl rfl) ((((((((((t.2 u81).2 u82).2 u83).2 u84).2 u85).2 u86).2 u87).2 u88).2 u89).1 u90)) (fun u90 => And.intro (fun u91 => And.intro (Or.inl rfl) (((((((((((t.2 u81).2 u82).2 u83).2 u84).2 u85).2 u86).2 u87).2 u88).2 u89).2 u90).1 u91)) (fun u91 => And.intro (fun u92 => And.intro (Or.inl rfl) ((((((((((((t.2 u81).2 u82).2 u83).2 u84).2 u85).2 u86).2 u87).2 u88).2 u89).2 u90).2 u91).1 u92)) (fun u92 => And.intro (fun u93 => And.intro (Or.inl rfl) (((((((((((((t.2 u81).2 u82).2 u83).2 u84).2 u85).2 u86).2 u87).2 u88).2 u89).2 u90).2 u91).2 u92).1 u93)) (fun u93 => And.intro (fun u94 => And.intro (Or.inl rfl) ((((((((((((((t.2 u81).2 u82).2 u83).2 u84).2 u85).2 u86).2 u87).2 u88).2 u89).2 u90).2 u91).2 u92).2 u93).1 u94)) (fun u94 => And.intro (fun u95 => And.intro (Or.inl rfl) (((((((((((((((t.2 u81).2 u82).2 u83).2 u84).2 u85).2 u86).2 u87).2 u88).2 u89).2 u90).2 u91).2 u92).2 u93).2 u94).1 u95)) (fun u95 => And.intro (fun u96 => And.intro (Or.inl rfl) ((((((((((((((((t.2 u81).2 u82).2 u83).2 u84).2 u85).2 u86).2 u87).2 u88).2 u89).2 u90).2 u91).2 u92).2 u93).2 u94).2 u95).1 u96)) (fun u96 => And.intro (fun u97 => And.intro (Or.inl rfl) (((((((((((((((((t.2 u81).2 u82).2 u83).2 u84).2 u85).2 u86).2 u87).2 u88).2 u89).2 u90).2 u91).2 u92).2 u93).2 u94).2 u95).2 u96).1 u97)) (fun u97 => And.intro (fun u98 => And.intro (Or.inl rfl) ((((((((((((((((((t.2 u81).2 u82).2 u83).2 u84).2 u85).2 u86).2 u87).2 u88).2 u89).2 u90).2 u91).2 u92).2 u93).2 u94).2 u95).2 u96).2 u97).1 u98)) (fun u98 => And.intro (fun u99 => And.intro (Or.inl rfl) (((((((((((((((((((t.2 u81).2 u82).2 u83).2 u84).2 u85).2 u86).2 u87).2 u88).2 u89).2 u90).2 u91).2 u92).2 u93).2 u94).2 u95).2 u96).2 u97).2 u98).1 u99)) (fun u99 => And.intro (fun u100 => And.intro (Or.inr rfl) ((((((((((((((((((((t.2 u81).2 u82).2 u83).2 u84).2 u85).2 u86).2 u87).2 u88).2 u89).2 u90).2 u91).2 u92).2 u93).2 u94).2 u95).2 u96).2 u97).2 u98).2 u99).1 u100)) (fun u100 => And.intro (fun u101 => And.intro (Or.inr rfl) (((((((((((((((((((((t.2 u81).2 u82).2 u83).2 u84).2 u85).2 u86).2 u87).2 u88).2 u89).2 u90).2 u91).2 u92).2 u93).2 u94).2 u95).2 u96).2 u97).2 u98).2 u99).2 u100).1 u101)) (fun u101 => And.intro (fun u102 => And.intro (Or.inr rfl) ((((((((((((((((((((((t.2 u81).2 u82).2 u83).2 u84).2 u85).2 u86).2 u87).2 u88).2 u89).2 u90).2 u91).2 u92).2 u93).2 u94).2 u95).2 u96).2 u97).2 u98).2 u99).2 u100).2 u101).1 u102)) (fun u102 => And.intro (Or.inl rfl) ((((((((((((((((((((((t.2 u81).2 u82).2 u83).2 u84).2 u85).2 u86).2 u87).2 u88).2 u89).2 u90).2 u91).2 u92).2 u93).2 u94).2 u95).2 u96).2 u97).2 u98).2 u99).2 u100).2 u101).2 u102))))))))))))))))))))))))
theorem g_x7_nameCode_0 {d : Nat} {B : Nat × Nat} {Q : zQ} {c : Nat × Nat × Nat} {I : Nat → Nat → Int} {g : Nat} {x1 x2 : Int}
    (t : zcl d 58 0 0 [zr 62, zr 1001, zi x1, zi x2] (c, I, zRg g) (fun v h1 => zRn (zcl d) 56 B Q 8 [some (zr 62), some (zi x1), some (zi x2)] (zva v []) h1)) :
    zRn (zcl d) 56 B Q 0 [some (zr 62), some (zi x1), some (zi x2)] [] (c, I, zRg g) :=
  zgo [8, 21, 35, 49, 63, 77] 4 (Exists.intro 58 (And.intro rfl (And.intro (Nat.le_of_ble_eq_true rfl) (Exists.intro 0 (Exists.intro 0 (And.intro (Or.inl rfl) (And.intro (Or.inl rfl) t)))))))
theorem g_x7_nameCode_8 {d : Nat} {B : Nat × Nat} {Q : zQ} {c : Nat × Nat × Nat} {I : Nat → Nat → Int} {g : Nat} {x1 x2 s0 : Int}
    (t : (s0 = 0 → (zcl d 58 0 0 [zr 62, zr 1002, zi x1, zi x2] (c, I, zRg g) (fun v h1 => zRn (zcl d) 56 B Q 21 [some (zr 62), some (zi x1), some (zi x2)] (zva v []) h1))) ∧ (¬ (s0 = 0) → (Q (some (zi (-1))) (c, I, zRg g)))) :
    zRn (zcl d) 56 B Q 8 [some (zr 62), some (zi x1), some (zi x2)] [zi s0] (c, I, zRg g) :=
  zgo [8, 21, 35, 49, 63, 77] 5 (And.intro (fun u103 => Exists.intro 58 (And.intro rfl (And.intro (Nat.le_of_ble_eq_true rfl) (Exists.intro 0 (Exists.intro 0 (And.intro (Or.inl rfl) (And.intro (Or.inl rfl) (t.1 u103)))))))) (fun u103 => (t.2 u103)))
theorem g_x7_nameCode_21 {d : Nat} {B : Nat × Nat} {Q : zQ} {c : Nat × Nat × Nat} {I : Nat → Nat → Int} {g : Nat} {x1 x2 s0 : Int}
    (t : (s0 = 0 → (zcl d 58 0 0 [zr 62, zr 1003, zi x1, zi x2] (c, I, zRg g) (fun v h1 => zRn (zcl d) 56 B Q 35 [some (zr 62), some (zi x1), some (zi x2)] (zva v []) h1))) ∧ (¬ (s0 = 0) → (Q (some (zi (-2))) (c, I, zRg g)))) :
    zRn (zcl d) 56 B Q 21 [some (zr 62), some (zi x1), some (zi x2)] [zi s0] (c, I, zRg g) :=
  zgo [8, 21, 35, 49, 63, 77] 5 (And.intro (fun u104 => Exists.intro 58 (And.intro rfl (And.intro (Nat.le_of_ble_eq_true rfl) (Exists.intro 0 (Exists.intro 0 (And.intro (Or.inl rfl) (And.intro (Or.inl rfl) (t.1 u104)))))))) (fun u104 => (t.2 u104)))
theorem g_x7_nameCode_35 {d : Nat} {B : Nat × Nat} {Q : zQ} {c : Nat × Nat × Nat} {I : Nat → Nat → Int} {g : Nat} {x1 x2 s0 : Int}
    (t : (s0 = 0 → (zcl d 58 0 0 [zr 62, zr 1004, zi x1, zi x2] (c, I, zRg g) (fun v h1 => zRn (zcl d) 56 B Q 49 [some (zr 62), some (zi x1), some (zi x2)] (zva v []) h1))) ∧ (¬ (s0 = 0) → (Q (some (zi (-3))) (c, I, zRg g)))) :
    zRn (zcl d) 56 B Q 35 [some (zr 62), some (zi x1), some (zi x2)] [zi s0] (c, I, zRg g) :=
  zgo [8, 21, 35, 49, 63, 77] 5 (And.intro (fun u105 => Exists.intro 58 (And.intro rfl (And.intro (Nat.le_of_ble_eq_true rfl) (Exists.intro 0 (Exists.intro 0 (And.intro (Or.inl rfl) (And.intro (Or.inl rfl) (t.1 u105)))))))) (fun u105 => (t.2 u105)))
theorem g_x7_nameCode_49 {d : Nat} {B : Nat × Nat} {Q : zQ} {c : Nat × Nat × Nat} {I : Nat → Nat → Int} {g : Nat} {x1 x2 s0 : Int}
    (t : (s0 = 0 → (zcl d 58 0 0 [zr 62, zr 1005, zi x1, zi x2] (c, I, zRg g) (fun v h1 => zRn (zcl d) 56 B Q 63 [some (zr 62), some (zi x1), some (zi x2)] (zva v []) h1))) ∧ (¬ (s0 = 0) → (Q (some (zi (-4))) (c, I, zRg g)))) :
    zRn (zcl d) 56 B Q 49 [some (zr 62), some (zi x1), some (zi x2)] [zi s0] (c, I, zRg g) :=
  zgo [8, 21, 35, 49, 63, 77] 5 (And.intro (fun u106 => Exists.intro 58 (And.intro rfl (And.intro (Nat.le_of_ble_eq_true rfl) (Exists.intro 0 (Exists.intro 0 (And.intro (Or.inl rfl) (And.intro (Or.inl rfl) (t.1 u106)))))))) (fun u106 => (t.2 u106)))
theorem g_x7_nameCode_63 {d : Nat} {B : Nat × Nat} {Q : zQ} {c : Nat × Nat × Nat} {I : Nat → Nat → Int} {g : Nat} {x1 x2 s0 : Int}
    (t : (s0 = 0 → (zcl d 58 0 0 [zr 62, zr 1006, zi x1, zi x2] (c, I, zRg g) (fun v h1 => zRn (zcl d) 56 B Q 77 [some (zr 62), some (zi x1), some (zi x2)] (zva v []) h1))) ∧ (¬ (s0 = 0) → (Q (some (zi (-5))) (c, I, zRg g)))) :
    zRn (zcl d) 56 B Q 63 [some (zr 62), some (zi x1), some (zi x2)] [zi s0] (c, I, zRg g) :=
  zgo [8, 21, 35, 49, 63, 77] 5 (And.intro (fun u107 => Exists.intro 58 (And.intro rfl (And.intro (Nat.le_of_ble_eq_true rfl) (Exists.intro 0 (Exists.intro 0 (And.intro (Or.inl rfl) (And.intro (Or.inl rfl) (t.1 u107)))))))) (fun u107 => (t.2 u107)))
theorem g_x7_nameCode_77 {d : Nat} {B : Nat × Nat} {Q : zQ} {c : Nat × Nat × Nat} {I : Nat → Nat → Int} {g : Nat} {x1 x2 s0 : Int}
    (t : (s0 = 0 → (Q (some (zi 0)) (c, I, zRg g))) ∧ (¬ (s0 = 0) → (Q (some (zi (-6))) (c, I, zRg g)))) :
    zRn (zcl d) 56 B Q 77 [some (zr 62), some (zi x1), some (zi x2)] [zi s0] (c, I, zRg g) :=
  zgo [8, 21, 35, 49, 63, 77] 2 (And.intro (fun u108 => (t.1 u108)) (fun u108 => (t.2 u108)))
theorem g_x7_keyToken_0 {d : Nat} {B : Nat × Nat} {Q : zQ} {c : Nat × Nat × Nat} {I : Nat → Nat → Int} {g : Nat} {x1 x2 : Int}
    (t : zcl d 58 0 0 [zr 62, zr 1007, zi x1, zi x2] (c, I, zRg g) (fun v h1 => zRn (zcl d) 57 B Q 8 [some (zr 62), some (zi x1), some (zi x2)] (zva v []) h1)) :
    zRn (zcl d) 57 B Q 0 [some (zr 62), some (zi x1), some (zi x2)] [] (c, I, zRg g) :=
  zgo [8, 22, 36, 50, 64, 78] 4 (Exists.intro 58 (And.intro rfl (And.intro (Nat.le_of_ble_eq_true rfl) (Exists.intro 0 (Exists.intro 0 (And.intro (Or.inl rfl) (And.intro (Or.inl rfl) t)))))))
theorem g_x7_keyToken_8 {d : Nat} {B : Nat × Nat} {Q : zQ} {c : Nat × Nat × Nat} {I : Nat → Nat → Int} {g : Nat} {x1 x2 s0 : Int}
    (t : (s0 = 0 → (zcl d 58 0 0 [zr 62, zr 1008, zi x1, zi x2] (c, I, zRg g) (fun v h1 => zRn (zcl d) 57 B Q 22 [some (zr 62), some (zi x1), some (zi x2)] (zva v []) h1))) ∧ (¬ (s0 = 0) → (Q (some (zi (-5))) (c, I, zRg g)))) :
    zRn (zcl d) 57 B Q 8 [some (zr 62), some (zi x1), some (zi x2)] [zi s0] (c, I, zRg g) :=
  zgo [8, 22, 36, 50, 64, 78] 5 (And.intro (fun u109 => Exists.intro 58 (And.intro rfl (And.intro (Nat.le_of_ble_eq_true rfl) (Exists.intro 0 (Exists.intro 0 (And.intro (Or.inl rfl) (And.intro (Or.inl rfl) (t.1 u109)))))))) (fun u109 => (t.2 u109)))
theorem g_x7_keyToken_22 {d : Nat} {B : Nat × Nat} {Q : zQ} {c : Nat × Nat × Nat} {I : Nat → Nat → Int} {g : Nat} {x1 x2 s0 : Int}
    (t : (s0 = 0 → (zcl d 58 0 0 [zr 62, zr 1009, zi x1, zi x2] (c, I, zRg g) (fun v h1 => zRn (zcl d) 57 B Q 36 [some (zr 62), some (zi x1), some (zi x2)] (zva v []) h1))) ∧ (¬ (s0 = 0) → (Q (some (zi (-6))) (c, I, zRg g)))) :
    zRn (zcl d) 57 B Q 22 [some (zr 62), some (zi x1), some (zi x2)] [zi s0] (c, I, zRg g) :=
  zgo [8, 22, 36, 50, 64, 78] 5 (And.intro (fun u110 => Exists.intro 58 (And.intro rfl (And.intro (Nat.le_of_ble_eq_true rfl) (Exists.intro 0 (Exists.intro 0 (And.intro (Or.inl rfl) (And.intro (Or.inl rfl) (t.1 u110)))))))) (fun u110 => (t.2 u110)))
theorem g_x7_keyToken_36 {d : Nat} {B : Nat × Nat} {Q : zQ} {c : Nat × Nat × Nat} {I : Nat → Nat → Int} {g : Nat} {x1 x2 s0 : Int}
    (t : (s0 = 0 → (zcl d 58 0 0 [zr 62, zr 1010, zi x1, zi x2] (c, I, zRg g) (fun v h1 => zRn (zcl d) 57 B Q 50 [some (zr 62), some (zi x1), some (zi x2)] (zva v []) h1))) ∧ (¬ (s0 = 0) → (Q (some (zi (-7))) (c, I, zRg g)))) :
    zRn (zcl d) 57 B Q 36 [some (zr 62), some (zi x1), some (zi x2)] [zi s0] (c, I, zRg g) :=
  zgo [8, 22, 36, 50, 64, 78] 5 (And.intro (fun u111 => Exists.intro 58 (And.intro rfl (And.intro (Nat.le_of_ble_eq_true rfl) (Exists.intro 0 (Exists.intro 0 (And.intro (Or.inl rfl) (And.intro (Or.inl rfl) (t.1 u111)))))))) (fun u111 => (t.2 u111)))
theorem g_x7_keyToken_50 {d : Nat} {B : Nat × Nat} {Q : zQ} {c : Nat × Nat × Nat} {I : Nat → Nat → Int} {g : Nat} {x1 x2 s0 : Int}
    (t : (s0 = 0 → (zcl d 58 0 0 [zr 62, zr 1011, zi x1, zi x2] (c, I, zRg g) (fun v h1 => zRn (zcl d) 57 B Q 64 [some (zr 62), some (zi x1), some (zi x2)] (zva v []) h1))) ∧ (¬ (s0 = 0) → (Q (some (zi (-8))) (c, I, zRg g)))) :
    zRn (zcl d) 57 B Q 50 [some (zr 62), some (zi x1), some (zi x2)] [zi s0] (c, I, zRg g) :=
  zgo [8, 22, 36, 50, 64, 78] 5 (And.intro (fun u112 => Exists.intro 58 (And.intro rfl (And.intro (Nat.le_of_ble_eq_true rfl) (Exists.intro 0 (Exists.intro 0 (And.intro (Or.inl rfl) (And.intro (Or.inl rfl) (t.1 u112)))))))) (fun u112 => (t.2 u112)))
theorem g_x7_keyToken_64 {d : Nat} {B : Nat × Nat} {Q : zQ} {c : Nat × Nat × Nat} {I : Nat → Nat → Int} {g : Nat} {x1 x2 s0 : Int}
    (t : (s0 = 0 → (zcl d 58 0 0 [zr 62, zr 1012, zi x1, zi x2] (c, I, zRg g) (fun v h1 => zRn (zcl d) 57 B Q 78 [some (zr 62), some (zi x1), some (zi x2)] (zva v []) h1))) ∧ (¬ (s0 = 0) → (Q (some (zi (-9))) (c, I, zRg g)))) :
    zRn (zcl d) 57 B Q 64 [some (zr 62), some (zi x1), some (zi x2)] [zi s0] (c, I, zRg g) :=
  zgo [8, 22, 36, 50, 64, 78] 5 (And.intro (fun u113 => Exists.intro 58 (And.intro rfl (And.intro (Nat.le_of_ble_eq_true rfl) (Exists.intro 0 (Exists.intro 0 (And.intro (Or.inl rfl) (And.intro (Or.inl rfl) (t.1 u113)))))))) (fun u113 => (t.2 u113)))
theorem g_x7_keyToken_78 {d : Nat} {B : Nat × Nat} {Q : zQ} {c : Nat × Nat × Nat} {I : Nat → Nat → Int} {g : Nat} {x1 x2 s0 : Int}
    (t : (s0 = 0 → (Q (some (zi (-2))) (c, I, zRg g))) ∧ (¬ (s0 = 0) → (Q (some (zi (-10))) (c, I, zRg g)))) :
    zRn (zcl d) 57 B Q 78 [some (zr 62), some (zi x1), some (zi x2)] [zi s0] (c, I, zRg g) :=
  zgo [8, 22, 36, 50, 64, 78] 2 (And.intro (fun u114 => (t.1 u114)) (fun u114 => (t.2 u114)))
theorem g_x7_isWord_0 {d : Nat} {B : Nat × Nat} {Q : zQ} {c : Nat × Nat × Nat} {I : Nat → Nat → Int} {g : Nat} {x2 x3 : Int} {a1 : Nat}
    (t : (x2 < 0 → (Q (some (zi 0)) (c, I, zRg g))) ∧ (¬ (x2 < 0) → ((I 62 1 < x3 → (Q (some (zi 0)) (c, I, zRg g))) ∧ (¬ (I 62 1 < x3) → ((1000 ≤ a1 ∧ a1 < 1013) ∧ ((zwr (x3 - x2) = (zvsLen a1 : Nat) → (zRn (zcl d) 58 B Q 27 [some (zr 62), some (zr a1), some (zi x2), some (zi x3), some (zi 0)] [] (c, I, zRg g))) ∧ (¬ (zwr (x3 - x2) = (zvsLen a1 : Nat)) → (Q (some (zi 0)) (c, I, zRg g))))))))) :
    zRn (zcl d) 58 B Q 0 [some (zr 62), some (zr a1), some (zi x2), some (zi x3), none] [] (c, I, zRg g) :=
  zgo [27] 14 (And.intro (fun u115 => And.intro (Or.inl rfl) (t.1 u115)) (fun u115 => And.intro rfl (And.intro (fun u116 => And.intro (Or.inl rfl) ((t.2 u115).1 u116)) (fun u116 => And.intro ((t.2 u115).2 u116).1 (And.intro (fun u117 => (((t.2 u115).2 u116).2.1 u117)) (fun u117 => And.intro (Or.inl rfl) (((t.2 u115).2 u116).2.2 u117)))))))
theorem g_x7_isWord_27 {d : Nat} {B : Nat × Nat} {Q : zQ} {c : Nat × Nat × Nat} {I : Nat → Nat → Int} {g : Nat} {x2 x3 x4 : Int} {a1 : Nat}
    (t : (1000 ≤ a1 ∧ a1 < 1013) ∧ (((zvsLen a1 : Nat) ≤ x4 → (Q (some (zi 1)) (c, I, zRg g))) ∧ (¬ ((zvsLen a1 : Nat) ≤ x4) → ((0 ≤ zwr (x2 + x4) ∧ zwr (x2 + x4) < 160) ∧ ((1000 ≤ a1 ∧ a1 < 1013) ∧ ((0 ≤ x4 ∧ x4 < (zvsLen a1 : Nat)) ∧ ((I 63 ((zwr (x2 + x4)).toNat) = zvsAt a1 x4.toNat → (zRn (zcl d) 58 B Q 27 [some (zr 62), some (zr a1), some (zi x2), some (zi x3), some (zi (zwr (x4 + 1)))] [] (c, I, zRg g))) ∧ (¬ (I 63 ((zwr (x2 + x4)).toNat) = zvsAt a1 x4.toNat) → (Q (some (zi 0)) (c, I, zRg g)))))))))) :
    zRn (zcl d) 58 B Q 27 [some (zr 62), some (zr a1), some (zi x2), some (zi x3), some (zi x4)] [] (c, I, zRg g) :=
  zgo [27] 16 (And.intro t.1 (And.intro (fun u118 => And.intro (Or.inr rfl) (t.2.1 u118)) (fun u118 => And.intro rfl (Exists.intro (some 63) (And.intro rfl (And.intro rfl (And.intro (t.2.2 u118).1 (And.intro (t.2.2 u118).2.1 (And.intro (t.2.2 u118).2.2.1 (And.intro (fun u119 => ((t.2.2 u118).2.2.2.1 u119)) (fun u119 => And.intro (Or.inl rfl) ((t.2.2 u118).2.2.2.2 u119))))))))))))
theorem g_x8_isMissing_0 {d : Nat} {B : Nat × Nat} {Q : zQ} {c : Nat × Nat × Nat} {I : Nat → Nat → Int} {g : Nat} {a0 : Nat}
    (t : ((zSh a0).1 = 8) ∧ ((I a0 1 ≠ (-1) → (Q (some (zi 0)) (c, I, zRg g))) ∧ (¬ (I a0 1 ≠ (-1)) → (Q (some (zi 1)) (c, I, zRg g))))) :
    zRn (zcl d) 60 B Q 0 [some (zr a0)] [] (c, I, zRg g) :=
  zgo [] 6 (And.intro t.1 (And.intro (fun u120 => And.intro (Or.inl rfl) (t.2.1 u120)) (fun u120 => And.intro (Or.inr rfl) (t.2.2 u120))))
theorem g_x8_has_0 {d : Nat} {B : Nat × Nat} {Q : zQ} {c : Nat × Nat × Nat} {I : Nat → Nat → Int} {g : Nat} {x1 x2 : Int} {a0 : Nat}
    (t : (x1 < 0 → (Q (some (zi 0)) (c, I, zRg g))) ∧ (¬ (x1 < 0) → ((x2 < 0 → (Q (some (zi 0)) (c, I, zRg g))) ∧ (¬ (x2 < 0) → (((zSh a0).1 = 8) ∧ ((I a0 2 < x1 → (Q (some (zi 0)) (c, I, zRg g))) ∧ (¬ (I a0 2 < x1) → (((zSh a0).1 = 8) ∧ ((zwr ((I a0 2) - x1) < x2 → (Q (some (zi 0)) (c, I, zRg g))) ∧ (¬ (zwr ((I a0 2) - x1) < x2) → (Q (some (zi 1)) (c, I, zRg g)))))))))))) :
    zRn (zcl d) 61 B Q 0 [some (zr a0), some (zi x1), some (zi x2)] [] (c, I, zRg g) :=
  zgo [] 16 (And.intro (fun u121 => And.intro (Or.inl rfl) (t.1 u121)) (fun u121 => And.intro (fun u122 => And.intro (Or.inl rfl) ((t.2 u121).1 u122)) (fun u122 => And.intro ((t.2 u121).2 u122).1 (And.intro (fun u123 => And.intro (Or.inl rfl) (((t.2 u121).2 u122).2.1 u123)) (fun u123 => And.intro (((t.2 u121).2 u122).2.2 u123).1 (And.intro (fun u124 => And.intro (Or.inl rfl) ((((t.2 u121).2 u122).2.2 u123).2.1 u124)) (fun u124 => And.intro (Or.inr rfl) ((((t.2 u121).2 u122).2.2 u123).2.2 u124))))))))
theorem g_x8_become_0 {d : Nat} {B : Nat × Nat} {Q : zQ} {c : Nat × Nat × Nat} {I : Nat → Nat → Int} {g : Nat} {x1 x2 : Int} {a0 : Nat}
    (t : ((zSh a0).1 = 8) ∧ (zcl d 103 0 0 [zi x2, zi 40] (c, (z2 I a0 1 x1), zRg g) (fun v h1 => zRn (zcl d) 62 B Q 12 [some (zr a0), some (zi x1), some (zi x2), none] (zva v [zr a0]) h1))) :
    zRn (zcl d) 62 B Q 0 [some (zr a0), some (zi x1), some (zi x2), none] [] (c, I, zRg g) :=
  zgo [12, 17] 6 (And.intro t.1 (And.intro (Nat.le_of_ble_eq_true rfl) (Exists.intro 0 (Exists.intro 0 (And.intro (Or.inl rfl) (And.intro (Or.inl rfl) t.2))))))
theorem g_x8_become_12 {d : Nat} {B : Nat × Nat} {Q : zQ} {c : Nat × Nat × Nat} {I : Nat → Nat → Int} {g : Nat} {x1 x2 s0 : Int} {a0 b1 : Nat}
    (t : ((zSh b1).1 = 8) ∧ (zRn (zcl d) 62 B Q 17 [some (zr a0), some (zi x1), some (zi x2), some (zi 0)] [] (c, (z2 I b1 2 s0), zRg g))) :
    zRn (zcl d) 62 B Q 12 [some (zr a0), some (zi x1), some (zi x2), none] [zi s0, zr b1] (c, I, zRg g) :=
  zgo [12, 17] 3 (And.intro t.1 t.2)
theorem g_x8_become_17 {d : Nat} {B : Nat × Nat} {Q : zQ} {c : Nat × Nat × Nat} {I : Nat → Nat → Int} {g : Nat} {x1 x2 x3 : Int} {a0 y1 : Nat}
    (t : ((zSh a0).1 = 8) ∧ ((I a0 2 ≤ x3 → (Q none (c, I, zRg g))) ∧ (¬ (I a0 2 ≤ x3) → (((zSh a0).1 = 8) ∧ ((zRg g a0 0 = some y1) ∧ (((zSh y1).1 = 100) ∧ ((0 ≤ x3 ∧ x3 < ((zSh y1).2 : Nat)) ∧ (zRn (zcl d) 62 B Q 17 [some (zr a0), some (zi x1), some (zi x2), some (zi (zwr (x3 + 1)))] [] (c, (z2 I y1 x3.toNat 0), zRg g))))))))) :
    zRn (zcl d) 62 B Q 17 [some (zr a0), some (zi x1), some (zi x2), some (zi x3)] [] (c, I, zRg g) :=
  zgo [12, 17] 11 (And.intro t.1 (And.intro (fun u125 => (t.2.1 u125)) (fun u125 => And.intro (t.2.2 u125).1 (Exists.intro (some y1) (And.intro (t.2.2 u125).2.1 (And.intro (t.2.2 u125).2.2.1 (And.intro (t.2.2 u125).2.2.2.1 ((t.2.2 u125).2.2.2.2))))))))
theorem g_x8_put_0 {d : Nat} {B : Nat × Nat} {Q : zQ} {c : Nat × Nat × Nat} {I : Nat → Nat → Int} {g : Nat} {x1 x2 : Int} {a0 y1 y2 y3 : Nat}
    (t : ((zSh a0).1 = 8) ∧ ((I a0 1 = 0 → (((zSh a0).1 = 8) ∧ ((zRg g a0 0 = some y1) ∧ (((zSh y1).1 = 100) ∧ ((0 ≤ x1 ∧ x1 < ((zSh y1).2 : Nat)) ∧ (Q none (c, (z2 I y1 x1.toNat (zi2b x2)), zRg g))))))) ∧ (¬ (I a0 1 = 0) → ((I a0 1 = 1 → (((zSh a0).1 = 8) ∧ ((zRg g a0 0 = some y2) ∧ (((zSh y2).1 = 100) ∧ ((0 ≤ x1 ∧ x1 < ((zSh y2).2 : Nat)) ∧ (Q none (c, (z2 I y2 x1.toNat (zi2s x2)), zRg g))))))) ∧ (¬ (I a0 1 = 1) → (((zSh a0).1 = 8) ∧ ((zRg g a0 0 = some y3) ∧ (((zSh y3).1 = 100) ∧ ((0 ≤ x1 ∧ x1 < ((zSh y3).2 : Nat)) ∧ (Q none (c, (z2 I y3 x1.toNat x2), zRg g))))))))))) :
    zRn (zcl d) 63 B Q 0 [some (zr a0), some (zi x1), some (zi x2)] [] (c, I, zRg g) :=
  zgo [] 10 (And.intro t.1 (And.intro (fun u126 => And.intro (t.2.1 u126).1 (Exists.intro (some y1) (And.intro (t.2.1 u126).2.1 (And.intro (t.2.1 u126).2.2.1 (And.intro (t.2.1 u126).2.2.2.1 ((t.2.1 u126).2.2.2.2)))))) (fun u126 => And.intro (fun u127 => And.intro ((t.2.2 u126).1 u127).1 (Exists.intro (some y2) (And.intro ((t.2.2 u126).1 u127).2.1 (And.intro ((t.2.2 u126).1 u127).2.2.1 (And.intro ((t.2.2 u126).1 u127).2.2.2.1 (((t.2.2 u126).1 u127).2.2.2.2)))))) (fun u127 => And.intro ((t.2.2 u126).2 u127).1 (Exists.intro (some y3) (And.intro ((t.2.2 u126).2 u127).2.1 (And.intro ((t.2.2 u126).2 u127).2.2.1 (And.intro ((t.2.2 u126).2 u127).2.2.2.1 (((t.2.2 u126).2 u127).2.2.2.2)))))))))
theorem g_x9_isUnder_0 {d : Nat} {B : Nat × Nat} {Q : zQ} {c : Nat × Nat × Nat} {I : Nat → Nat → Int} {g : Nat} {x1 : Int} {a0 : Nat}
    (t : (x1 ≠ 0 → (Q (some (zi 0)) (c, I, zRg g))) ∧ (¬ (x1 ≠ 0) → (Q (some (zi 1)) (c, I, zRg g)))) :
    zRn (zcl d) 65 B Q 0 [some (zr a0), some (zi x1)] [] (c, I, zRg g) :=
  zgo [] 4 (And.intro (fun u128 => And.intro (Or.inl rfl) (t.1 u128)) (fun u128 => And.intro (Or.inr rfl) (t.2 u128)))
theorem g_x9_keptOf_0 {d : Nat} {B : Nat × Nat} {Q : zQ} {c : Nat × Nat × Nat} {I : Nat → Nat → Int} {g : Nat} {x1 x2 : Int} {a0 : Nat}
    (t : Q (some (zi x1)) (c, I, zRg g)) :
    zRn (zcl d) 66 B Q 0 [some (zr a0), some (zi x1), some (zi x2)] [] (c, I, zRg g) :=
  zgo [] 1 (t)
theorem g_x9_wordsFor_0 {d : Nat} {B : Nat × Nat} {Q : zQ} {c : Nat × Nat × Nat} {I : Nat → Nat → Int} {g : Nat} {x2 x3 : Int} {a0 a1 : Nat}
    (t : ((zSh a1).1 = 5) ∧ (zRn (zcl d) 67 B Q 14 [some (zr a0), some (zr a1), some (zi x2), some (zi x3), some (zi (zand x2 (I a1 2))), some (zi 0), some (zi 0), none] [] (c, I, zRg g))) :
    zRn (zcl d) 67 B Q 0 [some (zr a0), some (zr a1), some (zi x2), some (zi x3), none, none, none, none] [] (c, I, zRg g) :=
  zgo [14, 30] 9 (And.intro t.1 t.2)
theorem g_x9_wordsFor_14 {d : Nat} {B : Nat × Nat} {Q : zQ} {c : Nat × Nat × Nat} {I : Nat → Nat → Int} {g : Nat} {x2 x3 x4 x5 x6 : Int} {a0 a1 : Nat}
    (t : (x3 ≤ x6 → (Q (some (zi x5)) (c, I, zRg g))) ∧ (¬ (x3 ≤ x6) → ((x4 = 0 → (Q (some (zi x5)) (c, I, zRg g))) ∧ (¬ (x4 = 0) → (zcl d 102 0 0 [zi x4] (c, I, zRg g) (fun v h1 => zRn (zcl d) 67 B Q 30 [some (zr a0), some (zr a1), some (zi x2), some (zi x3), some (zi x4), some (zi x5), some (zi x6), none] (zva v []) h1)))))) :
    zRn (zcl d) 67 B Q 14 [some (zr a0), some (zr a1), some (zi x2), some (zi x3), some (zi x4), some (zi x5), some (zi x6), none] [] (c, I, zRg g) :=
  zgo [14, 30] 6 (And.intro (fun u129 => (t.1 u129)) (fun u129 => And.intro (fun u130 => ((t.2 u129).1 u130)) (fun u130 => And.intro (Nat.le_of_ble_eq_true rfl) (Exists.intro 0 (Exists.intro 0 (And.intro (Or.inl rfl) (And.intro (Or.inl rfl) ((t.2 u129).2 u130))))))))
theorem g_x9_wordsFor_30 {d : Nat} {B : Nat × Nat} {Q : zQ} {c : Nat × Nat × Nat} {I : Nat → Nat → Int} {g : Nat} {x2 x3 x4 x5 x6 s0 : Int} {a0 a1 : Nat}
    (t : zRn (zcl d) 67 B Q 14 [some (zr a0), some (zr a1), some (zi x2), some (zi x3), some (zi (zand x4 (zxor s0 (-1)))), some (zi (zor x5 s0)), some (zi (zwr (x6 + 1))), some (zi s0)] [] (c, I, zRg g)) :
    zRn (zcl d) 67 B Q 30 [some (zr a0), some (zr a1), some (zi x2), some (zi x3), some (zi x4), some (zi x5), some (zi x6), none] [zi s0] (c, I, zRg g) :=
  zgo [14, 30] 13 (t)
theorem g_x9_wearies_0 {d : Nat} {B : Nat × Nat} {Q : zQ} {c : Nat × Nat × Nat} {I : Nat → Nat → Int} {g : Nat} {x1 : Int} {a0 a2 : Nat}
    (t : Q (some (zi x1)) (c, I, zRg g)) :
    zRn (zcl d) 68 B Q 0 [some (zr a0), some (zi x1), some (zr a2)] [] (c, I, zRg g) :=
  zgo [] 1 (t)
theorem g_x9_takesIn_0 {d : Nat} {B : Nat × Nat} {Q : zQ} {c : Nat × Nat × Nat} {I : Nat → Nat → Int} {g : Nat} {x1 x2 : Int} {a0 : Nat}
    (t : (x1 = 0 ∨ x1 = 1) ∧ (Q (some (zi x1)) (c, I, zRg g))) :
    zRn (zcl d) 69 B Q 0 [some (zr a0), some (zi x1), some (zi x2)] [] (c, I, zRg g) :=
  zgo [] 1 (And.intro t.1 t.2)
theorem g_x10_add_0 {d : Nat} {B : Nat × Nat} {Q : zQ} {c : Nat × Nat × Nat} {I : Nat → Nat → Int} {g : Nat} {x1 : Int} {a0 y1 : Nat}
    (t : ((zSh a0).1 = 10) ∧ ((160 ≤ I a0 2 → (Q none (c, I, zRg g))) ∧ (¬ (160 ≤ I a0 2) → (((zSh a0).1 = 10) ∧ ((zRg g a0 0 = some y1) ∧ (((zSh a0).1 = 10) ∧ (((zSh y1).1 = 100) ∧ ((0 ≤ I a0 2 ∧ I a0 2 < ((zSh y1).2 : Nat)) ∧ (((zSh a0).1 = 10) ∧ (((zSh a0).1 = 10) ∧ (Q none (c, (z2 (z2 I y1 (I a0 2).toNat x1) a0 2 (zwr (((z2 I y1 (I a0 2).toNat x1) a0 2) + 1))), zRg g)))))))))))) :
    zRn (zcl d) 71 B Q 0 [some (zr a0), some (zi x1)] [] (c, I, zRg g) :=
  zgo [] 16 (And.intro t.1 (And.intro (fun u131 => (t.2.1 u131)) (fun u131 => And.intro (t.2.2 u131).1 (Exists.intro (some y1) (And.intro (t.2.2 u131).2.1 (And.intro (t.2.2 u131).2.2.1 (And.intro (t.2.2 u131).2.2.2.1 (And.intro (t.2.2 u131).2.2.2.2.1 (And.intro (t.2.2 u131).2.2.2.2.2.1 (And.intro (t.2.2 u131).2.2.2.2.2.2.1 ((t.2.2 u131).2.2.2.2.2.2.2)))))))))))
theorem g_x10_worth_0 {d : Nat} {B : Nat × Nat} {Q : zQ} {c : Nat × Nat × Nat} {I : Nat → Nat → Int} {g : Nat} {x1 x3 x4 : Int} {a0 a2 a5 y1 : Nat}
    (t : (x1 < 0 → (Q (some (zi 0)) (c, I, zRg g))) ∧ (¬ (x1 < 0) → ((x1 < 3 → ((x1 ≠ 0 → (((zSh a0).1 = 10) ∧ ((zRg g a0 1 = some y1) ∧ (((zSh y1).1 = 100) ∧ ((0 ≤ zwr (x1 - 1) ∧ zwr (x1 - 1) < ((zSh y1).2 : Nat)) ∧ (zRn (zcl d) 72 B Q 32 [some (zr a0), some (zi x1), some (zr a2), some (zi x3), some (zi x4), some (zr a5), some (zi 0), some (zi (I y1 ((zwr (x1 - 1)).toNat))), none] [] (c, I, zRg g))))))) ∧ (¬ (x1 ≠ 0) → (zRn (zcl d) 72 B Q 32 [some (zr a0), some (zi x1), some (zr a2), some (zi x3), some (zi x4), some (zr a5), some (zi 0), some (zi 0), none] [] (c, I, zRg g))))) ∧ (¬ (x1 < 3) → (Q (some (zi 0)) (c, I, zRg g)))))) :
    zRn (zcl d) 72 B Q 0 [some (zr a0), some (zi x1), some (zr a2), some (zi x3), some (zi x4), some (zr a5), none, none, none] [] (c, I, zRg g) :=
  zgo [32, 92, 132, 170, 194] 16 (And.intro (fun u132 => (t.1 u132)) (fun u132 => And.intro (fun u133 => And.intro (fun u134 => And.intro (((t.2 u132).1 u133).1 u134).1 (Exists.intro (some y1) (And.intro (((t.2 u132).1 u133).1 u134).2.1 (And.intro (((t.2 u132).1 u133).1 u134).2.2.1 (And.intro (((t.2 u132).1 u133).1 u134).2.2.2.1 ((((t.2 u132).1 u133).1 u134).2.2.2.2)))))) (fun u134 => (((t.2 u132).1 u133).2 u134))) (fun u133 => ((t.2 u132).2 u133))))
theorem g_x10_worth_32 {d : Nat} {B : Nat × Nat} {Q : zQ} {c : Nat × Nat × Nat} {I : Nat → Nat → Int} {g : Nat} {x1 x3 x4 x6 x7 : Int} {a0 a2 a5 y1 y3 : Nat}
    (t : ((zSh a0).1 = 10) ∧ ((zRg g a0 1 = some y1) ∧ (((zSh y1).1 = 100) ∧ ((0 ≤ x1 ∧ x1 < ((zSh y1).2 : Nat)) ∧ ((I y1 x1.toNat ≤ x7 → ((x6 ≤ 0 → (Q (some (zi 0)) (c, I, zRg g))) ∧ (¬ (x6 ≤ 0) → (((zSh a5).1 = 100) ∧ ((0 ≤ zwr (x6 - 1) ∧ zwr (x6 - 1) < ((zSh a5).2 : Nat)) ∧ (zcl d 103 0 0 [zi (I a5 ((zwr (x6 - 1)).toNat)), zi 99] (c, I, zRg g) (fun v h1 => zRn (zcl d) 72 B Q 194 [some (zr a0), some (zi x1), some (zr a2), some (zi x3), some (zi x4), some (zr a5), some (zi x6), some (zi x7), none] (zva v []) h1))))))) ∧ (¬ (I y1 x1.toNat ≤ x7) → (((zSh a0).1 = 10) ∧ ((zRg g a0 0 = some y3) ∧ (((zSh y3).1 = 100) ∧ ((0 ≤ x7 ∧ x7 < ((zSh y3).2 : Nat)) ∧ ((I y3 x7.toNat < (-6) → ((I y3 x7.toNat < (-12) → ((2 ≤ x6 → (((zSh a5).1 = 100) ∧ ((0 ≤ zwr ((zwr (x6 + (-1))) - 1) ∧ zwr ((zwr (x6 + (-1))) - 1) < ((zSh a5).2 : Nat)) ∧ (((zSh a5).1 = 100) ∧ ((0 ≤ zwr (x6 + (-1)) ∧ zwr (x6 + (-1)) < ((zSh a5).2 : Nat)) ∧ (zcl d 75 0 0 [zi (I y3 x7.toNat), zi (I a5 ((zwr ((zwr (x6 + (-1))) - 1)).toNat)), zi (I a5 ((zwr (x6 + (-1))).toNat))] (c, I, zRg g) (fun v h1 => zRn (zcl d) 72 B Q 170 [some (zr a0), some (zi x1), some (zr a2), some (zi x3), some (zi x4), some (zr a5), some (zi (zwr (x6 + (-1)))), some (zi x7), some (zi (I y3 x7.toNat))] (zva v [zi (zwr ((zwr (x6 + (-1))) - 1)), zr a5]) h1))))))) ∧ (¬ (2 ≤ x6) → (Q (some (zi 0)) (c, I, zRg g))))) ∧ (¬ (I y3 x7.toNat < (-12)) → ((1 ≤ x6 → (((zSh a5).1 = 100) ∧ ((0 ≤ zwr (x6 - 1) ∧ zwr (x6 - 1) < ((zSh a5).2 : Nat)) ∧ (zcl d 74 0 0 [zi (I y3 x7.toNat), zi (I a5 ((zwr (x6 - 1)).toNat))] (c, I, zRg g) (fun v h1 => zRn (zcl d) 72 B Q 132 [some (zr a0), some (zi x1), some (zr a2), some (zi x3), some (zi x4), some (zr a5), some (zi x6), some (zi x7), some (zi (I y3 x7.toNat))] (zva v [zi (zwr (x6 - 1)), zr a5]) h1))))) ∧ (¬ (1 ≤ x6) → (Q (some (zi 0)) (c, I, zRg g))))))) ∧ (¬ (I y3 x7.toNat < (-6)) → ((100 ≤ (zSh a5).1 ∧ (zSh a5).1 ≤ 105) ∧ ((x6 < ((zSh a5).2 : Nat) → ((I y3 x7.toNat < 0 → (zcl d 73 0 0 [zi (I y3 x7.toNat), zr a2, zi x3, zi x4] (c, I, zRg g) (fun v h1 => zRn (zcl d) 72 B Q 92 [some (zr a0), some (zi x1), some (zr a2), some (zi x3), some (zi x4), some (zr a5), some (zi x6), some (zi x7), some (zi (I y3 x7.toNat))] (zva v [zi x6, zr a5]) h1))) ∧ (¬ (I y3 x7.toNat < 0) → (zRn (zcl d) 72 B Q 92 [some (zr a0), some (zi x1), some (zr a2), some (zi x3), some (zi x4), some (zr a5), some (zi x6), some (zi x7), some (zi (I y3 x7.toNat))] [zi (I y3 x7.toNat), zi x6, zr a5] (c, I, zRg g))))) ∧ (¬ (x6 < ((zSh a5).2 : Nat)) → (Q (some (zi 0)) (c, I, zRg g))))))))))))))))) :
    zRn (zcl d) 72 B Q 32 [some (zr a0), some (zi x1), some (zr a2), some (zi x3), some (zi x4), some (zr a5), some (zi x6), some (zi x7), none] [] (c, I, zRg g) :=
  zgo [32, 92, 132, 170, 194] 34 (And.intro t.1 (Exists.intro (some y1) (And.intro t.2.1 (And.intro t.2.2.1 (And.intro t.2.2.2.1 (And.intro (fun u135 => And.intro (fun u136 => ((t.2.2.2.2.1 u135).1 u136)) (fun u136 => And.intro ((t.2.2.2.2.1 u135).2 u136).1 (And.intro ((t.2.2.2.2.1 u135).2 u136).2.1 (And.intro (Nat.le_of_ble_eq_true rfl) (Exists.intro 0 (Exists.intro 0 (And.intro (Or.inl rfl) (And.intro (Or.inl rfl) (((t.2.2.2.2.1 u135).2 u136).2.2))))))))) (fun u135 => And.intro (t.2.2.2.2.2 u135).1 (Exists.intro (some y3) (And.intro (t.2.2.2.2.2 u135).2.1 (And.intro (t.2.2.2.2.2 u135).2.2.1 (And.intro (t.2.2.2.2.2 u135).2.2.2.1 (And.intro (fun u137 => And.intro (fun u138 => And.intro (fun u139 => And.intro ((((t.2.2.2.2.2 u135).2.2.2.2.1 u137).1 u138).1 u139).1 (And.intro ((((t.2.2.2.2.2 u135).2.2.2.2.1 u137).1 u138).1 u139).2.1 (And.intro ((((t.2.2.2.2.2 u135).2.2.2.2.1 u137).1 u138).1 u139).2.2.1 (And.intro ((((t.2.2.2.2.2 u135).2.2.2.2.1 u137).1 u138).1 u139).2.2.2.1 (And.intro (Nat.le_of_ble_eq_true rfl) (Exists.intro 0 (Exists.intro 0 (And.intro (Or.inl rfl) (And.intro (Or.inl rfl) (((((t.2.2.2.2.2 u135).2.2.2.2.1 u137).1 u138).1 u139).2.2.2.2)))))))))) (fun u139 => ((((t.2.2.2.2.2 u135).2.2.2.2.1 u137).1 u138).2 u139))) (fun u138 => And.intro (fun u140 => And.intro ((((t.2.2.2.2.2 u135).2.2.2.2.1 u137).2 u138).1 u140).1 (And.intro ((((t.2.2.2.2.2 u135).2.2.2.2.1 u137).2 u138).1 u140).2.1 (And.intro (Nat.le_of_ble_eq_true rfl) (Exists.intro 0 (Exists.intro 0 (And.intro (Or.inl rfl) (And.intro (Or.inl rfl) (((((t.2.2.2.2.2 u135).2.2.2.2.1 u137).2 u138).1 u140).2.2)))))))) (fun u140 => ((((t.2.2.2.2.2 u135).2.2.2.2.1 u137).2 u138).2 u140)))) (fun u137 => And.intro ((t.2.2.2.2.2 u135).2.2.2.2.2 u137).1 (And.intro (fun u141 => And.intro (fun u142 => And.intro (Nat.le_of_ble_eq_true rfl) (Exists.intro 0 (Exists.intro 0 (And.intro (Or.inl rfl) (And.intro (Or.inl rfl) ((((t.2.2.2.2.2 u135).2.2.2.2.2 u137).2.1 u141).1 u142)))))) (fun u142 => ((((t.2.2.2.2.2 u135).2.2.2.2.2 u137).2.1 u141).2 u142))) (fun u141 => (((t.2.2.2.2.2 u135).2.2.2.2.2 u137).2.2 u141))))))))))))))))
theorem g_x10_worth_92 {d : Nat} {B : Nat × Nat} {Q : zQ} {c : Nat × Nat × Nat} {I : Nat → Nat → Int} {g : Nat} {x1 x3 x4 x6 x7 x8 s0 s1 : Int} {a0 a2 a5 b2 : Nat}
    (t : ((zSh b2).1 = 100) ∧ ((0 ≤ s1 ∧ s1 < ((zSh b2).2 : Nat)) ∧ (zRn (zcl d) 72 B Q 32 [some (zr a0), some (zi x1), some (zr a2), some (zi x3), some (zi x4), some (zr a5), some (zi (zwr (x6 + 1))), some (zi (zwr (x7 + 1))), some (zi x8)] [] (c, (z2 I b2 s1.toNat s0), zRg g)))) :
    zRn (zcl d) 72 B Q 92 [some (zr a0), some (zi x1), some (zr a2), some (zi x3), some (zi x4), some (zr a5), some (zi x6), some (zi x7), some (zi x8)] [zi s0, zi s1, zr b2] (c, I, zRg g) :=
  zgo [32, 92, 132, 170, 194] 5 (And.intro t.1 (And.intro t.2.1 t.2.2))
theorem g_x10_worth_132 {d : Nat} {B : Nat × Nat} {Q : zQ} {c : Nat × Nat × Nat} {I : Nat → Nat → Int} {g : Nat} {x1 x3 x4 x6 x7 x8 s0 s1 : Int} {a0 a2 a5 b2 : Nat}
    (t : ((zSh b2).1 = 100) ∧ ((0 ≤ s1 ∧ s1 < ((zSh b2).2 : Nat)) ∧ (zRn (zcl d) 72 B Q 32 [some (zr a0), some (zi x1), some (zr a2), some (zi x3), some (zi x4), some (zr a5), some (zi x6), some (zi (zwr (x7 + 1))), some (zi x8)] [] (c, (z2 I b2 s1.toNat s0), zRg g)))) :
    zRn (zcl d) 72 B Q 132 [some (zr a0), some (zi x1), some (zr a2), some (zi x3), some (zi x4), some (zr a5), some (zi x6), some (zi x7), some (zi x8)] [zi s0, zi s1, zr b2] (c, I, zRg g) :=
  zgo [32, 92, 132, 170, 194] 4 (And.intro t.1 (And.intro t.2.1 t.2.2))
theorem g_x10_worth_170 {d : Nat} {B : Nat × Nat} {Q : zQ} {c : Nat × Nat × Nat} {I : Nat → Nat → Int} {g : Nat} {x1 x3 x4 x6 x7 x8 s0 s1 : Int} {a0 a2 a5 b2 : Nat}
    (t : ((zSh b2).1 = 100) ∧ ((0 ≤ s1 ∧ s1 < ((zSh b2).2 : Nat)) ∧ (zRn (zcl d) 72 B Q 32 [some (zr a0), some (zi x1), some (zr a2), some (zi x3), some (zi x4), some (zr a5), some (zi x6), some (zi (zwr (x7 + 1))), some (zi x8)] [] (c, (z2 I b2 s1.toNat s0), zRg g)))) :
    zRn (zcl d) 72 B Q 170 [some (zr a0), some (zi x1), some (zr a2), some (zi x3), some (zi x4), some (zr a5), some (zi x6), some (zi x7), some (zi x8)] [zi s0, zi s1, zr b2] (c, I, zRg g) :=
  zgo [32, 92, 132, 170, 194] 3 (And.intro t.1 (And.intro t.2.1 t.2.2))
theorem g_x10_worth_194 {d : Nat} {B : Nat × Nat} {Q : zQ} {c : Nat × Nat × Nat} {I : Nat → Nat → Int} {g : Nat} {x1 x3 x4 x6 x7 s0 : Int} {a0 a2 a5 : Nat}
    (t : Q (some (zi s0)) (c, I, zRg g)) :
    zRn (zcl d) 72 B Q 194 [some (zr a0), some (zi x1), some (zr a2), some (zi x3), some (zi x4), some (zr a5), some (zi x6), some (zi x7), none] [zi s0] (c, I, zRg g) :=
  zgo [32, 92, 132, 170, 194] 1 (t)
theorem g_x10_named_0 {d : Nat} {B : Nat × Nat} {Q : zQ} {c : Nat × Nat × Nat} {I : Nat → Nat → Int} {g : Nat} {x0 x2 x3 : Int} {a1 : Nat}
    (t : (x0 = (-5) → (zcl d 202 0 0 [zi x2] (c, I, zRg g) (fun v h1 => zRn (zcl d) 73 B Q 60 [some (zi x0), some (zr a1), some (zi x2), some (zi x3)] (zva v []) h1))) ∧ (¬ (x0 = (-5)) → ((x0 = (-4) → (Q (some (zi x3)) (c, I, zRg g))) ∧ (¬ (x0 = (-4)) → ((x0 = (-3) → (((zSh a1).1 = 5) ∧ (Q (some (zi (I a1 1))) (c, I, zRg g)))) ∧ (¬ (x0 = (-3)) → ((x0 = (-2) → (((zSh a1).1 = 5) ∧ (Q (some (zi (I a1 3))) (c, I, zRg g)))) ∧ (¬ (x0 = (-2)) → ((x0 = (-1) → (((zSh a1).1 = 5) ∧ (zcl d 202 0 0 [zi (I a1 2)] (c, I, zRg g) (fun v h1 => zRn (zcl d) 73 B Q 43 [some (zi x0), some (zr a1), some (zi x2), some (zi x3)] (zva v []) h1)))) ∧ (¬ (x0 = (-1)) → (((zSh a1).1 = 5) ∧ (Q (some (zi (I a1 4))) (c, I, zRg g))))))))))))) :
    zRn (zcl d) 73 B Q 0 [some (zi x0), some (zr a1), some (zi x2), some (zi x3)] [] (c, I, zRg g) :=
  zgo [43, 60] 4 (And.intro (fun u143 => And.intro (Nat.le_of_ble_eq_true rfl) (Exists.intro 0 (Exists.intro 0 (And.intro (Or.inl rfl) (And.intro (Or.inl rfl) (t.1 u143)))))) (fun u143 => And.intro (fun u144 => ((t.2 u143).1 u144)) (fun u144 => And.intro (fun u145 => And.intro (((t.2 u143).2 u144).1 u145).1 ((((t.2 u143).2 u144).1 u145).2)) (fun u145 => And.intro (fun u146 => And.intro ((((t.2 u143).2 u144).2 u145).1 u146).1 (((((t.2 u143).2 u144).2 u145).1 u146).2)) (fun u146 => And.intro (fun u147 => And.intro (((((t.2 u143).2 u144).2 u145).2 u146).1 u147).1 (And.intro (Nat.le_of_ble_eq_true rfl) (Exists.intro 0 (Exists.intro 0 (And.intro (Or.inl rfl) (And.intro (Or.inl rfl) ((((((t.2 u143).2 u144).2 u145).2 u146).1 u147).2))))))) (fun u147 => And.intro (((((t.2 u143).2 u144).2 u145).2 u146).2 u147).1 ((((((t.2 u143).2 u144).2 u145).2 u146).2 u147).2)))))))
theorem g_x10_named_43 {d : Nat} {B : Nat × Nat} {Q : zQ} {c : Nat × Nat × Nat} {I : Nat → Nat → Int} {g : Nat} {x0 x2 x3 s0 : Int} {a1 : Nat}
    (t : Q (some (zi s0)) (c, I, zRg g)) :
    zRn (zcl d) 73 B Q 43 [some (zi x0), some (zr a1), some (zi x2), some (zi x3)] [zi s0] (c, I, zRg g) :=
  zgo [43, 60] 0 (t)
theorem g_x10_named_60 {d : Nat} {B : Nat × Nat} {Q : zQ} {c : Nat × Nat × Nat} {I : Nat → Nat → Int} {g : Nat} {x0 x2 x3 s0 : Int} {a1 : Nat}
    (t : Q (some (zi s0)) (c, I, zRg g)) :
    zRn (zcl d) 73 B Q 60 [some (zi x0), some (zr a1), some (zi x2), some (zi x3)] [zi s0] (c, I, zRg g) :=
  zgo [43, 60] 0 (t)
theorem g_x10_ofOne_0 {d : Nat} {B : Nat × Nat} {Q : zQ} {c : Nat × Nat × Nat} {I : Nat → Nat → Int} {g : Nat} {x0 x1 : Int}
    (t : (x0 ≠ (-11) → (Q (some (zi (zwr (-x1)))) (c, I, zRg g))) ∧ (¬ (x0 ≠ (-11)) → ((x1 ≠ 0 → (Q (some (zi 0)) (c, I, zRg g))) ∧ (¬ (x1 ≠ 0) → (Q (some (zi 1)) (c, I, zRg g)))))) :
    zRn (zcl d) 74 B Q 0 [some (zi x0), some (zi x1)] [] (c, I, zRg g) :=
  zgo [] 7 (And.intro (fun u148 => (t.1 u148)) (fun u148 => And.intro (fun u149 => ((t.2 u148).1 u149)) (fun u149 => ((t.2 u148).2 u149))))
theorem g_x10_ofTwo_0 {d : Nat} {B : Nat × Nat} {Q : zQ} {c : Nat × Nat × Nat} {I : Nat → Nat → Int} {g : Nat} {x0 x1 x2 : Int}
    (t : (x0 = (-26) → (Q (some (zi (zwr (x1 - x2)))) (c, I, zRg g))) ∧ (¬ (x0 = (-26)) → ((x0 = (-25) → (Q (some (zi (zwr (x1 + x2)))) (c, I, zRg g))) ∧ (¬ (x0 = (-25)) → ((x0 = (-24) → ((x1 ≠ x2 → (Q (some (zi 0)) (c, I, zRg g))) ∧ (¬ (x1 ≠ x2) → (Q (some (zi 1)) (c, I, zRg g))))) ∧ (¬ (x0 = (-24)) → ((x0 = (-23) → ((x2 ≤ x1 → (Q (some (zi 0)) (c, I, zRg g))) ∧ (¬ (x2 ≤ x1) → (Q (some (zi 1)) (c, I, zRg g))))) ∧ (¬ (x0 = (-23)) → ((x0 = (-22) → ((x1 = 0 → (Q (some (zi 0)) (c, I, zRg g))) ∧ (¬ (x1 = 0) → ((x2 = 0 → (Q (some (zi 0)) (c, I, zRg g))) ∧ (¬ (x2 = 0) → (Q (some (zi 1)) (c, I, zRg g))))))) ∧ (¬ (x0 = (-22)) → ((x0 = (-21) → ((x1 ≠ 0 → (Q (some (zi 1)) (c, I, zRg g))) ∧ (¬ (x1 ≠ 0) → ((x2 = 0 → (Q (some (zi 0)) (c, I, zRg g))) ∧ (¬ (x2 = 0) → (Q (some (zi 1)) (c, I, zRg g))))))) ∧ (¬ (x0 = (-21)) → (Q (some (zi (zwr (x1 * x2)))) (c, I, zRg g)))))))))))))) :
    zRn (zcl d) 75 B Q 0 [some (zi x0), some (zi x1), some (zi x2)] [] (c, I, zRg g) :=
  zgo [] 8 (And.intro (fun u150 => (t.1 u150)) (fun u150 => And.intro (fun u151 => ((t.2 u150).1 u151)) (fun u151 => And.intro (fun u152 => And.intro (fun u153 => ((((t.2 u150).2 u151).1 u152).1 u153)) (fun u153 => ((((t.2 u150).2 u151).1 u152).2 u153))) (fun u152 => And.intro (fun u154 => And.intro (fun u155 => (((((t.2 u150).2 u151).2 u152).1 u154).1 u155)) (fun u155 => (((((t.2 u150).2 u151).2 u152).1 u154).2 u155))) (fun u154 => And.intro (fun u156 => And.intro (fun u157 => ((((((t.2 u150).2 u151).2 u152).2 u154).1 u156).1 u157)) (fun u157 => And.intro (fun u158 => (((((((t.2 u150).2 u151).2 u152).2 u154).1 u156).2 u157).1 u158)) (fun u158 => (((((((t.2 u150).2 u151).2 u152).2 u154).1 u156).2 u157).2 u158)))) (fun u156 => And.intro (fun u159 => And.intro (fun u160 => (((((((t.2 u150).2 u151).2 u152).2 u154).2 u156).1 u159).1 u160)) (fun u160 => And.intro (fun u161 => ((((((((t.2 u150).2 u151).2 u152).2 u154).2 u156).1 u159).2 u160).1 u161)) (fun u161 => ((((((((t.2 u150).2 u151).2 u152).2 u154).2 u156).1 u159).2 u160).2 u161)))) (fun u159 => ((((((t.2 u150).2 u151).2 u152).2 u154).2 u156).2 u159))))))))
theorem g_x11_set_0 {d : Nat} {B : Nat × Nat} {Q : zQ} {c : Nat × Nat × Nat} {I : Nat → Nat → Int} {g : Nat} {x1 x2 x3 : Int}
    (t : (x1 < 0 → (Q (some (zi (-2))) (c, I, zRg g))) ∧ (¬ (x1 < 0) → ((x1 ≤ 4 → ((x1 = 0 → ((x3 < 0 → (Q (some (zi (-2))) (c, I, zRg g))) ∧ (¬ (x3 < 0) → (zcl d 82 0 0 [zi x1] (c, I, zRg g) (fun v h1 => zRn (zcl d) 77 B Q 39 [some (zr 0), some (zi x1), some (zi x2), some (zi x3), none, none] (zva v [zi x3]) h1))))) ∧ (¬ (x1 = 0) → (zcl d 1 0 0 [zr 2, zi x2] (c, I, zRg g) (fun v h1 => zRn (zcl d) 77 B Q 24 [some (zr 0), some (zi x1), some (zi x2), some (zi x3), none, none] (zva v []) h1))))) ∧ (¬ (x1 ≤ 4) → (Q (some (zi (-2))) (c, I, zRg g)))))) :
    zRn (zcl d) 77 B Q 0 [some (zr 0), some (zi x1), some (zi x2), some (zi x3), none, none] [] (c, I, zRg g) :=
  zgo [24, 39, 86, 95] 11 (And.intro (fun u162 => (t.1 u162)) (fun u162 => And.intro (fun u163 => And.intro (fun u164 => And.intro (fun u165 => ((((t.2 u162).1 u163).1 u164).1 u165)) (fun u165 => And.intro (Nat.le_of_ble_eq_true rfl) (Exists.intro 0 (Exists.intro 0 (And.intro (Or.inl rfl) (And.intro (Or.inl rfl) ((((t.2 u162).1 u163).1 u164).2 u165))))))) (fun u164 => And.intro rfl (Exists.intro (some 2) (And.intro rfl (Exists.intro 1 (And.intro rfl (And.intro (Nat.le_of_ble_eq_true rfl) (Exists.intro 0 (Exists.intro 0 (And.intro (Or.inl rfl) (And.intro (Or.inl rfl) (((t.2 u162).1 u163).2 u164)))))))))))) (fun u163 => ((t.2 u162).2 u163))))
theorem g_x11_set_24 {d : Nat} {B : Nat × Nat} {Q : zQ} {c : Nat × Nat × Nat} {I : Nat → Nat → Int} {g : Nat} {x1 x2 x3 s0 : Int}
    (t : (s0 ≠ 0 → ((x3 < 0 → (Q (some (zi (-2))) (c, I, zRg g))) ∧ (¬ (x3 < 0) → (zcl d 82 0 0 [zi x1] (c, I, zRg g) (fun v h1 => zRn (zcl d) 77 B Q 39 [some (zr 0), some (zi x1), some (zi x2), some (zi x3), none, none] (zva v [zi x3]) h1))))) ∧ (¬ (s0 ≠ 0) → (Q (some (zi (-2))) (c, I, zRg g)))) :
    zRn (zcl d) 77 B Q 24 [some (zr 0), some (zi x1), some (zi x2), some (zi x3), none, none] [zi s0] (c, I, zRg g) :=
  zgo [24, 39, 86, 95] 5 (And.intro (fun u168 => And.intro (fun u169 => ((t.1 u168).1 u169)) (fun u169 => And.intro (Nat.le_of_ble_eq_true rfl) (Exists.intro 0 (Exists.intro 0 (And.intro (Or.inl rfl) (And.intro (Or.inl rfl) ((t.1 u168).2 u169))))))) (fun u168 => (t.2 u168)))
theorem g_x11_set_39 {d : Nat} {B : Nat × Nat} {Q : zQ} {c : Nat × Nat × Nat} {I : Nat → Nat → Int} {g : Nat} {x1 x2 x3 s0 s1 : Int} {y1 : Nat}
    (t : (s1 ≤ s0 → ((x1 ≠ 0 → ((0 ≤ x2 ∧ x2 < 5) ∧ ((zRg g 3 x2.toNat = some y1) ∧ ((zsel ((zSh y1).1 : Nat) [(5, 27)] = some 27) ∧ (zcl d 27 0 0 [zr y1, zi x1] (c, I, zRg g) (fun v h1 => zRn (zcl d) 77 B Q 86 [some (zr 0), some (zi x1), some (zi x2), some (zi x3), some (zr y1), none] (zva v []) h1)))))) ∧ (¬ (x1 ≠ 0) → (Q (some (zi (I 2 4))) (c, (z2 I 2 4 x3), zRg g))))) ∧ (¬ (s1 ≤ s0) → (Q (some (zi (-2))) (c, I, zRg g)))) :
    zRn (zcl d) 77 B Q 39 [some (zr 0), some (zi x1), some (zi x2), some (zi x3), none, none] [zi s0, zi s1] (c, I, zRg g) :=
  zgo [24, 39, 86, 95] 12 (And.intro (fun u166 => And.intro (fun u167 => And.intro rfl (Exists.intro (some 2) (And.intro rfl (And.intro rfl (Exists.intro (some 3) (And.intro rfl (And.intro (by decide) (And.intro ((t.1 u166).1 u167).1 (Exists.intro (some y1) (And.intro ((t.1 u166).1 u167).2.1 (Exists.intro 27 (And.intro ((t.1 u166).1 u167).2.2.1 (And.intro (Nat.le_of_ble_eq_true rfl) (Exists.intro 0 (Exists.intro 0 (And.intro (Or.inl rfl) (And.intro (Or.inl rfl) (((t.1 u166).1 u167).2.2.2)))))))))))))))))) (fun u167 => And.intro rfl (Exists.intro (some 2) (And.intro rfl (And.intro rfl (And.intro rfl (Exists.intro (some 2) (And.intro rfl (And.intro rfl ((t.1 u166).2 u167)))))))))) (fun u166 => (t.2 u166)))
theorem g_x11_set_86 {d : Nat} {B : Nat × Nat} {Q : zQ} {c : Nat × Nat × Nat} {I : Nat → Nat → Int} {g : Nat} {x1 x2 x3 s0 : Int} {a4 : Nat}
    (t : (zsel ((zSh a4).1 : Nat) [(5, 28)] = some 28) ∧ (zcl d 28 0 0 [zr a4, zi x1, zi x3] (c, I, zRg g) (fun v h1 => zRn (zcl d) 77 B Q 95 [some (zr 0), some (zi x1), some (zi x2), some (zi x3), some (zr a4), some (zi s0)] (zva v []) h1))) :
    zRn (zcl d) 77 B Q 86 [some (zr 0), some (zi x1), some (zi x2), some (zi x3), some (zr a4), none] [zi s0] (c, I, zRg g) :=
  zgo [24, 39, 86, 95] 4 (Exists.intro 28 (And.intro t.1 (And.intro (Nat.le_of_ble_eq_true rfl) (Exists.intro 0 (Exists.intro 0 (And.intro (Or.inl rfl) (And.intro (Or.inl rfl) t.2)))))))
theorem g_x11_set_95 {d : Nat} {B : Nat × Nat} {Q : zQ} {c : Nat × Nat × Nat} {I : Nat → Nat → Int} {g : Nat} {x1 x2 x3 x5 : Int} {a4 : Nat}
    (t : Q (some (zi x5)) (c, I, zRg g)) :
    zRn (zcl d) 77 B Q 95 [some (zr 0), some (zi x1), some (zi x2), some (zi x3), some (zr a4), some (zi x5)] [] (c, I, zRg g) :=
  zgo [24, 39, 86, 95] 1 (t)
theorem g_x11_person_0 {d : Nat} {B : Nat × Nat} {Q : zQ} {c : Nat × Nat × Nat} {I : Nat → Nat → Int} {g : Nat} {x1 x2 x3 x4 : Int}
    (t : (x1 < 0 → (Q (some (zi (-2))) (c, I, zRg g))) ∧ (¬ (x1 < 0) → ((6 ≤ x1 → (Q (some (zi (-2))) (c, I, zRg g))) ∧ (¬ (6 ≤ x1) → ((x2 < 0 → (Q (some (zi (-2))) (c, I, zRg g))) ∧ (¬ (x2 < 0) → ((x2 ≤ 9 → (zcl d 83 0 0 [zi x3] (c, I, zRg g) (fun v h1 => zRn (zcl d) 78 B Q 27 [some (zr 0), some (zi x1), some (zi x2), some (zi x3), some (zi x4), none] (zva v []) h1))) ∧ (¬ (x2 ≤ 9) → (Q (some (zi (-2))) (c, I, zRg g)))))))))) :
    zRn (zcl d) 78 B Q 0 [some (zr 0), some (zi x1), some (zi x2), some (zi x3), some (zi x4), none] [] (c, I, zRg g) :=
  zgo [27] 11 (And.intro (fun u170 => (t.1 u170)) (fun u170 => And.intro (fun u171 => ((t.2 u170).1 u171)) (fun u171 => And.intro (fun u172 => (((t.2 u170).2 u171).1 u172)) (fun u172 => And.intro (fun u173 => And.intro (Nat.le_of_ble_eq_true rfl) (Exists.intro 0 (Exists.intro 0 (And.intro (Or.inl rfl) (And.intro (Or.inl rfl) ((((t.2 u170).2 u171).2 u172).1 u173)))))) (fun u173 => ((((t.2 u170).2 u171).2 u172).2 u173))))))
theorem g_x11_person_27 {d : Nat} {B : Nat × Nat} {Q : zQ} {c : Nat × Nat × Nat} {I : Nat → Nat → Int} {g : Nat} {x1 x2 x3 x4 s0 : Int} {y1 : Nat}
    (t : (s0 = 0 → (Q (some (zi (-2))) (c, I, zRg g))) ∧ (¬ (s0 = 0) → ((x4 < 0 → (Q (some (zi (-2))) (c, I, zRg g))) ∧ (¬ (x4 < 0) → ((x4 ≤ 99 → ((I 2 2 < 5 → ((0 ≤ I 2 2 ∧ I 2 2 < 5) ∧ ((zRg g 3 (I 2 2).toNat = some y1) ∧ (((zSh y1).1 = 5) ∧ (((zSh y1).1 = 5) ∧ (((zSh y1).1 = 5) ∧ (((zSh y1).1 = 5) ∧ (((zSh y1).1 = 5) ∧ (Q (some (zi (zwr ((zwr (((z2 (z2 (z2 (z2 (z2 I y1 0 x1) y1 1 x2) y1 2 x3) y1 3 x4) y1 4 0) 2 2) + 1)) - 1)))) (c, (z2 (z2 (z2 (z2 (z2 (z2 I y1 0 x1) y1 1 x2) y1 2 x3) y1 3 x4) y1 4 0) 2 2 (zwr (((z2 (z2 (z2 (z2 (z2 I y1 0 x1) y1 1 x2) y1 2 x3) y1 3 x4) y1 4 0) 2 2) + 1))), zRg g)))))))))) ∧ (¬ (I 2 2 < 5) → (Q (some (zi (-4))) (c, I, zRg g))))) ∧ (¬ (x4 ≤ 99) → (Q (some (zi (-2))) (c, I, zRg g)))))))) :
    zRn (zcl d) 78 B Q 27 [some (zr 0), some (zi x1), some (zi x2), some (zi x3), some (zi x4), none] [zi s0] (c, I, zRg g) :=
  zgo [27] 46 (And.intro (fun u174 => (t.1 u174)) (fun u174 => And.intro (fun u175 => ((t.2 u174).1 u175)) (fun u175 => And.intro (fun u176 => And.intro rfl (Exists.intro (some 2) (And.intro rfl (And.intro rfl (And.intro (fun u177 => And.intro rfl (Exists.intro (some 2) (And.intro rfl (And.intro rfl (Exists.intro (some 3) (And.intro rfl (And.intro rfl (Exists.intro (some 2) (And.intro rfl (And.intro rfl (And.intro (by decide) (And.intro ((((t.2 u174).2 u175).1 u176).1 u177).1 (Exists.intro (some y1) (And.intro ((((t.2 u174).2 u175).1 u176).1 u177).2.1 (And.intro ((((t.2 u174).2 u175).1 u176).1 u177).2.2.1 (And.intro ((((t.2 u174).2 u175).1 u176).1 u177).2.2.2.1 (And.intro ((((t.2 u174).2 u175).1 u176).1 u177).2.2.2.2.1 (And.intro ((((t.2 u174).2 u175).1 u176).1 u177).2.2.2.2.2.1 (And.intro ((((t.2 u174).2 u175).1 u176).1 u177).2.2.2.2.2.2.1 (And.intro rfl (Exists.intro (some 2) (And.intro rfl (And.intro rfl (And.intro rfl (And.intro rfl (Exists.intro (some 2) (And.intro rfl (And.intro rfl (((((t.2 u174).2 u175).1 u176).1 u177).2.2.2.2.2.2.2))))))))))))))))))))))))))))) (fun u177 => ((((t.2 u174).2 u175).1 u176).2 u177))))))) (fun u176 => (((t.2 u174).2 u175).2 u176)))))
theorem g_x11_told_0 {d : Nat} {B : Nat × Nat} {Q : zQ} {c : Nat × Nat × Nat} {I : Nat → Nat → Int} {g : Nat} {x1 x2 : Int}
    (t : (x2 = 0 → (Q (some (zi (I 2 4))) (c, I, zRg g))) ∧ (¬ (x2 = 0) → ((x2 = 1 → (zcl d 1 0 0 [zr 2, zi x1] (c, I, zRg g) (fun v h1 => zRn (zcl d) 79 B Q 68 [some (zr 0), some (zi x1), some (zi x2)] (zva v []) h1))) ∧ (¬ (x2 = 1) → ((x2 = 2 → (zcl d 1 0 0 [zr 2, zi x1] (c, I, zRg g) (fun v h1 => zRn (zcl d) 79 B Q 68 [some (zr 0), some (zi x1), some (zi x2)] (zva v []) h1))) ∧ (¬ (x2 = 2) → ((x2 = 3 → (zcl d 1 0 0 [zr 2, zi x1] (c, I, zRg g) (fun v h1 => zRn (zcl d) 79 B Q 68 [some (zr 0), some (zi x1), some (zi x2)] (zva v []) h1))) ∧ (¬ (x2 = 3) → ((x2 = 4 → (zcl d 1 0 0 [zr 2, zi x1] (c, I, zRg g) (fun v h1 => zRn (zcl d) 79 B Q 68 [some (zr 0), some (zi x1), some (zi x2)] (zva v []) h1))) ∧ (¬ (x2 = 4) → ((x2 = 5 → (zcl d 1 0 0 [zr 2, zi x1] (c, I, zRg g) (fun v h1 => zRn (zcl d) 79 B Q 68 [some (zr 0), some (zi x1), some (zi x2)] (zva v []) h1))) ∧ (¬ (x2 = 5) → ((x2 = 6 → ((x1 < 0 → (Q (some (zi (-1000))) (c, I, zRg g))) ∧ (¬ (x1 < 0) → ((I 2 3 ≤ x1 → (Q (some (zi (-1000))) (c, I, zRg g))) ∧ (¬ (I 2 3 ≤ x1) → ((0 ≤ x1 ∧ x1 < 8) ∧ (Q (some (zi (I 4 x1.toNat))) (c, I, zRg g)))))))) ∧ (¬ (x2 = 6) → ((x2 = 7 → (Q (some (zi (I 2 3))) (c, I, zRg g))) ∧ (¬ (x2 = 7) → ((x2 = 8 → (Q (some (zi (I 2 5))) (c, I, zRg g))) ∧ (¬ (x2 = 8) → (Q (some (zi (-1000))) (c, I, zRg g)))))))))))))))))))) :
    zRn (zcl d) 79 B Q 0 [some (zr 0), some (zi x1), some (zi x2)] [] (c, I, zRg g) :=
  zgo [68, 84] 15 (And.intro (fun u178 => And.intro rfl (Exists.intro (some 2) (And.intro rfl (And.intro rfl (t.1 u178))))) (fun u178 => And.intro (fun u179 => And.intro rfl (Exists.intro (some 2) (And.intro rfl (Exists.intro 1 (And.intro rfl (And.intro (Nat.le_of_ble_eq_true rfl) (Exists.intro 0 (Exists.intro 0 (And.intro (Or.inl rfl) (And.intro (Or.inl rfl) ((t.2 u178).1 u179))))))))))) (fun u179 => And.intro (fun u180 => And.intro rfl (Exists.intro (some 2) (And.intro rfl (Exists.intro 1 (And.intro rfl (And.intro (Nat.le_of_ble_eq_true rfl) (Exists.intro 0 (Exists.intro 0 (And.intro (Or.inl rfl) (And.intro (Or.inl rfl) (((t.2 u178).2 u179).1 u180))))))))))) (fun u180 => And.intro (fun u181 => And.intro rfl (Exists.intro (some 2) (And.intro rfl (Exists.intro 1 (And.intro rfl (And.intro (Nat.le_of_ble_eq_true rfl) (Exists.intro 0 (Exists.intro 0 (And.intro (Or.inl rfl) (And.intro (Or.inl rfl) ((((t.2 u178).2 u179).2 u180).1 u181))))))))))) (fun u181 => And.intro (fun u182 => And.intro rfl (Exists.intro (some 2) (And.intro rfl (Exists.intro 1 (And.intro rfl (And.intro (Nat.le_of_ble_eq_true rfl) (Exists.intro 0 (Exists.intro 0 (And.intro (Or.inl rfl) (And.intro (Or.inl rfl) (((((t.2 u178).2 u179).2 u180).2 u181).1 u182))))))))))) (fun u182 => And.intro (fun u183 => And.intro rfl (Exists.intro (some 2) (And.intro rfl (Exists.intro 1 (And.intro rfl (And.intro (Nat.le_of_ble_eq_true rfl) (Exists.intro 0 (Exists.intro 0 (And.intro (Or.inl rfl) (And.intro (Or.inl rfl) ((((((t.2 u178).2 u179).2 u180).2 u181).2 u182).1 u183))))))))))) (fun u183 => And.intro (fun u184 => And.intro (fun u185 => ((((((((t.2 u178).2 u179).2 u180).2 u181).2 u182).2 u183).1 u184).1 u185)) (fun u185 => And.intro rfl (Exists.intro (some 2) (And.intro rfl (And.intro rfl (And.intro (fun u186 => (((((((((t.2 u178).2 u179).2 u180).2 u181).2 u182).2 u183).1 u184).2 u185).1 u186)) (fun u186 => And.intro rfl (Exists.intro (some 2) (And.intro rfl (And.intro rfl (Exists.intro (some 4) (And.intro rfl (And.intro rfl (And.intro (((((((((t.2 u178).2 u179).2 u180).2 u181).2 u182).2 u183).1 u184).2 u185).2 u186).1 ((((((((((t.2 u178).2 u179).2 u180).2 u181).2 u182).2 u183).1 u184).2 u185).2 u186).2))))))))))))))) (fun u184 => And.intro (fun u187 => And.intro rfl (Exists.intro (some 2) (And.intro rfl (And.intro rfl ((((((((t.2 u178).2 u179).2 u180).2 u181).2 u182).2 u183).2 u184).1 u187))))) (fun u187 => And.intro (fun u188 => And.intro rfl (Exists.intro (some 2) (And.intro rfl (And.intro rfl (((((((((t.2 u178).2 u179).2 u180).2 u181).2 u182).2 u183).2 u184).2 u187).1 u188))))) (fun u188 => (((((((((t.2 u178).2 u179).2 u180).2 u181).2 u182).2 u183).2 u184).2 u187).2 u188)))))))))))
theorem g_x11_told_68 {d : Nat} {B : Nat × Nat} {Q : zQ} {c : Nat × Nat × Nat} {I : Nat → Nat → Int} {g : Nat} {x1 x2 s0 : Int} {y1 : Nat}
    (t : (s0 = 0 → (Q (some (zi (-1000))) (c, I, zRg g))) ∧ (¬ (s0 = 0) → ((0 ≤ x1 ∧ x1 < 5) ∧ ((zRg g 3 x1.toNat = some y1) ∧ ((zsel ((zSh y1).1 : Nat) [(5, 27)] = some 27) ∧ (zcl d 27 0 0 [zr y1, zi x2] (c, I, zRg g) (fun v h1 => zRn (zcl d) 79 B Q 84 [some (zr 0), some (zi x1), some (zi x2)] (zva v []) h1))))))) :
    zRn (zcl d) 79 B Q 68 [some (zr 0), some (zi x1), some (zi x2)] [zi s0] (c, I, zRg g) :=
  zgo [68, 84] 7 (And.intro (fun u189 => (t.1 u189)) (fun u189 => And.intro rfl (Exists.intro (some 2) (And.intro rfl (And.intro rfl (Exists.intro (some 3) (And.intro rfl (And.intro (by decide) (And.intro (t.2 u189).1 (Exists.intro (some y1) (And.intro (t.2 u189).2.1 (Exists.intro 27 (And.intro (t.2 u189).2.2.1 (And.intro (Nat.le_of_ble_eq_true rfl) (Exists.intro 0 (Exists.intro 0 (And.intro (Or.inl rfl) (And.intro (Or.inl rfl) ((t.2 u189).2.2.2)))))))))))))))))))
theorem g_x11_told_84 {d : Nat} {B : Nat × Nat} {Q : zQ} {c : Nat × Nat × Nat} {I : Nat → Nat → Int} {g : Nat} {x1 x2 s0 : Int}
    (t : Q (some (zi s0)) (c, I, zRg g)) :
    zRn (zcl d) 79 B Q 84 [some (zr 0), some (zi x1), some (zi x2)] [zi s0] (c, I, zRg g) :=
  zgo [68, 84] 1 (t)
theorem g_x11_brings_0 {d : Nat} {B : Nat × Nat} {Q : zQ} {c : Nat × Nat × Nat} {I : Nat → Nat → Int} {g : Nat} {x1 : Int}
    (t : (x1 < 1 → (Q (some (zi (-2))) (c, I, zRg g))) ∧ (¬ (x1 < 1) → ((x1 < 1024 → ((I 2 3 < 8 → ((0 ≤ I 2 3 ∧ I 2 3 < 8) ∧ (Q (some (zi (zwr (((z2 I 4 (I 2 3).toNat x1) 2 3) + 1)))) (c, (z2 (z2 I 4 (I 2 3).toNat x1) 2 3 (zwr (((z2 I 4 (I 2 3).toNat x1) 2 3) + 1))), zRg g)))) ∧ (¬ (I 2 3 < 8) → (Q (some (zi (-4))) (c, I, zRg g))))) ∧ (¬ (x1 < 1024) → (Q (some (zi (-2))) (c, I, zRg g)))))) :
    zRn (zcl d) 80 B Q 0 [some (zr 0), some (zi x1)] [] (c, I, zRg g) :=
  zgo [] 29 (And.intro (fun u190 => (t.1 u190)) (fun u190 => And.intro (fun u191 => And.intro rfl (Exists.intro (some 2) (And.intro rfl (And.intro rfl (And.intro (fun u192 => And.intro rfl (Exists.intro (some 2) (And.intro rfl (And.intro rfl (Exists.intro (some 4) (And.intro rfl (And.intro rfl (Exists.intro (some 2) (And.intro rfl (And.intro rfl (And.intro rfl (And.intro (((t.2 u190).1 u191).1 u192).1 (And.intro rfl (Exists.intro (some 2) (And.intro rfl (And.intro rfl (And.intro rfl (And.intro rfl (Exists.intro (some 2) (And.intro rfl (And.intro rfl ((((t.2 u190).1 u191).1 u192).2)))))))))))))))))))))) (fun u192 => (((t.2 u190).1 u191).2 u192))))))) (fun u191 => ((t.2 u190).2 u191))))
theorem g_x11_asks_0 {d : Nat} {B : Nat × Nat} {Q : zQ} {c : Nat × Nat × Nat} {I : Nat → Nat → Int} {g : Nat} {x1 x2 x3 : Int}
    (t : zcl d 1 0 0 [zr 2, zi x1] (c, I, zRg g) (fun v h1 => zRn (zcl d) 81 B Q 8 [some (zr 0), some (zi x1), some (zi x2), some (zi x3), none] (zva v []) h1)) :
    zRn (zcl d) 81 B Q 0 [some (zr 0), some (zi x1), some (zi x2), some (zi x3), none] [] (c, I, zRg g) :=
  zgo [8, 15, 75, 87, 99, 111] 3 (And.intro rfl (Exists.intro (some 2) (And.intro rfl (Exists.intro 1 (And.intro rfl (And.intro (Nat.le_of_ble_eq_true rfl) (Exists.intro 0 (Exists.intro 0 (And.intro (Or.inl rfl) (And.intro (Or.inl rfl) t))))))))))
theorem g_x11_asks_8 {d : Nat} {B : Nat × Nat} {Q : zQ} {c : Nat × Nat × Nat} {I : Nat → Nat → Int} {g : Nat} {x1 x2 x3 s0 : Int}
    (t : (s0 = 0 → (Q (some (zi (-2))) (c, I, zRg g))) ∧ (¬ (s0 = 0) → (zcl d 83 0 0 [zi x2] (c, I, zRg g) (fun v h1 => zRn (zcl d) 81 B Q 15 [some (zr 0), some (zi x1), some (zi x2), some (zi x3), none] (zva v []) h1)))) :
    zRn (zcl d) 81 B Q 8 [some (zr 0), some (zi x1), some (zi x2), some (zi x3), none] [zi s0] (c, I, zRg g) :=
  zgo [8, 15, 75, 87, 99, 111] 2 (And.intro (fun u193 => (t.1 u193)) (fun u193 => And.intro (Nat.le_of_ble_eq_true rfl) (Exists.intro 0 (Exists.intro 0 (And.intro (Or.inl rfl) (And.intro (Or.inl rfl) (t.2 u193)))))))
theorem g_x11_asks_15 {d : Nat} {B : Nat × Nat} {Q : zQ} {c : Nat × Nat × Nat} {I : Nat → Nat → Int} {g : Nat} {x1 x2 x3 s0 : Int} {y1 : Nat}
    (t : (s0 ≠ 0 → ((0 ≤ x1 ∧ x1 < 5) ∧ ((zRg g 3 x1.toNat = some y1) ∧ ((x3 = 0 → (zcl d 94 0 0 [zr 0, zr 2, zr y1, zi x2] (c, I, zRg g) (fun v h1 => zRn (zcl d) 81 B Q 75 [some (zr 0), some (zi x1), some (zi x2), some (zi x3), some (zr y1)] (zva v []) h1))) ∧ (¬ (x3 = 0) → ((x3 = 1 → (zcl d 93 0 0 [zr 0, zr 2, zr y1, zi x2] (c, I, zRg g) (fun v h1 => zRn (zcl d) 81 B Q 87 [some (zr 0), some (zi x1), some (zi x2), some (zi x3), some (zr y1)] (zva v []) h1))) ∧ (¬ (x3 = 1) → ((x3 = 2 → (zcl d 95 0 0 [zr 0, zr 2, zr y1, zi x2] (c, I, zRg g) (fun v h1 => zRn (zcl d) 81 B Q 99 [some (zr 0), some (zi x1), some (zi x2), some (zi x3), some (zr y1)] (zva v []) h1))) ∧ (¬ (x3 = 2) → ((x3 = 3 → (zcl d 96 0 0 [zr 0, zr 2, zr y1, zi x2] (c, I, zRg g) (fun v h1 => zRn (zcl d) 81 B Q 111 [some (zr 0), some (zi x1), some (zi x2), some (zi x3), some (zr y1)] (zva v []) h1))) ∧ (¬ (x3 = 3) → (Q (some (zi (-2))) (c, I, zRg g))))))))))))) ∧ (¬ (s0 ≠ 0) → (Q (some (zi (-2))) (c, I, zRg g)))) :
    zRn (zcl d) 81 B Q 15 [some (zr 0), some (zi x1), some (zi x2), some (zi x3), none] [zi s0] (c, I, zRg g) :=
  zgo [8, 15, 75, 87, 99, 111] 14 (And.intro (fun u194 => And.intro rfl (Exists.intro (some 2) (And.intro rfl (And.intro rfl (Exists.intro (some 3) (And.intro rfl (And.intro (by decide) (And.intro (t.1 u194).1 (Exists.intro (some y1) (And.intro (t.1 u194).2.1 (And.intro (fun u195 => And.intro rfl (Exists.intro (some 2) (And.intro rfl (Exists.intro 94 (And.intro rfl (And.intro (Nat.le_of_ble_eq_true rfl) (Exists.intro 0 (Exists.intro 0 (And.intro (Or.inl rfl) (And.intro (Or.inl rfl) ((t.1 u194).2.2.1 u195))))))))))) (fun u195 => And.intro (fun u196 => And.intro rfl (Exists.intro (some 2) (And.intro rfl (Exists.intro 93 (And.intro rfl (And.intro (Nat.le_of_ble_eq_true rfl) (Exists.intro 0 (Exists.intro 0 (And.intro (Or.inl rfl) (And.intro (Or.inl rfl) (((t.1 u194).2.2.2 u195).1 u196))))))))))) (fun u196 => And.intro (fun u197 => And.intro rfl (Exists.intro (some 2) (And.intro rfl (Exists.intro 95 (And.intro rfl (And.intro (Nat.le_of_ble_eq_true rfl) (Exists.intro 0 (Exists.intro 0 (And.intro (Or.inl rfl) (And.intro (Or.inl rfl) ((((t.1 u194).2.2.2 u195).2 u196).1 u197))))))))))) (fun u197 => And.intro (fun u198 => And.intro rfl (Exists.intro (some 2) (And.intro rfl (Exists.intro 96 (And.intro rfl (And.intro (Nat.le_of_ble_eq_true rfl) (Exists.intro 0 (Exists.intro 0 (And.intro (Or.inl rfl) (And.intro (Or.inl rfl) (((((t.1 u194).2.2.2 u195).2 u196).2 u197).1 u198))))))))))) (fun u198 => (((((t.1 u194).2.2.2 u195).2 u196).2 u197).2 u198)))))))))))))))) (fun u194 => (t.2 u194)))
theorem g_x11_asks_75 {d : Nat} {B : Nat × Nat} {Q : zQ} {c : Nat × Nat × Nat} {I : Nat → Nat → Int} {g : Nat} {x1 x2 x3 s0 : Int} {a4 : Nat}
    (t : Q (some (zi s0)) (c, I, zRg g)) :
    zRn (zcl d) 81 B Q 75 [some (zr 0), some (zi x1), some (zi x2), some (zi x3), some (zr a4)] [zi s0] (c, I, zRg g) :=
  zgo [8, 15, 75, 87, 99, 111] 0 (t)
theorem g_x11_asks_87 {d : Nat} {B : Nat × Nat} {Q : zQ} {c : Nat × Nat × Nat} {I : Nat → Nat → Int} {g : Nat} {x1 x2 x3 s0 : Int} {a4 : Nat}
    (t : Q (some (zi s0)) (c, I, zRg g)) :
    zRn (zcl d) 81 B Q 87 [some (zr 0), some (zi x1), some (zi x2), some (zi x3), some (zr a4)] [zi s0] (c, I, zRg g) :=
  zgo [8, 15, 75, 87, 99, 111] 0 (t)
theorem g_x11_asks_99 {d : Nat} {B : Nat × Nat} {Q : zQ} {c : Nat × Nat × Nat} {I : Nat → Nat → Int} {g : Nat} {x1 x2 x3 s0 : Int} {a4 : Nat}
    (t : Q (some (zi s0)) (c, I, zRg g)) :
    zRn (zcl d) 81 B Q 99 [some (zr 0), some (zi x1), some (zi x2), some (zi x3), some (zr a4)] [zi s0] (c, I, zRg g) :=
  zgo [8, 15, 75, 87, 99, 111] 0 (t)
theorem g_x11_asks_111 {d : Nat} {B : Nat × Nat} {Q : zQ} {c : Nat × Nat × Nat} {I : Nat → Nat → Int} {g : Nat} {x1 x2 x3 s0 : Int} {a4 : Nat}
    (t : (s0 = 0 → (Q (some (zi 0)) (c, I, zRg g))) ∧ (¬ (s0 = 0) → (Q (some (zi 1)) (c, I, zRg g)))) :
    zRn (zcl d) 81 B Q 111 [some (zr 0), some (zi x1), some (zi x2), some (zi x3), some (zr a4)] [zi s0] (c, I, zRg g) :=
  zgo [8, 15, 75, 87, 99, 111] 3 (And.intro (fun u199 => (t.1 u199)) (fun u199 => (t.2 u199)))
theorem g_x11_most_0 {d : Nat} {B : Nat × Nat} {Q : zQ} {c : Nat × Nat × Nat} {I : Nat → Nat → Int} {g : Nat} {x0 : Int}
    (t : (x0 = 0 → (Q (some (zi 999)) (c, I, zRg g))) ∧ (¬ (x0 = 0) → ((x0 = 1 → (Q (some (zi 9)) (c, I, zRg g))) ∧ (¬ (x0 = 1) → ((x0 = 2 → (Q (some (zi 1023)) (c, I, zRg g))) ∧ (¬ (x0 = 2) → ((x0 = 3 → (Q (some (zi 99)) (c, I, zRg g))) ∧ (¬ (x0 = 3) → (Q (some (zi 99)) (c, I, zRg g)))))))))) :
    zRn (zcl d) 82 B Q 0 [some (zi x0)] [] (c, I, zRg g) :=
  zgo [] 3 (And.intro (fun u200 => (t.1 u200)) (fun u200 => And.intro (fun u201 => ((t.2 u200).1 u201)) (fun u201 => And.intro (fun u202 => (((t.2 u200).2 u201).1 u202)) (fun u202 => And.intro (fun u203 => ((((t.2 u200).2 u201).2 u202).1 u203)) (fun u203 => ((((t.2 u200).2 u201).2 u202).2 u203))))))
theorem g_x11_isSet_0 {d : Nat} {B : Nat × Nat} {Q : zQ} {c : Nat × Nat × Nat} {I : Nat → Nat → Int} {g : Nat} {x0 : Int}
    (t : (x0 < 0 → (Q (some (zi 0)) (c, I, zRg g))) ∧ (¬ (x0 < 0) → ((1024 ≤ x0 → (Q (some (zi 0)) (c, I, zRg g))) ∧ (¬ (1024 ≤ x0) → (Q (some (zi 1)) (c, I, zRg g)))))) :
    zRn (zcl d) 83 B Q 0 [some (zi x0)] [] (c, I, zRg g) :=
  zgo [] 7 (And.intro (fun u204 => And.intro (Or.inl rfl) (t.1 u204)) (fun u204 => And.intro (fun u205 => And.intro (Or.inl rfl) ((t.2 u204).1 u205)) (fun u205 => And.intro (Or.inr rfl) ((t.2 u204).2 u205))))
theorem g_x11_feed_0 {d : Nat} {B : Nat × Nat} {Q : zQ} {c : Nat × Nat × Nat} {I : Nat → Nat → Int} {g : Nat} {x1 : Int}
    (t : (x1 < 0 → (Q (some (zi (-2))) (c, I, zRg g))) ∧ (¬ (x1 < 0) → ((x1 ≤ 255 → (zcl d 37 0 0 [zr 62, zi x1] (c, I, zRg g) (fun v h1 => zRn (zcl d) 84 B Q 22 [some (zr 0), some (zi x1)] (zva v []) h1))) ∧ (¬ (x1 ≤ 255) → (Q (some (zi (-2))) (c, I, zRg g)))))) :
    zRn (zcl d) 84 B Q 0 [some (zr 0), some (zi x1)] [] (c, I, zRg g) :=
  zgo [22] 8 (And.intro (fun u206 => (t.1 u206)) (fun u206 => And.intro (fun u207 => And.intro rfl (Exists.intro (some 62) (And.intro rfl (Exists.intro 37 (And.intro rfl (And.intro (Nat.le_of_ble_eq_true rfl) (Exists.intro 0 (Exists.intro 0 (And.intro (Or.inl rfl) (And.intro (Or.inl rfl) ((t.2 u206).1 u207))))))))))) (fun u207 => ((t.2 u206).2 u207))))
theorem g_x11_feed_22 {d : Nat} {B : Nat × Nat} {Q : zQ} {c : Nat × Nat × Nat} {I : Nat → Nat → Int} {g : Nat} {x1 s0 : Int}
    (t : (s0 = 0 → (Q (some (zi (-4))) (c, I, zRg g))) ∧ (¬ (s0 = 0) → (Q (some (zi (I 62 1))) (c, I, zRg g)))) :
    zRn (zcl d) 84 B Q 22 [some (zr 0), some (zi x1)] [zi s0] (c, I, zRg g) :=
  zgo [22] 5 (And.intro (fun u208 => (t.1 u208)) (fun u208 => And.intro rfl (Exists.intro (some 62) (And.intro rfl (And.intro rfl (t.2 u208))))))
theorem g_x11_text_0 {d : Nat} {B : Nat × Nat} {Q : zQ} {c : Nat × Nat × Nat} {I : Nat → Nat → Int} {g : Nat} {y1 : Nat}
    (t : (I 0 7 < 6 → ((0 ≤ I 0 7 ∧ I 0 7 < 6) ∧ ((zRg g 26 (I 0 7).toNat = some y1) ∧ (zcl d 38 0 0 [zr 62, zr y1] (c, I, zRg g) (fun v h1 => zRn (zcl d) 85 B Q 28 [some (zr 0), none] (zva v []) h1))))) ∧ (¬ (I 0 7 < 6) → (Q (some (zi (-4))) (c, I, zRg g)))) :
    zRn (zcl d) 85 B Q 0 [some (zr 0), none] [] (c, I, zRg g) :=
  zgo [28] 11 (And.intro rfl (And.intro (fun u209 => And.intro rfl (Exists.intro (some 62) (And.intro rfl (And.intro rfl (Exists.intro (some 26) (And.intro rfl (And.intro rfl (And.intro (by decide) (And.intro (t.1 u209).1 (Exists.intro (some y1) (And.intro (t.1 u209).2.1 (Exists.intro 38 (And.intro rfl (And.intro (Nat.le_of_ble_eq_true rfl) (Exists.intro 0 (Exists.intro 0 (And.intro (Or.inl rfl) (And.intro (Or.inl rfl) ((t.1 u209).2.2))))))))))))))))))) (fun u209 => (t.2 u209))))
theorem g_x11_text_28 {d : Nat} {B : Nat × Nat} {Q : zQ} {c : Nat × Nat × Nat} {I : Nat → Nat → Int} {g : Nat} {s0 : Int}
    (t : (s0 = (-1) → (Q (some (zi (zwr ((zwr ((I 0 7) + 1)) - 1)))) (c, (z2 I 0 7 (zwr ((I 0 7) + 1))), zRg g))) ∧ (¬ (s0 = (-1)) → (Q (some (zi (zwr ((-100) - s0)))) (c, I, zRg g)))) :
    zRn (zcl d) 85 B Q 28 [some (zr 0), none] [zi s0] (c, I, zRg g) :=
  zgo [28] 14 (And.intro (fun u210 => And.intro rfl (And.intro rfl (And.intro rfl (t.1 u210)))) (fun u210 => (t.2 u210)))
theorem g_x11_force_0 {d : Nat} {B : Nat × Nat} {Q : zQ} {c : Nat × Nat × Nat} {I : Nat → Nat → Int} {g : Nat} {x1 : Int}
    (t : (x1 < 0 → (Q (some (zi (-2))) (c, I, zRg g))) ∧ (¬ (x1 < 0) → ((x1 < I 0 7 → (Q (some (zi (I 2 6))) (c, (z2 I 2 6 x1), zRg g))) ∧ (¬ (x1 < I 0 7) → (Q (some (zi (-2))) (c, I, zRg g)))))) :
    zRn (zcl d) 86 B Q 0 [some (zr 0), some (zi x1), none] [] (c, I, zRg g) :=
  zgo [] 15 (And.intro (fun u211 => (t.1 u211)) (fun u211 => And.intro rfl (And.intro (fun u212 => And.intro rfl (Exists.intro (some 2) (And.intro rfl (And.intro rfl (And.intro rfl (Exists.intro (some 2) (And.intro rfl (And.intro rfl ((t.2 u211).1 u212))))))))) (fun u212 => ((t.2 u211).2 u212)))))
theorem g_x11_ruleOf_0 {d : Nat} {B : Nat × Nat} {Q : zQ} {c : Nat × Nat × Nat} {I : Nat → Nat → Int} {g : Nat} {a1 y1 : Nat}
    (t : ((zSh a1).1 = 0) ∧ ((I a1 6 < 0 → (Q (some (zr 44)) (c, I, zRg g))) ∧ (¬ (I a1 6 < 0) → (((zSh a1).1 = 0) ∧ ((6 ≤ I a1 6 → (Q (some (zr 44)) (c, I, zRg g))) ∧ (¬ (6 ≤ I a1 6) → (((zSh a1).1 = 0) ∧ ((0 ≤ I a1 6 ∧ I a1 6 < 6) ∧ ((zRg g 26 (I a1 6).toNat = some y1) ∧ (Q (some (zr y1)) (c, I, zRg g))))))))))) :
    zRn (zcl d) 87 B Q 0 [some (zr 0), some (zr a1)] [] (c, I, zRg g) :=
  zgo [] 13 (And.intro t.1 (And.intro (fun u213 => And.intro rfl (Exists.intro (some 26) (And.intro rfl (And.intro (by decide) (And.intro (by decide) (Exists.intro (some 44) (And.intro rfl (t.2.1 u213)))))))) (fun u213 => And.intro (t.2.2 u213).1 (And.intro (fun u214 => And.intro rfl (Exists.intro (some 26) (And.intro rfl (And.intro (by decide) (And.intro (by decide) (Exists.intro (some 44) (And.intro rfl ((t.2.2 u213).2.1 u214)))))))) (fun u214 => And.intro rfl (Exists.intro (some 26) (And.intro rfl (And.intro ((t.2.2 u213).2.2 u214).1 (And.intro (by decide) (And.intro ((t.2.2 u213).2.2 u214).2.1 (Exists.intro (some y1) (And.intro ((t.2.2 u213).2.2 u214).2.2.1 (((t.2.2 u213).2.2 u214).2.2.2)))))))))))))
theorem g_x11_over_0 {d : Nat} {B : Nat × Nat} {Q : zQ} {c : Nat × Nat × Nat} {I : Nat → Nat → Int} {g : Nat} {x1 x2 x3 : Int}
    (t : zcl d 129 0 0 [zi x1] (c, I, zRg g) (fun v h1 => zRn (zcl d) 88 B Q 4 [some (zr 0), some (zi x1), some (zi x2), some (zi x3), none, none] (zva v []) h1)) :
    zRn (zcl d) 88 B Q 0 [some (zr 0), some (zi x1), some (zi x2), some (zi x3), none, none] [] (c, I, zRg g) :=
  zgo [4, 11, 39, 48, 73, 92, 129] 1 (And.intro (Nat.le_of_ble_eq_true rfl) (Exists.intro 0 (Exists.intro 0 (And.intro (Or.inl rfl) (And.intro (Or.inl rfl) t)))))
theorem g_x11_over_4 {d : Nat} {B : Nat × Nat} {Q : zQ} {c : Nat × Nat × Nat} {I : Nat → Nat → Int} {g : Nat} {x1 x2 x3 s0 : Int}
    (t : (s0 = 0 → (Q (some (zi (-2))) (c, I, zRg g))) ∧ (¬ (s0 = 0) → (zcl d 83 0 0 [zi x2] (c, I, zRg g) (fun v h1 => zRn (zcl d) 88 B Q 11 [some (zr 0), some (zi x1), some (zi x2), some (zi x3), none, none] (zva v []) h1)))) :
    zRn (zcl d) 88 B Q 4 [some (zr 0), some (zi x1), some (zi x2), some (zi x3), none, none] [zi s0] (c, I, zRg g) :=
  zgo [4, 11, 39, 48, 73, 92, 129] 2 (And.intro (fun u215 => (t.1 u215)) (fun u215 => And.intro (Nat.le_of_ble_eq_true rfl) (Exists.intro 0 (Exists.intro 0 (And.intro (Or.inl rfl) (And.intro (Or.inl rfl) (t.2 u215)))))))
theorem g_x11_over_11 {d : Nat} {B : Nat × Nat} {Q : zQ} {c : Nat × Nat × Nat} {I : Nat → Nat → Int} {g : Nat} {x1 x2 x3 s0 : Int} {y1 : Nat}
    (t : (s0 = 0 → (Q (some (zi (-2))) (c, I, zRg g))) ∧ (¬ (s0 = 0) → ((x3 < 0 → (Q (some (zi (-2))) (c, I, zRg g))) ∧ (¬ (x3 < 0) → ((x3 ≤ 3 → ((0 ≤ x1 ∧ x1 < 4) ∧ ((zRg g 28 x1.toNat = some y1) ∧ ((zsel ((zSh y1).1 : Nat) [(8, 60)] = some 60) ∧ (zcl d 60 0 0 [zr y1] (c, I, zRg g) (fun v h1 => zRn (zcl d) 88 B Q 39 [some (zr 0), some (zi x1), some (zi x2), some (zi x3), some (zr y1), none] (zva v []) h1)))))) ∧ (¬ (x3 ≤ 3) → (Q (some (zi (-2))) (c, I, zRg g)))))))) :
    zRn (zcl d) 88 B Q 11 [some (zr 0), some (zi x1), some (zi x2), some (zi x3), none, none] [zi s0] (c, I, zRg g) :=
  zgo [4, 11, 39, 48, 73, 92, 129] 12 (And.intro (fun u216 => (t.1 u216)) (fun u216 => And.intro (fun u217 => ((t.2 u216).1 u217)) (fun u217 => And.intro (fun u218 => And.intro rfl (Exists.intro (some 28) (And.intro rfl (And.intro (by decide) (And.intro (((t.2 u216).2 u217).1 u218).1 (Exists.intro (some y1) (And.intro (((t.2 u216).2 u217).1 u218).2.1 (Exists.intro 60 (And.intro (((t.2 u216).2 u217).1 u218).2.2.1 (And.intro (Nat.le_of_ble_eq_true rfl) (Exists.intro 0 (Exists.intro 0 (And.intro (Or.inl rfl) (And.intro (Or.inl rfl) ((((t.2 u216).2 u217).1 u218).2.2.2))))))))))))))) (fun u218 => (((t.2 u216).2 u217).2 u218)))))
theorem g_x11_over_39 {d : Nat} {B : Nat × Nat} {Q : zQ} {c : Nat × Nat × Nat} {I : Nat → Nat → Int} {g : Nat} {x1 x2 x3 s0 : Int} {a4 : Nat}
    (t : (s0 = 0 → (zRn (zcl d) 88 B Q 48 [some (zr 0), some (zi x1), some (zi x2), some (zi x3), some (zr a4), some (zi 0)] [] (c, I, zRg g))) ∧ (¬ (s0 = 0) → (Q (some (zi (-11))) (c, I, zRg g)))) :
    zRn (zcl d) 88 B Q 39 [some (zr 0), some (zi x1), some (zi x2), some (zi x3), some (zr a4), none] [zi s0] (c, I, zRg g) :=
  zgo [4, 11, 39, 48, 73, 92, 129] 3 (And.intro (fun u219 => (t.1 u219)) (fun u219 => (t.2 u219)))
theorem g_x11_over_48 {d : Nat} {B : Nat × Nat} {Q : zQ} {c : Nat × Nat × Nat} {I : Nat → Nat → Int} {g : Nat} {x1 x2 x3 x5 : Int} {a4 y2 : Nat}
    (t : ((zSh a4).1 = 8) ∧ ((I a4 2 ≤ x5 → (zcl d 98 0 0 [zr 0, zr a4, zi x2] (c, I, zRg g) (fun v h1 => zRn (zcl d) 88 B Q 92 [some (zr 0), some (zi x1), some (zi x2), some (zi x3), some (zr a4), some (zi x5)] (zva v []) h1))) ∧ (¬ (I a4 2 ≤ x5) → (((zSh a4).1 = 8) ∧ ((zRg g a4 0 = some y2) ∧ (((zSh y2).1 = 100) ∧ ((0 ≤ x5 ∧ x5 < ((zSh y2).2 : Nat)) ∧ (zcl d 1 0 0 [zr 2, zi (I y2 x5.toNat)] (c, I, zRg g) (fun v h1 => zRn (zcl d) 88 B Q 73 [some (zr 0), some (zi x1), some (zi x2), some (zi x3), some (zr a4), some (zi x5)] (zva v []) h1))))))))) :
    zRn (zcl d) 88 B Q 48 [some (zr 0), some (zi x1), some (zi x2), some (zi x3), some (zr a4), some (zi x5)] [] (c, I, zRg g) :=
  zgo [4, 11, 39, 48, 73, 92, 129] 10 (And.intro t.1 (And.intro (fun u220 => Exists.intro 98 (And.intro rfl (And.intro (Nat.le_of_ble_eq_true rfl) (Exists.intro 0 (Exists.intro 0 (And.intro (Or.inl rfl) (And.intro (Or.inl rfl) (t.2.1 u220)))))))) (fun u220 => And.intro rfl (Exists.intro (some 2) (And.intro rfl (And.intro (t.2.2 u220).1 (Exists.intro (some y2) (And.intro (t.2.2 u220).2.1 (And.intro (t.2.2 u220).2.2.1 (And.intro (t.2.2 u220).2.2.2.1 (Exists.intro 1 (And.intro rfl (And.intro (Nat.le_of_ble_eq_true rfl) (Exists.intro 0 (Exists.intro 0 (And.intro (Or.inl rfl) (And.intro (Or.inl rfl) ((t.2.2 u220).2.2.2.2))))))))))))))))))
theorem g_x11_over_73 {d : Nat} {B : Nat × Nat} {Q : zQ} {c : Nat × Nat × Nat} {I : Nat → Nat → Int} {g : Nat} {x1 x2 x3 x5 s0 : Int} {a4 : Nat}
    (t : (s0 ≠ 0 → (zRn (zcl d) 88 B Q 48 [some (zr 0), some (zi x1), some (zi x2), some (zi x3), some (zr a4), some (zi (zwr (x5 + 1)))] [] (c, I, zRg g))) ∧ (¬ (s0 ≠ 0) → (Q (some (zi (-2))) (c, I, zRg g)))) :
    zRn (zcl d) 88 B Q 73 [some (zr 0), some (zi x1), some (zi x2), some (zi x3), some (zr a4), some (zi x5)] [zi s0] (c, I, zRg g) :=
  zgo [4, 11, 39, 48, 73, 92, 129] 3 (And.intro (fun u224 => (t.1 u224)) (fun u224 => (t.2 u224)))
theorem g_x11_over_92 {d : Nat} {B : Nat × Nat} {Q : zQ} {c : Nat × Nat × Nat} {I : Nat → Nat → Int} {g : Nat} {x1 x2 x3 x5 s0 : Int} {a4 : Nat}
    (t : (x3 = 0 → (Q (some (zi s0)) (c, I, zRg g))) ∧ (¬ (x3 = 0) → ((x3 = 1 → (zcl d 101 0 0 [zi s0, zi x2] (c, I, zRg g) (fun v h1 => zRn (zcl d) 88 B Q 129 [some (zr 0), some (zi x1), some (zi x2), some (zi x3), some (zr a4), some (zi s0)] (zva v []) h1))) ∧ (¬ (x3 = 1) → ((x3 = 2 → (Q (some (zi (zand x2 (zxor s0 (-1))))) (c, I, zRg g))) ∧ (¬ (x3 = 2) → (Q (some (zi (zand s0 (zxor x2 (-1))))) (c, I, zRg g)))))))) :
    zRn (zcl d) 88 B Q 92 [some (zr 0), some (zi x1), some (zi x2), some (zi x3), some (zr a4), some (zi x5)] [zi s0] (c, I, zRg g) :=
  zgo [4, 11, 39, 48, 73, 92, 129] 8 (And.intro (fun u221 => (t.1 u221)) (fun u221 => And.intro (fun u222 => And.intro (Nat.le_of_ble_eq_true rfl) (Exists.intro 0 (Exists.intro 0 (And.intro (Or.inl rfl) (And.intro (Or.inl rfl) ((t.2 u221).1 u222)))))) (fun u222 => And.intro (fun u223 => (((t.2 u221).2 u222).1 u223)) (fun u223 => (((t.2 u221).2 u222).2 u223)))))
theorem g_x11_over_129 {d : Nat} {B : Nat × Nat} {Q : zQ} {c : Nat × Nat × Nat} {I : Nat → Nat → Int} {g : Nat} {x1 x2 x3 x5 s0 : Int} {a4 : Nat}
    (t : Q (some (zi s0)) (c, I, zRg g)) :
    zRn (zcl d) 88 B Q 129 [some (zr 0), some (zi x1), some (zi x2), some (zi x3), some (zr a4), some (zi x5)] [zi s0] (c, I, zRg g) :=
  zgo [4, 11, 39, 48, 73, 92, 129] 0 (t)
theorem g_x11_day_0 {d : Nat} {B : Nat × Nat} {Q : zQ} {c : Nat × Nat × Nat} {I : Nat → Nat → Int} {g : Nat}
    (t : (I 2 4 < 999 → (zcl d 99 0 0 [zr 0, zr 2] (c, I, zRg g) (fun v h1 => zRn (zcl d) 89 B Q 24 [some (zr 0)] (zva v []) h1))) ∧ (¬ (I 2 4 < 999) → (Q (some (zi (-3))) (c, I, zRg g)))) :
    zRn (zcl d) 89 B Q 0 [some (zr 0)] [] (c, I, zRg g) :=
  zgo [24] 8 (And.intro rfl (Exists.intro (some 2) (And.intro rfl (And.intro rfl (And.intro (fun u225 => And.intro rfl (Exists.intro (some 2) (And.intro rfl (Exists.intro 99 (And.intro rfl (And.intro (Nat.le_of_ble_eq_true rfl) (Exists.intro 0 (Exists.intro 0 (And.intro (Or.inl rfl) (And.intro (Or.inl rfl) (t.1 u225))))))))))) (fun u225 => (t.2 u225)))))))
theorem g_x11_day_24 {d : Nat} {B : Nat × Nat} {Q : zQ} {c : Nat × Nat × Nat} {I : Nat → Nat → Int} {g : Nat} {s0 : Int}
    (t : Q (some (zi s0)) (c, I, zRg g)) :
    zRn (zcl d) 89 B Q 24 [some (zr 0)] [zi s0] (c, I, zRg g) :=
  zgo [24] 0 (t)
theorem g_x11_run_0 {d : Nat} {B : Nat × Nat} {Q : zQ} {c : Nat × Nat × Nat} {I : Nat → Nat → Int} {g : Nat} {x1 x2 : Int}
    (t : (x1 < 0 → (Q (some (zi (-1000))) (c, I, zRg g))) ∧ (¬ (x1 < 0) → ((20 < x1 → (Q (some (zi (-1000))) (c, I, zRg g))) ∧ (¬ (20 < x1) → (zcl d 91 0 0 [zr 0, zi x2] (c, I, zRg g) (fun v h1 => zRn (zcl d) 90 B Q 15 [some (zr 0), some (zi x1), some (zi x2), none, none, none, none] (zva v []) h1)))))) :
    zRn (zcl d) 90 B Q 0 [some (zr 0), some (zi x1), some (zi x2), none, none, none, none] [] (c, I, zRg g) :=
  zgo [15, 38, 41, 55] 7 (And.intro (fun u226 => (t.1 u226)) (fun u226 => And.intro (fun u227 => ((t.2 u226).1 u227)) (fun u227 => Exists.intro 91 (And.intro rfl (And.intro (Nat.le_of_ble_eq_true rfl) (Exists.intro 0 (Exists.intro 0 (And.intro (Or.inl rfl) (And.intro (Or.inl rfl) ((t.2 u226).2 u227))))))))))
theorem g_x11_run_15 {d : Nat} {B : Nat × Nat} {Q : zQ} {c : Nat × Nat × Nat} {I : Nat → Nat → Int} {g : Nat} {x1 x2 s0 : Int}
    (t : (s0 ≠ 0 → (zcl d 3 0 0 [zr 18, zr 2] (c, I, zRg g) (fun v h1 => zRn (zcl d) 90 B Q 38 [some (zr 0), some (zi x1), some (zi x2), some (zi (-1)), some (zi 0), none, none] (zva v []) h1))) ∧ (¬ (s0 ≠ 0) → (Q (some (zi (-1000))) (c, I, zRg g)))) :
    zRn (zcl d) 90 B Q 15 [some (zr 0), some (zi x1), some (zi x2), none, none, none, none] [zi s0] (c, I, zRg g) :=
  zgo [15, 38, 41, 55] 9 (And.intro (fun u228 => And.intro rfl (Exists.intro (some 18) (And.intro rfl (And.intro rfl (Exists.intro (some 2) (And.intro rfl (Exists.intro 3 (And.intro rfl (And.intro (Nat.le_of_ble_eq_true rfl) (Exists.intro 0 (Exists.intro 0 (And.intro (Or.inl rfl) (And.intro (Or.inl rfl) (t.1 u228)))))))))))))) (fun u228 => (t.2 u228)))
theorem g_x11_run_38 {d : Nat} {B : Nat × Nat} {Q : zQ} {c : Nat × Nat × Nat} {I : Nat → Nat → Int} {g : Nat} {x1 x2 x3 x4 : Int}
    (t : zRn (zcl d) 90 B Q 41 [some (zr 0), some (zi x1), some (zi x2), some (zi x3), some (zi x4), some (zi 0), none] [] (c, I, zRg g)) :
    zRn (zcl d) 90 B Q 38 [some (zr 0), some (zi x1), some (zi x2), some (zi x3), some (zi x4), none, none] [] (c, I, zRg g) :=
  zgo [15, 38, 41, 55] 2 (t)
theorem g_x11_run_41 {d : Nat} {B : Nat × Nat} {Q : zQ} {c : Nat × Nat × Nat} {I : Nat → Nat → Int} {g : Nat} {x1 x2 x3 x4 x5 : Int} {y1 y2 : Nat}
    (t : (x1 ≤ x5 → ((x2 ≠ 0 → ((x2 ≠ 1 → ((20 ≤ x2 → ((0 ≤ zwr (x2 - 20) ∧ zwr (x2 - 20) < 5) ∧ ((zRg g 19 (zwr (x2 - 20)).toNat = some y1) ∧ (((zSh y1).1 = 5) ∧ (Q (some (zi (I y1 3))) (c, I, zRg g)))))) ∧ (¬ (20 ≤ x2) → ((0 ≤ zwr (x2 - 10) ∧ zwr (x2 - 10) < 5) ∧ ((zRg g 19 (zwr (x2 - 10)).toNat = some y2) ∧ (((zSh y2).1 = 5) ∧ (Q (some (zi (I y2 2))) (c, I, zRg g)))))))) ∧ (¬ (x2 ≠ 1) → (Q (some (zi x4)) (c, I, zRg g))))) ∧ (¬ (x2 ≠ 0) → (Q (some (zi x3)) (c, I, zRg g))))) ∧ (¬ (x1 ≤ x5) → (zcl d 99 0 0 [zr 0, zr 18] (c, I, zRg g) (fun v h1 => zRn (zcl d) 90 B Q 55 [some (zr 0), some (zi x1), some (zi x2), some (zi x3), some (zi x4), some (zi x5), none] (zva v []) h1)))) :
    zRn (zcl d) 90 B Q 41 [some (zr 0), some (zi x1), some (zi x2), some (zi x3), some (zi x4), some (zi x5), none] [] (c, I, zRg g) :=
  zgo [15, 38, 41, 55] 20 (And.intro (fun u229 => And.intro (fun u230 => And.intro (fun u231 => And.intro (fun u232 => And.intro rfl (Exists.intro (some 18) (And.intro rfl (And.intro rfl (Exists.intro (some 19) (And.intro rfl (And.intro (by decide) (And.intro ((((t.1 u229).1 u230).1 u231).1 u232).1 (Exists.intro (some y1) (And.intro ((((t.1 u229).1 u230).1 u231).1 u232).2.1 (And.intro ((((t.1 u229).1 u230).1 u231).1 u232).2.2.1 (((((t.1 u229).1 u230).1 u231).1 u232).2.2.2)))))))))))) (fun u232 => And.intro rfl (Exists.intro (some 18) (And.intro rfl (And.intro rfl (Exists.intro (some 19) (And.intro rfl (And.intro (by decide) (And.intro ((((t.1 u229).1 u230).1 u231).2 u232).1 (Exists.intro (some y2) (And.intro ((((t.1 u229).1 u230).1 u231).2 u232).2.1 (And.intro ((((t.1 u229).1 u230).1 u231).2 u232).2.2.1 (((((t.1 u229).1 u230).1 u231).2 u232).2.2.2))))))))))))) (fun u231 => (((t.1 u229).1 u230).2 u231))) (fun u230 => ((t.1 u229).2 u230))) (fun u229 => And.intro rfl (Exists.intro (some 18) (And.intro rfl (Exists.intro 99 (And.intro rfl (And.intro (Nat.le_of_ble_eq_true rfl) (Exists.intro 0 (Exists.intro 0 (And.intro (Or.inl rfl) (And.intro (Or.inl rfl) (t.2 u229))))))))))))
theorem g_x11_run_55 {d : Nat} {B : Nat × Nat} {Q : zQ} {c : Nat × Nat × Nat} {I : Nat → Nat → Int} {g : Nat} {x1 x2 x3 x4 x5 s0 : Int}
    (t : (s0 = (-1) → (zRn (zcl d) 90 B Q 41 [some (zr 0), some (zi x1), some (zi x2), some (zi x3), some (zi x4), some (zi (zwr (x5 + 1))), some (zi s0)] [] (c, I, zRg g))) ∧ (¬ (s0 = (-1)) → (zRn (zcl d) 90 B Q 41 [some (zr 0), some (zi x1), some (zi x2), some (zi s0), some (zi (zwr (x4 + 1))), some (zi (zwr (x5 + 1))), some (zi s0)] [] (c, I, zRg g)))) :
    zRn (zcl d) 90 B Q 55 [some (zr 0), some (zi x1), some (zi x2), some (zi x3), some (zi x4), some (zi x5), none] [zi s0] (c, I, zRg g) :=
  zgo [15, 38, 41, 55] 9 (And.intro (fun u233 => (t.1 u233)) (fun u233 => (t.2 u233)))
theorem g_x11_isAskedOfRun_0 {d : Nat} {B : Nat × Nat} {Q : zQ} {c : Nat × Nat × Nat} {I : Nat → Nat → Int} {g : Nat} {x1 : Int}
    (t : (x1 = 0 → (Q (some (zi 1)) (c, I, zRg g))) ∧ (¬ (x1 = 0) → ((x1 = 1 → (Q (some (zi 1)) (c, I, zRg g))) ∧ (¬ (x1 = 1) → (zcl d 1 0 0 [zr 2, zi (zwr (x1 - 10))] (c, I, zRg g) (fun v h1 => zRn (zcl d) 91 B Q 20 [some (zr 0), some (zi x1)] (zva v []) h1)))))) :
    zRn (zcl d) 91 B Q 0 [some (zr 0), some (zi x1)] [] (c, I, zRg g) :=
  zgo [20, 34] 10 (And.intro (fun u234 => And.intro (Or.inr rfl) (t.1 u234)) (fun u234 => And.intro (fun u235 => And.intro (Or.inr rfl) ((t.2 u234).1 u235)) (fun u235 => And.intro rfl (Exists.intro (some 2) (And.intro rfl (Exists.intro 1 (And.intro rfl (And.intro (Nat.le_of_ble_eq_true rfl) (Exists.intro 0 (Exists.intro 0 (And.intro (Or.inl rfl) (And.intro (Or.inl rfl) ((t.2 u234).2 u235)))))))))))))
theorem g_x11_isAskedOfRun_20 {d : Nat} {B : Nat × Nat} {Q : zQ} {c : Nat × Nat × Nat} {I : Nat → Nat → Int} {g : Nat} {x1 s0 : Int}
    (t : (s0 ≠ 0 → (Q (some (zi 1)) (c, I, zRg g))) ∧ (¬ (s0 ≠ 0) → (zcl d 1 0 0 [zr 2, zi (zwr (x1 - 20))] (c, I, zRg g) (fun v h1 => zRn (zcl d) 91 B Q 34 [some (zr 0), some (zi x1)] (zva v []) h1)))) :
    zRn (zcl d) 91 B Q 20 [some (zr 0), some (zi x1)] [zi s0] (c, I, zRg g) :=
  zgo [20, 34] 6 (And.intro (fun u236 => And.intro (Or.inr rfl) (t.1 u236)) (fun u236 => And.intro rfl (Exists.intro (some 2) (And.intro rfl (Exists.intro 1 (And.intro rfl (And.intro (Nat.le_of_ble_eq_true rfl) (Exists.intro 0 (Exists.intro 0 (And.intro (Or.inl rfl) (And.intro (Or.inl rfl) (t.2 u236))))))))))))
theorem g_x11_isAskedOfRun_34 {d : Nat} {B : Nat × Nat} {Q : zQ} {c : Nat × Nat × Nat} {I : Nat → Nat → Int} {g : Nat} {x1 s0 : Int}
    (t : (s0 = 0 → (Q (some (zi 0)) (c, I, zRg g))) ∧ (¬ (s0 = 0) → (Q (some (zi 1)) (c, I, zRg g)))) :
    zRn (zcl d) 91 B Q 34 [some (zr 0), some (zi x1)] [zi s0] (c, I, zRg g) :=
  zgo [20, 34] 3 (And.intro (fun u237 => And.intro (Or.inl rfl) (t.1 u237)) (fun u237 => And.intro (Or.inr rfl) (t.2 u237)))
theorem g_x11_kindOf_0 {d : Nat} {B : Nat × Nat} {Q : zQ} {c : Nat × Nat × Nat} {I : Nat → Nat → Int} {g : Nat} {a1 y1 : Nat}
    (t : ((zSh a1).1 = 5) ∧ ((I a1 0 < 0 → (Q (some (zr 30)) (c, I, zRg g))) ∧ (¬ (I a1 0 < 0) → (((zSh a1).1 = 5) ∧ ((6 ≤ I a1 0 → (Q (some (zr 30)) (c, I, zRg g))) ∧ (¬ (6 ≤ I a1 0) → (((zSh a1).1 = 5) ∧ ((0 ≤ I a1 0 ∧ I a1 0 < 6) ∧ ((zRg g 1 (I a1 0).toNat = some y1) ∧ (Q (some (zr y1)) (c, I, zRg g))))))))))) :
    zRn (zcl d) 92 B Q 0 [some (zr 0), some (zr a1)] [] (c, I, zRg g) :=
  zgo [] 13 (And.intro t.1 (And.intro (fun u238 => And.intro rfl (Exists.intro (some 1) (And.intro rfl (And.intro (by decide) (And.intro (by decide) (Exists.intro (some 30) (And.intro rfl (t.2.1 u238)))))))) (fun u238 => And.intro (t.2.2 u238).1 (And.intro (fun u239 => And.intro rfl (Exists.intro (some 1) (And.intro rfl (And.intro (by decide) (And.intro (by decide) (Exists.intro (some 30) (And.intro rfl ((t.2.2 u238).2.1 u239)))))))) (fun u239 => And.intro rfl (Exists.intro (some 1) (And.intro rfl (And.intro ((t.2.2 u238).2.2 u239).1 (And.intro (by decide) (And.intro ((t.2.2 u238).2.2 u239).2.1 (Exists.intro (some y1) (And.intro ((t.2.2 u238).2.2 u239).2.2.1 (((t.2.2 u238).2.2 u239).2.2.2)))))))))))))
theorem g_x11_keeping_0 {d : Nat} {B : Nat × Nat} {Q : zQ} {c : Nat × Nat × Nat} {I : Nat → Nat → Int} {g : Nat} {x3 : Int} {a1 a2 : Nat}
    (t : zcl d 92 0 0 [zr 0, zr a2] (c, I, zRg g) (fun v h1 => zRn (zcl d) 93 B Q 5 [some (zr 0), some (zr a1), some (zr a2), some (zi x3)] (zva v []) h1)) :
    zRn (zcl d) 93 B Q 0 [some (zr 0), some (zr a1), some (zr a2), some (zi x3)] [] (c, I, zRg g) :=
  zgo [5, 10, 24, 31, 36] 2 (Exists.intro 92 (And.intro rfl (And.intro (Nat.le_of_ble_eq_true rfl) (Exists.intro 0 (Exists.intro 0 (And.intro (Or.inl rfl) (And.intro (Or.inl rfl) t)))))))
theorem g_x11_keeping_5 {d : Nat} {B : Nat × Nat} {Q : zQ} {c : Nat × Nat × Nat} {I : Nat → Nat → Int} {g : Nat} {x3 : Int} {a1 a2 b0 : Nat}
    (t : zcl d 87 0 0 [zr 0, zr a1] (c, I, zRg g) (fun v h1 => zRn (zcl d) 93 B Q 10 [some (zr 0), some (zr a1), some (zr a2), some (zi x3)] (zva v [zr b0]) h1)) :
    zRn (zcl d) 93 B Q 5 [some (zr 0), some (zr a1), some (zr a2), some (zi x3)] [zr b0] (c, I, zRg g) :=
  zgo [5, 10, 24, 31, 36] 2 (Exists.intro 87 (And.intro rfl (And.intro (Nat.le_of_ble_eq_true rfl) (Exists.intro 0 (Exists.intro 0 (And.intro (Or.inl rfl) (And.intro (Or.inl rfl) t)))))))
theorem g_x11_keeping_10 {d : Nat} {B : Nat × Nat} {Q : zQ} {c : Nat × Nat × Nat} {I : Nat → Nat → Int} {g : Nat} {x3 : Int} {a1 a2 b0 b1 : Nat}
    (t : ((zSh a1).1 = 0) ∧ ((zsel ((zSh b0).1 : Nat) [(10, 72)] = some 72) ∧ (zcl d 72 0 0 [zr b0, zi 0, zr a2, zi x3, zi (I a1 4), zr 27] (c, I, zRg g) (fun v h1 => zRn (zcl d) 93 B Q 24 [some (zr 0), some (zr a1), some (zr a2), some (zi x3)] (zva v [zr b1]) h1)))) :
    zRn (zcl d) 93 B Q 10 [some (zr 0), some (zr a1), some (zr a2), some (zi x3)] [zr b0, zr b1] (c, I, zRg g) :=
  zgo [5, 10, 24, 31, 36] 7 (And.intro t.1 (And.intro rfl (Exists.intro (some 27) (And.intro rfl (Exists.intro 72 (And.intro t.2.1 (And.intro (Nat.le_of_ble_eq_true rfl) (Exists.intro 0 (Exists.intro 0 (And.intro (Or.inl rfl) (And.intro (Or.inl rfl) t.2.2)))))))))))
theorem g_x11_keeping_24 {d : Nat} {B : Nat × Nat} {Q : zQ} {c : Nat × Nat × Nat} {I : Nat → Nat → Int} {g : Nat} {x3 s0 : Int} {a1 a2 b1 k1 : Nat}
    (t : ((zSh a1).1 = 0) ∧ ((zsel ((zSh b1).1 : Nat) [(9, 66), (1, 6), (2, 12), (3, 12), (4, 23), (6, 32)] = some k1) ∧ (zcl d k1 0 0 [zr b1, zi s0, zi (I a1 4)] (c, I, zRg g) (fun v h1 => zRn (zcl d) 93 B Q 31 [some (zr 0), some (zr a1), some (zr a2), some (zi x3)] (zva v []) h1)))) :
    zRn (zcl d) 93 B Q 24 [some (zr 0), some (zr a1), some (zr a2), some (zi x3)] [zi s0, zr b1] (c, I, zRg g) :=
  zgo [5, 10, 24, 31, 36] 2 (And.intro t.1 (Exists.intro k1 (And.intro t.2.1 (And.intro (Nat.le_of_ble_eq_true rfl) (Exists.intro 0 (Exists.intro 0 (And.intro (Or.inl rfl) (And.intro (Or.inl rfl) t.2.2))))))))
theorem g_x11_keeping_31 {d : Nat} {B : Nat × Nat} {Q : zQ} {c : Nat × Nat × Nat} {I : Nat → Nat → Int} {g : Nat} {x3 s0 : Int} {a1 a2 : Nat}
    (t : zcl d 103 0 0 [zi s0, zi 10] (c, I, zRg g) (fun v h1 => zRn (zcl d) 93 B Q 36 [some (zr 0), some (zr a1), some (zr a2), some (zi x3)] (zva v []) h1)) :
    zRn (zcl d) 93 B Q 31 [some (zr 0), some (zr a1), some (zr a2), some (zi x3)] [zi s0] (c, I, zRg g) :=
  zgo [5, 10, 24, 31, 36] 1 (And.intro (Nat.le_of_ble_eq_true rfl) (Exists.intro 0 (Exists.intro 0 (And.intro (Or.inl rfl) (And.intro (Or.inl rfl) t)))))
theorem g_x11_keeping_36 {d : Nat} {B : Nat × Nat} {Q : zQ} {c : Nat × Nat × Nat} {I : Nat → Nat → Int} {g : Nat} {x3 s0 : Int} {a1 a2 : Nat}
    (t : Q (some (zi s0)) (c, I, zRg g)) :
    zRn (zcl d) 93 B Q 36 [some (zr 0), some (zr a1), some (zr a2), some (zi x3)] [zi s0] (c, I, zRg g) :=
  zgo [5, 10, 24, 31, 36] 0 (t)
theorem g_x11_telling_0 {d : Nat} {B : Nat × Nat} {Q : zQ} {c : Nat × Nat × Nat} {I : Nat → Nat → Int} {g : Nat} {x3 : Int} {a1 a2 : Nat}
    (t : zcl d 92 0 0 [zr 0, zr a2] (c, I, zRg g) (fun v h1 => zRn (zcl d) 94 B Q 5 [some (zr 0), some (zr a1), some (zr a2), some (zi x3)] (zva v []) h1)) :
    zRn (zcl d) 94 B Q 0 [some (zr 0), some (zr a1), some (zr a2), some (zi x3)] [] (c, I, zRg g) :=
  zgo [5, 14, 17] 2 (Exists.intro 92 (And.intro rfl (And.intro (Nat.le_of_ble_eq_true rfl) (Exists.intro 0 (Exists.intro 0 (And.intro (Or.inl rfl) (And.intro (Or.inl rfl) t)))))))
theorem g_x11_telling_5 {d : Nat} {B : Nat × Nat} {Q : zQ} {c : Nat × Nat × Nat} {I : Nat → Nat → Int} {g : Nat} {x3 : Int} {a1 a2 b0 : Nat}
    (t : zcl d 93 0 0 [zr 0, zr a1, zr a2, zi x3] (c, I, zRg g) (fun v h1 => zRn (zcl d) 94 B Q 14 [some (zr 0), some (zr a1), some (zr a2), some (zi x3)] (zva v [zi x3, zr a2, zr b0]) h1)) :
    zRn (zcl d) 94 B Q 5 [some (zr 0), some (zr a1), some (zr a2), some (zi x3)] [zr b0] (c, I, zRg g) :=
  zgo [5, 14, 17] 6 (Exists.intro 93 (And.intro rfl (And.intro (Nat.le_of_ble_eq_true rfl) (Exists.intro 0 (Exists.intro 0 (And.intro (Or.inl rfl) (And.intro (Or.inl rfl) t)))))))
theorem g_x11_telling_14 {d : Nat} {B : Nat × Nat} {Q : zQ} {c : Nat × Nat × Nat} {I : Nat → Nat → Int} {g : Nat} {x3 s0 s1 : Int} {a1 a2 b2 b3 k1 : Nat}
    (t : (zsel ((zSh b3).1 : Nat) [(9, 67), (1, 7), (2, 13), (3, 18), (4, 24), (6, 33)] = some k1) ∧ (zcl d k1 0 0 [zr b3, zr b2, zi s1, zi s0] (c, I, zRg g) (fun v h1 => zRn (zcl d) 94 B Q 17 [some (zr 0), some (zr a1), some (zr a2), some (zi x3)] (zva v []) h1))) :
    zRn (zcl d) 94 B Q 14 [some (zr 0), some (zr a1), some (zr a2), some (zi x3)] [zi s0, zi s1, zr b2, zr b3] (c, I, zRg g) :=
  zgo [5, 14, 17] 0 (Exists.intro k1 (And.intro t.1 (And.intro (Nat.le_of_ble_eq_true rfl) (Exists.intro 0 (Exists.intro 0 (And.intro (Or.inl rfl) (And.intro (Or.inl rfl) t.2)))))))
theorem g_x11_telling_17 {d : Nat} {B : Nat × Nat} {Q : zQ} {c : Nat × Nat × Nat} {I : Nat → Nat → Int} {g : Nat} {x3 s0 : Int} {a1 a2 : Nat}
    (t : Q (some (zi s0)) (c, I, zRg g)) :
    zRn (zcl d) 94 B Q 17 [some (zr 0), some (zr a1), some (zr a2), some (zi x3)] [zi s0] (c, I, zRg g) :=
  zgo [5, 14, 17] 0 (t)
theorem g_x11_tiring_0 {d : Nat} {B : Nat × Nat} {Q : zQ} {c : Nat × Nat × Nat} {I : Nat → Nat → Int} {g : Nat} {x3 : Int} {a1 a2 : Nat}
    (t : zcl d 92 0 0 [zr 0, zr a2] (c, I, zRg g) (fun v h1 => zRn (zcl d) 95 B Q 5 [some (zr 0), some (zr a1), some (zr a2), some (zi x3)] (zva v []) h1)) :
    zRn (zcl d) 95 B Q 0 [some (zr 0), some (zr a1), some (zr a2), some (zi x3)] [] (c, I, zRg g) :=
  zgo [5, 10, 24, 28] 2 (Exists.intro 92 (And.intro rfl (And.intro (Nat.le_of_ble_eq_true rfl) (Exists.intro 0 (Exists.intro 0 (And.intro (Or.inl rfl) (And.intro (Or.inl rfl) t)))))))
theorem g_x11_tiring_5 {d : Nat} {B : Nat × Nat} {Q : zQ} {c : Nat × Nat × Nat} {I : Nat → Nat → Int} {g : Nat} {x3 : Int} {a1 a2 b0 : Nat}
    (t : zcl d 87 0 0 [zr 0, zr a1] (c, I, zRg g) (fun v h1 => zRn (zcl d) 95 B Q 10 [some (zr 0), some (zr a1), some (zr a2), some (zi x3)] (zva v [zr b0]) h1)) :
    zRn (zcl d) 95 B Q 5 [some (zr 0), some (zr a1), some (zr a2), some (zi x3)] [zr b0] (c, I, zRg g) :=
  zgo [5, 10, 24, 28] 2 (Exists.intro 87 (And.intro rfl (And.intro (Nat.le_of_ble_eq_true rfl) (Exists.intro 0 (Exists.intro 0 (And.intro (Or.inl rfl) (And.intro (Or.inl rfl) t)))))))
theorem g_x11_tiring_10 {d : Nat} {B : Nat × Nat} {Q : zQ} {c : Nat × Nat × Nat} {I : Nat → Nat → Int} {g : Nat} {x3 : Int} {a1 a2 b0 b1 : Nat}
    (t : ((zSh a1).1 = 0) ∧ ((zsel ((zSh b0).1 : Nat) [(10, 72)] = some 72) ∧ (zcl d 72 0 0 [zr b0, zi 1, zr a2, zi x3, zi (I a1 4), zr 27] (c, I, zRg g) (fun v h1 => zRn (zcl d) 95 B Q 24 [some (zr 0), some (zr a1), some (zr a2), some (zi x3)] (zva v [zr b1]) h1)))) :
    zRn (zcl d) 95 B Q 10 [some (zr 0), some (zr a1), some (zr a2), some (zi x3)] [zr b0, zr b1] (c, I, zRg g) :=
  zgo [5, 10, 24, 28] 7 (And.intro t.1 (And.intro rfl (Exists.intro (some 27) (And.intro rfl (Exists.intro 72 (And.intro t.2.1 (And.intro (Nat.le_of_ble_eq_true rfl) (Exists.intro 0 (Exists.intro 0 (And.intro (Or.inl rfl) (And.intro (Or.inl rfl) t.2.2)))))))))))
theorem g_x11_tiring_24 {d : Nat} {B : Nat × Nat} {Q : zQ} {c : Nat × Nat × Nat} {I : Nat → Nat → Int} {g : Nat} {x3 s0 : Int} {a1 a2 b1 k1 : Nat}
    (t : (zsel ((zSh b1).1 : Nat) [(9, 68), (1, 8), (2, 14), (3, 19), (4, 25), (6, 34)] = some k1) ∧ (zcl d k1 0 0 [zr b1, zi s0, zr a2] (c, I, zRg g) (fun v h1 => zRn (zcl d) 95 B Q 28 [some (zr 0), some (zr a1), some (zr a2), some (zi x3)] (zva v []) h1))) :
    zRn (zcl d) 95 B Q 24 [some (zr 0), some (zr a1), some (zr a2), some (zi x3)] [zi s0, zr b1] (c, I, zRg g) :=
  zgo [5, 10, 24, 28] 1 (Exists.intro k1 (And.intro t.1 (And.intro (Nat.le_of_ble_eq_true rfl) (Exists.intro 0 (Exists.intro 0 (And.intro (Or.inl rfl) (And.intro (Or.inl rfl) t.2)))))))
theorem g_x11_tiring_28 {d : Nat} {B : Nat × Nat} {Q : zQ} {c : Nat × Nat × Nat} {I : Nat → Nat → Int} {g : Nat} {x3 s0 : Int} {a1 a2 : Nat}
    (t : Q (some (zi s0)) (c, I, zRg g)) :
    zRn (zcl d) 95 B Q 28 [some (zr 0), some (zr a1), some (zr a2), some (zi x3)] [zi s0] (c, I, zRg g) :=
  zgo [5, 10, 24, 28] 0 (t)
theorem g_x11_learning_0 {d : Nat} {B : Nat × Nat} {Q : zQ} {c : Nat × Nat × Nat} {I : Nat → Nat → Int} {g : Nat} {x3 : Int} {a1 a2 : Nat}
    (t : zcl d 92 0 0 [zr 0, zr a2] (c, I, zRg g) (fun v h1 => zRn (zcl d) 96 B Q 5 [some (zr 0), some (zr a1), some (zr a2), some (zi x3)] (zva v []) h1)) :
    zRn (zcl d) 96 B Q 0 [some (zr 0), some (zr a1), some (zr a2), some (zi x3)] [] (c, I, zRg g) :=
  zgo [5, 10, 24, 36] 2 (Exists.intro 92 (And.intro rfl (And.intro (Nat.le_of_ble_eq_true rfl) (Exists.intro 0 (Exists.intro 0 (And.intro (Or.inl rfl) (And.intro (Or.inl rfl) t)))))))
theorem g_x11_learning_5 {d : Nat} {B : Nat × Nat} {Q : zQ} {c : Nat × Nat × Nat} {I : Nat → Nat → Int} {g : Nat} {x3 : Int} {a1 a2 b0 : Nat}
    (t : zcl d 87 0 0 [zr 0, zr a1] (c, I, zRg g) (fun v h1 => zRn (zcl d) 96 B Q 10 [some (zr 0), some (zr a1), some (zr a2), some (zi x3)] (zva v [zr b0]) h1)) :
    zRn (zcl d) 96 B Q 5 [some (zr 0), some (zr a1), some (zr a2), some (zi x3)] [zr b0] (c, I, zRg g) :=
  zgo [5, 10, 24, 36] 2 (Exists.intro 87 (And.intro rfl (And.intro (Nat.le_of_ble_eq_true rfl) (Exists.intro 0 (Exists.intro 0 (And.intro (Or.inl rfl) (And.intro (Or.inl rfl) t)))))))
theorem g_x11_learning_10 {d : Nat} {B : Nat × Nat} {Q : zQ} {c : Nat × Nat × Nat} {I : Nat → Nat → Int} {g : Nat} {x3 : Int} {a1 a2 b0 b1 : Nat}
    (t : ((zSh a1).1 = 0) ∧ ((zsel ((zSh b0).1 : Nat) [(10, 72)] = some 72) ∧ (zcl d 72 0 0 [zr b0, zi 2, zr a2, zi x3, zi (I a1 4), zr 27] (c, I, zRg g) (fun v h1 => zRn (zcl d) 96 B Q 24 [some (zr 0), some (zr a1), some (zr a2), some (zi x3)] (zva v [zr b1]) h1)))) :
    zRn (zcl d) 96 B Q 10 [some (zr 0), some (zr a1), some (zr a2), some (zi x3)] [zr b0, zr b1] (c, I, zRg g) :=
  zgo [5, 10, 24, 36] 7 (And.intro t.1 (And.intro rfl (Exists.intro (some 27) (And.intro rfl (Exists.intro 72 (And.intro t.2.1 (And.intro (Nat.le_of_ble_eq_true rfl) (Exists.intro 0 (Exists.intro 0 (And.intro (Or.inl rfl) (And.intro (Or.inl rfl) t.2.2)))))))))))
theorem g_x11_learning_24 {d : Nat} {B : Nat × Nat} {Q : zQ} {c : Nat × Nat × Nat} {I : Nat → Nat → Int} {g : Nat} {x3 s0 : Int} {a1 a2 b1 k1 k3 : Nat}
    (t : (s0 = 0 → ((zsel ((zSh b1).1 : Nat) [(9, 69), (1, 9), (2, 15), (3, 20), (4, 9), (6, 35)] = some k1) ∧ (zcl d k1 0 0 [zr b1, zi 0, zi x3] (c, I, zRg g) (fun v h1 => zRn (zcl d) 96 B Q 36 [some (zr 0), some (zr a1), some (zr a2), some (zi x3)] (zva v []) h1)))) ∧ (¬ (s0 = 0) → ((zsel ((zSh b1).1 : Nat) [(9, 69), (1, 9), (2, 15), (3, 20), (4, 9), (6, 35)] = some k3) ∧ (zcl d k3 0 0 [zr b1, zi 1, zi x3] (c, I, zRg g) (fun v h1 => zRn (zcl d) 96 B Q 36 [some (zr 0), some (zr a1), some (zr a2), some (zi x3)] (zva v []) h1))))) :
    zRn (zcl d) 96 B Q 24 [some (zr 0), some (zr a1), some (zr a2), some (zi x3)] [zi s0, zr b1] (c, I, zRg g) :=
  zgo [5, 10, 24, 36] 4 (And.intro (fun u240 => Exists.intro k1 (And.intro (t.1 u240).1 (And.intro (Nat.le_of_ble_eq_true rfl) (Exists.intro 0 (Exists.intro 0 (And.intro (Or.inl rfl) (And.intro (Or.inl rfl) ((t.1 u240).2)))))))) (fun u240 => Exists.intro k3 (And.intro (t.2 u240).1 (And.intro (Nat.le_of_ble_eq_true rfl) (Exists.intro 0 (Exists.intro 0 (And.intro (Or.inl rfl) (And.intro (Or.inl rfl) ((t.2 u240).2)))))))))
theorem g_x11_learning_36 {d : Nat} {B : Nat × Nat} {Q : zQ} {c : Nat × Nat × Nat} {I : Nat → Nat → Int} {g : Nat} {x3 s0 : Int} {a1 a2 : Nat}
    (t : (s0 = 0 ∨ s0 = 1) ∧ (Q (some (zi s0)) (c, I, zRg g))) :
    zRn (zcl d) 96 B Q 36 [some (zr 0), some (zr a1), some (zr a2), some (zi x3)] [zi s0] (c, I, zRg g) :=
  zgo [5, 10, 24, 36] 0 (And.intro t.1 t.2)
theorem g_x11_toldByAll_0 {d : Nat} {B : Nat × Nat} {Q : zQ} {c : Nat × Nat × Nat} {I : Nat → Nat → Int} {g : Nat} {x2 : Int} {a1 : Nat}
    (t : zRn (zcl d) 97 B Q 5 [some (zr 0), some (zr a1), some (zi x2), some (zi x2), some (zi 0)] [] (c, I, zRg g)) :
    zRn (zcl d) 97 B Q 0 [some (zr 0), some (zr a1), some (zi x2), none, none] [] (c, I, zRg g) :=
  zgo [5, 27] 4 (t)
theorem g_x11_toldByAll_5 {d : Nat} {B : Nat × Nat} {Q : zQ} {c : Nat × Nat × Nat} {I : Nat → Nat → Int} {g : Nat} {x2 x3 x4 : Int} {a1 y1 y2 : Nat}
    (t : ((zSh a1).1 = 0) ∧ ((I a1 2 ≤ x4 → (Q (some (zi x3)) (c, I, zRg g))) ∧ (¬ (I a1 2 ≤ x4) → (((zSh a1).1 = 0) ∧ ((zRg g a1 0 = some y1) ∧ ((102 ≤ (zSh y1).1 ∧ (zSh y1).1 ≤ 105) ∧ ((0 ≤ x4 ∧ x4 < ((zSh y1).2 : Nat)) ∧ ((zRg g y1 x4.toNat = some y2) ∧ (zcl d 94 0 0 [zr 0, zr a1, zr y2, zi x3] (c, I, zRg g) (fun v h1 => zRn (zcl d) 97 B Q 27 [some (zr 0), some (zr a1), some (zi x2), some (zi x3), some (zi x4)] (zva v []) h1)))))))))) :
    zRn (zcl d) 97 B Q 5 [some (zr 0), some (zr a1), some (zi x2), some (zi x3), some (zi x4)] [] (c, I, zRg g) :=
  zgo [5, 27] 11 (And.intro t.1 (And.intro (fun u241 => (t.2.1 u241)) (fun u241 => And.intro (t.2.2 u241).1 (Exists.intro (some y1) (And.intro (t.2.2 u241).2.1 (And.intro (t.2.2 u241).2.2.1 (And.intro (t.2.2 u241).2.2.2.1 (Exists.intro (some y2) (And.intro (t.2.2 u241).2.2.2.2.1 (Exists.intro 94 (And.intro rfl (And.intro (Nat.le_of_ble_eq_true rfl) (Exists.intro 0 (Exists.intro 0 (And.intro (Or.inl rfl) (And.intro (Or.inl rfl) ((t.2.2 u241).2.2.2.2.2)))))))))))))))))
theorem g_x11_toldByAll_27 {d : Nat} {B : Nat × Nat} {Q : zQ} {c : Nat × Nat × Nat} {I : Nat → Nat → Int} {g : Nat} {x2 x3 x4 s0 : Int} {a1 : Nat}
    (t : zRn (zcl d) 97 B Q 5 [some (zr 0), some (zr a1), some (zi x2), some (zi s0), some (zi (zwr (x4 + 1)))] [] (c, I, zRg g)) :
    zRn (zcl d) 97 B Q 27 [some (zr 0), some (zr a1), some (zi x2), some (zi x3), some (zi x4)] [zi s0] (c, I, zRg g) :=
  zgo [5, 27] 3 (t)
theorem g_x11_toldByRow_0 {d : Nat} {B : Nat × Nat} {Q : zQ} {c : Nat × Nat × Nat} {I : Nat → Nat → Int} {g : Nat} {x2 : Int} {a1 : Nat}
    (t : zRn (zcl d) 98 B Q 5 [some (zr 0), some (zr a1), some (zi x2), some (zi x2), some (zi 0), none] [] (c, I, zRg g)) :
    zRn (zcl d) 98 B Q 0 [some (zr 0), some (zr a1), some (zi x2), none, none, none] [] (c, I, zRg g) :=
  zgo [5, 32, 54] 4 (t)
theorem g_x11_toldByRow_5 {d : Nat} {B : Nat × Nat} {Q : zQ} {c : Nat × Nat × Nat} {I : Nat → Nat → Int} {g : Nat} {x2 x3 x4 : Int} {a1 y1 : Nat}
    (t : ((zSh a1).1 = 8) ∧ ((I a1 2 ≤ x4 → (Q (some (zi x3)) (c, I, zRg g))) ∧ (¬ (I a1 2 ≤ x4) → (((zSh a1).1 = 8) ∧ ((zRg g a1 0 = some y1) ∧ (((zSh y1).1 = 100) ∧ ((0 ≤ x4 ∧ x4 < ((zSh y1).2 : Nat)) ∧ (zcl d 1 0 0 [zr 2, zi (I y1 x4.toNat)] (c, I, zRg g) (fun v h1 => zRn (zcl d) 98 B Q 32 [some (zr 0), some (zr a1), some (zi x2), some (zi x3), some (zi x4), some (zi (I y1 x4.toNat))] (zva v []) h1))))))))) :
    zRn (zcl d) 98 B Q 5 [some (zr 0), some (zr a1), some (zi x2), some (zi x3), some (zi x4), none] [] (c, I, zRg g) :=
  zgo [5, 32, 54] 12 (And.intro t.1 (And.intro (fun u242 => (t.2.1 u242)) (fun u242 => And.intro (t.2.2 u242).1 (Exists.intro (some y1) (And.intro (t.2.2 u242).2.1 (And.intro (t.2.2 u242).2.2.1 (And.intro (t.2.2 u242).2.2.2.1 (And.intro rfl (Exists.intro (some 2) (And.intro rfl (Exists.intro 1 (And.intro rfl (And.intro (Nat.le_of_ble_eq_true rfl) (Exists.intro 0 (Exists.intro 0 (And.intro (Or.inl rfl) (And.intro (Or.inl rfl) ((t.2.2 u242).2.2.2.2))))))))))))))))))
theorem g_x11_toldByRow_32 {d : Nat} {B : Nat × Nat} {Q : zQ} {c : Nat × Nat × Nat} {I : Nat → Nat → Int} {g : Nat} {x2 x3 x4 x5 s0 : Int} {a1 y1 : Nat}
    (t : (s0 = 0 → (zRn (zcl d) 98 B Q 5 [some (zr 0), some (zr a1), some (zi x2), some (zi x3), some (zi (zwr (x4 + 1))), some (zi x5)] [] (c, I, zRg g))) ∧ (¬ (s0 = 0) → ((0 ≤ x5 ∧ x5 < 5) ∧ ((zRg g 3 x5.toNat = some y1) ∧ (zcl d 94 0 0 [zr 0, zr 2, zr y1, zi x3] (c, I, zRg g) (fun v h1 => zRn (zcl d) 98 B Q 54 [some (zr 0), some (zr a1), some (zi x2), some (zi x3), some (zi x4), some (zi x5)] (zva v []) h1)))))) :
    zRn (zcl d) 98 B Q 32 [some (zr 0), some (zr a1), some (zi x2), some (zi x3), some (zi x4), some (zi x5)] [zi s0] (c, I, zRg g) :=
  zgo [5, 32, 54] 10 (And.intro (fun u243 => (t.1 u243)) (fun u243 => And.intro rfl (Exists.intro (some 2) (And.intro rfl (And.intro rfl (Exists.intro (some 2) (And.intro rfl (And.intro rfl (Exists.intro (some 3) (And.intro rfl (And.intro (by decide) (And.intro (t.2 u243).1 (Exists.intro (some y1) (And.intro (t.2 u243).2.1 (Exists.intro 94 (And.intro rfl (And.intro (Nat.le_of_ble_eq_true rfl) (Exists.intro 0 (Exists.intro 0 (And.intro (Or.inl rfl) (And.intro (Or.inl rfl) ((t.2 u243).2.2))))))))))))))))))))))
theorem g_x11_toldByRow_54 {d : Nat} {B : Nat × Nat} {Q : zQ} {c : Nat × Nat × Nat} {I : Nat → Nat → Int} {g : Nat} {x2 x3 x4 x5 s0 : Int} {a1 : Nat}
    (t : zRn (zcl d) 98 B Q 5 [some (zr 0), some (zr a1), some (zi x2), some (zi s0), some (zi (zwr (x4 + 1))), some (zi x5)] [] (c, I, zRg g)) :
    zRn (zcl d) 98 B Q 54 [some (zr 0), some (zr a1), some (zi x2), some (zi x3), some (zi x4), some (zi x5)] [zi s0] (c, I, zRg g) :=
  zgo [5, 32, 54] 3 (t)
theorem g_x11_passDay_0 {d : Nat} {B : Nat × Nat} {Q : zQ} {c : Nat × Nat × Nat} {I : Nat → Nat → Int} {g : Nat} {a1 : Nat}
    (t : ((zSh a1).1 = 0) ∧ ((I a1 3 ≤ 0 → (((zSh a1).1 = 0) ∧ (((zSh a1).1 = 0) ∧ (Q (some (zi (-1))) (c, (z2 I a1 4 (zwr ((I a1 4) + 1))), zRg g))))) ∧ (¬ (I a1 3 ≤ 0) → ((zsel ((zSh a1).1 : Nat) [(0, 2)] = some 2) ∧ (zcl d 2 0 0 [zr a1] (c, I, zRg g) (fun v h1 => zRn (zcl d) 99 B Q 13 [some (zr 0), some (zr a1), some (zi (-1)), none] (zva v []) h1)))))) :
    zRn (zcl d) 99 B Q 0 [some (zr 0), some (zr a1), none, none] [] (c, I, zRg g) :=
  zgo [13, 16, 36] 12 (And.intro t.1 (And.intro (fun u244 => And.intro (t.2.1 u244).1 (And.intro (t.2.1 u244).2.1 ((t.2.1 u244).2.2))) (fun u244 => Exists.intro 2 (And.intro (t.2.2 u244).1 (And.intro (Nat.le_of_ble_eq_true rfl) (Exists.intro 0 (Exists.intro 0 (And.intro (Or.inl rfl) (And.intro (Or.inl rfl) ((t.2.2 u244).2))))))))))
theorem g_x11_passDay_13 {d : Nat} {B : Nat × Nat} {Q : zQ} {c : Nat × Nat × Nat} {I : Nat → Nat → Int} {g : Nat} {x2 s0 : Int} {a1 : Nat}
    (t : zRn (zcl d) 99 B Q 16 [some (zr 0), some (zr a1), some (zi s0), some (zi 0)] [] (c, I, zRg g)) :
    zRn (zcl d) 99 B Q 13 [some (zr 0), some (zr a1), some (zi x2), none] [zi s0] (c, I, zRg g) :=
  zgo [13, 16, 36] 3 (t)
theorem g_x11_passDay_16 {d : Nat} {B : Nat × Nat} {Q : zQ} {c : Nat × Nat × Nat} {I : Nat → Nat → Int} {g : Nat} {x2 x3 : Int} {a1 y1 y2 : Nat}
    (t : ((zSh a1).1 = 0) ∧ ((I a1 2 ≤ x3 → (((zSh a1).1 = 0) ∧ ((999 ≤ I a1 5 → (((zSh a1).1 = 0) ∧ (((zSh a1).1 = 0) ∧ (Q (some (zi x2)) (c, (z2 I a1 4 (zwr ((I a1 4) + 1))), zRg g))))) ∧ (¬ (999 ≤ I a1 5) → (((zSh a1).1 = 0) ∧ (((zSh a1).1 = 0) ∧ (((zSh a1).1 = 0) ∧ (((zSh a1).1 = 0) ∧ (Q (some (zi x2)) (c, (z2 (z2 I a1 5 (zwr ((I a1 5) + 1))) a1 4 (zwr (((z2 I a1 5 (zwr ((I a1 5) + 1))) a1 4) + 1))), zRg g)))))))))) ∧ (¬ (I a1 2 ≤ x3) → (((zSh a1).1 = 0) ∧ ((zRg g a1 0 = some y1) ∧ ((102 ≤ (zSh y1).1 ∧ (zSh y1).1 ≤ 105) ∧ ((0 ≤ x3 ∧ x3 < ((zSh y1).2 : Nat)) ∧ ((zRg g y1 x3.toNat = some y2) ∧ (zcl d 100 0 0 [zr 0, zr a1, zr y2, zi x2] (c, I, zRg g) (fun v h1 => zRn (zcl d) 99 B Q 36 [some (zr 0), some (zr a1), some (zi x2), some (zi x3)] (zva v []) h1)))))))))) :
    zRn (zcl d) 99 B Q 16 [some (zr 0), some (zr a1), some (zi x2), some (zi x3)] [] (c, I, zRg g) :=
  zgo [13, 16, 36] 21 (And.intro t.1 (And.intro (fun u245 => And.intro (t.2.1 u245).1 (And.intro (fun u246 => And.intro ((t.2.1 u245).2.1 u246).1 (And.intro ((t.2.1 u245).2.1 u246).2.1 (((t.2.1 u245).2.1 u246).2.2))) (fun u246 => And.intro ((t.2.1 u245).2.2 u246).1 (And.intro ((t.2.1 u245).2.2 u246).2.1 (And.intro ((t.2.1 u245).2.2 u246).2.2.1 (And.intro ((t.2.1 u245).2.2 u246).2.2.2.1 (((t.2.1 u245).2.2 u246).2.2.2.2))))))) (fun u245 => And.intro (t.2.2 u245).1 (Exists.intro (some y1) (And.intro (t.2.2 u245).2.1 (And.intro (t.2.2 u245).2.2.1 (And.intro (t.2.2 u245).2.2.2.1 (Exists.intro (some y2) (And.intro (t.2.2 u245).2.2.2.2.1 (Exists.intro 100 (And.intro rfl (And.intro (Nat.le_of_ble_eq_true rfl) (Exists.intro 0 (Exists.intro 0 (And.intro (Or.inl rfl) (And.intro (Or.inl rfl) ((t.2.2 u245).2.2.2.2.2)))))))))))))))))
theorem g_x11_passDay_36 {d : Nat} {B : Nat × Nat} {Q : zQ} {c : Nat × Nat × Nat} {I : Nat → Nat → Int} {g : Nat} {x2 x3 s0 : Int} {a1 : Nat}
    (t : zRn (zcl d) 99 B Q 16 [some (zr 0), some (zr a1), some (zi s0), some (zi (zwr (x3 + 1)))] [] (c, I, zRg g)) :
    zRn (zcl d) 99 B Q 36 [some (zr 0), some (zr a1), some (zi x2), some (zi x3)] [zi s0] (c, I, zRg g) :=
  zgo [13, 16, 36] 3 (t)
theorem g_x11_tellTruly_0 {d : Nat} {B : Nat × Nat} {Q : zQ} {c : Nat × Nat × Nat} {I : Nat → Nat → Int} {g : Nat} {x3 : Int} {a1 a2 : Nat}
    (t : zcl d 94 0 0 [zr 0, zr a1, zr a2, zi x3] (c, I, zRg g) (fun v h1 => zRn (zcl d) 100 B Q 7 [some (zr 0), some (zr a1), some (zr a2), some (zi x3), none, none, none] (zva v []) h1)) :
    zRn (zcl d) 100 B Q 0 [some (zr 0), some (zr a1), some (zr a2), some (zi x3), none, none, none] [] (c, I, zRg g) :=
  zgo [7, 16, 25, 49, 67, 82] 4 (Exists.intro 94 (And.intro rfl (And.intro (Nat.le_of_ble_eq_true rfl) (Exists.intro 0 (Exists.intro 0 (And.intro (Or.inl rfl) (And.intro (Or.inl rfl) t)))))))
theorem g_x11_tellTruly_7 {d : Nat} {B : Nat × Nat} {Q : zQ} {c : Nat × Nat × Nat} {I : Nat → Nat → Int} {g : Nat} {x3 s0 : Int} {a1 a2 : Nat}
    (t : zcl d 95 0 0 [zr 0, zr a1, zr a2, zi x3] (c, I, zRg g) (fun v h1 => zRn (zcl d) 100 B Q 16 [some (zr 0), some (zr a1), some (zr a2), some (zi x3), some (zi s0), none, none] (zva v []) h1)) :
    zRn (zcl d) 100 B Q 7 [some (zr 0), some (zr a1), some (zr a2), some (zi x3), none, none, none] [zi s0] (c, I, zRg g) :=
  zgo [7, 16, 25, 49, 67, 82] 5 (Exists.intro 95 (And.intro rfl (And.intro (Nat.le_of_ble_eq_true rfl) (Exists.intro 0 (Exists.intro 0 (And.intro (Or.inl rfl) (And.intro (Or.inl rfl) t)))))))
theorem g_x11_tellTruly_16 {d : Nat} {B : Nat × Nat} {Q : zQ} {c : Nat × Nat × Nat} {I : Nat → Nat → Int} {g : Nat} {x3 x4 s0 : Int} {a1 a2 : Nat}
    (t : zcl d 96 0 0 [zr 0, zr a1, zr a2, zi x3] (c, I, zRg g) (fun v h1 => zRn (zcl d) 100 B Q 25 [some (zr 0), some (zr a1), some (zr a2), some (zi x3), some (zi x4), some (zi s0), none] (zva v []) h1)) :
    zRn (zcl d) 100 B Q 16 [some (zr 0), some (zr a1), some (zr a2), some (zi x3), some (zi x4), none, none] [zi s0] (c, I, zRg g) :=
  zgo [7, 16, 25, 49, 67, 82] 5 (Exists.intro 96 (And.intro rfl (And.intro (Nat.le_of_ble_eq_true rfl) (Exists.intro 0 (Exists.intro 0 (And.intro (Or.inl rfl) (And.intro (Or.inl rfl) t)))))))
theorem g_x11_tellTruly_25 {d : Nat} {B : Nat × Nat} {Q : zQ} {c : Nat × Nat × Nat} {I : Nat → Nat → Int} {g : Nat} {x3 x4 x5 s0 : Int} {a1 a2 : Nat}
    (t : (s0 = 0 → (((zSh a2).1 = 5) ∧ (zcl d 203 0 0 [zi 0, zi (zwr ((I a2 3) - x5))] (c, I, zRg g) (fun v h1 => zRn (zcl d) 100 B Q 67 [some (zr 0), some (zr a1), some (zr a2), some (zi x3), some (zi x4), some (zi x5), none] (zva v [zr a2]) h1)))) ∧ (¬ (s0 = 0) → (((zSh a2).1 = 5) ∧ (((zSh a2).1 = 5) ∧ (zcl d 102 0 0 [zi (zand x3 (zxor (I a2 2) (-1)))] (c, I, zRg g) (fun v h1 => zRn (zcl d) 100 B Q 49 [some (zr 0), some (zr a1), some (zr a2), some (zi x3), some (zi x4), some (zi x5), some (zr a2)] (zva v [zi (I a2 2), zr a2]) h1)))))) :
    zRn (zcl d) 100 B Q 25 [some (zr 0), some (zr a1), some (zr a2), some (zi x3), some (zi x4), some (zi x5), none] [zi s0] (c, I, zRg g) :=
  zgo [7, 16, 25, 49, 67, 82] 12 (And.intro (fun u247 => And.intro (t.1 u247).1 (And.intro (Nat.le_of_ble_eq_true rfl) (Exists.intro 0 (Exists.intro 0 (And.intro (Or.inl rfl) (And.intro (Or.inl rfl) ((t.1 u247).2))))))) (fun u247 => And.intro (t.2 u247).1 (And.intro (t.2 u247).2.1 (And.intro (Nat.le_of_ble_eq_true rfl) (Exists.intro 0 (Exists.intro 0 (And.intro (Or.inl rfl) (And.intro (Or.inl rfl) ((t.2 u247).2.2)))))))))
theorem g_x11_tellTruly_49 {d : Nat} {B : Nat × Nat} {Q : zQ} {c : Nat × Nat × Nat} {I : Nat → Nat → Int} {g : Nat} {x3 x4 x5 s0 s1 : Int} {a1 a2 a6 b2 : Nat}
    (t : ((zSh b2).1 = 5) ∧ (((zSh a2).1 = 5) ∧ (zcl d 203 0 0 [zi 0, zi (zwr (((z2 I b2 2 (zor s1 s0)) a2 3) - x5))] (c, (z2 I b2 2 (zor s1 s0)), zRg g) (fun v h1 => zRn (zcl d) 100 B Q 67 [some (zr 0), some (zr a1), some (zr a2), some (zi x3), some (zi x4), some (zi x5), some (zr a6)] (zva v [zr a2]) h1)))) :
    zRn (zcl d) 100 B Q 49 [some (zr 0), some (zr a1), some (zr a2), some (zi x3), some (zi x4), some (zi x5), some (zr a6)] [zi s0, zi s1, zr b2] (c, I, zRg g) :=
  zgo [7, 16, 25, 49, 67, 82] 10 (And.intro t.1 (And.intro t.2.1 (And.intro (Nat.le_of_ble_eq_true rfl) (Exists.intro 0 (Exists.intro 0 (And.intro (Or.inl rfl) (And.intro (Or.inl rfl) t.2.2)))))))
theorem g_x11_tellTruly_67 {d : Nat} {B : Nat × Nat} {Q : zQ} {c : Nat × Nat × Nat} {I : Nat → Nat → Int} {g : Nat} {x3 x4 x5 s0 : Int} {a1 a2 b1 : Nat}
    (t : ((zSh b1).1 = 5) ∧ (((zSh a2).1 = 5) ∧ (zcl d 204 0 0 [zi 99, zi (zwr (((z2 I b1 3 s0) a2 4) + 1))] (c, (z2 I b1 3 s0), zRg g) (fun v h1 => zRn (zcl d) 100 B Q 82 [some (zr 0), some (zr a1), some (zr a2), some (zi x3), some (zi x4), some (zi x5), none] (zva v [zr a2]) h1)))) :
    zRn (zcl d) 100 B Q 67 [some (zr 0), some (zr a1), some (zr a2), some (zi x3), some (zi x4), some (zi x5), none] [zi s0, zr b1] (c, I, zRg g) :=
  zgo [7, 16, 25, 49, 67, 82] 7 (And.intro t.1 (And.intro t.2.1 (And.intro (Nat.le_of_ble_eq_true rfl) (Exists.intro 0 (Exists.intro 0 (And.intro (Or.inl rfl) (And.intro (Or.inl rfl) t.2.2)))))))
theorem g_x11_tellTruly_82 {d : Nat} {B : Nat × Nat} {Q : zQ} {c : Nat × Nat × Nat} {I : Nat → Nat → Int} {g : Nat} {x3 x4 x5 s0 : Int} {a1 a2 b1 : Nat}
    (t : ((zSh b1).1 = 5) ∧ (Q (some (zi x4)) (c, (z2 I b1 4 s0), zRg g))) :
    zRn (zcl d) 100 B Q 82 [some (zr 0), some (zr a1), some (zr a2), some (zi x3), some (zi x4), some (zi x5), none] [zi s0, zr b1] (c, I, zRg g) :=
  zgo [7, 16, 25, 49, 67, 82] 2 (And.intro t.1 t.2)
theorem g_x11_off_0 {d : Nat} {B : Nat × Nat} {Q : zQ} {c : Nat × Nat × Nat} {I : Nat → Nat → Int} {g : Nat} {x0 x1 : Int}
    (t : zcl d 202 0 0 [zi (zxor x0 x1)] (c, I, zRg g) (fun v h1 => zRn (zcl d) 101 B Q 6 [some (zi x0), some (zi x1)] (zva v []) h1)) :
    zRn (zcl d) 101 B Q 0 [some (zi x0), some (zi x1)] [] (c, I, zRg g) :=
  zgo [6] 3 (And.intro (Nat.le_of_ble_eq_true rfl) (Exists.intro 0 (Exists.intro 0 (And.intro (Or.inl rfl) (And.intro (Or.inl rfl) t)))))
theorem g_x11_off_6 {d : Nat} {B : Nat × Nat} {Q : zQ} {c : Nat × Nat × Nat} {I : Nat → Nat → Int} {g : Nat} {x0 x1 s0 : Int}
    (t : Q (some (zi s0)) (c, I, zRg g)) :
    zRn (zcl d) 101 B Q 6 [some (zi x0), some (zi x1)] [zi s0] (c, I, zRg g) :=
  zgo [6] 0 (t)
theorem g_x11_lowest_0 {d : Nat} {B : Nat × Nat} {Q : zQ} {c : Nat × Nat × Nat} {I : Nat → Nat → Int} {g : Nat} {x0 : Int}
    (t : Q (some (zi (zand x0 (zwr (-x0))))) (c, I, zRg g)) :
    zRn (zcl d) 102 B Q 0 [some (zi x0)] [] (c, I, zRg g) :=
  zgo [] 4 (t)
theorem g_x11_within_0 {d : Nat} {B : Nat × Nat} {Q : zQ} {c : Nat × Nat × Nat} {I : Nat → Nat → Int} {g : Nat} {x0 x1 : Int}
    (t : zcl d 204 0 0 [zi x1, zi x0] (c, I, zRg g) (fun v h1 => zRn (zcl d) 103 B Q 6 [some (zi x0), some (zi x1)] (zva v [zi 0]) h1)) :
    zRn (zcl d) 103 B Q 0 [some (zi x0), some (zi x1)] [] (c, I, zRg g) :=
  zgo [6, 9] 3 (And.intro (Nat.le_of_ble_eq_true rfl) (Exists.intro 0 (Exists.intro 0 (And.intro (Or.inl rfl) (And.intro (Or.inl rfl) t)))))
theorem g_x11_within_6 {d : Nat} {B : Nat × Nat} {Q : zQ} {c : Nat × Nat × Nat} {I : Nat → Nat → Int} {g : Nat} {x0 x1 s0 s1 : Int}
    (t : zcl d 203 0 0 [zi s1, zi s0] (c, I, zRg g) (fun v h1 => zRn (zcl d) 103 B Q 9 [some (zi x0), some (zi x1)] (zva v []) h1)) :
    zRn (zcl d) 103 B Q 6 [some (zi x0), some (zi x1)] [zi s0, zi s1] (c, I, zRg g) :=
  zgo [6, 9] 0 (And.intro (Nat.le_of_ble_eq_true rfl) (Exists.intro 0 (Exists.intro 0 (And.intro (Or.inl rfl) (And.intro (Or.inl rfl) t)))))
theorem g_x11_within_9 {d : Nat} {B : Nat × Nat} {Q : zQ} {c : Nat × Nat × Nat} {I : Nat → Nat → Int} {g : Nat} {x0 x1 s0 : Int}
    (t : Q (some (zi s0)) (c, I, zRg g)) :
    zRn (zcl d) 103 B Q 9 [some (zi x0), some (zi x1)] [zi s0] (c, I, zRg g) :=
  zgo [6, 9] 0 (t)
theorem g_x11_fro_0 {d : Nat} {B : Nat × Nat} {Q : zQ} {c : Nat × Nat × Nat} {I : Nat → Nat → Int} {g : Nat} {x1 x2 : Int}
    (t : zcl d 83 0 0 [zi x1] (c, I, zRg g) (fun v h1 => zRn (zcl d) 104 B Q 4 [some (zr 0), some (zi x1), some (zi x2), none, none] (zva v []) h1)) :
    zRn (zcl d) 104 B Q 0 [some (zr 0), some (zi x1), some (zi x2), none, none] [] (c, I, zRg g) :=
  zgo [4, 28, 55, 59] 1 (And.intro (Nat.le_of_ble_eq_true rfl) (Exists.intro 0 (Exists.intro 0 (And.intro (Or.inl rfl) (And.intro (Or.inl rfl) t)))))
theorem g_x11_fro_4 {d : Nat} {B : Nat × Nat} {Q : zQ} {c : Nat × Nat × Nat} {I : Nat → Nat → Int} {g : Nat} {x1 x2 s0 : Int}
    (t : (s0 = 0 → (Q (some (zi (-2))) (c, I, zRg g))) ∧ (¬ (s0 = 0) → ((x2 < 0 → (Q (some (zi (-2))) (c, I, zRg g))) ∧ (¬ (x2 < 0) → ((x2 ≤ 1 → (zRn (zcl d) 104 B Q 28 [some (zr 0), some (zi x1), some (zi x2), some (zi 1), none] [] (c, (z2 I 29 0 x1), zRg g))) ∧ (¬ (x2 ≤ 1) → (Q (some (zi (-2))) (c, I, zRg g)))))))) :
    zRn (zcl d) 104 B Q 4 [some (zr 0), some (zi x1), some (zi x2), none, none] [zi s0] (c, I, zRg g) :=
  zgo [4, 28, 55, 59] 13 (And.intro (fun u248 => (t.1 u248)) (fun u248 => And.intro (fun u249 => ((t.2 u248).1 u249)) (fun u249 => And.intro (fun u250 => And.intro rfl (Exists.intro (some 29) (And.intro rfl (And.intro rfl (And.intro (by decide) (((t.2 u248).2 u249).1 u250)))))) (fun u250 => (((t.2 u248).2 u249).2 u250)))))
theorem g_x11_fro_28 {d : Nat} {B : Nat × Nat} {Q : zQ} {c : Nat × Nat × Nat} {I : Nat → Nat → Int} {g : Nat} {x1 x2 x3 : Int}
    (t : (60 < x3 → (Q (some (zi (-1))) (c, I, zRg g))) ∧ (¬ (60 < x3) → ((0 ≤ zwr (x3 - 1) ∧ zwr (x3 - 1) < 61) ∧ (zcl d 97 0 0 [zr 0, zr 2, zi (I 29 ((zwr (x3 - 1)).toNat))] (c, I, zRg g) (fun v h1 => zRn (zcl d) 104 B Q 55 [some (zr 0), some (zi x1), some (zi x2), some (zi x3), none] (zva v [zi x3, zr 29]) h1))))) :
    zRn (zcl d) 104 B Q 28 [some (zr 0), some (zi x1), some (zi x2), some (zi x3), none] [] (c, I, zRg g) :=
  zgo [4, 28, 55, 59] 15 (And.intro (fun u251 => (t.1 u251)) (fun u251 => And.intro rfl (Exists.intro (some 29) (And.intro rfl (And.intro rfl (Exists.intro (some 2) (And.intro rfl (And.intro rfl (Exists.intro (some 29) (And.intro rfl (And.intro rfl (And.intro (t.2 u251).1 (Exists.intro 97 (And.intro rfl (And.intro (Nat.le_of_ble_eq_true rfl) (Exists.intro 0 (Exists.intro 0 (And.intro (Or.inl rfl) (And.intro (Or.inl rfl) ((t.2 u251).2))))))))))))))))))))
theorem g_x11_fro_55 {d : Nat} {B : Nat × Nat} {Q : zQ} {c : Nat × Nat × Nat} {I : Nat → Nat → Int} {g : Nat} {x1 x2 x3 s0 s1 : Int}
    (t : (0 ≤ s1 ∧ s1 < 61) ∧ (zRn (zcl d) 104 B Q 59 [some (zr 0), some (zi x1), some (zi x2), some (zi x3), some (zi 0)] [] (c, (z2 I 29 s1.toNat s0), zRg g))) :
    zRn (zcl d) 104 B Q 55 [some (zr 0), some (zi x1), some (zi x2), some (zi x3), none] [zi s0, zi s1, zr 29] (c, I, zRg g) :=
  zgo [4, 28, 55, 59] 3 (And.intro rfl (And.intro t.1 t.2))
theorem g_x11_fro_59 {d : Nat} {B : Nat × Nat} {Q : zQ} {c : Nat × Nat × Nat} {I : Nat → Nat → Int} {g : Nat} {x1 x2 x3 x4 : Int}
    (t : (x3 ≤ x4 → (zRn (zcl d) 104 B Q 28 [some (zr 0), some (zi x1), some (zi x2), some (zi (zwr (x3 + 1))), some (zi x4)] [] (c, I, zRg g))) ∧ (¬ (x3 ≤ x4) → ((0 ≤ x4 ∧ x4 < 61) ∧ ((0 ≤ x3 ∧ x3 < 61) ∧ ((I 29 x4.toNat ≠ I 29 x3.toNat → (zRn (zcl d) 104 B Q 59 [some (zr 0), some (zi x1), some (zi x2), some (zi x3), some (zi (zwr (x4 + 1)))] [] (c, I, zRg g))) ∧ (¬ (I 29 x4.toNat ≠ I 29 x3.toNat) → ((x2 ≠ 0 → ((0 ≤ x3 ∧ x3 < 61) ∧ (Q (some (zi (I 29 x3.toNat))) (c, I, zRg g)))) ∧ (¬ (x2 ≠ 0) → (Q (some (zi x3)) (c, I, zRg g)))))))))) :
    zRn (zcl d) 104 B Q 59 [some (zr 0), some (zi x1), some (zi x2), some (zi x3), some (zi x4)] [] (c, I, zRg g) :=
  zgo [4, 28, 55, 59] 18 (And.intro (fun u252 => (t.1 u252)) (fun u252 => And.intro rfl (Exists.intro (some 29) (And.intro rfl (And.intro rfl (And.intro (t.2 u252).1 (And.intro rfl (Exists.intro (some 29) (And.intro rfl (And.intro rfl (And.intro (t.2 u252).2.1 (And.intro (fun u253 => ((t.2 u252).2.2.1 u253)) (fun u253 => And.intro (fun u254 => And.intro rfl (Exists.intro (some 29) (And.intro rfl (And.intro rfl (And.intro (((t.2 u252).2.2.2 u253).1 u254).1 ((((t.2 u252).2.2.2 u253).1 u254).2)))))) (fun u254 => (((t.2 u252).2.2.2 u253).2 u254)))))))))))))))
theorem g_x11_row_0 {d : Nat} {B : Nat × Nat} {Q : zQ} {c : Nat × Nat × Nat} {I : Nat → Nat → Int} {g : Nat} {x1 x2 x3 : Int}
    (t : zcl d 83 0 0 [zi x1] (c, I, zRg g) (fun v h1 => zRn (zcl d) 105 B Q 4 [some (zr 0), some (zi x1), some (zi x2), some (zi x3), none] (zva v []) h1)) :
    zRn (zcl d) 105 B Q 0 [some (zr 0), some (zi x1), some (zi x2), some (zi x3), none] [] (c, I, zRg g) :=
  zgo [4, 42, 58] 1 (And.intro (Nat.le_of_ble_eq_true rfl) (Exists.intro 0 (Exists.intro 0 (And.intro (Or.inl rfl) (And.intro (Or.inl rfl) t)))))
theorem g_x11_row_4 {d : Nat} {B : Nat × Nat} {Q : zQ} {c : Nat × Nat × Nat} {I : Nat → Nat → Int} {g : Nat} {x1 x2 x3 s0 : Int}
    (t : (s0 = 0 → (Q (some (zi (-2))) (c, I, zRg g))) ∧ (¬ (s0 = 0) → ((x2 < 1 → (Q (some (zi (-2))) (c, I, zRg g))) ∧ (¬ (x2 < 1) → ((3 < x2 → (Q (some (zi (-2))) (c, I, zRg g))) ∧ (¬ (3 < x2) → ((x3 < 0 → (Q (some (zi (-2))) (c, I, zRg g))) ∧ (¬ (x3 < 0) → ((x3 ≤ 1 → (zRn (zcl d) 105 B Q 42 [some (zr 0), some (zi x1), some (zi x2), some (zi x3), some (zi 1)] [] (c, (z2 (z2 I 0 11 (-1)) 0 12 (-1)), zRg g))) ∧ (¬ (x3 ≤ 1) → (Q (some (zi (-2))) (c, I, zRg g)))))))))))) :
    zRn (zcl d) 105 B Q 4 [some (zr 0), some (zi x1), some (zi x2), some (zi x3), none] [zi s0] (c, I, zRg g) :=
  zgo [4, 42, 58] 20 (And.intro (fun u255 => (t.1 u255)) (fun u255 => And.intro (fun u256 => ((t.2 u255).1 u256)) (fun u256 => And.intro (fun u257 => (((t.2 u255).2 u256).1 u257)) (fun u257 => And.intro (fun u258 => ((((t.2 u255).2 u256).2 u257).1 u258)) (fun u258 => And.intro (fun u259 => And.intro rfl (And.intro rfl (((((t.2 u255).2 u256).2 u257).2 u258).1 u259))) (fun u259 => (((((t.2 u255).2 u256).2 u257).2 u258).2 u259)))))))
theorem g_x11_row_42 {d : Nat} {B : Nat × Nat} {Q : zQ} {c : Nat × Nat × Nat} {I : Nat → Nat → Int} {g : Nat} {x1 x2 x3 x4 : Int}
    (t : (x2 < x4 → ((x3 ≠ 0 → (Q (some (zi (I 0 12))) (c, I, zRg g))) ∧ (¬ (x3 ≠ 0) → (Q (some (zi (I 0 11))) (c, I, zRg g))))) ∧ (¬ (x2 < x4) → (zcl d 106 0 0 [zr 0, zi x1, zi x1, zi 0, zi 0, zi x4] (c, I, zRg g) (fun v h1 => zRn (zcl d) 105 B Q 58 [some (zr 0), some (zi x1), some (zi x2), some (zi x3), some (zi x4)] (zva v []) h1)))) :
    zRn (zcl d) 105 B Q 42 [some (zr 0), some (zi x1), some (zi x2), some (zi x3), some (zi x4)] [] (c, I, zRg g) :=
  zgo [4, 42, 58] 9 (And.intro (fun u260 => And.intro (fun u261 => And.intro rfl ((t.1 u260).1 u261)) (fun u261 => And.intro rfl ((t.1 u260).2 u261))) (fun u260 => Exists.intro 106 (And.intro rfl (And.intro (Nat.le_of_ble_eq_true rfl) (Exists.intro 0 (Exists.intro 0 (And.intro (Or.inl rfl) (And.intro (Or.inl rfl) (t.2 u260)))))))))
theorem g_x11_row_58 {d : Nat} {B : Nat × Nat} {Q : zQ} {c : Nat × Nat × Nat} {I : Nat → Nat → Int} {g : Nat} {x1 x2 x3 x4 : Int}
    (t : zRn (zcl d) 105 B Q 42 [some (zr 0), some (zi x1), some (zi x2), some (zi x3), some (zi (zwr (x4 + 1)))] [] (c, I, zRg g)) :
    zRn (zcl d) 105 B Q 58 [some (zr 0), some (zi x1), some (zi x2), some (zi x3), some (zi x4)] [] (c, I, zRg g) :=
  zgo [4, 42, 58] 2 (t)
theorem g_x11_tryRows_0 {d : Nat} {B : Nat × Nat} {Q : zQ} {c : Nat × Nat × Nat} {I : Nat → Nat → Int} {g : Nat} {x1 x2 x3 x4 x5 : Int}
    (t : (0 < x5 → (zRn (zcl d) 106 B Q 44 [some (zr 0), some (zi x1), some (zi x2), some (zi x3), some (zi x4), some (zi x5), some (zi 0)] [] (c, I, zRg g))) ∧ (¬ (0 < x5) → (zcl d 101 0 0 [zi x1, zi x2] (c, I, zRg g) (fun v h1 => zRn (zcl d) 106 B Q 10 [some (zr 0), some (zi x1), some (zi x2), some (zi x3), some (zi x4), some (zi x5), none] (zva v []) h1)))) :
    zRn (zcl d) 106 B Q 0 [some (zr 0), some (zi x1), some (zi x2), some (zi x3), some (zi x4), some (zi x5), none] [] (c, I, zRg g) :=
  zgo [10, 44, 90, 113] 4 (And.intro (fun u262 => (t.1 u262)) (fun u262 => And.intro (Nat.le_of_ble_eq_true rfl) (Exists.intro 0 (Exists.intro 0 (And.intro (Or.inl rfl) (And.intro (Or.inl rfl) (t.2 u262)))))))
theorem g_x11_tryRows_10 {d : Nat} {B : Nat × Nat} {Q : zQ} {c : Nat × Nat × Nat} {I : Nat → Nat → Int} {g : Nat} {x1 x2 x3 x4 x5 s0 : Int}
    (t : (I 0 12 = (-1) → (Q none (c, (z2 (z2 I 0 12 s0) 0 11 x3), zRg g))) ∧ (¬ (I 0 12 = (-1)) → ((I 0 12 ≤ s0 → (Q none (c, I, zRg g))) ∧ (¬ (I 0 12 ≤ s0) → (Q none (c, (z2 (z2 I 0 12 s0) 0 11 x3), zRg g)))))) :
    zRn (zcl d) 106 B Q 10 [some (zr 0), some (zi x1), some (zi x2), some (zi x3), some (zi x4), some (zi x5), none] [zi s0] (c, I, zRg g) :=
  zgo [10, 44, 90, 113] 15 (And.intro rfl (And.intro (fun u265 => And.intro rfl (And.intro rfl (t.1 u265))) (fun u265 => And.intro rfl (And.intro (fun u266 => ((t.2 u265).1 u266)) (fun u266 => And.intro rfl (And.intro rfl ((t.2 u265).2 u266)))))))
theorem g_x11_tryRows_44 {d : Nat} {B : Nat × Nat} {Q : zQ} {c : Nat × Nat × Nat} {I : Nat → Nat → Int} {g : Nat} {x1 x2 x3 x4 x5 x6 : Int} {y1 : Nat}
    (t : (I 2 2 ≤ x6 → (Q none (c, I, zRg g))) ∧ (¬ (I 2 2 ≤ x6) → ((zand x4 (zshl 1 x6) = 0 → ((0 ≤ x6 ∧ x6 < 5) ∧ ((zRg g 3 x6.toNat = some y1) ∧ (zcl d 94 0 0 [zr 0, zr 2, zr y1, zi x2] (c, I, zRg g) (fun v h1 => zRn (zcl d) 106 B Q 90 [some (zr 0), some (zi x1), some (zi x2), some (zi x3), some (zi x4), some (zi x5), some (zi x6)] (zva v [zi x1, zr 0]) h1))))) ∧ (¬ (zand x4 (zshl 1 x6) = 0) → (zRn (zcl d) 106 B Q 113 [some (zr 0), some (zi x1), some (zi x2), some (zi x3), some (zi x4), some (zi x5), some (zi x6)] [] (c, I, zRg g)))))) :
    zRn (zcl d) 106 B Q 44 [some (zr 0), some (zi x1), some (zi x2), some (zi x3), some (zi x4), some (zi x5), some (zi x6)] [] (c, I, zRg g) :=
  zgo [10, 44, 90, 113] 22 (And.intro rfl (Exists.intro (some 2) (And.intro rfl (And.intro rfl (And.intro (fun u263 => (t.1 u263)) (fun u263 => And.intro (fun u264 => And.intro rfl (Exists.intro (some 2) (And.intro rfl (And.intro rfl (Exists.intro (some 2) (And.intro rfl (And.intro rfl (Exists.intro (some 3) (And.intro rfl (And.intro (by decide) (And.intro ((t.2 u263).1 u264).1 (Exists.intro (some y1) (And.intro ((t.2 u263).1 u264).2.1 (Exists.intro 94 (And.intro rfl (And.intro (Nat.le_of_ble_eq_true rfl) (Exists.intro 0 (Exists.intro 0 (And.intro (Or.inl rfl) (And.intro (Or.inl rfl) (((t.2 u263).1 u264).2.2))))))))))))))))))))) (fun u264 => ((t.2 u263).2 u264))))))))
theorem g_x11_tryRows_90 {d : Nat} {B : Nat × Nat} {Q : zQ} {c : Nat × Nat × Nat} {I : Nat → Nat → Int} {g : Nat} {x1 x2 x3 x4 x5 x6 s0 s1 : Int}
    (t : zcl d 106 0 0 [zr 0, zi s1, zi s0, zi (zwr ((zwr ((zwr (x3 * 10)) + x6)) + 1)), zi (zor x4 (zshl 1 x6)), zi (zwr (x5 - 1))] (c, I, zRg g) (fun v h1 => zRn (zcl d) 106 B Q 113 [some (zr 0), some (zi x1), some (zi x2), some (zi x3), some (zi x4), some (zi x5), some (zi x6)] (zva v []) h1)) :
    zRn (zcl d) 106 B Q 90 [some (zr 0), some (zi x1), some (zi x2), some (zi x3), some (zi x4), some (zi x5), some (zi x6)] [zi s0, zi s1, zr 0] (c, I, zRg g) :=
  zgo [10, 44, 90, 113] 15 (Exists.intro 106 (And.intro rfl (And.intro (Nat.le_of_ble_eq_true rfl) (Exists.intro 0 (Exists.intro 0 (And.intro (Or.inl rfl) (And.intro (Or.inl rfl) t)))))))
theorem g_x11_tryRows_113 {d : Nat} {B : Nat × Nat} {Q : zQ} {c : Nat × Nat × Nat} {I : Nat → Nat → Int} {g : Nat} {x1 x2 x3 x4 x5 x6 : Int}
    (t : zRn (zcl d) 106 B Q 44 [some (zr 0), some (zi x1), some (zi x2), some (zi x3), some (zi x4), some (zi x5), some (zi (zwr (x6 + 1)))] [] (c, I, zRg g)) :
    zRn (zcl d) 106 B Q 113 [some (zr 0), some (zi x1), some (zi x2), some (zi x3), some (zi x4), some (zi x5), some (zi x6)] [] (c, I, zRg g) :=
  zgo [10, 44, 90, 113] 2 (t)
theorem g_x11_learn_0 {d : Nat} {B : Nat × Nat} {Q : zQ} {c : Nat × Nat × Nat} {I : Nat → Nat → Int} {g : Nat} {x1 x2 : Int}
    (t : zcl d 83 0 0 [zi x1] (c, I, zRg g) (fun v h1 => zRn (zcl d) 107 B Q 4 [some (zr 0), some (zi x1), some (zi x2), none, none, none, none] (zva v []) h1)) :
    zRn (zcl d) 107 B Q 0 [some (zr 0), some (zi x1), some (zi x2), none, none, none, none] [] (c, I, zRg g) :=
  zgo [4, 36, 39, 52, 68] 1 (And.intro (Nat.le_of_ble_eq_true rfl) (Exists.intro 0 (Exists.intro 0 (And.intro (Or.inl rfl) (And.intro (Or.inl rfl) t)))))
theorem g_x11_learn_4 {d : Nat} {B : Nat × Nat} {Q : zQ} {c : Nat × Nat × Nat} {I : Nat → Nat → Int} {g : Nat} {x1 x2 s0 : Int}
    (t : (s0 = 0 → (Q (some (zi (-2))) (c, I, zRg g))) ∧ (¬ (s0 = 0) → ((x2 < 0 → (Q (some (zi (-2))) (c, I, zRg g))) ∧ (¬ (x2 < 0) → ((x2 ≤ 1 → (zcl d 3 0 0 [zr 18, zr 2] (c, I, zRg g) (fun v h1 => zRn (zcl d) 107 B Q 36 [some (zr 0), some (zi x1), some (zi x2), some (zi (-1)), some (zi 11), none, none] (zva v []) h1))) ∧ (¬ (x2 ≤ 1) → (Q (some (zi (-2))) (c, I, zRg g)))))))) :
    zRn (zcl d) 107 B Q 4 [some (zr 0), some (zi x1), some (zi x2), none, none, none, none] [zi s0] (c, I, zRg g) :=
  zgo [4, 36, 39, 52, 68] 14 (And.intro (fun u267 => (t.1 u267)) (fun u267 => And.intro (fun u268 => ((t.2 u267).1 u268)) (fun u268 => And.intro (fun u269 => And.intro rfl (Exists.intro (some 18) (And.intro rfl (And.intro rfl (Exists.intro (some 2) (And.intro rfl (Exists.intro 3 (And.intro rfl (And.intro (Nat.le_of_ble_eq_true rfl) (Exists.intro 0 (Exists.intro 0 (And.intro (Or.inl rfl) (And.intro (Or.inl rfl) (((t.2 u267).2 u268).1 u269)))))))))))))) (fun u269 => (((t.2 u267).2 u268).2 u269)))))
theorem g_x11_learn_36 {d : Nat} {B : Nat × Nat} {Q : zQ} {c : Nat × Nat × Nat} {I : Nat → Nat → Int} {g : Nat} {x1 x2 x3 x4 : Int}
    (t : zRn (zcl d) 107 B Q 39 [some (zr 0), some (zi x1), some (zi x2), some (zi x3), some (zi x4), some (zi 0), none] [] (c, I, zRg g)) :
    zRn (zcl d) 107 B Q 36 [some (zr 0), some (zi x1), some (zi x2), some (zi x3), some (zi x4), none, none] [] (c, I, zRg g) :=
  zgo [4, 36, 39, 52, 68] 2 (t)
theorem g_x11_learn_39 {d : Nat} {B : Nat × Nat} {Q : zQ} {c : Nat × Nat × Nat} {I : Nat → Nat → Int} {g : Nat} {x1 x2 x3 x4 x5 : Int}
    (t : (1024 ≤ x5 → ((x3 ≠ (-1) → ((x2 ≠ 0 → (Q (some (zi x4)) (c, I, zRg g))) ∧ (¬ (x2 ≠ 0) → (Q (some (zi x3)) (c, I, zRg g))))) ∧ (¬ (x3 ≠ (-1)) → (Q (some (zi (-1))) (c, I, zRg g))))) ∧ (¬ (1024 ≤ x5) → (zcl d 202 0 0 [zi x5] (c, I, zRg g) (fun v h1 => zRn (zcl d) 107 B Q 52 [some (zr 0), some (zi x1), some (zi x2), some (zi x3), some (zi x4), some (zi x5), none] (zva v []) h1)))) :
    zRn (zcl d) 107 B Q 39 [some (zr 0), some (zi x1), some (zi x2), some (zi x3), some (zi x4), some (zi x5), none] [] (c, I, zRg g) :=
  zgo [4, 36, 39, 52, 68] 10 (And.intro (fun u270 => And.intro (fun u271 => And.intro (fun u272 => (((t.1 u270).1 u271).1 u272)) (fun u272 => (((t.1 u270).1 u271).2 u272))) (fun u271 => ((t.1 u270).2 u271))) (fun u270 => And.intro (Nat.le_of_ble_eq_true rfl) (Exists.intro 0 (Exists.intro 0 (And.intro (Or.inl rfl) (And.intro (Or.inl rfl) (t.2 u270)))))))
theorem g_x11_learn_52 {d : Nat} {B : Nat × Nat} {Q : zQ} {c : Nat × Nat × Nat} {I : Nat → Nat → Int} {g : Nat} {x1 x2 x3 x4 x5 s0 : Int}
    (t : (x4 ≤ s0 → (zRn (zcl d) 107 B Q 39 [some (zr 0), some (zi x1), some (zi x2), some (zi x3), some (zi x4), some (zi (zwr (x5 + 1))), some (zi s0)] [] (c, I, zRg g))) ∧ (¬ (x4 ≤ s0) → (zcl d 108 0 0 [zr 0, zi x5, zi x1] (c, I, zRg g) (fun v h1 => zRn (zcl d) 107 B Q 68 [some (zr 0), some (zi x1), some (zi x2), some (zi x3), some (zi x4), some (zi x5), some (zi s0)] (zva v []) h1)))) :
    zRn (zcl d) 107 B Q 52 [some (zr 0), some (zi x1), some (zi x2), some (zi x3), some (zi x4), some (zi x5), none] [zi s0] (c, I, zRg g) :=
  zgo [4, 36, 39, 52, 68] 7 (And.intro (fun u273 => (t.1 u273)) (fun u273 => Exists.intro 108 (And.intro rfl (And.intro (Nat.le_of_ble_eq_true rfl) (Exists.intro 0 (Exists.intro 0 (And.intro (Or.inl rfl) (And.intro (Or.inl rfl) (t.2 u273)))))))))
theorem g_x11_learn_68 {d : Nat} {B : Nat × Nat} {Q : zQ} {c : Nat × Nat × Nat} {I : Nat → Nat → Int} {g : Nat} {x1 x2 x3 x4 x5 x6 s0 : Int}
    (t : (s0 ≠ x1 → (zRn (zcl d) 107 B Q 39 [some (zr 0), some (zi x1), some (zi x2), some (zi x3), some (zi x4), some (zi (zwr (x5 + 1))), some (zi x6)] [] (c, I, zRg g))) ∧ (¬ (s0 ≠ x1) → (zRn (zcl d) 107 B Q 39 [some (zr 0), some (zi x1), some (zi x2), some (zi x5), some (zi x6), some (zi (zwr (x5 + 1))), some (zi x6)] [] (c, I, zRg g)))) :
    zRn (zcl d) 107 B Q 68 [some (zr 0), some (zi x1), some (zi x2), some (zi x3), some (zi x4), some (zi x5), some (zi x6)] [zi s0] (c, I, zRg g) :=
  zgo [4, 36, 39, 52, 68] 8 (And.intro (fun u274 => (t.1 u274)) (fun u274 => (t.2 u274)))
theorem g_x11_toldWithMore_0 {d : Nat} {B : Nat × Nat} {Q : zQ} {c : Nat × Nat × Nat} {I : Nat → Nat → Int} {g : Nat} {x1 x2 : Int}
    (t : zRn (zcl d) 108 B Q 2 [some (zr 0), some (zi x1), some (zi x2), some (zi 0)] [] (c, I, zRg g)) :
    zRn (zcl d) 108 B Q 0 [some (zr 0), some (zi x1), some (zi x2), none] [] (c, I, zRg g) :=
  zgo [2, 54] 2 (t)
theorem g_x11_toldWithMore_2 {d : Nat} {B : Nat × Nat} {Q : zQ} {c : Nat × Nat × Nat} {I : Nat → Nat → Int} {g : Nat} {x1 x2 x3 : Int} {y2 y3 : Nat}
    (t : (I 18 2 ≤ x3 → (zcl d 97 0 0 [zr 0, zr 18, zi x2] (c, I, zRg g) (fun v h1 => zRn (zcl d) 108 B Q 54 [some (zr 0), some (zi x1), some (zi x2), some (zi x3)] (zva v []) h1))) ∧ (¬ (I 18 2 ≤ x3) → ((0 ≤ x3 ∧ x3 < 5) ∧ ((zRg g 19 x3.toNat = some y2) ∧ ((0 ≤ x3 ∧ x3 < 5) ∧ ((zRg g 3 x3.toNat = some y3) ∧ (((zSh y3).1 = 5) ∧ (((zSh y2).1 = 5) ∧ (zRn (zcl d) 108 B Q 2 [some (zr 0), some (zi x1), some (zi x2), some (zi (zwr (x3 + 1)))] [] (c, (z2 I y2 2 (zor (I y3 2) x1)), zRg g)))))))))) :
    zRn (zcl d) 108 B Q 2 [some (zr 0), some (zi x1), some (zi x2), some (zi x3)] [] (c, I, zRg g) :=
  zgo [2, 54] 21 (And.intro rfl (Exists.intro (some 18) (And.intro rfl (And.intro rfl (And.intro (fun u275 => And.intro rfl (Exists.intro (some 18) (And.intro rfl (Exists.intro 97 (And.intro rfl (And.intro (Nat.le_of_ble_eq_true rfl) (Exists.intro 0 (Exists.intro 0 (And.intro (Or.inl rfl) (And.intro (Or.inl rfl) (t.1 u275))))))))))) (fun u275 => And.intro rfl (Exists.intro (some 18) (And.intro rfl (And.intro rfl (Exists.intro (some 19) (And.intro rfl (And.intro (by decide) (And.intro (t.2 u275).1 (Exists.intro (some y2) (And.intro (t.2 u275).2.1 (And.intro rfl (Exists.intro (some 2) (And.intro rfl (And.intro rfl (Exists.intro (some 3) (And.intro rfl (And.intro (by decide) (And.intro (t.2 u275).2.2.1 (Exists.intro (some y3) (And.intro (t.2 u275).2.2.2.1 (And.intro (t.2 u275).2.2.2.2.1 (And.intro (t.2 u275).2.2.2.2.2.1 ((t.2 u275).2.2.2.2.2.2))))))))))))))))))))))))))))
theorem g_x11_toldWithMore_54 {d : Nat} {B : Nat × Nat} {Q : zQ} {c : Nat × Nat × Nat} {I : Nat → Nat → Int} {g : Nat} {x1 x2 x3 s0 : Int}
    (t : Q (some (zi s0)) (c, I, zRg g)) :
    zRn (zcl d) 108 B Q 54 [some (zr 0), some (zi x1), some (zi x2), some (zi x3)] [zi s0] (c, I, zRg g) :=
  zgo [2, 54] 0 (t)
theorem g_x11_from_0 {d : Nat} {B : Nat × Nat} {Q : zQ} {c : Nat × Nat × Nat} {I : Nat → Nat → Int} {g : Nat} {x1 x2 : Int}
    (t : zcl d 83 0 0 [zi x1] (c, I, zRg g) (fun v h1 => zRn (zcl d) 109 B Q 4 [some (zr 0), some (zi x1), some (zi x2), none, none, none] (zva v []) h1)) :
    zRn (zcl d) 109 B Q 0 [some (zr 0), some (zi x1), some (zi x2), none, none, none] [] (c, I, zRg g) :=
  zgo [4, 27, 45] 1 (And.intro (Nat.le_of_ble_eq_true rfl) (Exists.intro 0 (Exists.intro 0 (And.intro (Or.inl rfl) (And.intro (Or.inl rfl) t)))))
theorem g_x11_from_4 {d : Nat} {B : Nat × Nat} {Q : zQ} {c : Nat × Nat × Nat} {I : Nat → Nat → Int} {g : Nat} {x1 x2 s0 : Int}
    (t : (s0 = 0 → (Q (some (zi (-2))) (c, I, zRg g))) ∧ (¬ (s0 = 0) → ((x2 < 0 → (Q (some (zi (-2))) (c, I, zRg g))) ∧ (¬ (x2 < 0) → ((x2 ≤ 1 → (zRn (zcl d) 109 B Q 27 [some (zr 0), some (zi x1), some (zi x2), some (zi 0), some (zi (-1)), some (zi 0)] [] (c, I, zRg g))) ∧ (¬ (x2 ≤ 1) → (Q (some (zi (-2))) (c, I, zRg g)))))))) :
    zRn (zcl d) 109 B Q 4 [some (zr 0), some (zi x1), some (zi x2), none, none, none] [zi s0] (c, I, zRg g) :=
  zgo [4, 27, 45] 12 (And.intro (fun u276 => (t.1 u276)) (fun u276 => And.intro (fun u277 => ((t.2 u276).1 u277)) (fun u277 => And.intro (fun u278 => (((t.2 u276).2 u277).1 u278)) (fun u278 => (((t.2 u276).2 u277).2 u278)))))
theorem g_x11_from_27 {d : Nat} {B : Nat × Nat} {Q : zQ} {c : Nat × Nat × Nat} {I : Nat → Nat → Int} {g : Nat} {x1 x2 x3 x4 x5 : Int}
    (t : (1024 ≤ x5 → ((x2 ≠ 0 → (Q (some (zi x4)) (c, I, zRg g))) ∧ (¬ (x2 ≠ 0) → (Q (some (zi x3)) (c, I, zRg g))))) ∧ (¬ (1024 ≤ x5) → (zcl d 97 0 0 [zr 0, zr 2, zi x5] (c, I, zRg g) (fun v h1 => zRn (zcl d) 109 B Q 45 [some (zr 0), some (zi x1), some (zi x2), some (zi x3), some (zi x4), some (zi x5)] (zva v []) h1)))) :
    zRn (zcl d) 109 B Q 27 [some (zr 0), some (zi x1), some (zi x2), some (zi x3), some (zi x4), some (zi x5)] [] (c, I, zRg g) :=
  zgo [4, 27, 45] 7 (And.intro (fun u279 => And.intro (fun u280 => ((t.1 u279).1 u280)) (fun u280 => ((t.1 u279).2 u280))) (fun u279 => And.intro rfl (Exists.intro (some 2) (And.intro rfl (Exists.intro 97 (And.intro rfl (And.intro (Nat.le_of_ble_eq_true rfl) (Exists.intro 0 (Exists.intro 0 (And.intro (Or.inl rfl) (And.intro (Or.inl rfl) (t.2 u279))))))))))))
theorem g_x11_from_45 {d : Nat} {B : Nat × Nat} {Q : zQ} {c : Nat × Nat × Nat} {I : Nat → Nat → Int} {g : Nat} {x1 x2 x3 x4 x5 s0 : Int}
    (t : (s0 = x1 → ((x3 ≠ 0 → (zRn (zcl d) 109 B Q 27 [some (zr 0), some (zi x1), some (zi x2), some (zi (zwr (x3 + 1))), some (zi x4), some (zi (zwr (x5 + 1)))] [] (c, I, zRg g))) ∧ (¬ (x3 ≠ 0) → (zRn (zcl d) 109 B Q 27 [some (zr 0), some (zi x1), some (zi x2), some (zi (zwr (x3 + 1))), some (zi x5), some (zi (zwr (x5 + 1)))] [] (c, I, zRg g))))) ∧ (¬ (s0 = x1) → (zRn (zcl d) 109 B Q 27 [some (zr 0), some (zi x1), some (zi x2), some (zi x3), some (zi x4), some (zi (zwr (x5 + 1)))] [] (c, I, zRg g)))) :
    zRn (zcl d) 109 B Q 45 [some (zr 0), some (zi x1), some (zi x2), some (zi x3), some (zi x4), some (zi x5)] [zi s0] (c, I, zRg g) :=
  zgo [4, 27, 45] 9 (And.intro (fun u281 => And.intro (fun u282 => ((t.1 u281).1 u282)) (fun u282 => ((t.1 u281).2 u282))) (fun u281 => (t.2 u281)))
theorem g_x11_mean_0 {d : Nat} {B : Nat × Nat} {Q : zQ} {c : Nat × Nat × Nat} {I : Nat → Nat → Int} {g : Nat} {x1 : Int}
    (t : (x1 < 0 → (Q (some (zl (-4611686018427387904))) (c, I, zRg g))) ∧ (¬ (x1 < 0) → ((1 < x1 → (Q (some (zl (-4611686018427387904))) (c, I, zRg g))) ∧ (¬ (1 < x1) → ((I 2 2 ≠ 0 → (zRn (zcl d) 110 B Q 27 [some (zr 0), some (zi x1), some (zi 0), some (zi 0)] [] (c, I, zRg g))) ∧ (¬ (I 2 2 ≠ 0) → (Q (some (zl (-4611686018427387904))) (c, I, zRg g)))))))) :
    zRn (zcl d) 110 B Q 0 [some (zr 0), some (zi x1), none, none] [] (c, I, zRg g) :=
  zgo [27, 54, 74] 13 (And.intro (fun u283 => (t.1 u283)) (fun u283 => And.intro (fun u284 => ((t.2 u283).1 u284)) (fun u284 => And.intro rfl (Exists.intro (some 2) (And.intro rfl (And.intro rfl (And.intro (fun u285 => (((t.2 u283).2 u284).1 u285)) (fun u285 => (((t.2 u283).2 u284).2 u285)))))))))
theorem g_x11_mean_27 {d : Nat} {B : Nat × Nat} {Q : zQ} {c : Nat × Nat × Nat} {I : Nat → Nat → Int} {g : Nat} {x1 x2 x3 : Int} {y2 : Nat}
    (t : (I 2 2 ≤ x3 → (zcl d 111 0 0 [zi x2, zi (I 2 2), zi x1] (c, I, zRg g) (fun v h1 => zRn (zcl d) 110 B Q 74 [some (zr 0), some (zi x1), some (zi x2), some (zi x3)] (zva v []) h1))) ∧ (¬ (I 2 2 ≤ x3) → ((0 ≤ x3 ∧ x3 < 5) ∧ ((zRg g 3 x3.toNat = some y2) ∧ (((zSh y2).1 = 5) ∧ (zcl d 202 0 0 [zi (I y2 2)] (c, I, zRg g) (fun v h1 => zRn (zcl d) 110 B Q 54 [some (zr 0), some (zi x1), some (zi x2), some (zi x3)] (zva v [zi x2]) h1))))))) :
    zRn (zcl d) 110 B Q 27 [some (zr 0), some (zi x1), some (zi x2), some (zi x3)] [] (c, I, zRg g) :=
  zgo [27, 54, 74] 12 (And.intro rfl (Exists.intro (some 2) (And.intro rfl (And.intro rfl (And.intro (fun u286 => And.intro rfl (Exists.intro (some 2) (And.intro rfl (And.intro rfl (And.intro (Nat.le_of_ble_eq_true rfl) (Exists.intro 0 (Exists.intro 0 (And.intro (Or.inl rfl) (And.intro (Or.inl rfl) (t.1 u286)))))))))) (fun u286 => And.intro rfl (Exists.intro (some 2) (And.intro rfl (And.intro rfl (Exists.intro (some 3) (And.intro rfl (And.intro (by decide) (And.intro (t.2 u286).1 (Exists.intro (some y2) (And.intro (t.2 u286).2.1 (And.intro (t.2 u286).2.2.1 (And.intro (Nat.le_of_ble_eq_true rfl) (Exists.intro 0 (Exists.intro 0 (And.intro (Or.inl rfl) (And.intro (Or.inl rfl) ((t.2 u286).2.2.2))))))))))))))))))))))
theorem g_x11_mean_54 {d : Nat} {B : Nat × Nat} {Q : zQ} {c : Nat × Nat × Nat} {I : Nat → Nat → Int} {g : Nat} {x1 x2 x3 s0 s1 : Int}
    (t : zRn (zcl d) 110 B Q 27 [some (zr 0), some (zi x1), some (zi (zwr (s1 + s0))), some (zi (zwr (x3 + 1)))] [] (c, I, zRg g)) :
    zRn (zcl d) 110 B Q 54 [some (zr 0), some (zi x1), some (zi x2), some (zi x3)] [zi s0, zi s1] (c, I, zRg g) :=
  zgo [27, 54, 74] 4 (t)
theorem g_x11_mean_74 {d : Nat} {B : Nat × Nat} {Q : zQ} {c : Nat × Nat × Nat} {I : Nat → Nat → Int} {g : Nat} {x1 x2 x3 s0 : Int}
    (t : Q (some (zl s0)) (c, I, zRg g)) :
    zRn (zcl d) 110 B Q 74 [some (zr 0), some (zi x1), some (zi x2), some (zi x3)] [zl s0] (c, I, zRg g) :=
  zgo [27, 54, 74] 0 (t)
theorem g_x11_inLowestTerms_0 {d : Nat} {B : Nat × Nat} {Q : zQ} {c : Nat × Nat × Nat} {I : Nat → Nat → Int} {g : Nat} {x0 x1 x2 : Int}
    (t : zcl d 112 0 0 [zi x0, zi x1] (c, I, zRg g) (fun v h1 => zRn (zcl d) 111 B Q 5 [some (zi x0), some (zi x1), some (zi x2), none] (zva v []) h1)) :
    zRn (zcl d) 111 B Q 0 [some (zi x0), some (zi x1), some (zi x2), none] [] (c, I, zRg g) :=
  zgo [5] 2 (And.intro (Nat.le_of_ble_eq_true rfl) (Exists.intro 0 (Exists.intro 0 (And.intro (Or.inl rfl) (And.intro (Or.inl rfl) t)))))
theorem g_x11_inLowestTerms_5 {d : Nat} {B : Nat × Nat} {Q : zQ} {c : Nat × Nat × Nat} {I : Nat → Nat → Int} {g : Nat} {x0 x1 x2 s0 : Int}
    (t : (s0 ≠ 0 → ((x2 ≠ 0 → ((s0 ≠ 0) ∧ (Q (some (zl (zwr (Int.tdiv x1 s0)))) (c, I, zRg g)))) ∧ (¬ (x2 ≠ 0) → ((s0 ≠ 0) ∧ (Q (some (zl (zwr (Int.tdiv x0 s0)))) (c, I, zRg g)))))) ∧ (¬ (s0 ≠ 0) → (Q (some (zl (-4611686018427387904))) (c, I, zRg g)))) :
    zRn (zcl d) 111 B Q 5 [some (zi x0), some (zi x1), some (zi x2), none] [zi s0] (c, I, zRg g) :=
  zgo [5] 10 (And.intro (fun u287 => And.intro (fun u288 => And.intro ((t.1 u287).1 u288).1 (((t.1 u287).1 u288).2)) (fun u288 => And.intro ((t.1 u287).2 u288).1 (((t.1 u287).2 u288).2))) (fun u287 => (t.2 u287)))
theorem g_x11_commonDivisor_0 {d : Nat} {B : Nat × Nat} {Q : zQ} {c : Nat × Nat × Nat} {I : Nat → Nat → Int} {g : Nat} {x0 x1 : Int}
    (t : zRn (zcl d) 112 B Q 7 [some (zi x0), some (zi x1), some (zi x0), some (zi x1), some (zi 0), none] [] (c, I, zRg g)) :
    zRn (zcl d) 112 B Q 0 [some (zi x0), some (zi x1), none, none, none, none] [] (c, I, zRg g) :=
  zgo [7] 6 (t)
theorem g_x11_commonDivisor_7 {d : Nat} {B : Nat × Nat} {Q : zQ} {c : Nat × Nat × Nat} {I : Nat → Nat → Int} {g : Nat} {x0 x1 x2 x3 x4 : Int}
    (t : (64 ≤ x4 → (Q (some (zi x2)) (c, I, zRg g))) ∧ (¬ (64 ≤ x4) → ((x3 = 0 → (Q (some (zi x2)) (c, I, zRg g))) ∧ (¬ (x3 = 0) → ((x3 ≠ 0) ∧ (zRn (zcl d) 112 B Q 7 [some (zi x0), some (zi x1), some (zi x3), some (zi (zwr (Int.tmod x2 x3))), some (zi (zwr (x4 + 1))), some (zi (zwr (Int.tmod x2 x3)))] [] (c, I, zRg g))))))) :
    zRn (zcl d) 112 B Q 7 [some (zi x0), some (zi x1), some (zi x2), some (zi x3), some (zi x4), none] [] (c, I, zRg g) :=
  zgo [7] 15 (And.intro (fun u289 => (t.1 u289)) (fun u289 => And.intro (fun u290 => ((t.2 u289).1 u290)) (fun u290 => And.intro ((t.2 u289).2 u290).1 (((t.2 u289).2 u290).2))))
theorem g_x11_tells_0 {d : Nat} {B : Nat × Nat} {Q : zQ} {c : Nat × Nat × Nat} {I : Nat → Nat → Int} {g : Nat} {x1 x2 x3 : Int}
    (t : zcl d 129 0 0 [zi x1] (c, I, zRg g) (fun v h1 => zRn (zcl d) 113 B Q 4 [some (zr 0), some (zi x1), some (zi x2), some (zi x3), none] (zva v []) h1)) :
    zRn (zcl d) 113 B Q 0 [some (zr 0), some (zi x1), some (zi x2), some (zi x3), none] [] (c, I, zRg g) :=
  zgo [4, 15, 44, 74, 127, 139, 151, 163, 175, 188, 201, 216, 234] 1 (And.intro (Nat.le_of_ble_eq_true rfl) (Exists.intro 0 (Exists.intro 0 (And.intro (Or.inl rfl) (And.intro (Or.inl rfl) t)))))
theorem g_x11_tells_4 {d : Nat} {B : Nat × Nat} {Q : zQ} {c : Nat × Nat × Nat} {I : Nat → Nat → Int} {g : Nat} {x1 x2 x3 s0 : Int}
    (t : (s0 = 0 → (Q (some (zi (-2))) (c, I, zRg g))) ∧ (¬ (s0 = 0) → (zcl d 1 0 0 [zr 2, zi x2] (c, I, zRg g) (fun v h1 => zRn (zcl d) 113 B Q 15 [some (zr 0), some (zi x1), some (zi x2), some (zi x3), none] (zva v []) h1)))) :
    zRn (zcl d) 113 B Q 4 [some (zr 0), some (zi x1), some (zi x2), some (zi x3), none] [zi s0] (c, I, zRg g) :=
  zgo [4, 15, 44, 74, 127, 139, 151, 163, 175, 188, 201, 216, 234] 4 (And.intro (fun u291 => (t.1 u291)) (fun u291 => And.intro rfl (Exists.intro (some 2) (And.intro rfl (Exists.intro 1 (And.intro rfl (And.intro (Nat.le_of_ble_eq_true rfl) (Exists.intro 0 (Exists.intro 0 (And.intro (Or.inl rfl) (And.intro (Or.inl rfl) (t.2 u291))))))))))))
theorem g_x11_tells_15 {d : Nat} {B : Nat × Nat} {Q : zQ} {c : Nat × Nat × Nat} {I : Nat → Nat → Int} {g : Nat} {x1 x2 x3 s0 : Int} {y1 : Nat}
    (t : (s0 = 0 → (Q (some (zi (-2))) (c, I, zRg g))) ∧ (¬ (s0 = 0) → ((x3 < 0 → (Q (some (zi (-2))) (c, I, zRg g))) ∧ (¬ (x3 < 0) → ((x3 ≤ 8 → ((0 ≤ x1 ∧ x1 < 4) ∧ ((zRg g 28 x1.toNat = some y1) ∧ ((zsel ((zSh y1).1 : Nat) [(8, 60)] = some 60) ∧ (zcl d 60 0 0 [zr y1] (c, I, zRg g) (fun v h1 => zRn (zcl d) 113 B Q 44 [some (zr 0), some (zi x1), some (zi x2), some (zi x3), some (zr y1)] (zva v []) h1)))))) ∧ (¬ (x3 ≤ 8) → (Q (some (zi (-2))) (c, I, zRg g)))))))) :
    zRn (zcl d) 113 B Q 15 [some (zr 0), some (zi x1), some (zi x2), some (zi x3), none] [zi s0] (c, I, zRg g) :=
  zgo [4, 15, 44, 74, 127, 139, 151, 163, 175, 188, 201, 216, 234] 12 (And.intro (fun u292 => (t.1 u292)) (fun u292 => And.intro (fun u293 => ((t.2 u292).1 u293)) (fun u293 => And.intro (fun u294 => And.intro rfl (Exists.intro (some 28) (And.intro rfl (And.intro (by decide) (And.intro (((t.2 u292).2 u293).1 u294).1 (Exists.intro (some y1) (And.intro (((t.2 u292).2 u293).1 u294).2.1 (Exists.intro 60 (And.intro (((t.2 u292).2 u293).1 u294).2.2.1 (And.intro (Nat.le_of_ble_eq_true rfl) (Exists.intro 0 (Exists.intro 0 (And.intro (Or.inl rfl) (And.intro (Or.inl rfl) ((((t.2 u292).2 u293).1 u294).2.2.2))))))))))))))) (fun u294 => (((t.2 u292).2 u293).2 u294)))))
theorem g_x11_tells_44 {d : Nat} {B : Nat × Nat} {Q : zQ} {c : Nat × Nat × Nat} {I : Nat → Nat → Int} {g : Nat} {x1 x2 x3 s0 : Int} {a4 : Nat}
    (t : (s0 = 0 → (((zSh a4).1 = 8) ∧ ((I a4 2 ≤ 10 → (zcl d 3 0 0 [zr 18, zr 2] (c, I, zRg g) (fun v h1 => zRn (zcl d) 113 B Q 74 [some (zr 0), some (zi x1), some (zi x2), some (zi x3), some (zr a4)] (zva v []) h1))) ∧ (¬ (I a4 2 ≤ 10) → (Q (some (zi (-2))) (c, I, zRg g)))))) ∧ (¬ (s0 = 0) → (Q (some (zi (-11))) (c, I, zRg g)))) :
    zRn (zcl d) 113 B Q 44 [some (zr 0), some (zi x1), some (zi x2), some (zi x3), some (zr a4)] [zi s0] (c, I, zRg g) :=
  zgo [4, 15, 44, 74, 127, 139, 151, 163, 175, 188, 201, 216, 234] 9 (And.intro (fun u295 => And.intro (t.1 u295).1 (And.intro (fun u296 => And.intro rfl (Exists.intro (some 18) (And.intro rfl (And.intro rfl (Exists.intro (some 2) (And.intro rfl (Exists.intro 3 (And.intro rfl (And.intro (Nat.le_of_ble_eq_true rfl) (Exists.intro 0 (Exists.intro 0 (And.intro (Or.inl rfl) (And.intro (Or.inl rfl) ((t.1 u295).2.1 u296)))))))))))))) (fun u296 => ((t.1 u295).2.2 u296)))) (fun u295 => (t.2 u295)))
theorem g_x11_tells_74 {d : Nat} {B : Nat × Nat} {Q : zQ} {c : Nat × Nat × Nat} {I : Nat → Nat → Int} {g : Nat} {x1 x2 x3 : Int} {a4 : Nat}
    (t : (x3 = 0 → (zcl d 116 0 0 [zr 0, zr a4, zi x2] (c, I, zRg g) (fun v h1 => zRn (zcl d) 113 B Q 127 [some (zr 0), some (zi x1), some (zi x2), some (zi x3), some (zr a4)] (zva v []) h1))) ∧ (¬ (x3 = 0) → ((x3 = 1 → (zcl d 114 0 0 [zr 0, zr a4, zi x2, zi 5, zi 6, zi 0] (c, I, zRg g) (fun v h1 => zRn (zcl d) 113 B Q 139 [some (zr 0), some (zi x1), some (zi x2), some (zi x3), some (zr a4)] (zva v []) h1))) ∧ (¬ (x3 = 1) → ((x3 = 2 → (zcl d 114 0 0 [zr 0, zr a4, zi x2, zi 1, zi 10, zi 0] (c, I, zRg g) (fun v h1 => zRn (zcl d) 113 B Q 151 [some (zr 0), some (zi x1), some (zi x2), some (zi x3), some (zr a4)] (zva v []) h1))) ∧ (¬ (x3 = 2) → ((x3 = 3 → (zcl d 114 0 0 [zr 0, zr a4, zi x2, zi 3, zi 100, zi 1] (c, I, zRg g) (fun v h1 => zRn (zcl d) 113 B Q 163 [some (zr 0), some (zi x1), some (zi x2), some (zi x3), some (zr a4)] (zva v []) h1))) ∧ (¬ (x3 = 3) → ((x3 = 4 → (zcl d 114 0 0 [zr 0, zr a4, zi x2, zi 3, zi 100, zi 2] (c, I, zRg g) (fun v h1 => zRn (zcl d) 113 B Q 175 [some (zr 0), some (zi x1), some (zi x2), some (zi x3), some (zr a4)] (zva v []) h1))) ∧ (¬ (x3 = 4) → ((x3 = 5 → (zcl d 114 0 0 [zr 0, zr a4, zi x2, zi 2, zi 1024, zi 1] (c, I, zRg g) (fun v h1 => zRn (zcl d) 113 B Q 188 [some (zr 0), some (zi x1), some (zi x2), some (zi x3), some (zr a4)] (zva v []) h1))) ∧ (¬ (x3 = 5) → ((x3 = 6 → (zcl d 114 0 0 [zr 0, zr a4, zi x2, zi 2, zi 1024, zi 2] (c, I, zRg g) (fun v h1 => zRn (zcl d) 113 B Q 201 [some (zr 0), some (zi x1), some (zi x2), some (zi x3), some (zr a4)] (zva v []) h1))) ∧ (¬ (x3 = 6) → ((x3 = 7 → (zcl d 114 0 0 [zr 0, zr a4, zi x2, zi 9, zi (I 0 7), zi 0] (c, I, zRg g) (fun v h1 => zRn (zcl d) 113 B Q 216 [some (zr 0), some (zi x1), some (zi x2), some (zi x3), some (zr a4)] (zva v []) h1))) ∧ (¬ (x3 = 7) → (zcl d 114 0 0 [zr 0, zr a4, zi x2, zi 10, zi (I 18 2), zi 0] (c, I, zRg g) (fun v h1 => zRn (zcl d) 113 B Q 234 [some (zr 0), some (zi x1), some (zi x2), some (zi x3), some (zr a4)] (zva v []) h1)))))))))))))))))) :
    zRn (zcl d) 113 B Q 74 [some (zr 0), some (zi x1), some (zi x2), some (zi x3), some (zr a4)] [] (c, I, zRg g) :=
  zgo [4, 15, 44, 74, 127, 139, 151, 163, 175, 188, 201, 216, 234] 10 (And.intro (fun u297 => Exists.intro 116 (And.intro rfl (And.intro (Nat.le_of_ble_eq_true rfl) (Exists.intro 0 (Exists.intro 0 (And.intro (Or.inl rfl) (And.intro (Or.inl rfl) (t.1 u297)))))))) (fun u297 => And.intro (fun u298 => Exists.intro 114 (And.intro rfl (And.intro (Nat.le_of_ble_eq_true rfl) (Exists.intro 0 (Exists.intro 0 (And.intro (Or.inl rfl) (And.intro (Or.inl rfl) ((t.2 u297).1 u298)))))))) (fun u298 => And.intro (fun u299 => Exists.intro 114 (And.intro rfl (And.intro (Nat.le_of_ble_eq_true rfl) (Exists.intro 0 (Exists.intro 0 (And.intro (Or.inl rfl) (And.intro (Or.inl rfl) (((t.2 u297).2 u298).1 u299)))))))) (fun u299 => And.intro (fun u300 => Exists.intro 114 (And.intro rfl (And.intro (Nat.le_of_ble_eq_true rfl) (Exists.intro 0 (Exists.intro 0 (And.intro (Or.inl rfl) (And.intro (Or.inl rfl) ((((t.2 u297).2 u298).2 u299).1 u300)))))))) (fun u300 => And.intro (fun u301 => Exists.intro 114 (And.intro rfl (And.intro (Nat.le_of_ble_eq_true rfl) (Exists.intro 0 (Exists.intro 0 (And.intro (Or.inl rfl) (And.intro (Or.inl rfl) (((((t.2 u297).2 u298).2 u299).2 u300).1 u301)))))))) (fun u301 => And.intro (fun u302 => Exists.intro 114 (And.intro rfl (And.intro (Nat.le_of_ble_eq_true rfl) (Exists.intro 0 (Exists.intro 0 (And.intro (Or.inl rfl) (And.intro (Or.inl rfl) ((((((t.2 u297).2 u298).2 u299).2 u300).2 u301).1 u302)))))))) (fun u302 => And.intro (fun u303 => Exists.intro 114 (And.intro rfl (And.intro (Nat.le_of_ble_eq_true rfl) (Exists.intro 0 (Exists.intro 0 (And.intro (Or.inl rfl) (And.intro (Or.inl rfl) (((((((t.2 u297).2 u298).2 u299).2 u300).2 u301).2 u302).1 u303)))))))) (fun u303 => And.intro (fun u304 => And.intro rfl (Exists.intro 114 (And.intro rfl (And.intro (Nat.le_of_ble_eq_true rfl) (Exists.intro 0 (Exists.intro 0 (And.intro (Or.inl rfl) (And.intro (Or.inl rfl) ((((((((t.2 u297).2 u298).2 u299).2 u300).2 u301).2 u302).2 u303).1 u304))))))))) (fun u304 => And.intro rfl (Exists.intro (some 18) (And.intro rfl (And.intro rfl (Exists.intro 114 (And.intro rfl (And.intro (Nat.le_of_ble_eq_true rfl) (Exists.intro 0 (Exists.intro 0 (And.intro (Or.inl rfl) (And.intro (Or.inl rfl) ((((((((t.2 u297).2 u298).2 u299).2 u300).2 u301).2 u302).2 u303).2 u304))))))))))))))))))))
theorem g_x11_tells_127 {d : Nat} {B : Nat × Nat} {Q : zQ} {c : Nat × Nat × Nat} {I : Nat → Nat → Int} {g : Nat} {x1 x2 x3 s0 : Int} {a4 : Nat}
    (t : Q (some (zi s0)) (c, I, zRg g)) :
    zRn (zcl d) 113 B Q 127 [some (zr 0), some (zi x1), some (zi x2), some (zi x3), some (zr a4)] [zi s0] (c, I, zRg g) :=
  zgo [4, 15, 44, 74, 127, 139, 151, 163, 175, 188, 201, 216, 234] 0 (t)
theorem g_x11_tells_139 {d : Nat} {B : Nat × Nat} {Q : zQ} {c : Nat × Nat × Nat} {I : Nat → Nat → Int} {g : Nat} {x1 x2 x3 s0 : Int} {a4 : Nat}
    (t : Q (some (zi s0)) (c, I, zRg g)) :
    zRn (zcl d) 113 B Q 139 [some (zr 0), some (zi x1), some (zi x2), some (zi x3), some (zr a4)] [zi s0] (c, I, zRg g) :=
  zgo [4, 15, 44, 74, 127, 139, 151, 163, 175, 188, 201, 216, 234] 0 (t)
theorem g_x11_tells_151 {d : Nat} {B : Nat × Nat} {Q : zQ} {c : Nat × Nat × Nat} {I : Nat → Nat → Int} {g : Nat} {x1 x2 x3 s0 : Int} {a4 : Nat}
    (t : Q (some (zi s0)) (c, I, zRg g)) :
    zRn (zcl d) 113 B Q 151 [some (zr 0), some (zi x1), some (zi x2), some (zi x3), some (zr a4)] [zi s0] (c, I, zRg g) :=
  zgo [4, 15, 44, 74, 127, 139, 151, 163, 175, 188, 201, 216, 234] 0 (t)
theorem g_x11_tells_163 {d : Nat} {B : Nat × Nat} {Q : zQ} {c : Nat × Nat × Nat} {I : Nat → Nat → Int} {g : Nat} {x1 x2 x3 s0 : Int} {a4 : Nat}
    (t : Q (some (zi s0)) (c, I, zRg g)) :
    zRn (zcl d) 113 B Q 163 [some (zr 0), some (zi x1), some (zi x2), some (zi x3), some (zr a4)] [zi s0] (c, I, zRg g) :=
  zgo [4, 15, 44, 74, 127, 139, 151, 163, 175, 188, 201, 216, 234] 0 (t)
theorem g_x11_tells_175 {d : Nat} {B : Nat × Nat} {Q : zQ} {c : Nat × Nat × Nat} {I : Nat → Nat → Int} {g : Nat} {x1 x2 x3 s0 : Int} {a4 : Nat}
    (t : Q (some (zi s0)) (c, I, zRg g)) :
    zRn (zcl d) 113 B Q 175 [some (zr 0), some (zi x1), some (zi x2), some (zi x3), some (zr a4)] [zi s0] (c, I, zRg g) :=
  zgo [4, 15, 44, 74, 127, 139, 151, 163, 175, 188, 201, 216, 234] 0 (t)
theorem g_x11_tells_188 {d : Nat} {B : Nat × Nat} {Q : zQ} {c : Nat × Nat × Nat} {I : Nat → Nat → Int} {g : Nat} {x1 x2 x3 s0 : Int} {a4 : Nat}
    (t : Q (some (zi s0)) (c, I, zRg g)) :
    zRn (zcl d) 113 B Q 188 [some (zr 0), some (zi x1), some (zi x2), some (zi x3), some (zr a4)] [zi s0] (c, I, zRg g) :=
  zgo [4, 15, 44, 74, 127, 139, 151, 163, 175, 188, 201, 216, 234] 0 (t)
theorem g_x11_tells_201 {d : Nat} {B : Nat × Nat} {Q : zQ} {c : Nat × Nat × Nat} {I : Nat → Nat → Int} {g : Nat} {x1 x2 x3 s0 : Int} {a4 : Nat}
    (t : Q (some (zi s0)) (c, I, zRg g)) :
    zRn (zcl d) 113 B Q 201 [some (zr 0), some (zi x1), some (zi x2), some (zi x3), some (zr a4)] [zi s0] (c, I, zRg g) :=
  zgo [4, 15, 44, 74, 127, 139, 151, 163, 175, 188, 201, 216, 234] 0 (t)
theorem g_x11_tells_216 {d : Nat} {B : Nat × Nat} {Q : zQ} {c : Nat × Nat × Nat} {I : Nat → Nat → Int} {g : Nat} {x1 x2 x3 s0 : Int} {a4 : Nat}
    (t : Q (some (zi s0)) (c, I, zRg g)) :
    zRn (zcl d) 113 B Q 216 [some (zr 0), some (zi x1), some (zi x2), some (zi x3), some (zr a4)] [zi s0] (c, I, zRg g) :=
  zgo [4, 15, 44, 74, 127, 139, 151, 163, 175, 188, 201, 216, 234] 0 (t)
theorem g_x11_tells_234 {d : Nat} {B : Nat × Nat} {Q : zQ} {c : Nat × Nat × Nat} {I : Nat → Nat → Int} {g : Nat} {x1 x2 x3 s0 : Int} {a4 : Nat}
    (t : Q (some (zi s0)) (c, I, zRg g)) :
    zRn (zcl d) 113 B Q 234 [some (zr 0), some (zi x1), some (zi x2), some (zi x3), some (zr a4)] [zi s0] (c, I, zRg g) :=
  zgo [4, 15, 44, 74, 127, 139, 151, 163, 175, 188, 201, 216, 234] 0 (t)
theorem g_x11_suiting_0 {d : Nat} {B : Nat × Nat} {Q : zQ} {c : Nat × Nat × Nat} {I : Nat → Nat → Int} {g : Nat} {x2 x3 x4 x5 : Int} {a1 : Nat}
    (t : zRn (zcl d) 114 B Q 12 [some (zr 0), some (zr a1), some (zi x2), some (zi x3), some (zi x4), some (zi x5), some (zi 0), some (zi 0), some (zi (-1)), some (zi 0), none] [] (c, I, zRg g)) :
    zRn (zcl d) 114 B Q 0 [some (zr 0), some (zr a1), some (zi x2), some (zi x3), some (zi x4), some (zi x5), none, none, none, none, none] [] (c, I, zRg g) :=
  zgo [12, 42, 49] 8 (t)
theorem g_x11_suiting_12 {d : Nat} {B : Nat × Nat} {Q : zQ} {c : Nat × Nat × Nat} {I : Nat → Nat → Int} {g : Nat} {x2 x3 x4 x5 x6 x7 x8 x9 : Int} {a1 : Nat}
    (t : (x4 ≤ x9 → ((x5 = 0 → (Q (some (zi x6)) (c, I, zRg g))) ∧ (¬ (x5 = 0) → ((x5 = 1 → (Q (some (zi x7)) (c, I, zRg g))) ∧ (¬ (x5 = 1) → (Q (some (zi x8)) (c, I, zRg g))))))) ∧ (¬ (x4 ≤ x9) → ((x3 ≠ 10 → (zcl d 115 0 0 [zr 0, zi x2, zi x3, zi x9] (c, I, zRg g) (fun v h1 => zRn (zcl d) 114 B Q 42 [some (zr 0), some (zr a1), some (zi x2), some (zi x3), some (zi x4), some (zi x5), some (zi x6), some (zi x7), some (zi x8), some (zi x9), some (zi x2)] (zva v []) h1))) ∧ (¬ (x3 ≠ 10) → (zcl d 115 0 0 [zr 0, zi x9, zi x3, zi x9] (c, I, zRg g) (fun v h1 => zRn (zcl d) 114 B Q 42 [some (zr 0), some (zr a1), some (zi x2), some (zi x3), some (zi x4), some (zi x5), some (zi x6), some (zi x7), some (zi x8), some (zi x9), some (zi x9)] (zva v []) h1)))))) :
    zRn (zcl d) 114 B Q 12 [some (zr 0), some (zr a1), some (zi x2), some (zi x3), some (zi x4), some (zi x5), some (zi x6), some (zi x7), some (zi x8), some (zi x9), none] [] (c, I, zRg g) :=
  zgo [12, 42, 49] 13 (And.intro (fun u305 => And.intro (fun u306 => ((t.1 u305).1 u306)) (fun u306 => And.intro (fun u307 => (((t.1 u305).2 u306).1 u307)) (fun u307 => (((t.1 u305).2 u306).2 u307)))) (fun u305 => And.intro (fun u308 => Exists.intro 115 (And.intro rfl (And.intro (Nat.le_of_ble_eq_true rfl) (Exists.intro 0 (Exists.intro 0 (And.intro (Or.inl rfl) (And.intro (Or.inl rfl) ((t.2 u305).1 u308)))))))) (fun u308 => Exists.intro 115 (And.intro rfl (And.intro (Nat.le_of_ble_eq_true rfl) (Exists.intro 0 (Exists.intro 0 (And.intro (Or.inl rfl) (And.intro (Or.inl rfl) ((t.2 u305).2 u308))))))))))
theorem g_x11_suiting_42 {d : Nat} {B : Nat × Nat} {Q : zQ} {c : Nat × Nat × Nat} {I : Nat → Nat → Int} {g : Nat} {x2 x3 x4 x5 x6 x7 x8 x9 x10 : Int} {a1 : Nat}
    (t : zcl d 116 0 0 [zr 0, zr a1, zi x10] (c, I, zRg g) (fun v h1 => zRn (zcl d) 114 B Q 49 [some (zr 0), some (zr a1), some (zi x2), some (zi x3), some (zi x4), some (zi x5), some (zi x6), some (zi x7), some (zi x8), some (zi x9), some (zi x10)] (zva v []) h1)) :
    zRn (zcl d) 114 B Q 42 [some (zr 0), some (zr a1), some (zi x2), some (zi x3), some (zi x4), some (zi x5), some (zi x6), some (zi x7), some (zi x8), some (zi x9), some (zi x10)] [] (c, I, zRg g) :=
  zgo [12, 42, 49] 3 (Exists.intro 116 (And.intro rfl (And.intro (Nat.le_of_ble_eq_true rfl) (Exists.intro 0 (Exists.intro 0 (And.intro (Or.inl rfl) (And.intro (Or.inl rfl) t)))))))
theorem g_x11_suiting_49 {d : Nat} {B : Nat × Nat} {Q : zQ} {c : Nat × Nat × Nat} {I : Nat → Nat → Int} {g : Nat} {x2 x3 x4 x5 x6 x7 x8 x9 x10 s0 : Int} {a1 : Nat}
    (t : (s0 = (-1) → ((x7 ≠ 0 → ((31 ≤ x9 → (zRn (zcl d) 114 B Q 12 [some (zr 0), some (zr a1), some (zi x2), some (zi x3), some (zi x4), some (zi x5), some (zi x6), some (zi (zwr (x7 + 1))), some (zi x8), some (zi (zwr (x9 + 1))), some (zi x10)] [] (c, I, zRg g))) ∧ (¬ (31 ≤ x9) → (zRn (zcl d) 114 B Q 12 [some (zr 0), some (zr a1), some (zi x2), some (zi x3), some (zi x4), some (zi x5), some (zi (zor x6 (zshl 1 x9))), some (zi (zwr (x7 + 1))), some (zi x8), some (zi (zwr (x9 + 1))), some (zi x10)] [] (c, I, zRg g))))) ∧ (¬ (x7 ≠ 0) → ((31 ≤ x9 → (zRn (zcl d) 114 B Q 12 [some (zr 0), some (zr a1), some (zi x2), some (zi x3), some (zi x4), some (zi x5), some (zi x6), some (zi (zwr (x7 + 1))), some (zi x9), some (zi (zwr (x9 + 1))), some (zi x10)] [] (c, I, zRg g))) ∧ (¬ (31 ≤ x9) → (zRn (zcl d) 114 B Q 12 [some (zr 0), some (zr a1), some (zi x2), some (zi x3), some (zi x4), some (zi x5), some (zi (zor x6 (zshl 1 x9))), some (zi (zwr (x7 + 1))), some (zi x9), some (zi (zwr (x9 + 1))), some (zi x10)] [] (c, I, zRg g))))))) ∧ (¬ (s0 = (-1)) → (zRn (zcl d) 114 B Q 12 [some (zr 0), some (zr a1), some (zi x2), some (zi x3), some (zi x4), some (zi x5), some (zi x6), some (zi x7), some (zi x8), some (zi (zwr (x9 + 1))), some (zi x10)] [] (c, I, zRg g)))) :
    zRn (zcl d) 114 B Q 49 [some (zr 0), some (zr a1), some (zi x2), some (zi x3), some (zi x4), some (zi x5), some (zi x6), some (zi x7), some (zi x8), some (zi x9), some (zi x10)] [zi s0] (c, I, zRg g) :=
  zgo [12, 42, 49] 18 (And.intro (fun u309 => And.intro (fun u310 => And.intro (fun u311 => (((t.1 u309).1 u310).1 u311)) (fun u311 => (((t.1 u309).1 u310).2 u311))) (fun u310 => And.intro (fun u312 => (((t.1 u309).2 u310).1 u312)) (fun u312 => (((t.1 u309).2 u310).2 u312)))) (fun u309 => (t.2 u309)))
theorem g_x11_vary_0 {d : Nat} {B : Nat × Nat} {Q : zQ} {c : Nat × Nat × Nat} {I : Nat → Nat → Int} {g : Nat} {x1 x2 x3 : Int}
    (t : (x2 ≠ 9 → ((x2 = 10 → (zRn (zcl d) 115 B Q 48 [some (zr 0), some (zi x1), some (zi x2), some (zi x3)] [] (c, I, zRg g))) ∧ (¬ (x2 = 10) → (zcl d 1 0 0 [zr 18, zi x1] (c, I, zRg g) (fun v h1 => zRn (zcl d) 115 B Q 31 [some (zr 0), some (zi x1), some (zi x2), some (zi x3)] (zva v []) h1))))) ∧ (¬ (x2 ≠ 9) → (zRn (zcl d) 115 B Q 48 [some (zr 0), some (zi x1), some (zi x2), some (zi x3)] [] (c, (z2 I 18 6 x3), zRg g)))) :
    zRn (zcl d) 115 B Q 0 [some (zr 0), some (zi x1), some (zi x2), some (zi x3)] [] (c, I, zRg g) :=
  zgo [31, 48] 9 (And.intro (fun u313 => And.intro (fun u314 => ((t.1 u313).1 u314)) (fun u314 => And.intro rfl (Exists.intro (some 18) (And.intro rfl (Exists.intro 1 (And.intro rfl (And.intro (Nat.le_of_ble_eq_true rfl) (Exists.intro 0 (Exists.intro 0 (And.intro (Or.inl rfl) (And.intro (Or.inl rfl) ((t.1 u313).2 u314)))))))))))) (fun u313 => And.intro rfl (Exists.intro (some 18) (And.intro rfl (And.intro rfl (t.2 u313))))))
theorem g_x11_vary_31 {d : Nat} {B : Nat × Nat} {Q : zQ} {c : Nat × Nat × Nat} {I : Nat → Nat → Int} {g : Nat} {x1 x2 x3 s0 : Int} {y1 : Nat}
    (t : (s0 = 0 → (zRn (zcl d) 115 B Q 48 [some (zr 0), some (zi x1), some (zi x2), some (zi x3)] [] (c, I, zRg g))) ∧ (¬ (s0 = 0) → ((0 ≤ x1 ∧ x1 < 5) ∧ ((zRg g 19 x1.toNat = some y1) ∧ ((zsel ((zSh y1).1 : Nat) [(5, 28)] = some 28) ∧ (zcl d 28 0 0 [zr y1, zi x2, zi x3] (c, I, zRg g) (fun v h1 => zRn (zcl d) 115 B Q 48 [some (zr 0), some (zi x1), some (zi x2), some (zi x3)] (zva v []) h1))))))) :
    zRn (zcl d) 115 B Q 31 [some (zr 0), some (zi x1), some (zi x2), some (zi x3)] [zi s0] (c, I, zRg g) :=
  zgo [31, 48] 8 (And.intro (fun u315 => (t.1 u315)) (fun u315 => And.intro rfl (Exists.intro (some 18) (And.intro rfl (And.intro rfl (Exists.intro (some 19) (And.intro rfl (And.intro (by decide) (And.intro (t.2 u315).1 (Exists.intro (some y1) (And.intro (t.2 u315).2.1 (Exists.intro 28 (And.intro (t.2 u315).2.2.1 (And.intro (Nat.le_of_ble_eq_true rfl) (Exists.intro 0 (Exists.intro 0 (And.intro (Or.inl rfl) (And.intro (Or.inl rfl) ((t.2 u315).2.2.2)))))))))))))))))))
theorem g_x11_vary_48 {d : Nat} {B : Nat × Nat} {Q : zQ} {c : Nat × Nat × Nat} {I : Nat → Nat → Int} {g : Nat} {x1 x2 x3 : Int}
    (t : Q none (c, I, zRg g)) :
    zRn (zcl d) 115 B Q 48 [some (zr 0), some (zi x1), some (zi x2), some (zi x3)] [] (c, I, zRg g) :=
  zgo [31, 48] 0 (t)
theorem g_x11_firstOtherwise_0 {d : Nat} {B : Nat × Nat} {Q : zQ} {c : Nat × Nat × Nat} {I : Nat → Nat → Int} {g : Nat} {x2 : Int} {a1 : Nat}
    (t : zcl d 1 0 0 [zr 18, zi x2] (c, I, zRg g) (fun v h1 => zRn (zcl d) 116 B Q 8 [some (zr 0), some (zr a1), some (zi x2), none] (zva v []) h1)) :
    zRn (zcl d) 116 B Q 0 [some (zr 0), some (zr a1), some (zi x2), none] [] (c, I, zRg g) :=
  zgo [8, 15, 43] 3 (And.intro rfl (Exists.intro (some 18) (And.intro rfl (Exists.intro 1 (And.intro rfl (And.intro (Nat.le_of_ble_eq_true rfl) (Exists.intro 0 (Exists.intro 0 (And.intro (Or.inl rfl) (And.intro (Or.inl rfl) t))))))))))
theorem g_x11_firstOtherwise_8 {d : Nat} {B : Nat × Nat} {Q : zQ} {c : Nat × Nat × Nat} {I : Nat → Nat → Int} {g : Nat} {x2 s0 : Int} {a1 : Nat}
    (t : (s0 ≠ 0 → (zRn (zcl d) 116 B Q 15 [some (zr 0), some (zr a1), some (zi x2), some (zi 0)] [] (c, I, zRg g))) ∧ (¬ (s0 ≠ 0) → (Q (some (zi 0)) (c, I, zRg g)))) :
    zRn (zcl d) 116 B Q 8 [some (zr 0), some (zr a1), some (zi x2), none] [zi s0] (c, I, zRg g) :=
  zgo [8, 15, 43] 3 (And.intro (fun u316 => (t.1 u316)) (fun u316 => (t.2 u316)))
theorem g_x11_firstOtherwise_15 {d : Nat} {B : Nat × Nat} {Q : zQ} {c : Nat × Nat × Nat} {I : Nat → Nat → Int} {g : Nat} {x2 x3 : Int} {a1 y1 : Nat}
    (t : ((zSh a1).1 = 8) ∧ ((I a1 2 ≤ x3 → (Q (some (zi (-1))) (c, I, zRg g))) ∧ (¬ (I a1 2 ≤ x3) → ((0 ≤ x2 ∧ x2 < 5) ∧ ((zRg g 19 x2.toNat = some y1) ∧ (zcl d 94 0 0 [zr 0, zr 18, zr y1, zi (zshl 1 x3)] (c, I, zRg g) (fun v h1 => zRn (zcl d) 116 B Q 43 [some (zr 0), some (zr a1), some (zi x2), some (zi x3)] (zva v []) h1))))))) :
    zRn (zcl d) 116 B Q 15 [some (zr 0), some (zr a1), some (zi x2), some (zi x3)] [] (c, I, zRg g) :=
  zgo [8, 15, 43] 15 (And.intro t.1 (And.intro (fun u317 => (t.2.1 u317)) (fun u317 => And.intro rfl (Exists.intro (some 18) (And.intro rfl (And.intro rfl (Exists.intro (some 18) (And.intro rfl (And.intro rfl (Exists.intro (some 19) (And.intro rfl (And.intro (by decide) (And.intro (t.2.2 u317).1 (Exists.intro (some y1) (And.intro (t.2.2 u317).2.1 (Exists.intro 94 (And.intro rfl (And.intro (Nat.le_of_ble_eq_true rfl) (Exists.intro 0 (Exists.intro 0 (And.intro (Or.inl rfl) (And.intro (Or.inl rfl) ((t.2.2 u317).2.2)))))))))))))))))))))))
theorem g_x11_firstOtherwise_43 {d : Nat} {B : Nat × Nat} {Q : zQ} {c : Nat × Nat × Nat} {I : Nat → Nat → Int} {g : Nat} {x2 x3 s0 : Int} {a1 y1 : Nat}
    (t : ((zSh a1).1 = 8) ∧ ((zRg g a1 0 = some y1) ∧ (((zSh y1).1 = 100) ∧ ((0 ≤ x3 ∧ x3 < ((zSh y1).2 : Nat)) ∧ ((s0 = I y1 x3.toNat → (zRn (zcl d) 116 B Q 15 [some (zr 0), some (zr a1), some (zi x2), some (zi (zwr (x3 + 1)))] [] (c, I, zRg g))) ∧ (¬ (s0 = I y1 x3.toNat) → (Q (some (zi x3)) (c, I, zRg g)))))))) :
    zRn (zcl d) 116 B Q 43 [some (zr 0), some (zr a1), some (zi x2), some (zi x3)] [zi s0] (c, I, zRg g) :=
  zgo [8, 15, 43] 7 (And.intro t.1 (Exists.intro (some y1) (And.intro t.2.1 (And.intro t.2.2.1 (And.intro t.2.2.2.1 (And.intro (fun u318 => (t.2.2.2.2.1 u318)) (fun u318 => (t.2.2.2.2.2 u318))))))))
theorem g_x11_film_0 {d : Nat} {B : Nat × Nat} {Q : zQ} {c : Nat × Nat × Nat} {I : Nat → Nat → Int} {g : Nat} {x1 x2 : Int}
    (t : zcl d 129 0 0 [zi x1] (c, I, zRg g) (fun v h1 => zRn (zcl d) 117 B Q 4 [some (zr 0), some (zi x1), some (zi x2), none, none, none, none] (zva v []) h1)) :
    zRn (zcl d) 117 B Q 0 [some (zr 0), some (zi x1), some (zi x2), none, none, none, none] [] (c, I, zRg g) :=
  zgo [4, 15, 38, 41, 69, 79] 1 (And.intro (Nat.le_of_ble_eq_true rfl) (Exists.intro 0 (Exists.intro 0 (And.intro (Or.inl rfl) (And.intro (Or.inl rfl) t)))))
theorem g_x11_film_4 {d : Nat} {B : Nat × Nat} {Q : zQ} {c : Nat × Nat × Nat} {I : Nat → Nat → Int} {g : Nat} {x1 x2 s0 : Int}
    (t : (s0 = 0 → (Q (some (zi (-2))) (c, I, zRg g))) ∧ (¬ (s0 = 0) → (zcl d 1 0 0 [zr 2, zi x2] (c, I, zRg g) (fun v h1 => zRn (zcl d) 117 B Q 15 [some (zr 0), some (zi x1), some (zi x2), none, none, none, none] (zva v []) h1)))) :
    zRn (zcl d) 117 B Q 4 [some (zr 0), some (zi x1), some (zi x2), none, none, none, none] [zi s0] (c, I, zRg g) :=
  zgo [4, 15, 38, 41, 69, 79] 4 (And.intro (fun u319 => (t.1 u319)) (fun u319 => And.intro rfl (Exists.intro (some 2) (And.intro rfl (Exists.intro 1 (And.intro rfl (And.intro (Nat.le_of_ble_eq_true rfl) (Exists.intro 0 (Exists.intro 0 (And.intro (Or.inl rfl) (And.intro (Or.inl rfl) (t.2 u319))))))))))))
theorem g_x11_film_15 {d : Nat} {B : Nat × Nat} {Q : zQ} {c : Nat × Nat × Nat} {I : Nat → Nat → Int} {g : Nat} {x1 x2 s0 : Int} {y1 : Nat}
    (t : (s0 ≠ 0 → ((0 ≤ x1 ∧ x1 < 4) ∧ ((zRg g 28 x1.toNat = some y1) ∧ ((zsel ((zSh y1).1 : Nat) [(8, 62)] = some 62) ∧ (zcl d 62 0 0 [zr y1, zi 1, zi 10] (c, I, zRg g) (fun v h1 => zRn (zcl d) 117 B Q 38 [some (zr 0), some (zi x1), some (zi x2), some (zr y1), some (zi 0), none, none] (zva v []) h1)))))) ∧ (¬ (s0 ≠ 0) → (Q (some (zi (-2))) (c, I, zRg g)))) :
    zRn (zcl d) 117 B Q 15 [some (zr 0), some (zi x1), some (zi x2), none, none, none, none] [zi s0] (c, I, zRg g) :=
  zgo [4, 15, 38, 41, 69, 79] 11 (And.intro (fun u320 => And.intro rfl (Exists.intro (some 28) (And.intro rfl (And.intro (by decide) (And.intro (t.1 u320).1 (Exists.intro (some y1) (And.intro (t.1 u320).2.1 (Exists.intro 62 (And.intro (t.1 u320).2.2.1 (And.intro (Nat.le_of_ble_eq_true rfl) (Exists.intro 0 (Exists.intro 0 (And.intro (Or.inl rfl) (And.intro (Or.inl rfl) ((t.1 u320).2.2.2))))))))))))))) (fun u320 => (t.2 u320)))
theorem g_x11_film_38 {d : Nat} {B : Nat × Nat} {Q : zQ} {c : Nat × Nat × Nat} {I : Nat → Nat → Int} {g : Nat} {x1 x2 x4 : Int} {a3 : Nat}
    (t : zRn (zcl d) 117 B Q 41 [some (zr 0), some (zi x1), some (zi x2), some (zr a3), some (zi x4), some (zi 0), none] [] (c, I, zRg g)) :
    zRn (zcl d) 117 B Q 38 [some (zr 0), some (zi x1), some (zi x2), some (zr a3), some (zi x4), none, none] [] (c, I, zRg g) :=
  zgo [4, 15, 38, 41, 69, 79] 2 (t)
theorem g_x11_film_41 {d : Nat} {B : Nat × Nat} {Q : zQ} {c : Nat × Nat × Nat} {I : Nat → Nat → Int} {g : Nat} {x1 x2 x4 x5 : Int} {a3 y1 : Nat}
    (t : (10 ≤ x5 → (Q (some (zi x4)) (c, I, zRg g))) ∧ (¬ (10 ≤ x5) → ((0 ≤ x2 ∧ x2 < 5) ∧ ((zRg g 3 x2.toNat = some y1) ∧ (zcl d 94 0 0 [zr 0, zr 2, zr y1, zi (zshl 1 x5)] (c, I, zRg g) (fun v h1 => zRn (zcl d) 117 B Q 69 [some (zr 0), some (zi x1), some (zi x2), some (zr a3), some (zi x4), some (zi x5), none] (zva v []) h1)))))) :
    zRn (zcl d) 117 B Q 41 [some (zr 0), some (zi x1), some (zi x2), some (zr a3), some (zi x4), some (zi x5), none] [] (c, I, zRg g) :=
  zgo [4, 15, 38, 41, 69, 79] 14 (And.intro (fun u321 => (t.1 u321)) (fun u321 => And.intro rfl (Exists.intro (some 2) (And.intro rfl (And.intro rfl (Exists.intro (some 2) (And.intro rfl (And.intro rfl (Exists.intro (some 3) (And.intro rfl (And.intro (by decide) (And.intro (t.2 u321).1 (Exists.intro (some y1) (And.intro (t.2 u321).2.1 (Exists.intro 94 (And.intro rfl (And.intro (Nat.le_of_ble_eq_true rfl) (Exists.intro 0 (Exists.intro 0 (And.intro (Or.inl rfl) (And.intro (Or.inl rfl) ((t.2 u321).2.2))))))))))))))))))))))
theorem g_x11_film_69 {d : Nat} {B : Nat × Nat} {Q : zQ} {c : Nat × Nat × Nat} {I : Nat → Nat → Int} {g : Nat} {x1 x2 x4 x5 s0 : Int} {a3 : Nat}
    (t : (zsel ((zSh a3).1 : Nat) [(8, 63)] = some 63) ∧ (zcl d 63 0 0 [zr a3, zi x5, zi s0] (c, I, zRg g) (fun v h1 => zRn (zcl d) 117 B Q 79 [some (zr 0), some (zi x1), some (zi x2), some (zr a3), some (zi x4), some (zi x5), some (zi s0)] (zva v []) h1))) :
    zRn (zcl d) 117 B Q 69 [some (zr 0), some (zi x1), some (zi x2), some (zr a3), some (zi x4), some (zi x5), none] [zi s0] (c, I, zRg g) :=
  zgo [4, 15, 38, 41, 69, 79] 4 (Exists.intro 63 (And.intro t.1 (And.intro (Nat.le_of_ble_eq_true rfl) (Exists.intro 0 (Exists.intro 0 (And.intro (Or.inl rfl) (And.intro (Or.inl rfl) t.2)))))))
theorem g_x11_film_79 {d : Nat} {B : Nat × Nat} {Q : zQ} {c : Nat × Nat × Nat} {I : Nat → Nat → Int} {g : Nat} {x1 x2 x4 x5 x6 : Int} {a3 : Nat}
    (t : (x6 ≠ zshl 1 x5 → (zRn (zcl d) 117 B Q 41 [some (zr 0), some (zi x1), some (zi x2), some (zr a3), some (zi x4), some (zi (zwr (x5 + 1))), some (zi x6)] [] (c, I, zRg g))) ∧ (¬ (x6 ≠ zshl 1 x5) → (zRn (zcl d) 117 B Q 41 [some (zr 0), some (zi x1), some (zi x2), some (zr a3), some (zi (zwr (x4 + 1))), some (zi (zwr (x5 + 1))), some (zi x6)] [] (c, I, zRg g)))) :
    zRn (zcl d) 117 B Q 79 [some (zr 0), some (zi x1), some (zi x2), some (zr a3), some (zi x4), some (zi x5), some (zi x6)] [] (c, I, zRg g) :=
  zgo [4, 15, 38, 41, 69, 79] 8 (And.intro (fun u322 => (t.1 u322)) (fun u322 => (t.2 u322)))
theorem g_x11_drawn_0 {d : Nat} {B : Nat × Nat} {Q : zQ} {c : Nat × Nat × Nat} {I : Nat → Nat → Int} {g : Nat} {x1 x2 : Int}
    (t : (x2 < 0 → (Q (some (zi (-2))) (c, I, zRg g))) ∧ (¬ (x2 < 0) → ((x2 ≤ 40 → (zcl d 120 0 0 [zr 0, zi x1, zi x2] (c, I, zRg g) (fun v h1 => zRn (zcl d) 118 B Q 19 [some (zr 0), some (zi x1), some (zi x2)] (zva v []) h1))) ∧ (¬ (x2 ≤ 40) → (Q (some (zi (-2))) (c, I, zRg g)))))) :
    zRn (zcl d) 118 B Q 0 [some (zr 0), some (zi x1), some (zi x2)] [] (c, I, zRg g) :=
  zgo [19] 8 (And.intro (fun u323 => (t.1 u323)) (fun u323 => And.intro (fun u324 => Exists.intro 120 (And.intro rfl (And.intro (Nat.le_of_ble_eq_true rfl) (Exists.intro 0 (Exists.intro 0 (And.intro (Or.inl rfl) (And.intro (Or.inl rfl) ((t.2 u323).1 u324)))))))) (fun u324 => ((t.2 u323).2 u324))))
theorem g_x11_drawn_19 {d : Nat} {B : Nat × Nat} {Q : zQ} {c : Nat × Nat × Nat} {I : Nat → Nat → Int} {g : Nat} {x1 x2 s0 : Int}
    (t : Q (some (zi s0)) (c, I, zRg g)) :
    zRn (zcl d) 118 B Q 19 [some (zr 0), some (zi x1), some (zi x2)] [zi s0] (c, I, zRg g) :=
  zgo [19] 0 (t)
theorem g_x11_chance_0 {d : Nat} {B : Nat × Nat} {Q : zQ} {c : Nat × Nat × Nat} {I : Nat → Nat → Int} {g : Nat} {x1 x2 x3 x4 : Int}
    (t : (x2 < 1 → (Q (some (zl (-4611686018427387904))) (c, I, zRg g))) ∧ (¬ (x2 < 1) → ((40 < x2 → (Q (some (zl (-4611686018427387904))) (c, I, zRg g))) ∧ (¬ (40 < x2) → ((x3 < 0 → (Q (some (zl (-4611686018427387904))) (c, I, zRg g))) ∧ (¬ (x3 < 0) → ((10 < x3 → (Q (some (zl (-4611686018427387904))) (c, I, zRg g))) ∧ (¬ (10 < x3) → ((x4 < 0 → (Q (some (zl (-4611686018427387904))) (c, I, zRg g))) ∧ (¬ (x4 < 0) → ((x4 ≤ 1 → (zRn (zcl d) 119 B Q 42 [some (zr 0), some (zi x1), some (zi x2), some (zi x3), some (zi x4), some (zi 0), some (zi 0)] [] (c, I, zRg g))) ∧ (¬ (x4 ≤ 1) → (Q (some (zl (-4611686018427387904))) (c, I, zRg g)))))))))))))) :
    zRn (zcl d) 119 B Q 0 [some (zr 0), some (zi x1), some (zi x2), some (zi x3), some (zi x4), none, none] [] (c, I, zRg g) :=
  zgo [42, 57, 78] 20 (And.intro (fun u325 => (t.1 u325)) (fun u325 => And.intro (fun u326 => ((t.2 u325).1 u326)) (fun u326 => And.intro (fun u327 => (((t.2 u325).2 u326).1 u327)) (fun u327 => And.intro (fun u328 => ((((t.2 u325).2 u326).2 u327).1 u328)) (fun u328 => And.intro (fun u329 => (((((t.2 u325).2 u326).2 u327).2 u328).1 u329)) (fun u329 => And.intro (fun u330 => ((((((t.2 u325).2 u326).2 u327).2 u328).2 u329).1 u330)) (fun u330 => ((((((t.2 u325).2 u326).2 u327).2 u328).2 u329).2 u330))))))))
theorem g_x11_chance_42 {d : Nat} {B : Nat × Nat} {Q : zQ} {c : Nat × Nat × Nat} {I : Nat → Nat → Int} {g : Nat} {x1 x2 x3 x4 x5 x6 : Int}
    (t : (x2 ≤ x6 → (zcl d 111 0 0 [zi x5, zi x2, zi x4] (c, I, zRg g) (fun v h1 => zRn (zcl d) 119 B Q 78 [some (zr 0), some (zi x1), some (zi x2), some (zi x3), some (zi x4), some (zi x5), some (zi x6)] (zva v []) h1))) ∧ (¬ (x2 ≤ x6) → (zcl d 120 0 0 [zr 0, zi (zwr (x1 + x6)), zi 1] (c, I, zRg g) (fun v h1 => zRn (zcl d) 119 B Q 57 [some (zr 0), some (zi x1), some (zi x2), some (zi x3), some (zi x4), some (zi x5), some (zi x6)] (zva v []) h1)))) :
    zRn (zcl d) 119 B Q 42 [some (zr 0), some (zi x1), some (zi x2), some (zi x3), some (zi x4), some (zi x5), some (zi x6)] [] (c, I, zRg g) :=
  zgo [42, 57, 78] 8 (And.intro (fun u331 => And.intro (Nat.le_of_ble_eq_true rfl) (Exists.intro 0 (Exists.intro 0 (And.intro (Or.inl rfl) (And.intro (Or.inl rfl) (t.1 u331)))))) (fun u331 => Exists.intro 120 (And.intro rfl (And.intro (Nat.le_of_ble_eq_true rfl) (Exists.intro 0 (Exists.intro 0 (And.intro (Or.inl rfl) (And.intro (Or.inl rfl) (t.2 u331)))))))))
theorem g_x11_chance_57 {d : Nat} {B : Nat × Nat} {Q : zQ} {c : Nat × Nat × Nat} {I : Nat → Nat → Int} {g : Nat} {x1 x2 x3 x4 x5 x6 s0 : Int}
    (t : (x3 < s0 → (zRn (zcl d) 119 B Q 42 [some (zr 0), some (zi x1), some (zi x2), some (zi x3), some (zi x4), some (zi x5), some (zi (zwr (x6 + 1)))] [] (c, I, zRg g))) ∧ (¬ (x3 < s0) → (zRn (zcl d) 119 B Q 42 [some (zr 0), some (zi x1), some (zi x2), some (zi x3), some (zi x4), some (zi (zwr (x5 + 1))), some (zi (zwr (x6 + 1)))] [] (c, I, zRg g)))) :
    zRn (zcl d) 119 B Q 57 [some (zr 0), some (zi x1), some (zi x2), some (zi x3), some (zi x4), some (zi x5), some (zi x6)] [zi s0] (c, I, zRg g) :=
  zgo [42, 57, 78] 5 (And.intro (fun u332 => (t.1 u332)) (fun u332 => (t.2 u332)))
theorem g_x11_chance_78 {d : Nat} {B : Nat × Nat} {Q : zQ} {c : Nat × Nat × Nat} {I : Nat → Nat → Int} {g : Nat} {x1 x2 x3 x4 x5 x6 s0 : Int}
    (t : Q (some (zl s0)) (c, I, zRg g)) :
    zRn (zcl d) 119 B Q 78 [some (zr 0), some (zi x1), some (zi x2), some (zi x3), some (zi x4), some (zi x5), some (zi x6)] [zl s0] (c, I, zRg g) :=
  zgo [42, 57, 78] 0 (t)
theorem g_x11_offOfDrawn_0 {d : Nat} {B : Nat × Nat} {Q : zQ} {c : Nat × Nat × Nat} {I : Nat → Nat → Int} {g : Nat} {x1 x2 : Int}
    (t : zRn (zcl d) 120 B Q 8 [some (zr 0), some (zi x1), some (zi x2), some (zi x1), some (zi 0), some (zi 0), none] [] (c, I, zRg g)) :
    zRn (zcl d) 120 B Q 0 [some (zr 0), some (zi x1), some (zi x2), none, none, none, none] [] (c, I, zRg g) :=
  zgo [8, 48, 51] 6 (t)
theorem g_x11_offOfDrawn_8 {d : Nat} {B : Nat × Nat} {Q : zQ} {c : Nat × Nat × Nat} {I : Nat → Nat → Int} {g : Nat} {x1 x2 x3 x4 x5 : Int}
    (t : (x2 ≤ x5 → (Q (some (zi x4)) (c, I, zRg g))) ∧ (¬ (x2 ≤ x5) → (zcl d 97 0 0 [zr 0, zr 2, zi (zwr (Int.tmod (zushr (zwr ((zwr (x3 * 1103515245)) + 12345)) 9) 1024))] (c, I, zRg g) (fun v h1 => zRn (zcl d) 120 B Q 48 [some (zr 0), some (zi x1), some (zi x2), some (zi (zwr ((zwr (x3 * 1103515245)) + 12345))), some (zi x4), some (zi x5), some (zi (zwr (Int.tmod (zushr (zwr ((zwr (x3 * 1103515245)) + 12345)) 9) 1024)))] (zva v [zi (zwr (Int.tmod (zushr (zwr ((zwr (x3 * 1103515245)) + 12345)) 9) 1024)), zi x4]) h1)))) :
    zRn (zcl d) 120 B Q 8 [some (zr 0), some (zi x1), some (zi x2), some (zi x3), some (zi x4), some (zi x5), none] [] (c, I, zRg g) :=
  zgo [8, 48, 51] 21 (And.intro (fun u333 => (t.1 u333)) (fun u333 => And.intro (by decide) (And.intro rfl (Exists.intro (some 2) (And.intro rfl (Exists.intro 97 (And.intro rfl (And.intro (Nat.le_of_ble_eq_true rfl) (Exists.intro 0 (Exists.intro 0 (And.intro (Or.inl rfl) (And.intro (Or.inl rfl) (t.2 u333)))))))))))))
theorem g_x11_offOfDrawn_48 {d : Nat} {B : Nat × Nat} {Q : zQ} {c : Nat × Nat × Nat} {I : Nat → Nat → Int} {g : Nat} {x1 x2 x3 x4 x5 x6 s0 s1 s2 : Int}
    (t : zcl d 101 0 0 [zi s1, zi s0] (c, I, zRg g) (fun v h1 => zRn (zcl d) 120 B Q 51 [some (zr 0), some (zi x1), some (zi x2), some (zi x3), some (zi x4), some (zi x5), some (zi x6)] (zva v [zi s2]) h1)) :
    zRn (zcl d) 120 B Q 48 [some (zr 0), some (zi x1), some (zi x2), some (zi x3), some (zi x4), some (zi x5), some (zi x6)] [zi s0, zi s1, zi s2] (c, I, zRg g) :=
  zgo [8, 48, 51] 0 (And.intro (Nat.le_of_ble_eq_true rfl) (Exists.intro 0 (Exists.intro 0 (And.intro (Or.inl rfl) (And.intro (Or.inl rfl) t)))))
theorem g_x11_offOfDrawn_51 {d : Nat} {B : Nat × Nat} {Q : zQ} {c : Nat × Nat × Nat} {I : Nat → Nat → Int} {g : Nat} {x1 x2 x3 x4 x5 x6 s0 s1 : Int}
    (t : zRn (zcl d) 120 B Q 8 [some (zr 0), some (zi x1), some (zi x2), some (zi x3), some (zi (zwr (s1 + s0))), some (zi (zwr (x5 + 1))), some (zi x6)] [] (c, I, zRg g)) :
    zRn (zcl d) 120 B Q 51 [some (zr 0), some (zi x1), some (zi x2), some (zi x3), some (zi x4), some (zi x5), some (zi x6)] [zi s0, zi s1] (c, I, zRg g) :=
  zgo [8, 48, 51] 4 (t)
theorem g_x11_image_0 {d : Nat} {B : Nat × Nat} {Q : zQ} {c : Nat × Nat × Nat} {I : Nat → Nat → Int} {g : Nat}
    (t : zcl d 3 0 0 [zr 10, zr 2] (c, I, zRg g) (fun v h1 => zRn (zcl d) 121 B Q 11 [some (zr 0)] (zva v []) h1)) :
    zRn (zcl d) 121 B Q 0 [some (zr 0)] [] (c, I, zRg g) :=
  zgo [11] 4 (And.intro rfl (Exists.intro (some 10) (And.intro rfl (And.intro rfl (Exists.intro (some 2) (And.intro rfl (Exists.intro 3 (And.intro rfl (And.intro (Nat.le_of_ble_eq_true rfl) (Exists.intro 0 (Exists.intro 0 (And.intro (Or.inl rfl) (And.intro (Or.inl rfl) t)))))))))))))
theorem g_x11_image_11 {d : Nat} {B : Nat × Nat} {Q : zQ} {c : Nat × Nat × Nat} {I : Nat → Nat → Int} {g : Nat}
    (t : Q (some (zi (I 10 2))) (c, (z2 I 0 4 1), zRg g)) :
    zRn (zcl d) 121 B Q 11 [some (zr 0)] [] (c, I, zRg g) :=
  zgo [11] 6 (And.intro rfl (And.intro (Or.inr rfl) (And.intro rfl (Exists.intro (some 10) (And.intro rfl (And.intro rfl t))))))
theorem g_x11_back_0 {d : Nat} {B : Nat × Nat} {Q : zQ} {c : Nat × Nat × Nat} {I : Nat → Nat → Int} {g : Nat}
    (t : (I 0 4 ≠ 0 → (zcl d 3 0 0 [zr 2, zr 10] (c, I, zRg g) (fun v h1 => zRn (zcl d) 122 B Q 21 [some (zr 0)] (zva v []) h1))) ∧ (¬ (I 0 4 ≠ 0) → (Q (some (zi (-3))) (c, I, zRg g)))) :
    zRn (zcl d) 122 B Q 0 [some (zr 0)] [] (c, I, zRg g) :=
  zgo [21] 7 (And.intro rfl (And.intro (fun u334 => And.intro rfl (Exists.intro (some 2) (And.intro rfl (And.intro rfl (Exists.intro (some 10) (And.intro rfl (Exists.intro 3 (And.intro rfl (And.intro (Nat.le_of_ble_eq_true rfl) (Exists.intro 0 (Exists.intro 0 (And.intro (Or.inl rfl) (And.intro (Or.inl rfl) (t.1 u334)))))))))))))) (fun u334 => (t.2 u334))))
theorem g_x11_back_21 {d : Nat} {B : Nat × Nat} {Q : zQ} {c : Nat × Nat × Nat} {I : Nat → Nat → Int} {g : Nat}
    (t : Q (some (zi (I 2 2))) (c, I, zRg g)) :
    zRn (zcl d) 122 B Q 21 [some (zr 0)] [] (c, I, zRg g) :=
  zgo [21] 3 (And.intro rfl (Exists.intro (some 2) (And.intro rfl (And.intro rfl t))))
theorem g_x11_count_0 {d : Nat} {B : Nat × Nat} {Q : zQ} {c : Nat × Nat × Nat} {I : Nat → Nat → Int} {g : Nat} {x1 : Int}
    (t : (x1 = 0 → (Q (some (zi (I 2 2))) (c, I, zRg g))) ∧ (¬ (x1 = 0) → ((x1 = 1 → (Q (some (zi (I 2 3))) (c, I, zRg g))) ∧ (¬ (x1 = 1) → ((x1 = 2 → (Q (some (zi (I 2 4))) (c, I, zRg g))) ∧ (¬ (x1 = 2) → ((x1 = 3 → (Q (some (zi (I 0 7))) (c, I, zRg g))) ∧ (¬ (x1 = 3) → ((x1 = 4 → (Q (some (zi (I 62 1))) (c, I, zRg g))) ∧ (¬ (x1 = 4) → ((x1 = 5 → (Q (some (zi (I 2 6))) (c, I, zRg g))) ∧ (¬ (x1 = 5) → (Q (some (zi (-2))) (c, I, zRg g)))))))))))))) :
    zRn (zcl d) 123 B Q 0 [some (zr 0), some (zi x1)] [] (c, I, zRg g) :=
  zgo [] 5 (And.intro (fun u335 => And.intro rfl (Exists.intro (some 2) (And.intro rfl (And.intro rfl (t.1 u335))))) (fun u335 => And.intro (fun u336 => And.intro rfl (Exists.intro (some 2) (And.intro rfl (And.intro rfl ((t.2 u335).1 u336))))) (fun u336 => And.intro (fun u337 => And.intro rfl (Exists.intro (some 2) (And.intro rfl (And.intro rfl (((t.2 u335).2 u336).1 u337))))) (fun u337 => And.intro (fun u338 => And.intro rfl ((((t.2 u335).2 u336).2 u337).1 u338)) (fun u338 => And.intro (fun u339 => And.intro rfl (Exists.intro (some 62) (And.intro rfl (And.intro rfl (((((t.2 u335).2 u336).2 u337).2 u338).1 u339))))) (fun u339 => And.intro (fun u340 => And.intro rfl (Exists.intro (some 2) (And.intro rfl (And.intro rfl ((((((t.2 u335).2 u336).2 u337).2 u338).2 u339).1 u340))))) (fun u340 => ((((((t.2 u335).2 u336).2 u337).2 u338).2 u339).2 u340))))))))
theorem g_x11_sheet_0 {d : Nat} {B : Nat × Nat} {Q : zQ} {c : Nat × Nat × Nat} {I : Nat → Nat → Int} {g : Nat} {x1 x2 x3 : Int}
    (t : zcl d 129 0 0 [zi x1] (c, I, zRg g) (fun v h1 => zRn (zcl d) 124 B Q 4 [some (zr 0), some (zi x1), some (zi x2), some (zi x3)] (zva v []) h1)) :
    zRn (zcl d) 124 B Q 0 [some (zr 0), some (zi x1), some (zi x2), some (zi x3)] [] (c, I, zRg g) :=
  zgo [4, 36, 65] 1 (And.intro (Nat.le_of_ble_eq_true rfl) (Exists.intro 0 (Exists.intro 0 (And.intro (Or.inl rfl) (And.intro (Or.inl rfl) t)))))
theorem g_x11_sheet_4 {d : Nat} {B : Nat × Nat} {Q : zQ} {c : Nat × Nat × Nat} {I : Nat → Nat → Int} {g : Nat} {x1 x2 x3 s0 : Int} {y1 y2 : Nat}
    (t : (s0 = 0 → (Q (some (zi (-2))) (c, I, zRg g))) ∧ (¬ (s0 = 0) → ((x2 < (-1) → (Q (some (zi (-2))) (c, I, zRg g))) ∧ (¬ (x2 < (-1)) → ((x2 < 3 → ((x2 ≠ (-1) → ((x3 ≤ 40 → ((0 ≤ x3 → ((0 ≤ x1 ∧ x1 < 4) ∧ ((zRg g 28 x1.toNat = some y1) ∧ ((zsel ((zSh y1).1 : Nat) [(8, 62)] = some 62) ∧ (zcl d 62 0 0 [zr y1, zi x2, zi x3] (c, I, zRg g) (fun v h1 => zRn (zcl d) 124 B Q 65 [some (zr 0), some (zi x1), some (zi x2), some (zi x3)] (zva v []) h1)))))) ∧ (¬ (0 ≤ x3) → (Q (some (zi (-14))) (c, I, zRg g))))) ∧ (¬ (x3 ≤ 40) → (Q (some (zi (-2))) (c, I, zRg g))))) ∧ (¬ (x2 ≠ (-1)) → ((0 ≤ x1 ∧ x1 < 4) ∧ ((zRg g 28 x1.toNat = some y2) ∧ ((zsel ((zSh y2).1 : Nat) [(8, 62)] = some 62) ∧ (zcl d 62 0 0 [zr y2, zi (-1), zi 0] (c, I, zRg g) (fun v h1 => zRn (zcl d) 124 B Q 36 [some (zr 0), some (zi x1), some (zi x2), some (zi x3)] (zva v []) h1)))))))) ∧ (¬ (x2 < 3) → (Q (some (zi (-2))) (c, I, zRg g)))))))) :
    zRn (zcl d) 124 B Q 4 [some (zr 0), some (zi x1), some (zi x2), some (zi x3)] [zi s0] (c, I, zRg g) :=
  zgo [4, 36, 65] 21 (And.intro (fun u341 => (t.1 u341)) (fun u341 => And.intro (fun u342 => ((t.2 u341).1 u342)) (fun u342 => And.intro (fun u343 => And.intro (fun u344 => And.intro (fun u345 => And.intro (fun u346 => And.intro rfl (Exists.intro (some 28) (And.intro rfl (And.intro (by decide) (And.intro ((((((t.2 u341).2 u342).1 u343).1 u344).1 u345).1 u346).1 (Exists.intro (some y1) (And.intro ((((((t.2 u341).2 u342).1 u343).1 u344).1 u345).1 u346).2.1 (Exists.intro 62 (And.intro ((((((t.2 u341).2 u342).1 u343).1 u344).1 u345).1 u346).2.2.1 (And.intro (Nat.le_of_ble_eq_true rfl) (Exists.intro 0 (Exists.intro 0 (And.intro (Or.inl rfl) (And.intro (Or.inl rfl) (((((((t.2 u341).2 u342).1 u343).1 u344).1 u345).1 u346).2.2.2))))))))))))))) (fun u346 => ((((((t.2 u341).2 u342).1 u343).1 u344).1 u345).2 u346))) (fun u345 => (((((t.2 u341).2 u342).1 u343).1 u344).2 u345))) (fun u344 => And.intro rfl (Exists.intro (some 28) (And.intro rfl (And.intro (by decide) (And.intro ((((t.2 u341).2 u342).1 u343).2 u344).1 (Exists.intro (some y2) (And.intro ((((t.2 u341).2 u342).1 u343).2 u344).2.1 (Exists.intro 62 (And.intro ((((t.2 u341).2 u342).1 u343).2 u344).2.2.1 (And.intro (Nat.le_of_ble_eq_true rfl) (Exists.intro 0 (Exists.intro 0 (And.intro (Or.inl rfl) (And.intro (Or.inl rfl) (((((t.2 u341).2 u342).1 u343).2 u344).2.2.2)))))))))))))))) (fun u343 => (((t.2 u341).2 u342).2 u343)))))
theorem g_x11_sheet_36 {d : Nat} {B : Nat × Nat} {Q : zQ} {c : Nat × Nat × Nat} {I : Nat → Nat → Int} {g : Nat} {x1 x2 x3 : Int}
    (t : Q (some (zi 1)) (c, I, zRg g)) :
    zRn (zcl d) 124 B Q 36 [some (zr 0), some (zi x1), some (zi x2), some (zi x3)] [] (c, I, zRg g) :=
  zgo [4, 36, 65] 1 (t)
theorem g_x11_sheet_65 {d : Nat} {B : Nat × Nat} {Q : zQ} {c : Nat × Nat × Nat} {I : Nat → Nat → Int} {g : Nat} {x1 x2 x3 : Int}
    (t : Q (some (zi 1)) (c, I, zRg g)) :
    zRn (zcl d) 124 B Q 65 [some (zr 0), some (zi x1), some (zi x2), some (zi x3)] [] (c, I, zRg g) :=
  zgo [4, 36, 65] 1 (t)
theorem g_x11_cell_0 {d : Nat} {B : Nat × Nat} {Q : zQ} {c : Nat × Nat × Nat} {I : Nat → Nat → Int} {g : Nat} {x1 x2 x3 : Int}
    (t : zcl d 129 0 0 [zi x1] (c, I, zRg g) (fun v h1 => zRn (zcl d) 125 B Q 4 [some (zr 0), some (zi x1), some (zi x2), some (zi x3)] (zva v []) h1)) :
    zRn (zcl d) 125 B Q 0 [some (zr 0), some (zi x1), some (zi x2), some (zi x3)] [] (c, I, zRg g) :=
  zgo [4, 19, 36, 53] 1 (And.intro (Nat.le_of_ble_eq_true rfl) (Exists.intro 0 (Exists.intro 0 (And.intro (Or.inl rfl) (And.intro (Or.inl rfl) t)))))
theorem g_x11_cell_4 {d : Nat} {B : Nat × Nat} {Q : zQ} {c : Nat × Nat × Nat} {I : Nat → Nat → Int} {g : Nat} {x1 x2 x3 s0 : Int} {y1 : Nat}
    (t : (s0 ≠ 0 → ((0 ≤ x1 ∧ x1 < 4) ∧ ((zRg g 28 x1.toNat = some y1) ∧ ((zsel ((zSh y1).1 : Nat) [(8, 60)] = some 60) ∧ (zcl d 60 0 0 [zr y1] (c, I, zRg g) (fun v h1 => zRn (zcl d) 125 B Q 19 [some (zr 0), some (zi x1), some (zi x2), some (zi x3)] (zva v []) h1)))))) ∧ (¬ (s0 ≠ 0) → (Q (some (zi (-2))) (c, I, zRg g)))) :
    zRn (zcl d) 125 B Q 4 [some (zr 0), some (zi x1), some (zi x2), some (zi x3)] [zi s0] (c, I, zRg g) :=
  zgo [4, 19, 36, 53] 5 (And.intro (fun u347 => And.intro rfl (Exists.intro (some 28) (And.intro rfl (And.intro (by decide) (And.intro (t.1 u347).1 (Exists.intro (some y1) (And.intro (t.1 u347).2.1 (Exists.intro 60 (And.intro (t.1 u347).2.2.1 (And.intro (Nat.le_of_ble_eq_true rfl) (Exists.intro 0 (Exists.intro 0 (And.intro (Or.inl rfl) (And.intro (Or.inl rfl) ((t.1 u347).2.2.2))))))))))))))) (fun u347 => (t.2 u347)))
theorem g_x11_cell_19 {d : Nat} {B : Nat × Nat} {Q : zQ} {c : Nat × Nat × Nat} {I : Nat → Nat → Int} {g : Nat} {x1 x2 x3 s0 : Int} {y1 : Nat}
    (t : (s0 = 0 → ((0 ≤ x1 ∧ x1 < 4) ∧ ((zRg g 28 x1.toNat = some y1) ∧ ((zsel ((zSh y1).1 : Nat) [(8, 61)] = some 61) ∧ (zcl d 61 0 0 [zr y1, zi x2, zi 1] (c, I, zRg g) (fun v h1 => zRn (zcl d) 125 B Q 36 [some (zr 0), some (zi x1), some (zi x2), some (zi x3)] (zva v []) h1)))))) ∧ (¬ (s0 = 0) → (Q (some (zi (-11))) (c, I, zRg g)))) :
    zRn (zcl d) 125 B Q 19 [some (zr 0), some (zi x1), some (zi x2), some (zi x3)] [zi s0] (c, I, zRg g) :=
  zgo [4, 19, 36, 53] 7 (And.intro (fun u348 => And.intro rfl (Exists.intro (some 28) (And.intro rfl (And.intro (by decide) (And.intro (t.1 u348).1 (Exists.intro (some y1) (And.intro (t.1 u348).2.1 (Exists.intro 61 (And.intro (t.1 u348).2.2.1 (And.intro (Nat.le_of_ble_eq_true rfl) (Exists.intro 0 (Exists.intro 0 (And.intro (Or.inl rfl) (And.intro (Or.inl rfl) ((t.1 u348).2.2.2))))))))))))))) (fun u348 => (t.2 u348)))
theorem g_x11_cell_36 {d : Nat} {B : Nat × Nat} {Q : zQ} {c : Nat × Nat × Nat} {I : Nat → Nat → Int} {g : Nat} {x1 x2 x3 s0 : Int} {y1 : Nat}
    (t : (s0 ≠ 0 → ((0 ≤ x1 ∧ x1 < 4) ∧ ((zRg g 28 x1.toNat = some y1) ∧ ((zsel ((zSh y1).1 : Nat) [(8, 63)] = some 63) ∧ (zcl d 63 0 0 [zr y1, zi x2, zi x3] (c, I, zRg g) (fun v h1 => zRn (zcl d) 125 B Q 53 [some (zr 0), some (zi x1), some (zi x2), some (zi x3)] (zva v []) h1)))))) ∧ (¬ (s0 ≠ 0) → (Q (some (zi (-12))) (c, I, zRg g)))) :
    zRn (zcl d) 125 B Q 36 [some (zr 0), some (zi x1), some (zi x2), some (zi x3)] [zi s0] (c, I, zRg g) :=
  zgo [4, 19, 36, 53] 7 (And.intro (fun u349 => And.intro rfl (Exists.intro (some 28) (And.intro rfl (And.intro (by decide) (And.intro (t.1 u349).1 (Exists.intro (some y1) (And.intro (t.1 u349).2.1 (Exists.intro 63 (And.intro (t.1 u349).2.2.1 (And.intro (Nat.le_of_ble_eq_true rfl) (Exists.intro 0 (Exists.intro 0 (And.intro (Or.inl rfl) (And.intro (Or.inl rfl) ((t.1 u349).2.2.2))))))))))))))) (fun u349 => (t.2 u349)))
theorem g_x11_cell_53 {d : Nat} {B : Nat × Nat} {Q : zQ} {c : Nat × Nat × Nat} {I : Nat → Nat → Int} {g : Nat} {x1 x2 x3 : Int}
    (t : Q (some (zi 1)) (c, I, zRg g)) :
    zRn (zcl d) 125 B Q 53 [some (zr 0), some (zi x1), some (zi x2), some (zi x3)] [] (c, I, zRg g) :=
  zgo [4, 19, 36, 53] 1 (t)
theorem g_x11_copy_0 {d : Nat} {B : Nat × Nat} {Q : zQ} {c : Nat × Nat × Nat} {I : Nat → Nat → Int} {g : Nat} {x1 x2 x3 x4 x5 : Int}
    (t : zcl d 129 0 0 [zi x1] (c, I, zRg g) (fun v h1 => zRn (zcl d) 126 B Q 4 [some (zr 0), some (zi x1), some (zi x2), some (zi x3), some (zi x4), some (zi x5), none, none] (zva v []) h1)) :
    zRn (zcl d) 126 B Q 0 [some (zr 0), some (zi x1), some (zi x2), some (zi x3), some (zi x4), some (zi x5), none, none] [] (c, I, zRg g) :=
  zgo [4, 11, 38, 46, 76, 88] 1 (And.intro (Nat.le_of_ble_eq_true rfl) (Exists.intro 0 (Exists.intro 0 (And.intro (Or.inl rfl) (And.intro (Or.inl rfl) t)))))
theorem g_x11_copy_4 {d : Nat} {B : Nat × Nat} {Q : zQ} {c : Nat × Nat × Nat} {I : Nat → Nat → Int} {g : Nat} {x1 x2 x3 x4 x5 s0 : Int}
    (t : (s0 = 0 → (Q (some (zi (-2))) (c, I, zRg g))) ∧ (¬ (s0 = 0) → (zcl d 129 0 0 [zi x3] (c, I, zRg g) (fun v h1 => zRn (zcl d) 126 B Q 11 [some (zr 0), some (zi x1), some (zi x2), some (zi x3), some (zi x4), some (zi x5), none, none] (zva v []) h1)))) :
    zRn (zcl d) 126 B Q 4 [some (zr 0), some (zi x1), some (zi x2), some (zi x3), some (zi x4), some (zi x5), none, none] [zi s0] (c, I, zRg g) :=
  zgo [4, 11, 38, 46, 76, 88] 2 (And.intro (fun u350 => (t.1 u350)) (fun u350 => And.intro (Nat.le_of_ble_eq_true rfl) (Exists.intro 0 (Exists.intro 0 (And.intro (Or.inl rfl) (And.intro (Or.inl rfl) (t.2 u350)))))))
theorem g_x11_copy_11 {d : Nat} {B : Nat × Nat} {Q : zQ} {c : Nat × Nat × Nat} {I : Nat → Nat → Int} {g : Nat} {x1 x2 x3 x4 x5 s0 : Int} {y1 y2 : Nat}
    (t : (s0 ≠ 0 → ((0 ≤ x1 ∧ x1 < 4) ∧ ((zRg g 28 x1.toNat = some y1) ∧ ((0 ≤ x3 ∧ x3 < 4) ∧ ((zRg g 28 x3.toNat = some y2) ∧ ((zsel ((zSh y1).1 : Nat) [(8, 60)] = some 60) ∧ (zcl d 60 0 0 [zr y1] (c, I, zRg g) (fun v h1 => zRn (zcl d) 126 B Q 38 [some (zr 0), some (zi x1), some (zi x2), some (zi x3), some (zi x4), some (zi x5), some (zr y1), some (zr y2)] (zva v []) h1)))))))) ∧ (¬ (s0 ≠ 0) → (Q (some (zi (-2))) (c, I, zRg g)))) :
    zRn (zcl d) 126 B Q 11 [some (zr 0), some (zi x1), some (zi x2), some (zi x3), some (zi x4), some (zi x5), none, none] [zi s0] (c, I, zRg g) :=
  zgo [4, 11, 38, 46, 76, 88] 12 (And.intro (fun u351 => And.intro rfl (Exists.intro (some 28) (And.intro rfl (And.intro (by decide) (And.intro (t.1 u351).1 (Exists.intro (some y1) (And.intro (t.1 u351).2.1 (And.intro rfl (Exists.intro (some 28) (And.intro rfl (And.intro (by decide) (And.intro (t.1 u351).2.2.1 (Exists.intro (some y2) (And.intro (t.1 u351).2.2.2.1 (Exists.intro 60 (And.intro (t.1 u351).2.2.2.2.1 (And.intro (Nat.le_of_ble_eq_true rfl) (Exists.intro 0 (Exists.intro 0 (And.intro (Or.inl rfl) (And.intro (Or.inl rfl) ((t.1 u351).2.2.2.2.2)))))))))))))))))))))) (fun u351 => (t.2 u351)))
theorem g_x11_copy_38 {d : Nat} {B : Nat × Nat} {Q : zQ} {c : Nat × Nat × Nat} {I : Nat → Nat → Int} {g : Nat} {x1 x2 x3 x4 x5 s0 : Int} {a6 a7 : Nat}
    (t : (s0 ≠ 0 → (Q (some (zi (-11))) (c, I, zRg g))) ∧ (¬ (s0 ≠ 0) → ((zsel ((zSh a7).1 : Nat) [(8, 60)] = some 60) ∧ (zcl d 60 0 0 [zr a7] (c, I, zRg g) (fun v h1 => zRn (zcl d) 126 B Q 46 [some (zr 0), some (zi x1), some (zi x2), some (zi x3), some (zi x4), some (zi x5), some (zr a6), some (zr a7)] (zva v []) h1))))) :
    zRn (zcl d) 126 B Q 38 [some (zr 0), some (zi x1), some (zi x2), some (zi x3), some (zi x4), some (zi x5), some (zr a6), some (zr a7)] [zi s0] (c, I, zRg g) :=
  zgo [4, 11, 38, 46, 76, 88] 2 (And.intro (fun u352 => (t.1 u352)) (fun u352 => Exists.intro 60 (And.intro (t.2 u352).1 (And.intro (Nat.le_of_ble_eq_true rfl) (Exists.intro 0 (Exists.intro 0 (And.intro (Or.inl rfl) (And.intro (Or.inl rfl) ((t.2 u352).2)))))))))
theorem g_x11_copy_46 {d : Nat} {B : Nat × Nat} {Q : zQ} {c : Nat × Nat × Nat} {I : Nat → Nat → Int} {g : Nat} {x1 x2 x3 x4 x5 s0 : Int} {a6 a7 : Nat}
    (t : (s0 = 0 → (((zSh a6).1 = 8) ∧ (((zSh a7).1 = 8) ∧ ((I a6 1 = I a7 1 → ((zsel ((zSh a6).1 : Nat) [(8, 61)] = some 61) ∧ (zcl d 61 0 0 [zr a6, zi x2, zi x5] (c, I, zRg g) (fun v h1 => zRn (zcl d) 126 B Q 76 [some (zr 0), some (zi x1), some (zi x2), some (zi x3), some (zi x4), some (zi x5), some (zr a6), some (zr a7)] (zva v []) h1)))) ∧ (¬ (I a6 1 = I a7 1) → (Q (some (zi (-13))) (c, I, zRg g))))))) ∧ (¬ (s0 = 0) → (Q (some (zi (-11))) (c, I, zRg g)))) :
    zRn (zcl d) 126 B Q 46 [some (zr 0), some (zi x1), some (zi x2), some (zi x3), some (zi x4), some (zi x5), some (zr a6), some (zr a7)] [zi s0] (c, I, zRg g) :=
  zgo [4, 11, 38, 46, 76, 88] 9 (And.intro (fun u353 => And.intro (t.1 u353).1 (And.intro (t.1 u353).2.1 (And.intro (fun u354 => Exists.intro 61 (And.intro ((t.1 u353).2.2.1 u354).1 (And.intro (Nat.le_of_ble_eq_true rfl) (Exists.intro 0 (Exists.intro 0 (And.intro (Or.inl rfl) (And.intro (Or.inl rfl) (((t.1 u353).2.2.1 u354).2)))))))) (fun u354 => ((t.1 u353).2.2.2 u354))))) (fun u353 => (t.2 u353)))
theorem g_x11_copy_76 {d : Nat} {B : Nat × Nat} {Q : zQ} {c : Nat × Nat × Nat} {I : Nat → Nat → Int} {g : Nat} {x1 x2 x3 x4 x5 s0 : Int} {a6 a7 : Nat}
    (t : (s0 = 0 → (Q (some (zi (-12))) (c, I, zRg g))) ∧ (¬ (s0 = 0) → ((zsel ((zSh a7).1 : Nat) [(8, 61)] = some 61) ∧ (zcl d 61 0 0 [zr a7, zi x4, zi x5] (c, I, zRg g) (fun v h1 => zRn (zcl d) 126 B Q 88 [some (zr 0), some (zi x1), some (zi x2), some (zi x3), some (zi x4), some (zi x5), some (zr a6), some (zr a7)] (zva v []) h1))))) :
    zRn (zcl d) 126 B Q 76 [some (zr 0), some (zi x1), some (zi x2), some (zi x3), some (zi x4), some (zi x5), some (zr a6), some (zr a7)] [zi s0] (c, I, zRg g) :=
  zgo [4, 11, 38, 46, 76, 88] 4 (And.intro (fun u355 => (t.1 u355)) (fun u355 => Exists.intro 61 (And.intro (t.2 u355).1 (And.intro (Nat.le_of_ble_eq_true rfl) (Exists.intro 0 (Exists.intro 0 (And.intro (Or.inl rfl) (And.intro (Or.inl rfl) ((t.2 u355).2)))))))))
theorem g_x11_copy_88 {d : Nat} {B : Nat × Nat} {Q : zQ} {c : Nat × Nat × Nat} {I : Nat → Nat → Int} {g : Nat} {x1 x2 x3 x4 x5 s0 : Int} {a6 a7 y1 y2 : Nat}
    (t : (s0 ≠ 0 → (((zSh a6).1 = 8) ∧ ((zRg g a6 0 = some y1) ∧ (((zSh a7).1 = 8) ∧ ((zRg g a7 0 = some y2) ∧ (((zSh y1).1 = 100) ∧ (((zSh y2).1 = 100) ∧ ((0 ≤ x5 ∧ 0 ≤ x2 ∧ 0 ≤ x4 ∧ x2 + x5 ≤ ((zSh y1).2 : Nat) ∧ x4 + x5 ≤ ((zSh y2).2 : Nat)) ∧ (Q (some (zi x5)) (c, (zcp I y1 x2.toNat y2 x4.toNat x5.toNat), zRg g)))))))))) ∧ (¬ (s0 ≠ 0) → (Q (some (zi (-12))) (c, I, zRg g)))) :
    zRn (zcl d) 126 B Q 88 [some (zr 0), some (zi x1), some (zi x2), some (zi x3), some (zi x4), some (zi x5), some (zr a6), some (zr a7)] [zi s0] (c, I, zRg g) :=
  zgo [4, 11, 38, 46, 76, 88] 10 (And.intro (fun u356 => And.intro (t.1 u356).1 (Exists.intro (some y1) (And.intro (t.1 u356).2.1 (And.intro (t.1 u356).2.2.1 (Exists.intro (some y2) (And.intro (t.1 u356).2.2.2.1 (And.intro (Nat.le_of_ble_eq_true rfl) (And.intro (t.1 u356).2.2.2.2.1 (And.intro (t.1 u356).2.2.2.2.2.1 (And.intro (t.1 u356).2.2.2.2.2.2.1 ((t.1 u356).2.2.2.2.2.2.2))))))))))) (fun u356 => (t.2 u356)))
theorem g_x11_crew_0 {d : Nat} {B : Nat × Nat} {Q : zQ} {c : Nat × Nat × Nat} {I : Nat → Nat → Int} {g : Nat} {x1 x2 x3 x4 : Int}
    (t : zcl d 129 0 0 [zi x1] (c, I, zRg g) (fun v h1 => zRn (zcl d) 127 B Q 4 [some (zr 0), some (zi x1), some (zi x2), some (zi x3), some (zi x4), none, none, none, none, none] (zva v []) h1)) :
    zRn (zcl d) 127 B Q 0 [some (zr 0), some (zi x1), some (zi x2), some (zi x3), some (zi x4), none, none, none, none, none] [] (c, I, zRg g) :=
  zgo [4, 43, 70, 85, 128] 1 (And.intro (Nat.le_of_ble_eq_true rfl) (Exists.intro 0 (Exists.intro 0 (And.intro (Or.inl rfl) (And.intro (Or.inl rfl) t)))))
theorem g_x11_crew_4 {d : Nat} {B : Nat × Nat} {Q : zQ} {c : Nat × Nat × Nat} {I : Nat → Nat → Int} {g : Nat} {x1 x2 x3 x4 s0 : Int} {y1 : Nat}
    (t : (s0 = 0 → (Q (some (zi (-2))) (c, I, zRg g))) ∧ (¬ (s0 = 0) → ((x2 < 0 → (Q (some (zi (-2))) (c, I, zRg g))) ∧ (¬ (x2 < 0) → ((3 ≤ x2 → (Q (some (zi (-2))) (c, I, zRg g))) ∧ (¬ (3 ≤ x2) → ((x4 < 0 → (Q (some (zi (-2))) (c, I, zRg g))) ∧ (¬ (x4 < 0) → ((x4 ≤ 5 → ((0 ≤ x1 ∧ x1 < 4) ∧ ((zRg g 28 x1.toNat = some y1) ∧ ((zsel ((zSh y1).1 : Nat) [(8, 60)] = some 60) ∧ (zcl d 60 0 0 [zr y1] (c, I, zRg g) (fun v h1 => zRn (zcl d) 127 B Q 43 [some (zr 0), some (zi x1), some (zi x2), some (zi x3), some (zi x4), some (zr y1), none, none, none, none] (zva v []) h1)))))) ∧ (¬ (x4 ≤ 5) → (Q (some (zi (-2))) (c, I, zRg g)))))))))))) :
    zRn (zcl d) 127 B Q 4 [some (zr 0), some (zi x1), some (zi x2), some (zi x3), some (zi x4), none, none, none, none, none] [zi s0] (c, I, zRg g) :=
  zgo [4, 43, 70, 85, 128] 17 (And.intro (fun u357 => (t.1 u357)) (fun u357 => And.intro (fun u358 => ((t.2 u357).1 u358)) (fun u358 => And.intro (fun u359 => (((t.2 u357).2 u358).1 u359)) (fun u359 => And.intro (fun u360 => ((((t.2 u357).2 u358).2 u359).1 u360)) (fun u360 => And.intro (fun u361 => And.intro rfl (Exists.intro (some 28) (And.intro rfl (And.intro (by decide) (And.intro (((((t.2 u357).2 u358).2 u359).2 u360).1 u361).1 (Exists.intro (some y1) (And.intro (((((t.2 u357).2 u358).2 u359).2 u360).1 u361).2.1 (Exists.intro 60 (And.intro (((((t.2 u357).2 u358).2 u359).2 u360).1 u361).2.2.1 (And.intro (Nat.le_of_ble_eq_true rfl) (Exists.intro 0 (Exists.intro 0 (And.intro (Or.inl rfl) (And.intro (Or.inl rfl) ((((((t.2 u357).2 u358).2 u359).2 u360).1 u361).2.2.2))))))))))))))) (fun u361 => (((((t.2 u357).2 u358).2 u359).2 u360).2 u361)))))))
theorem g_x11_crew_43 {d : Nat} {B : Nat × Nat} {Q : zQ} {c : Nat × Nat × Nat} {I : Nat → Nat → Int} {g : Nat} {x1 x2 x3 x4 s0 : Int} {a5 : Nat}
    (t : (s0 = 0 → (((zSh a5).1 = 8) ∧ ((I a5 1 = x2 → (zRn (zcl d) 127 B Q 70 [some (zr 0), some (zi x1), some (zi x2), some (zi x3), some (zi x4), some (zr a5), some (zi 0), some (zi x3), some (zi 0), none] [] (c, I, zRg g))) ∧ (¬ (I a5 1 = x2) → (Q (some (zi (-13))) (c, I, zRg g)))))) ∧ (¬ (s0 = 0) → (Q (some (zi (-11))) (c, I, zRg g)))) :
    zRn (zcl d) 127 B Q 43 [some (zr 0), some (zi x1), some (zi x2), some (zi x3), some (zi x4), some (zr a5), none, none, none, none] [zi s0] (c, I, zRg g) :=
  zgo [4, 43, 70, 85, 128] 11 (And.intro (fun u362 => And.intro (t.1 u362).1 (And.intro (fun u363 => ((t.1 u362).2.1 u363)) (fun u363 => ((t.1 u362).2.2 u363)))) (fun u362 => (t.2 u362)))
theorem g_x11_crew_70 {d : Nat} {B : Nat × Nat} {Q : zQ} {c : Nat × Nat × Nat} {I : Nat → Nat → Int} {g : Nat} {x1 x2 x3 x4 x6 x7 x8 : Int} {a5 : Nat}
    (t : (x4 ≤ x8 → (Q (some (zi x6)) (c, I, zRg g))) ∧ (¬ (x4 ≤ x8) → ((zsel ((zSh a5).1 : Nat) [(8, 61)] = some 61) ∧ (zcl d 61 0 0 [zr a5, zi x7, zi 4] (c, I, zRg g) (fun v h1 => zRn (zcl d) 127 B Q 85 [some (zr 0), some (zi x1), some (zi x2), some (zi x3), some (zi x4), some (zr a5), some (zi x6), some (zi x7), some (zi x8), none] (zva v []) h1))))) :
    zRn (zcl d) 127 B Q 70 [some (zr 0), some (zi x1), some (zi x2), some (zi x3), some (zi x4), some (zr a5), some (zi x6), some (zi x7), some (zi x8), none] [] (c, I, zRg g) :=
  zgo [4, 43, 70, 85, 128] 6 (And.intro (fun u364 => (t.1 u364)) (fun u364 => Exists.intro 61 (And.intro (t.2 u364).1 (And.intro (Nat.le_of_ble_eq_true rfl) (Exists.intro 0 (Exists.intro 0 (And.intro (Or.inl rfl) (And.intro (Or.inl rfl) ((t.2 u364).2)))))))))
theorem g_x11_crew_85 {d : Nat} {B : Nat × Nat} {Q : zQ} {c : Nat × Nat × Nat} {I : Nat → Nat → Int} {g : Nat} {x1 x2 x3 x4 x6 x7 x8 s0 : Int} {a5 y1 : Nat}
    (t : (s0 ≠ 0 → (((zSh a5).1 = 8) ∧ ((zRg g a5 0 = some y1) ∧ (((zSh y1).1 = 100) ∧ ((0 ≤ x7 ∧ x7 < ((zSh y1).2 : Nat)) ∧ (((zSh y1).1 = 100) ∧ ((0 ≤ zwr (x7 + 1) ∧ zwr (x7 + 1) < ((zSh y1).2 : Nat)) ∧ (((zSh y1).1 = 100) ∧ ((0 ≤ zwr (x7 + 2) ∧ zwr (x7 + 2) < ((zSh y1).2 : Nat)) ∧ (((zSh y1).1 = 100) ∧ ((0 ≤ zwr (x7 + 3) ∧ zwr (x7 + 3) < ((zSh y1).2 : Nat)) ∧ (zcl d 78 0 0 [zr 0, zi (I y1 x7.toNat), zi (I y1 ((zwr (x7 + 1)).toNat)), zi (I y1 ((zwr (x7 + 2)).toNat)), zi (I y1 ((zwr (x7 + 3)).toNat))] (c, I, zRg g) (fun v h1 => zRn (zcl d) 127 B Q 128 [some (zr 0), some (zi x1), some (zi x2), some (zi x3), some (zi x4), some (zr a5), some (zi x6), some (zi x7), some (zi x8), some (zr y1)] (zva v []) h1))))))))))))) ∧ (¬ (s0 ≠ 0) → (Q (some (zi (-12))) (c, I, zRg g)))) :
    zRn (zcl d) 127 B Q 85 [some (zr 0), some (zi x1), some (zi x2), some (zi x3), some (zi x4), some (zr a5), some (zi x6), some (zi x7), some (zi x8), none] [zi s0] (c, I, zRg g) :=
  zgo [4, 43, 70, 85, 128] 23 (And.intro (fun u365 => And.intro (t.1 u365).1 (Exists.intro (some y1) (And.intro (t.1 u365).2.1 (And.intro (t.1 u365).2.2.1 (And.intro (t.1 u365).2.2.2.1 (And.intro (t.1 u365).2.2.2.2.1 (And.intro (t.1 u365).2.2.2.2.2.1 (And.intro (t.1 u365).2.2.2.2.2.2.1 (And.intro (t.1 u365).2.2.2.2.2.2.2.1 (And.intro (t.1 u365).2.2.2.2.2.2.2.2.1 (And.intro (t.1 u365).2.2.2.2.2.2.2.2.2.1 (Exists.intro 78 (And.intro rfl (And.intro (Nat.le_of_ble_eq_true rfl) (Exists.intro 0 (Exists.intro 0 (And.intro (Or.inl rfl) (And.intro (Or.inl rfl) ((t.1 u365).2.2.2.2.2.2.2.2.2.2))))))))))))))))))) (fun u365 => (t.2 u365)))
theorem g_x11_crew_128 {d : Nat} {B : Nat × Nat} {Q : zQ} {c : Nat × Nat × Nat} {I : Nat → Nat → Int} {g : Nat} {x1 x2 x3 x4 x6 x7 x8 s0 : Int} {a5 a9 : Nat}
    (t : (s0 < 0 → (zRn (zcl d) 127 B Q 70 [some (zr 0), some (zi x1), some (zi x2), some (zi x3), some (zi x4), some (zr a5), some (zi x6), some (zi (zwr (x7 + 4))), some (zi (zwr (x8 + 1))), some (zr a9)] [] (c, I, zRg g))) ∧ (¬ (s0 < 0) → (zRn (zcl d) 127 B Q 70 [some (zr 0), some (zi x1), some (zi x2), some (zi x3), some (zi x4), some (zr a5), some (zi (zwr (x6 + 1))), some (zi (zwr (x7 + 4))), some (zi (zwr (x8 + 1))), some (zr a9)] [] (c, I, zRg g)))) :
    zRn (zcl d) 127 B Q 128 [some (zr 0), some (zi x1), some (zi x2), some (zi x3), some (zi x4), some (zr a5), some (zi x6), some (zi x7), some (zi x8), some (zr a9)] [zi s0] (c, I, zRg g) :=
  zgo [4, 43, 70, 85, 128] 5 (And.intro (fun u366 => (t.1 u366)) (fun u366 => (t.2 u366)))
theorem g_x11_taken_0 {d : Nat} {B : Nat × Nat} {Q : zQ} {c : Nat × Nat × Nat} {I : Nat → Nat → Int} {g : Nat} {x1 x2 : Int}
    (t : (x2 < 0 → (Q (some (zi (-2))) (c, I, zRg g))) ∧ (¬ (x2 < 0) → ((x2 < 6 → (zcl d 1 0 0 [zr 2, zi x1] (c, I, zRg g) (fun v h1 => zRn (zcl d) 128 B Q 21 [some (zr 0), some (zi x1), some (zi x2), none] (zva v []) h1))) ∧ (¬ (x2 < 6) → (Q (some (zi (-2))) (c, I, zRg g)))))) :
    zRn (zcl d) 128 B Q 0 [some (zr 0), some (zi x1), some (zi x2), none] [] (c, I, zRg g) :=
  zgo [21, 42, 46] 8 (And.intro (fun u367 => (t.1 u367)) (fun u367 => And.intro (fun u368 => And.intro rfl (Exists.intro (some 2) (And.intro rfl (Exists.intro 1 (And.intro rfl (And.intro (Nat.le_of_ble_eq_true rfl) (Exists.intro 0 (Exists.intro 0 (And.intro (Or.inl rfl) (And.intro (Or.inl rfl) ((t.2 u367).1 u368))))))))))) (fun u368 => ((t.2 u367).2 u368))))
theorem g_x11_taken_21 {d : Nat} {B : Nat × Nat} {Q : zQ} {c : Nat × Nat × Nat} {I : Nat → Nat → Int} {g : Nat} {x1 x2 s0 : Int} {y1 : Nat}
    (t : (s0 ≠ 0 → ((0 ≤ x1 ∧ x1 < 5) ∧ ((zRg g 3 x1.toNat = some y1) ∧ (zcl d 92 0 0 [zr 0, zr y1] (c, I, zRg g) (fun v h1 => zRn (zcl d) 128 B Q 42 [some (zr 0), some (zi x1), some (zi x2), some (zr y1)] (zva v []) h1))))) ∧ (¬ (s0 ≠ 0) → (Q (some (zi (-11))) (c, I, zRg g)))) :
    zRn (zcl d) 128 B Q 21 [some (zr 0), some (zi x1), some (zi x2), none] [zi s0] (c, I, zRg g) :=
  zgo [21, 42, 46] 9 (And.intro (fun u369 => And.intro rfl (Exists.intro (some 2) (And.intro rfl (And.intro rfl (Exists.intro (some 3) (And.intro rfl (And.intro (by decide) (And.intro (t.1 u369).1 (Exists.intro (some y1) (And.intro (t.1 u369).2.1 (Exists.intro 92 (And.intro rfl (And.intro (Nat.le_of_ble_eq_true rfl) (Exists.intro 0 (Exists.intro 0 (And.intro (Or.inl rfl) (And.intro (Or.inl rfl) ((t.1 u369).2.2)))))))))))))))))) (fun u369 => (t.2 u369)))
theorem g_x11_taken_42 {d : Nat} {B : Nat × Nat} {Q : zQ} {c : Nat × Nat × Nat} {I : Nat → Nat → Int} {g : Nat} {x1 x2 : Int} {a3 b0 k1 : Nat}
    (t : (zsel ((zSh b0).1 : Nat) [(9, 65), (1, 5), (2, 11), (3, 17), (4, 22), (6, 31)] = some k1) ∧ (zcl d k1 0 0 [zr b0, zi x2] (c, I, zRg g) (fun v h1 => zRn (zcl d) 128 B Q 46 [some (zr 0), some (zi x1), some (zi x2), some (zr a3)] (zva v []) h1))) :
    zRn (zcl d) 128 B Q 42 [some (zr 0), some (zi x1), some (zi x2), some (zr a3)] [zr b0] (c, I, zRg g) :=
  zgo [21, 42, 46] 1 (Exists.intro k1 (And.intro t.1 (And.intro (Nat.le_of_ble_eq_true rfl) (Exists.intro 0 (Exists.intro 0 (And.intro (Or.inl rfl) (And.intro (Or.inl rfl) t.2)))))))
theorem g_x11_taken_46 {d : Nat} {B : Nat × Nat} {Q : zQ} {c : Nat × Nat × Nat} {I : Nat → Nat → Int} {g : Nat} {x1 x2 s0 : Int} {a3 : Nat}
    (t : (s0 = 0 → (Q (some (zi (-13))) (c, I, zRg g))) ∧ (¬ (s0 = 0) → (((zSh a3).1 = 5) ∧ (Q (some (zi (I a3 1))) (c, I, zRg g))))) :
    zRn (zcl d) 128 B Q 46 [some (zr 0), some (zi x1), some (zi x2), some (zr a3)] [zi s0] (c, I, zRg g) :=
  zgo [21, 42, 46] 4 (And.intro (fun u370 => (t.1 u370)) (fun u370 => And.intro (t.2 u370).1 ((t.2 u370).2)))
theorem g_x11_isSheet_0 {d : Nat} {B : Nat × Nat} {Q : zQ} {c : Nat × Nat × Nat} {I : Nat → Nat → Int} {g : Nat} {x0 : Int}
    (t : (x0 < 0 → (Q (some (zi 0)) (c, I, zRg g))) ∧ (¬ (x0 < 0) → ((4 ≤ x0 → (Q (some (zi 0)) (c, I, zRg g))) ∧ (¬ (4 ≤ x0) → (Q (some (zi 1)) (c, I, zRg g)))))) :
    zRn (zcl d) 129 B Q 0 [some (zi x0)] [] (c, I, zRg g) :=
  zgo [] 7 (And.intro (fun u371 => And.intro (Or.inl rfl) (t.1 u371)) (fun u371 => And.intro (fun u372 => And.intro (Or.inl rfl) ((t.2 u371).1 u372)) (fun u372 => And.intro (Or.inr rfl) ((t.2 u371).2 u372))))
theorem g_j6_bitCount_0f7a4_0 {d : Nat} {B : Nat × Nat} {Q : zQ} {c : Nat × Nat × Nat} {I : Nat → Nat → Int} {g : Nat} {x0 : Int}
    (t : Q (some (zi (zand (zwr ((zwr ((zand (zwr ((zwr ((zand (zwr (x0 - (zand (zushr x0 1) 1431655765))) 858993459) + (zand (zushr (zwr (x0 - (zand (zushr x0 1) 1431655765))) 2) 858993459))) + (zushr (zwr ((zand (zwr (x0 - (zand (zushr x0 1) 1431655765))) 858993459) + (zand (zushr (zwr (x0 - (zand (zushr x0 1) 1431655765))) 2) 858993459))) 4))) 252645135) + (zushr (zand (zwr ((zwr ((zand (zwr (x0 - (zand (zushr x0 1) 1431655765))) 858993459) + (zand (zushr (zwr (x0 - (zand (zushr x0 1) 1431655765))) 2) 858993459))) + (zushr (zwr ((zand (zwr (x0 - (zand (zushr x0 1) 1431655765))) 858993459) + (zand (zushr (zwr (x0 - (zand (zushr x0 1) 1431655765))) 2) 858993459))) 4))) 252645135) 8))) + (zushr (zwr ((zand (zwr ((zwr ((zand (zwr (x0 - (zand (zushr x0 1) 1431655765))) 858993459) + (zand (zushr (zwr (x0 - (zand (zushr x0 1) 1431655765))) 2) 858993459))) + (zushr (zwr ((zand (zwr (x0 - (zand (zushr x0 1) 1431655765))) 858993459) + (zand (zushr (zwr (x0 - (zand (zushr x0 1) 1431655765))) 2) 858993459))) 4))) 252645135) + (zushr (zand (zwr ((zwr ((zand (zwr (x0 - (zand (zushr x0 1) 1431655765))) 858993459) + (zand (zushr (zwr (x0 - (zand (zushr x0 1) 1431655765))) 2) 858993459))) + (zushr (zwr ((zand (zwr (x0 - (zand (zushr x0 1) 1431655765))) 858993459) + (zand (zushr (zwr (x0 - (zand (zushr x0 1) 1431655765))) 2) 858993459))) 4))) 252645135) 8))) 16))) 63))) (c, I, zRg g)) :
    zRn (zcl d) 202 B Q 0 [some (zi x0)] [] (c, I, zRg g) :=
  zgo [] 41 (t)
theorem g_j9_max_7cf53_0 {d : Nat} {B : Nat × Nat} {Q : zQ} {c : Nat × Nat × Nat} {I : Nat → Nat → Int} {g : Nat} {x0 x1 : Int}
    (t : (x0 < x1 → (Q (some (zi x1)) (c, I, zRg g))) ∧ (¬ (x0 < x1) → (Q (some (zi x0)) (c, I, zRg g)))) :
    zRn (zcl d) 203 B Q 0 [some (zi x0), some (zi x1)] [] (c, I, zRg g) :=
  zgo [] 5 (And.intro (fun u707 => (t.1 u707)) (fun u707 => (t.2 u707)))
theorem g_j9_min_7cf53_0 {d : Nat} {B : Nat × Nat} {Q : zQ} {c : Nat × Nat × Nat} {I : Nat → Nat → Int} {g : Nat} {x0 x1 : Int}
    (t : (x1 < x0 → (Q (some (zi x1)) (c, I, zRg g))) ∧ (¬ (x1 < x0) → (Q (some (zi x0)) (c, I, zRg g)))) :
    zRn (zcl d) 204 B Q 0 [some (zi x0), some (zi x1)] [] (c, I, zRg g) :=
  zgo [] 5 (And.intro (fun u708 => (t.1 u708)) (fun u708 => (t.2 u708)))
end
section
/-! rules of the stretches of the reference, written by wip/whole/seg.py -/
theorem g_x12_in_0 {d : Nat} {B : Nat × Nat} {Q : zQ} {c : Nat × Nat × Nat} {I : Nat → Nat → Int} {g : Nat} {x0 x2 x4 : Int}
    (t : (zcmp x0 x2 < 0 → (Q (some (zi 0)) (c, I, zRg g))) ∧ (¬ (zcmp x0 x2 < 0) → ((0 < zcmp x0 x4 → (Q (some (zi 0)) (c, I, zRg g))) ∧ (¬ (0 < zcmp x0 x4) → (Q (some (zi 1)) (c, I, zRg g)))))) :
    zRn (zcl d) 130 B Q 0 [some (zl x0), none, some (zl x2), none, some (zl x4), none] [] (c, I, zRg g) :=
  zgo [] 10 (And.intro (fun u373 => And.intro (Or.inl rfl) (t.1 u373)) (fun u373 => And.intro (fun u374 => And.intro (Or.inl rfl) ((t.2 u373).1 u374)) (fun u374 => And.intro (Or.inr rfl) ((t.2 u373).2 u374))))
theorem g_x12_within_0 {d : Nat} {B : Nat × Nat} {Q : zQ} {c : Nat × Nat × Nat} {I : Nat → Nat → Int} {g : Nat} {x0 x1 x2 : Int}
    (t : (x1 ≤ x0 → ((x0 ≤ x2 → (Q (some (zi x0)) (c, I, zRg g))) ∧ (¬ (x0 ≤ x2) → (Q (some (zi x2)) (c, I, zRg g))))) ∧ (¬ (x1 ≤ x0) → (Q (some (zi x1)) (c, I, zRg g)))) :
    zRn (zcl d) 131 B Q 0 [some (zi x0), some (zi x1), some (zi x2)] [] (c, I, zRg g) :=
  zgo [] 8 (And.intro (fun u375 => And.intro (fun u376 => ((t.1 u375).1 u376)) (fun u376 => ((t.1 u375).2 u376))) (fun u375 => (t.2 u375)))
theorem g_x12_spell_0 {d : Nat} {B : Nat × Nat} {Q : zQ} {c : Nat × Nat × Nat} {I : Nat → Nat → Int} {g : Nat} {x1 x2 x3 x4 x5 x6 x7 x8 x9 : Int}
    (t : (0 ≤ x1 ∧ x1 < 960) ∧ ((0 ≤ zwr (x1 + 1) ∧ zwr (x1 + 1) < 960) ∧ ((0 ≤ zwr (x1 + 2) ∧ zwr (x1 + 2) < 960) ∧ ((0 ≤ zwr (x1 + 3) ∧ zwr (x1 + 3) < 960) ∧ ((0 ≤ zwr (x1 + 4) ∧ zwr (x1 + 4) < 960) ∧ ((0 ≤ zwr (x1 + 5) ∧ zwr (x1 + 5) < 960) ∧ ((0 ≤ zwr (x1 + 6) ∧ zwr (x1 + 6) < 960) ∧ ((0 ≤ zwr (x1 + 7) ∧ zwr (x1 + 7) < 960) ∧ (Q none (c, (z2 (z2 (z2 (z2 (z2 (z2 (z2 (z2 I 68 x1.toNat x2) 68 (zwr (x1 + 1)).toNat x3) 68 (zwr (x1 + 2)).toNat x4) 68 (zwr (x1 + 3)).toNat x5) 68 (zwr (x1 + 4)).toNat x6) 68 (zwr (x1 + 5)).toNat x7) 68 (zwr (x1 + 6)).toNat x8) 68 (zwr (x1 + 7)).toNat x9), zRg g)))))))))) :
    zRn (zcl d) 133 B Q 0 [some (zr 67), some (zi x1), some (zi x2), some (zi x3), some (zi x4), some (zi x5), some (zi x6), some (zi x7), some (zi x8), some (zi x9)] [] (c, I, zRg g) :=
  zgo [] 54 (And.intro rfl (Exists.intro (some 68) (And.intro rfl (And.intro rfl (And.intro t.1 (And.intro rfl (Exists.intro (some 68) (And.intro rfl (And.intro rfl (And.intro t.2.1 (And.intro rfl (Exists.intro (some 68) (And.intro rfl (And.intro rfl (And.intro t.2.2.1 (And.intro rfl (Exists.intro (some 68) (And.intro rfl (And.intro rfl (And.intro t.2.2.2.1 (And.intro rfl (Exists.intro (some 68) (And.intro rfl (And.intro rfl (And.intro t.2.2.2.2.1 (And.intro rfl (Exists.intro (some 68) (And.intro rfl (And.intro rfl (And.intro t.2.2.2.2.2.1 (And.intro rfl (Exists.intro (some 68) (And.intro rfl (And.intro rfl (And.intro t.2.2.2.2.2.2.1 (And.intro rfl (Exists.intro (some 68) (And.intro rfl (And.intro rfl (And.intro t.2.2.2.2.2.2.2.1 t.2.2.2.2.2.2.2.2))))))))))))))))))))))))))))))))))))))))
theorem g_x12_isOne_0 {d : Nat} {B : Nat × Nat} {Q : zQ} {c : Nat × Nat × Nat} {I : Nat → Nat → Int} {g : Nat} {x1 : Int}
    (t : zcl d 130 0 0 [zl x1, zl 0, zl (zwr ((I 67 9) - 1))] (c, I, zRg g) (fun v h1 => zRn (zcl d) 134 B Q 13 [some (zr 67), some (zi x1)] (zva v []) h1)) :
    zRn (zcl d) 134 B Q 0 [some (zr 67), some (zi x1)] [] (c, I, zRg g) :=
  zgo [13] 8 (And.intro rfl (And.intro (Nat.le_of_ble_eq_true rfl) (Exists.intro 0 (Exists.intro 0 (And.intro (Or.inl rfl) (And.intro (Or.inl rfl) t))))))
theorem g_x12_isOne_13 {d : Nat} {B : Nat × Nat} {Q : zQ} {c : Nat × Nat × Nat} {I : Nat → Nat → Int} {g : Nat} {x1 s0 : Int}
    (t : (s0 = 0 ∨ s0 = 1) ∧ (Q (some (zi s0)) (c, I, zRg g))) :
    zRn (zcl d) 134 B Q 13 [some (zr 67), some (zi x1)] [zi s0] (c, I, zRg g) :=
  zgo [13] 0 (And.intro t.1 t.2)
theorem g_x12_isOf_0 {d : Nat} {B : Nat × Nat} {Q : zQ} {c : Nat × Nat × Nat} {I : Nat → Nat → Int} {g : Nat} {x1 x2 : Int}
    (t : (x1 = 0 → (Q (some (zi 1)) (c, I, zRg g))) ∧ (¬ (x1 = 0) → ((6 < x1 → (Q (some (zi 1)) (c, I, zRg g))) ∧ (¬ (6 < x1) → ((x1 ≠ 6 → (zcl d 134 0 0 [zr 67, zi x2] (c, I, zRg g) (fun v h1 => zRn (zcl d) 135 B Q 40 [some (zr 67), some (zi x1), some (zi x2)] (zva v []) h1))) ∧ (¬ (x1 ≠ 6) → (zcl d 130 0 0 [zl x2, zl 0, zl (zwr ((I 67 11) - 1))] (c, I, zRg g) (fun v h1 => zRn (zcl d) 135 B Q 29 [some (zr 67), some (zi x1), some (zi x2)] (zva v []) h1)))))))) :
    zRn (zcl d) 135 B Q 0 [some (zr 67), some (zi x1), some (zi x2)] [] (c, I, zRg g) :=
  zgo [29, 40] 16 (And.intro (fun u377 => And.intro (Or.inr rfl) (t.1 u377)) (fun u377 => And.intro (fun u378 => And.intro (Or.inr rfl) ((t.2 u377).1 u378)) (fun u378 => And.intro (fun u379 => Exists.intro 134 (And.intro rfl (And.intro (Nat.le_of_ble_eq_true rfl) (Exists.intro 0 (Exists.intro 0 (And.intro (Or.inl rfl) (And.intro (Or.inl rfl) (((t.2 u377).2 u378).1 u379)))))))) (fun u379 => And.intro rfl (And.intro (Nat.le_of_ble_eq_true rfl) (Exists.intro 0 (Exists.intro 0 (And.intro (Or.inl rfl) (And.intro (Or.inl rfl) (((t.2 u377).2 u378).2 u379))))))))))
theorem g_x12_isOf_29 {d : Nat} {B : Nat × Nat} {Q : zQ} {c : Nat × Nat × Nat} {I : Nat → Nat → Int} {g : Nat} {x1 x2 s0 : Int}
    (t : (s0 = 0 → (Q (some (zi 0)) (c, I, zRg g))) ∧ (¬ (s0 = 0) → (Q (some (zi 1)) (c, I, zRg g)))) :
    zRn (zcl d) 135 B Q 29 [some (zr 67), some (zi x1), some (zi x2)] [zi s0] (c, I, zRg g) :=
  zgo [29, 40] 4 (And.intro (fun u381 => And.intro (Or.inl rfl) (t.1 u381)) (fun u381 => And.intro (Or.inr rfl) (t.2 u381)))
theorem g_x12_isOf_40 {d : Nat} {B : Nat × Nat} {Q : zQ} {c : Nat × Nat × Nat} {I : Nat → Nat → Int} {g : Nat} {x1 x2 s0 : Int}
    (t : (s0 = 0 → (Q (some (zi 0)) (c, I, zRg g))) ∧ (¬ (s0 = 0) → (Q (some (zi 1)) (c, I, zRg g)))) :
    zRn (zcl d) 135 B Q 40 [some (zr 67), some (zi x1), some (zi x2)] [zi s0] (c, I, zRg g) :=
  zgo [29, 40] 3 (And.intro (fun u380 => And.intro (Or.inl rfl) (t.1 u380)) (fun u380 => And.intro (Or.inr rfl) (t.2 u380)))
theorem g_x12_mostOf_0 {d : Nat} {B : Nat × Nat} {Q : zQ} {c : Nat × Nat × Nat} {I : Nat → Nat → Int} {g : Nat} {x0 : Int}
    (t : (x0 ≠ 0 → ((x0 ≠ 1 → ((x0 ≠ 2 → (Q (some (zi 99)) (c, I, zRg g))) ∧ (¬ (x0 ≠ 2) → (Q (some (zi 1023)) (c, I, zRg g))))) ∧ (¬ (x0 ≠ 1) → (Q (some (zi 9)) (c, I, zRg g))))) ∧ (¬ (x0 ≠ 0) → (Q (some (zi 999)) (c, I, zRg g)))) :
    zRn (zcl d) 136 B Q 0 [some (zi x0)] [] (c, I, zRg g) :=
  zgo [] 10 (And.intro (fun u382 => And.intro (fun u383 => And.intro (fun u384 => (((t.1 u382).1 u383).1 u384)) (fun u384 => (((t.1 u382).1 u383).2 u384))) (fun u383 => ((t.1 u382).2 u383))) (fun u382 => (t.2 u382)))
theorem g_x12_set_0 {d : Nat} {B : Nat × Nat} {Q : zQ} {c : Nat × Nat × Nat} {I : Nat → Nat → Int} {g : Nat} {x1 x2 x3 : Int}
    (t : zcl d 130 0 0 [zl x1, zl 0, zl 4] (c, I, zRg g) (fun v h1 => zRn (zcl d) 137 B Q 9 [some (zr 67), some (zi x1), some (zi x2), some (zi x3), none] (zva v []) h1)) :
    zRn (zcl d) 137 B Q 0 [some (zr 67), some (zi x1), some (zi x2), some (zi x3), none] [] (c, I, zRg g) :=
  zgo [9, 18, 28, 32, 44, 53] 4 (And.intro (Nat.le_of_ble_eq_true rfl) (Exists.intro 0 (Exists.intro 0 (And.intro (Or.inl rfl) (And.intro (Or.inl rfl) t)))))
theorem g_x12_set_9 {d : Nat} {B : Nat × Nat} {Q : zQ} {c : Nat × Nat × Nat} {I : Nat → Nat → Int} {g : Nat} {x1 x2 x3 s0 : Int}
    (t : (s0 = 0 → (Q (some (zi (-2))) (c, I, zRg g))) ∧ (¬ (s0 = 0) → (zcl d 135 0 0 [zr 67, zi x1, zi x2] (c, I, zRg g) (fun v h1 => zRn (zcl d) 137 B Q 18 [some (zr 67), some (zi x1), some (zi x2), some (zi x3), none] (zva v []) h1)))) :
    zRn (zcl d) 137 B Q 9 [some (zr 67), some (zi x1), some (zi x2), some (zi x3), none] [zi s0] (c, I, zRg g) :=
  zgo [9, 18, 28, 32, 44, 53] 4 (And.intro (fun u385 => (t.1 u385)) (fun u385 => Exists.intro 135 (And.intro rfl (And.intro (Nat.le_of_ble_eq_true rfl) (Exists.intro 0 (Exists.intro 0 (And.intro (Or.inl rfl) (And.intro (Or.inl rfl) (t.2 u385)))))))))
theorem g_x12_set_18 {d : Nat} {B : Nat × Nat} {Q : zQ} {c : Nat × Nat × Nat} {I : Nat → Nat → Int} {g : Nat} {x1 x2 x3 s0 : Int}
    (t : (s0 = 0 → (Q (some (zi (-2))) (c, I, zRg g))) ∧ (¬ (s0 = 0) → (zcl d 136 0 0 [zi x1] (c, I, zRg g) (fun v h1 => zRn (zcl d) 137 B Q 28 [some (zr 67), some (zi x1), some (zi x2), some (zi x3), none] (zva v [zl 0, zl x3]) h1)))) :
    zRn (zcl d) 137 B Q 18 [some (zr 67), some (zi x1), some (zi x2), some (zi x3), none] [zi s0] (c, I, zRg g) :=
  zgo [9, 18, 28, 32, 44, 53] 5 (And.intro (fun u386 => (t.1 u386)) (fun u386 => And.intro (Nat.le_of_ble_eq_true rfl) (Exists.intro 0 (Exists.intro 0 (And.intro (Or.inl rfl) (And.intro (Or.inl rfl) (t.2 u386)))))))
theorem g_x12_set_28 {d : Nat} {B : Nat × Nat} {Q : zQ} {c : Nat × Nat × Nat} {I : Nat → Nat → Int} {g : Nat} {x1 x2 x3 s0 s1 s2 : Int}
    (t : zcl d 130 0 0 [zl s2, zl s1, zl s0] (c, I, zRg g) (fun v h1 => zRn (zcl d) 137 B Q 32 [some (zr 67), some (zi x1), some (zi x2), some (zi x3), none] (zva v []) h1)) :
    zRn (zcl d) 137 B Q 28 [some (zr 67), some (zi x1), some (zi x2), some (zi x3), none] [zi s0, zl s1, zl s2] (c, I, zRg g) :=
  zgo [9, 18, 28, 32, 44, 53] 1 (And.intro (Nat.le_of_ble_eq_true rfl) (Exists.intro 0 (Exists.intro 0 (And.intro (Or.inl rfl) (And.intro (Or.inl rfl) t)))))
theorem g_x12_set_32 {d : Nat} {B : Nat × Nat} {Q : zQ} {c : Nat × Nat × Nat} {I : Nat → Nat → Int} {g : Nat} {x1 x2 x3 s0 : Int}
    (t : (s0 ≠ 0 → (zcl d 140 0 0 [zr 67, zi x2, zi x1] (c, I, zRg g) (fun v h1 => zRn (zcl d) 137 B Q 44 [some (zr 67), some (zi x1), some (zi x2), some (zi x3), none] (zva v []) h1))) ∧ (¬ (s0 ≠ 0) → (Q (some (zi (-2))) (c, I, zRg g)))) :
    zRn (zcl d) 137 B Q 32 [some (zr 67), some (zi x1), some (zi x2), some (zi x3), none] [zi s0] (c, I, zRg g) :=
  zgo [9, 18, 28, 32, 44, 53] 4 (And.intro (fun u387 => Exists.intro 140 (And.intro rfl (And.intro (Nat.le_of_ble_eq_true rfl) (Exists.intro 0 (Exists.intro 0 (And.intro (Or.inl rfl) (And.intro (Or.inl rfl) (t.1 u387)))))))) (fun u387 => (t.2 u387)))
theorem g_x12_set_44 {d : Nat} {B : Nat × Nat} {Q : zQ} {c : Nat × Nat × Nat} {I : Nat → Nat → Int} {g : Nat} {x1 x2 x3 s0 : Int}
    (t : zcl d 138 0 0 [zr 67, zi x1, zi x2, zi x3] (c, I, zRg g) (fun v h1 => zRn (zcl d) 137 B Q 53 [some (zr 67), some (zi x1), some (zi x2), some (zi x3), some (zi s0)] (zva v []) h1)) :
    zRn (zcl d) 137 B Q 44 [some (zr 67), some (zi x1), some (zi x2), some (zi x3), none] [zi s0] (c, I, zRg g) :=
  zgo [9, 18, 28, 32, 44, 53] 5 (Exists.intro 138 (And.intro rfl (And.intro (Nat.le_of_ble_eq_true rfl) (Exists.intro 0 (Exists.intro 0 (And.intro (Or.inl rfl) (And.intro (Or.inl rfl) t)))))))
theorem g_x12_set_53 {d : Nat} {B : Nat × Nat} {Q : zQ} {c : Nat × Nat × Nat} {I : Nat → Nat → Int} {g : Nat} {x1 x2 x3 x4 : Int}
    (t : Q (some (zi x4)) (c, I, zRg g)) :
    zRn (zcl d) 137 B Q 53 [some (zr 67), some (zi x1), some (zi x2), some (zi x3), some (zi x4)] [] (c, I, zRg g) :=
  zgo [9, 18, 28, 32, 44, 53] 1 (t)
theorem g_x12_lays_0 {d : Nat} {B : Nat × Nat} {Q : zQ} {c : Nat × Nat × Nat} {I : Nat → Nat → Int} {g : Nat} {x1 x2 x3 : Int}
    (t : (x1 ≠ 0 → ((6 ≤ x1 → (Q none (c, (z2 I 67 4 x3), zRg g))) ∧ (¬ (6 ≤ x1) → ((0 ≤ zwr ((zwr ((zwr (5 * x2)) + x1)) - 1) ∧ zwr ((zwr ((zwr (5 * x2)) + x1)) - 1) < 25) ∧ (Q none (c, (z2 I 71 (zwr ((zwr ((zwr (5 * x2)) + x1)) - 1)).toNat x3), zRg g)))))) ∧ (¬ (x1 ≠ 0) → (Q none (c, (z2 I 67 7 x3), zRg g)))) :
    zRn (zcl d) 138 B Q 0 [some (zr 67), some (zi x1), some (zi x2), some (zi x3)] [] (c, I, zRg g) :=
  zgo [] 17 (And.intro (fun u388 => And.intro (fun u389 => And.intro rfl ((t.1 u388).1 u389)) (fun u389 => And.intro rfl (Exists.intro (some 71) (And.intro rfl (And.intro rfl (And.intro ((t.1 u388).2 u389).1 (((t.1 u388).2 u389).2))))))) (fun u388 => And.intro rfl (t.2 u388)))
theorem g_x12_person_0 {d : Nat} {B : Nat × Nat} {Q : zQ} {c : Nat × Nat × Nat} {I : Nat → Nat → Int} {g : Nat} {x1 x2 x3 x4 : Int}
    (t : zcl d 130 0 0 [zl x1, zl 0, zl 5] (c, I, zRg g) (fun v h1 => zRn (zcl d) 139 B Q 9 [some (zr 67), some (zi x1), some (zi x2), some (zi x3), some (zi x4), none] (zva v []) h1)) :
    zRn (zcl d) 139 B Q 0 [some (zr 67), some (zi x1), some (zi x2), some (zi x3), some (zi x4), none] [] (c, I, zRg g) :=
  zgo [9, 21, 33, 46] 4 (And.intro (Nat.le_of_ble_eq_true rfl) (Exists.intro 0 (Exists.intro 0 (And.intro (Or.inl rfl) (And.intro (Or.inl rfl) t)))))
theorem g_x12_person_9 {d : Nat} {B : Nat × Nat} {Q : zQ} {c : Nat × Nat × Nat} {I : Nat → Nat → Int} {g : Nat} {x1 x2 x3 x4 s0 : Int}
    (t : (s0 = 0 → (Q (some (zi (-2))) (c, I, zRg g))) ∧ (¬ (s0 = 0) → (zcl d 130 0 0 [zl x2, zl 0, zl 9] (c, I, zRg g) (fun v h1 => zRn (zcl d) 139 B Q 21 [some (zr 67), some (zi x1), some (zi x2), some (zi x3), some (zi x4), none] (zva v []) h1)))) :
    zRn (zcl d) 139 B Q 9 [some (zr 67), some (zi x1), some (zi x2), some (zi x3), some (zi x4), none] [zi s0] (c, I, zRg g) :=
  zgo [9, 21, 33, 46] 5 (And.intro (fun u390 => (t.1 u390)) (fun u390 => And.intro (Nat.le_of_ble_eq_true rfl) (Exists.intro 0 (Exists.intro 0 (And.intro (Or.inl rfl) (And.intro (Or.inl rfl) (t.2 u390)))))))
theorem g_x12_person_21 {d : Nat} {B : Nat × Nat} {Q : zQ} {c : Nat × Nat × Nat} {I : Nat → Nat → Int} {g : Nat} {x1 x2 x3 x4 s0 : Int}
    (t : (s0 = 0 → (Q (some (zi (-2))) (c, I, zRg g))) ∧ (¬ (s0 = 0) → (zcl d 130 0 0 [zl x3, zl 0, zl 1023] (c, I, zRg g) (fun v h1 => zRn (zcl d) 139 B Q 33 [some (zr 67), some (zi x1), some (zi x2), some (zi x3), some (zi x4), none] (zva v []) h1)))) :
    zRn (zcl d) 139 B Q 21 [some (zr 67), some (zi x1), some (zi x2), some (zi x3), some (zi x4), none] [zi s0] (c, I, zRg g) :=
  zgo [9, 21, 33, 46] 5 (And.intro (fun u391 => (t.1 u391)) (fun u391 => And.intro (Nat.le_of_ble_eq_true rfl) (Exists.intro 0 (Exists.intro 0 (And.intro (Or.inl rfl) (And.intro (Or.inl rfl) (t.2 u391)))))))
theorem g_x12_person_33 {d : Nat} {B : Nat × Nat} {Q : zQ} {c : Nat × Nat × Nat} {I : Nat → Nat → Int} {g : Nat} {x1 x2 x3 x4 s0 : Int}
    (t : (s0 = 0 → (Q (some (zi (-2))) (c, I, zRg g))) ∧ (¬ (s0 = 0) → (zcl d 130 0 0 [zl x4, zl 0, zl 99] (c, I, zRg g) (fun v h1 => zRn (zcl d) 139 B Q 46 [some (zr 67), some (zi x1), some (zi x2), some (zi x3), some (zi x4), none] (zva v []) h1)))) :
    zRn (zcl d) 139 B Q 33 [some (zr 67), some (zi x1), some (zi x2), some (zi x3), some (zi x4), none] [zi s0] (c, I, zRg g) :=
  zgo [9, 21, 33, 46] 5 (And.intro (fun u392 => (t.1 u392)) (fun u392 => And.intro (Nat.le_of_ble_eq_true rfl) (Exists.intro 0 (Exists.intro 0 (And.intro (Or.inl rfl) (And.intro (Or.inl rfl) (t.2 u392)))))))
theorem g_x12_person_46 {d : Nat} {B : Nat × Nat} {Q : zQ} {c : Nat × Nat × Nat} {I : Nat → Nat → Int} {g : Nat} {x1 x2 x3 x4 s0 : Int}
    (t : (s0 ≠ 0 → ((I 67 9 ≠ 5 → ((0 ≤ zwr (5 * (I 67 9)) ∧ zwr (5 * (I 67 9)) < 25) ∧ ((0 ≤ zwr ((zwr (5 * (I 67 9))) + 1) ∧ zwr ((zwr (5 * (I 67 9))) + 1) < 25) ∧ ((0 ≤ zwr ((zwr (5 * (I 67 9))) + 2) ∧ zwr ((zwr (5 * (I 67 9))) + 2) < 25) ∧ ((0 ≤ zwr ((zwr (5 * (I 67 9))) + 3) ∧ zwr ((zwr (5 * (I 67 9))) + 3) < 25) ∧ ((0 ≤ zwr ((zwr (5 * (I 67 9))) + 4) ∧ zwr ((zwr (5 * (I 67 9))) + 4) < 25) ∧ (Q (some (zi (zwr ((zwr (((z2 (z2 (z2 (z2 (z2 I 71 (zwr (5 * (I 67 9))).toNat x2) 71 (zwr ((zwr (5 * (I 67 9))) + 1)).toNat x3) 71 (zwr ((zwr (5 * (I 67 9))) + 2)).toNat x4) 71 (zwr ((zwr (5 * (I 67 9))) + 3)).toNat 0) 71 (zwr ((zwr (5 * (I 67 9))) + 4)).toNat x1) 67 9) + 1)) - 1)))) (c, (z2 (z2 (z2 (z2 (z2 (z2 I 71 (zwr (5 * (I 67 9))).toNat x2) 71 (zwr ((zwr (5 * (I 67 9))) + 1)).toNat x3) 71 (zwr ((zwr (5 * (I 67 9))) + 2)).toNat x4) 71 (zwr ((zwr (5 * (I 67 9))) + 3)).toNat 0) 71 (zwr ((zwr (5 * (I 67 9))) + 4)).toNat x1) 67 9 (zwr (((z2 (z2 (z2 (z2 (z2 I 71 (zwr (5 * (I 67 9))).toNat x2) 71 (zwr ((zwr (5 * (I 67 9))) + 1)).toNat x3) 71 (zwr ((zwr (5 * (I 67 9))) + 2)).toNat x4) 71 (zwr ((zwr (5 * (I 67 9))) + 3)).toNat 0) 71 (zwr ((zwr (5 * (I 67 9))) + 4)).toNat x1) 67 9) + 1))), zRg g)))))))) ∧ (¬ (I 67 9 ≠ 5) → (Q (some (zi (-4))) (c, I, zRg g))))) ∧ (¬ (s0 ≠ 0) → (Q (some (zi (-2))) (c, I, zRg g)))) :
    zRn (zcl d) 139 B Q 46 [some (zr 67), some (zi x1), some (zi x2), some (zi x3), some (zi x4), none] [zi s0] (c, I, zRg g) :=
  zgo [9, 21, 33, 46] 53 (And.intro (fun u393 => And.intro rfl (And.intro (fun u394 => And.intro rfl (And.intro rfl (Exists.intro (some 71) (And.intro rfl (And.intro rfl (And.intro ((t.1 u393).1 u394).1 (And.intro rfl (Exists.intro (some 71) (And.intro rfl (And.intro rfl (And.intro ((t.1 u393).1 u394).2.1 (And.intro rfl (Exists.intro (some 71) (And.intro rfl (And.intro rfl (And.intro ((t.1 u393).1 u394).2.2.1 (And.intro rfl (Exists.intro (some 71) (And.intro rfl (And.intro rfl (And.intro ((t.1 u393).1 u394).2.2.2.1 (And.intro rfl (Exists.intro (some 71) (And.intro rfl (And.intro rfl (And.intro ((t.1 u393).1 u394).2.2.2.2.1 (And.intro rfl (And.intro rfl (And.intro rfl (((t.1 u393).1 u394).2.2.2.2.2)))))))))))))))))))))))))))))) (fun u394 => ((t.1 u393).2 u394)))) (fun u393 => (t.2 u393)))
theorem g_x12_told_0 {d : Nat} {B : Nat × Nat} {Q : zQ} {c : Nat × Nat × Nat} {I : Nat → Nat → Int} {g : Nat} {x1 x2 : Int}
    (t : zcl d 130 0 0 [zl x2, zl 0, zl 8] (c, I, zRg g) (fun v h1 => zRn (zcl d) 140 B Q 9 [some (zr 67), some (zi x1), some (zi x2)] (zva v []) h1)) :
    zRn (zcl d) 140 B Q 0 [some (zr 67), some (zi x1), some (zi x2)] [] (c, I, zRg g) :=
  zgo [9, 18] 4 (And.intro (Nat.le_of_ble_eq_true rfl) (Exists.intro 0 (Exists.intro 0 (And.intro (Or.inl rfl) (And.intro (Or.inl rfl) t)))))
theorem g_x12_told_9 {d : Nat} {B : Nat × Nat} {Q : zQ} {c : Nat × Nat × Nat} {I : Nat → Nat → Int} {g : Nat} {x1 x2 s0 : Int}
    (t : (s0 = 0 → (Q (some (zi (-1000))) (c, I, zRg g))) ∧ (¬ (s0 = 0) → (zcl d 135 0 0 [zr 67, zi x2, zi x1] (c, I, zRg g) (fun v h1 => zRn (zcl d) 140 B Q 18 [some (zr 67), some (zi x1), some (zi x2)] (zva v []) h1)))) :
    zRn (zcl d) 140 B Q 9 [some (zr 67), some (zi x1), some (zi x2)] [zi s0] (c, I, zRg g) :=
  zgo [9, 18] 4 (And.intro (fun u395 => (t.1 u395)) (fun u395 => Exists.intro 135 (And.intro rfl (And.intro (Nat.le_of_ble_eq_true rfl) (Exists.intro 0 (Exists.intro 0 (And.intro (Or.inl rfl) (And.intro (Or.inl rfl) (t.2 u395)))))))))
theorem g_x12_told_18 {d : Nat} {B : Nat × Nat} {Q : zQ} {c : Nat × Nat × Nat} {I : Nat → Nat → Int} {g : Nat} {x1 x2 s0 : Int}
    (t : (s0 ≠ 0 → ((6 ≤ x2 → ((x2 ≠ 6 → ((x2 ≠ 7 → (Q (some (zi (I 67 12))) (c, I, zRg g))) ∧ (¬ (x2 ≠ 7) → (Q (some (zi (I 67 11))) (c, I, zRg g))))) ∧ (¬ (x2 ≠ 6) → ((0 ≤ x1 ∧ x1 < 8) ∧ (Q (some (zi (I 72 x1.toNat))) (c, I, zRg g)))))) ∧ (¬ (6 ≤ x2) → ((x2 ≠ 0 → ((0 ≤ zwr ((zwr ((zwr (5 * x1)) + x2)) - 1) ∧ zwr ((zwr ((zwr (5 * x1)) + x2)) - 1) < 25) ∧ (Q (some (zi (I 71 ((zwr ((zwr ((zwr (5 * x1)) + x2)) - 1)).toNat)))) (c, I, zRg g)))) ∧ (¬ (x2 ≠ 0) → (Q (some (zi (I 67 7))) (c, I, zRg g))))))) ∧ (¬ (s0 ≠ 0) → (Q (some (zi (-1000))) (c, I, zRg g)))) :
    zRn (zcl d) 140 B Q 18 [some (zr 67), some (zi x1), some (zi x2)] [zi s0] (c, I, zRg g) :=
  zgo [9, 18] 16 (And.intro (fun u396 => And.intro (fun u397 => And.intro (fun u398 => And.intro (fun u399 => And.intro rfl ((((t.1 u396).1 u397).1 u398).1 u399)) (fun u399 => And.intro rfl ((((t.1 u396).1 u397).1 u398).2 u399))) (fun u398 => And.intro rfl (Exists.intro (some 72) (And.intro rfl (And.intro rfl (And.intro (((t.1 u396).1 u397).2 u398).1 ((((t.1 u396).1 u397).2 u398).2))))))) (fun u397 => And.intro (fun u400 => And.intro rfl (Exists.intro (some 71) (And.intro rfl (And.intro rfl (And.intro (((t.1 u396).2 u397).1 u400).1 ((((t.1 u396).2 u397).1 u400).2)))))) (fun u400 => And.intro rfl (((t.1 u396).2 u397).2 u400)))) (fun u396 => (t.2 u396)))
theorem g_x12_brings_0 {d : Nat} {B : Nat × Nat} {Q : zQ} {c : Nat × Nat × Nat} {I : Nat → Nat → Int} {g : Nat} {x1 : Int}
    (t : zcl d 130 0 0 [zl x1, zl 1, zl 1023] (c, I, zRg g) (fun v h1 => zRn (zcl d) 141 B Q 9 [some (zr 67), some (zi x1)] (zva v []) h1)) :
    zRn (zcl d) 141 B Q 0 [some (zr 67), some (zi x1)] [] (c, I, zRg g) :=
  zgo [9] 4 (And.intro (Nat.le_of_ble_eq_true rfl) (Exists.intro 0 (Exists.intro 0 (And.intro (Or.inl rfl) (And.intro (Or.inl rfl) t)))))
theorem g_x12_brings_9 {d : Nat} {B : Nat × Nat} {Q : zQ} {c : Nat × Nat × Nat} {I : Nat → Nat → Int} {g : Nat} {x1 s0 : Int}
    (t : (s0 ≠ 0 → ((I 67 11 ≠ 8 → ((0 ≤ I 67 11 ∧ I 67 11 < 8) ∧ (Q (some (zi (zwr (((z2 I 72 (I 67 11).toNat x1) 67 11) + 1)))) (c, (z2 (z2 I 72 (I 67 11).toNat x1) 67 11 (zwr (((z2 I 72 (I 67 11).toNat x1) 67 11) + 1))), zRg g)))) ∧ (¬ (I 67 11 ≠ 8) → (Q (some (zi (-4))) (c, I, zRg g))))) ∧ (¬ (s0 ≠ 0) → (Q (some (zi (-2))) (c, I, zRg g)))) :
    zRn (zcl d) 141 B Q 9 [some (zr 67), some (zi x1)] [zi s0] (c, I, zRg g) :=
  zgo [9] 19 (And.intro (fun u401 => And.intro rfl (And.intro (fun u402 => And.intro rfl (Exists.intro (some 72) (And.intro rfl (And.intro rfl (And.intro rfl (And.intro ((t.1 u401).1 u402).1 (And.intro rfl (And.intro rfl (And.intro rfl (((t.1 u401).1 u402).2)))))))))) (fun u402 => ((t.1 u401).2 u402)))) (fun u401 => (t.2 u401)))
theorem g_x12_feed_0 {d : Nat} {B : Nat × Nat} {Q : zQ} {c : Nat × Nat × Nat} {I : Nat → Nat → Int} {g : Nat} {x1 : Int}
    (t : zcl d 130 0 0 [zl x1, zl 0, zl 255] (c, I, zRg g) (fun v h1 => zRn (zcl d) 142 B Q 9 [some (zr 67), some (zi x1)] (zva v []) h1)) :
    zRn (zcl d) 142 B Q 0 [some (zr 67), some (zi x1)] [] (c, I, zRg g) :=
  zgo [9] 4 (And.intro (Nat.le_of_ble_eq_true rfl) (Exists.intro 0 (Exists.intro 0 (And.intro (Or.inl rfl) (And.intro (Or.inl rfl) t)))))
theorem g_x12_feed_9 {d : Nat} {B : Nat × Nat} {Q : zQ} {c : Nat × Nat × Nat} {I : Nat → Nat → Int} {g : Nat} {x1 s0 : Int}
    (t : (s0 ≠ 0 → ((I 67 6 ≠ 160 → ((0 ≤ I 67 6 ∧ I 67 6 < 160) ∧ (Q (some (zi (zwr (((z2 I 70 (I 67 6).toNat x1) 67 6) + 1)))) (c, (z2 (z2 I 70 (I 67 6).toNat x1) 67 6 (zwr (((z2 I 70 (I 67 6).toNat x1) 67 6) + 1))), zRg g)))) ∧ (¬ (I 67 6 ≠ 160) → (Q (some (zi (-4))) (c, I, zRg g))))) ∧ (¬ (s0 ≠ 0) → (Q (some (zi (-2))) (c, I, zRg g)))) :
    zRn (zcl d) 142 B Q 9 [some (zr 67), some (zi x1)] [zi s0] (c, I, zRg g) :=
  zgo [9] 19 (And.intro (fun u403 => And.intro rfl (And.intro (fun u404 => And.intro rfl (Exists.intro (some 70) (And.intro rfl (And.intro rfl (And.intro rfl (And.intro ((t.1 u403).1 u404).1 (And.intro rfl (And.intro rfl (And.intro rfl (((t.1 u403).1 u404).2)))))))))) (fun u404 => ((t.1 u403).2 u404)))) (fun u403 => (t.2 u403)))
theorem g_x12_byteAt_0 {d : Nat} {B : Nat × Nat} {Q : zQ} {c : Nat × Nat × Nat} {I : Nat → Nat → Int} {g : Nat} {x1 : Int}
    (t : (I 67 21 ≤ x1 → (Q (some (zi (-1))) (c, I, zRg g))) ∧ (¬ (I 67 21 ≤ x1) → ((0 ≤ zwr ((I 67 20) + x1) ∧ zwr ((I 67 20) + x1) < 960) ∧ (Q (some (zi (I 68 ((zwr ((I 67 20) + x1)).toNat)))) (c, I, zRg g))))) :
    zRn (zcl d) 143 B Q 0 [some (zr 67), some (zi x1)] [] (c, I, zRg g) :=
  zgo [] 12 (And.intro rfl (And.intro (fun u405 => (t.1 u405)) (fun u405 => And.intro rfl (Exists.intro (some 68) (And.intro rfl (And.intro rfl (And.intro rfl (And.intro (t.2 u405).1 ((t.2 u405).2)))))))))
theorem g_x12_next_0 {d : Nat} {B : Nat × Nat} {Q : zQ} {c : Nat × Nat × Nat} {I : Nat → Nat → Int} {g : Nat}
    (t : zcl d 143 0 0 [zr 67, zi (I 67 22)] (c, I, zRg g) (fun v h1 => zRn (zcl d) 144 B Q 8 [some (zr 67), none, none] (zva v []) h1)) :
    zRn (zcl d) 144 B Q 0 [some (zr 67), none, none] [] (c, I, zRg g) :=
  zgo [0, 8, 21, 55, 92, 100, 108, 118, 145, 160, 168, 178, 203] 3 (And.intro rfl (Exists.intro 143 (And.intro rfl (And.intro (Nat.le_of_ble_eq_true rfl) (Exists.intro 0 (Exists.intro 0 (And.intro (Or.inl rfl) (And.intro (Or.inl rfl) t))))))))
theorem g_x12_next_8 {d : Nat} {B : Nat × Nat} {Q : zQ} {c : Nat × Nat × Nat} {I : Nat → Nat → Int} {g : Nat} {s0 : Int}
    (t : (s0 = 32 → (zRn (zcl d) 144 B Q 0 [some (zr 67), none, none] [] (c, (z2 I 67 22 (zwr ((I 67 22) + 1))), zRg g))) ∧ (¬ (s0 = 32) → (zcl d 143 0 0 [zr 67, zi (I 67 22)] (c, I, zRg g) (fun v h1 => zRn (zcl d) 144 B Q 21 [some (zr 67), none, none] (zva v []) h1)))) :
    zRn (zcl d) 144 B Q 8 [some (zr 67), none, none] [zi s0] (c, I, zRg g) :=
  zgo [0, 8, 21, 55, 92, 100, 108, 118, 145, 160, 168, 178, 203] 9 (And.intro (fun u406 => And.intro rfl (And.intro rfl (t.1 u406))) (fun u406 => And.intro rfl (Exists.intro 143 (And.intro rfl (And.intro (Nat.le_of_ble_eq_true rfl) (Exists.intro 0 (Exists.intro 0 (And.intro (Or.inl rfl) (And.intro (Or.inl rfl) (t.2 u406))))))))))
theorem g_x12_next_21 {d : Nat} {B : Nat × Nat} {Q : zQ} {c : Nat × Nat × Nat} {I : Nat → Nat → Int} {g : Nat} {s0 : Int}
    (t : (s0 ≠ 10 → (zcl d 143 0 0 [zr 67, zi (I 67 22)] (c, (z2 I 67 24 (I 67 22)), zRg g) (fun v h1 => zRn (zcl d) 144 B Q 55 [some (zr 67), none, none] (zva v []) h1))) ∧ (¬ (s0 ≠ 10) → (zRn (zcl d) 144 B Q 0 [some (zr 67), none, none] [] (c, (z2 I 67 22 (zwr ((I 67 22) + 1))), zRg g)))) :
    zRn (zcl d) 144 B Q 21 [some (zr 67), none, none] [zi s0] (c, I, zRg g) :=
  zgo [0, 8, 21, 55, 92, 100, 108, 118, 145, 160, 168, 178, 203] 9 (And.intro (fun u407 => And.intro rfl (And.intro rfl (And.intro rfl (Exists.intro 143 (And.intro rfl (And.intro (Nat.le_of_ble_eq_true rfl) (Exists.intro 0 (Exists.intro 0 (And.intro (Or.inl rfl) (And.intro (Or.inl rfl) (t.1 u407))))))))))) (fun u407 => And.intro rfl (And.intro rfl (t.2 u407))))
theorem g_x12_next_55 {d : Nat} {B : Nat × Nat} {Q : zQ} {c : Nat × Nat × Nat} {I : Nat → Nat → Int} {g : Nat} {s0 : Int}
    (t : (0 ≤ s0 → (zcl d 130 0 0 [zl s0, zl 97, zl 122] (c, (z2 I 67 23 4), zRg g) (fun v h1 => zRn (zcl d) 144 B Q 92 [some (zr 67), some (zi s0), none] (zva v []) h1))) ∧ (¬ (0 ≤ s0) → (Q none (c, (z2 (z2 (z2 I 67 23 4) 67 23 0) 67 24 (I 67 21)), zRg g)))) :
    zRn (zcl d) 144 B Q 55 [some (zr 67), none, none] [zi s0] (c, I, zRg g) :=
  zgo [0, 8, 21, 55, 92, 100, 108, 118, 145, 160, 168, 178, 203] 14 (And.intro rfl (And.intro (fun u408 => And.intro (Nat.le_of_ble_eq_true rfl) (Exists.intro 0 (Exists.intro 0 (And.intro (Or.inl rfl) (And.intro (Or.inl rfl) (t.1 u408)))))) (fun u408 => And.intro rfl (And.intro rfl (And.intro rfl (t.2 u408))))))
theorem g_x12_next_92 {d : Nat} {B : Nat × Nat} {Q : zQ} {c : Nat × Nat × Nat} {I : Nat → Nat → Int} {g : Nat} {x1 s0 : Int}
    (t : (s0 = 0 → (zcl d 130 0 0 [zl x1, zl 48, zl 57] (c, I, zRg g) (fun v h1 => zRn (zcl d) 144 B Q 145 [some (zr 67), some (zi x1), none] (zva v []) h1))) ∧ (¬ (s0 = 0) → (zRn (zcl d) 144 B Q 100 [some (zr 67), some (zi x1), none] [] (c, (z2 I 67 23 1), zRg g)))) :
    zRn (zcl d) 144 B Q 92 [some (zr 67), some (zi x1), none] [zi s0] (c, I, zRg g) :=
  zgo [0, 8, 21, 55, 92, 100, 108, 118, 145, 160, 168, 178, 203] 5 (And.intro (fun u409 => And.intro (Nat.le_of_ble_eq_true rfl) (Exists.intro 0 (Exists.intro 0 (And.intro (Or.inl rfl) (And.intro (Or.inl rfl) (t.1 u409)))))) (fun u409 => And.intro rfl (t.2 u409)))
theorem g_x12_next_100 {d : Nat} {B : Nat × Nat} {Q : zQ} {c : Nat × Nat × Nat} {I : Nat → Nat → Int} {g : Nat} {x1 : Int}
    (t : zcl d 143 0 0 [zr 67, zi (I 67 22)] (c, I, zRg g) (fun v h1 => zRn (zcl d) 144 B Q 108 [some (zr 67), some (zi x1), none] (zva v []) h1)) :
    zRn (zcl d) 144 B Q 100 [some (zr 67), some (zi x1), none] [] (c, I, zRg g) :=
  zgo [0, 8, 21, 55, 92, 100, 108, 118, 145, 160, 168, 178, 203] 3 (And.intro rfl (Exists.intro 143 (And.intro rfl (And.intro (Nat.le_of_ble_eq_true rfl) (Exists.intro 0 (Exists.intro 0 (And.intro (Or.inl rfl) (And.intro (Or.inl rfl) t))))))))
theorem g_x12_next_108 {d : Nat} {B : Nat × Nat} {Q : zQ} {c : Nat × Nat × Nat} {I : Nat → Nat → Int} {g : Nat} {x1 s0 : Int}
    (t : zcl d 130 0 0 [zl s0, zl 97, zl 122] (c, I, zRg g) (fun v h1 => zRn (zcl d) 144 B Q 118 [some (zr 67), some (zi x1), none] (zva v []) h1)) :
    zRn (zcl d) 144 B Q 108 [some (zr 67), some (zi x1), none] [zi s0] (c, I, zRg g) :=
  zgo [0, 8, 21, 55, 92, 100, 108, 118, 145, 160, 168, 178, 203] 3 (And.intro (Nat.le_of_ble_eq_true rfl) (Exists.intro 0 (Exists.intro 0 (And.intro (Or.inl rfl) (And.intro (Or.inl rfl) t)))))
theorem g_x12_next_118 {d : Nat} {B : Nat × Nat} {Q : zQ} {c : Nat × Nat × Nat} {I : Nat → Nat → Int} {g : Nat} {x1 s0 : Int}
    (t : (s0 = 0 → (Q none (c, I, zRg g))) ∧ (¬ (s0 = 0) → (zRn (zcl d) 144 B Q 100 [some (zr 67), some (zi x1), none] [] (c, (z2 I 67 22 (zwr ((I 67 22) + 1))), zRg g)))) :
    zRn (zcl d) 144 B Q 118 [some (zr 67), some (zi x1), none] [zi s0] (c, I, zRg g) :=
  zgo [0, 8, 21, 55, 92, 100, 108, 118, 145, 160, 168, 178, 203] 8 (And.intro (fun u419 => (t.1 u419)) (fun u419 => And.intro rfl (And.intro rfl (t.2 u419))))
theorem g_x12_next_145 {d : Nat} {B : Nat × Nat} {Q : zQ} {c : Nat × Nat × Nat} {I : Nat → Nat → Int} {g : Nat} {x1 s0 : Int}
    (t : (s0 = 0 → ((x1 = 40 → (Q none (c, (z2 (z2 (z2 I 67 23 3) 67 25 x1) 67 22 (zwr ((I 67 22) + 1))), zRg g))) ∧ (¬ (x1 = 40) → ((x1 = 41 → (Q none (c, (z2 (z2 (z2 I 67 23 3) 67 25 x1) 67 22 (zwr ((I 67 22) + 1))), zRg g))) ∧ (¬ (x1 = 41) → ((x1 = 59 → (Q none (c, (z2 (z2 (z2 I 67 23 3) 67 25 x1) 67 22 (zwr ((I 67 22) + 1))), zRg g))) ∧ (¬ (x1 = 59) → ((x1 = 43 → (Q none (c, (z2 (z2 (z2 I 67 23 3) 67 25 x1) 67 22 (zwr ((I 67 22) + 1))), zRg g))) ∧ (¬ (x1 = 43) → ((x1 = 45 → (Q none (c, (z2 (z2 (z2 I 67 23 3) 67 25 x1) 67 22 (zwr ((I 67 22) + 1))), zRg g))) ∧ (¬ (x1 = 45) → ((x1 = 42 → (Q none (c, (z2 (z2 (z2 I 67 23 3) 67 25 x1) 67 22 (zwr ((I 67 22) + 1))), zRg g))) ∧ (¬ (x1 = 42) → ((x1 = 60 → (Q none (c, (z2 (z2 (z2 I 67 23 3) 67 25 x1) 67 22 (zwr ((I 67 22) + 1))), zRg g))) ∧ (¬ (x1 = 60) → ((x1 ≠ 61 → (Q none (c, I, zRg g))) ∧ (¬ (x1 ≠ 61) → (Q none (c, (z2 (z2 (z2 I 67 23 3) 67 25 x1) 67 22 (zwr ((I 67 22) + 1))), zRg g))))))))))))))))))) ∧ (¬ (s0 = 0) → (zRn (zcl d) 144 B Q 160 [some (zr 67), some (zi x1), some (zi 0)] [] (c, (z2 (z2 I 67 23 2) 67 25 0), zRg g)))) :
    zRn (zcl d) 144 B Q 145 [some (zr 67), some (zi x1), none] [zi s0] (c, I, zRg g) :=
  zgo [0, 8, 21, 55, 92, 100, 108, 118, 145, 160, 168, 178, 203] 38 (And.intro (fun u410 => And.intro (fun u411 => And.intro rfl (And.intro rfl (And.intro rfl (And.intro rfl ((t.1 u410).1 u411))))) (fun u411 => And.intro (fun u412 => And.intro rfl (And.intro rfl (And.intro rfl (And.intro rfl (((t.1 u410).2 u411).1 u412))))) (fun u412 => And.intro (fun u413 => And.intro rfl (And.intro rfl (And.intro rfl (And.intro rfl ((((t.1 u410).2 u411).2 u412).1 u413))))) (fun u413 => And.intro (fun u414 => And.intro rfl (And.intro rfl (And.intro rfl (And.intro rfl (((((t.1 u410).2 u411).2 u412).2 u413).1 u414))))) (fun u414 => And.intro (fun u415 => And.intro rfl (And.intro rfl (And.intro rfl (And.intro rfl ((((((t.1 u410).2 u411).2 u412).2 u413).2 u414).1 u415))))) (fun u415 => And.intro (fun u416 => And.intro rfl (And.intro rfl (And.intro rfl (And.intro rfl (((((((t.1 u410).2 u411).2 u412).2 u413).2 u414).2 u415).1 u416))))) (fun u416 => And.intro (fun u417 => And.intro rfl (And.intro rfl (And.intro rfl (And.intro rfl ((((((((t.1 u410).2 u411).2 u412).2 u413).2 u414).2 u415).2 u416).1 u417))))) (fun u417 => And.intro (fun u418 => (((((((((t.1 u410).2 u411).2 u412).2 u413).2 u414).2 u415).2 u416).2 u417).1 u418)) (fun u418 => And.intro rfl (And.intro rfl (And.intro rfl (And.intro rfl (((((((((t.1 u410).2 u411).2 u412).2 u413).2 u414).2 u415).2 u416).2 u417).2 u418))))))))))))) (fun u410 => And.intro rfl (And.intro rfl (t.2 u410))))
theorem g_x12_next_160 {d : Nat} {B : Nat × Nat} {Q : zQ} {c : Nat × Nat × Nat} {I : Nat → Nat → Int} {g : Nat} {x1 x2 : Int}
    (t : zcl d 143 0 0 [zr 67, zi (I 67 22)] (c, I, zRg g) (fun v h1 => zRn (zcl d) 144 B Q 168 [some (zr 67), some (zi x1), some (zi x2)] (zva v []) h1)) :
    zRn (zcl d) 144 B Q 160 [some (zr 67), some (zi x1), some (zi x2)] [] (c, I, zRg g) :=
  zgo [0, 8, 21, 55, 92, 100, 108, 118, 145, 160, 168, 178, 203] 3 (And.intro rfl (Exists.intro 143 (And.intro rfl (And.intro (Nat.le_of_ble_eq_true rfl) (Exists.intro 0 (Exists.intro 0 (And.intro (Or.inl rfl) (And.intro (Or.inl rfl) t))))))))
theorem g_x12_next_168 {d : Nat} {B : Nat × Nat} {Q : zQ} {c : Nat × Nat × Nat} {I : Nat → Nat → Int} {g : Nat} {x1 x2 s0 : Int}
    (t : zcl d 130 0 0 [zl s0, zl 48, zl 57] (c, I, zRg g) (fun v h1 => zRn (zcl d) 144 B Q 178 [some (zr 67), some (zi x1), some (zi x2)] (zva v []) h1)) :
    zRn (zcl d) 144 B Q 168 [some (zr 67), some (zi x1), some (zi x2)] [zi s0] (c, I, zRg g) :=
  zgo [0, 8, 21, 55, 92, 100, 108, 118, 145, 160, 168, 178, 203] 3 (And.intro (Nat.le_of_ble_eq_true rfl) (Exists.intro 0 (Exists.intro 0 (And.intro (Or.inl rfl) (And.intro (Or.inl rfl) t)))))
theorem g_x12_next_178 {d : Nat} {B : Nat × Nat} {Q : zQ} {c : Nat × Nat × Nat} {I : Nat → Nat → Int} {g : Nat} {x1 x2 s0 : Int}
    (t : (s0 = 0 → ((x2 ≤ 4 → (Q none (c, (z2 I 67 23 2), zRg g))) ∧ (¬ (x2 ≤ 4) → (Q none (c, (z2 I 67 23 4), zRg g))))) ∧ (¬ (s0 = 0) → ((4 ≤ x2 → (zRn (zcl d) 144 B Q 160 [some (zr 67), some (zi x1), some (zi (zwr (x2 + 1)))] [] (c, (z2 (z2 I 67 25 (I 67 25)) 67 22 (zwr ((I 67 22) + 1))), zRg g))) ∧ (¬ (4 ≤ x2) → (zcl d 143 0 0 [zr 67, zi (I 67 22)] (c, I, zRg g) (fun v h1 => zRn (zcl d) 144 B Q 203 [some (zr 67), some (zi x1), some (zi x2)] (zva v [zl (zwl (10 * (I 67 25))), zr 67]) h1)))))) :
    zRn (zcl d) 144 B Q 178 [some (zr 67), some (zi x1), some (zi x2)] [zi s0] (c, I, zRg g) :=
  zgo [0, 8, 21, 55, 92, 100, 108, 118, 145, 160, 168, 178, 203] 16 (And.intro (fun u420 => And.intro (fun u421 => And.intro rfl ((t.1 u420).1 u421)) (fun u421 => And.intro rfl ((t.1 u420).2 u421))) (fun u420 => And.intro (fun u422 => And.intro rfl (And.intro rfl (And.intro rfl (And.intro rfl ((t.2 u420).1 u422))))) (fun u422 => And.intro rfl (And.intro rfl (Exists.intro 143 (And.intro rfl (And.intro (Nat.le_of_ble_eq_true rfl) (Exists.intro 0 (Exists.intro 0 (And.intro (Or.inl rfl) (And.intro (Or.inl rfl) ((t.2 u420).2 u422))))))))))))
theorem g_x12_next_203 {d : Nat} {B : Nat × Nat} {Q : zQ} {c : Nat × Nat × Nat} {I : Nat → Nat → Int} {g : Nat} {x1 x2 s0 s1 : Int}
    (t : zRn (zcl d) 144 B Q 160 [some (zr 67), some (zi x1), some (zi (zwr (x2 + 1)))] [] (c, (z2 (z2 I 67 25 (zwl ((zwl (s1 + s0)) - 48))) 67 22 (zwr ((I 67 22) + 1))), zRg g)) :
    zRn (zcl d) 144 B Q 203 [some (zr 67), some (zi x1), some (zi x2)] [zi s0, zl s1, zr 67] (c, I, zRg g) :=
  zgo [0, 8, 21, 55, 92, 100, 108, 118, 145, 160, 168, 178, 203] 14 (And.intro rfl (And.intro rfl (And.intro rfl t)))
theorem g_x12_fail_0 {d : Nat} {B : Nat × Nat} {Q : zQ} {c : Nat × Nat × Nat} {I : Nat → Nat → Int} {g : Nat}
    (t : (I 67 27 ≠ 0 → (Q none (c, I, zRg g))) ∧ (¬ (I 67 27 ≠ 0) → (Q none (c, (z2 (z2 I 67 27 1) 67 28 (I 67 24)), zRg g)))) :
    zRn (zcl d) 145 B Q 0 [some (zr 67)] [] (c, I, zRg g) :=
  zgo [] 10 (And.intro rfl (And.intro (fun u423 => (t.1 u423)) (fun u423 => And.intro rfl (And.intro (Or.inr rfl) (And.intro rfl (And.intro rfl (t.2 u423)))))))
theorem g_x12_isLetter_0 {d : Nat} {B : Nat × Nat} {Q : zQ} {c : Nat × Nat × Nat} {I : Nat → Nat → Int} {g : Nat} {x1 x2 : Int}
    (t : (I 67 22 ≤ zwr ((I 67 24) + x1) → ((x2 ≠ 0 → (Q (some (zi 0)) (c, I, zRg g))) ∧ (¬ (x2 ≠ 0) → (Q (some (zi 1)) (c, I, zRg g))))) ∧ (¬ (I 67 22 ≤ zwr ((I 67 24) + x1)) → (zcl d 143 0 0 [zr 67, zi (zwr ((I 67 24) + x1))] (c, I, zRg g) (fun v h1 => zRn (zcl d) 146 B Q 23 [some (zr 67), some (zi x1), some (zi x2)] (zva v []) h1)))) :
    zRn (zcl d) 146 B Q 0 [some (zr 67), some (zi x1), some (zi x2)] [] (c, I, zRg g) :=
  zgo [23] 12 (And.intro rfl (And.intro rfl (And.intro (fun u424 => And.intro (fun u425 => And.intro (Or.inl rfl) ((t.1 u424).1 u425)) (fun u425 => And.intro (Or.inr rfl) ((t.1 u424).2 u425))) (fun u424 => And.intro rfl (Exists.intro 143 (And.intro rfl (And.intro (Nat.le_of_ble_eq_true rfl) (Exists.intro 0 (Exists.intro 0 (And.intro (Or.inl rfl) (And.intro (Or.inl rfl) (t.2 u424))))))))))))
theorem g_x12_isLetter_23 {d : Nat} {B : Nat × Nat} {Q : zQ} {c : Nat × Nat × Nat} {I : Nat → Nat → Int} {g : Nat} {x1 x2 s0 : Int}
    (t : (s0 ≠ x2 → (Q (some (zi 0)) (c, I, zRg g))) ∧ (¬ (s0 ≠ x2) → (Q (some (zi 1)) (c, I, zRg g)))) :
    zRn (zcl d) 146 B Q 23 [some (zr 67), some (zi x1), some (zi x2)] [zi s0] (c, I, zRg g) :=
  zgo [23] 4 (And.intro (fun u426 => And.intro (Or.inl rfl) (t.1 u426)) (fun u426 => And.intro (Or.inr rfl) (t.2 u426)))
theorem g_x12_isWord_0 {d : Nat} {B : Nat × Nat} {Q : zQ} {c : Nat × Nat × Nat} {I : Nat → Nat → Int} {g : Nat} {x1 x2 x3 x4 x5 x6 x7 x8 : Int}
    (t : (I 67 27 ≠ 0 → (Q (some (zi 0)) (c, I, zRg g))) ∧ (¬ (I 67 27 ≠ 0) → ((I 67 23 ≠ 1 → (Q (some (zi 0)) (c, I, zRg g))) ∧ (¬ (I 67 23 ≠ 1) → ((zwr ((I 67 24) + 8) < I 67 22 → (Q (some (zi 0)) (c, I, zRg g))) ∧ (¬ (zwr ((I 67 24) + 8) < I 67 22) → (zcl d 146 0 0 [zr 67, zi 0, zi x1] (c, I, zRg g) (fun v h1 => zRn (zcl d) 147 B Q 35 [some (zr 67), some (zi x1), some (zi x2), some (zi x3), some (zi x4), some (zi x5), some (zi x6), some (zi x7), some (zi x8)] (zva v []) h1)))))))) :
    zRn (zcl d) 147 B Q 0 [some (zr 67), some (zi x1), some (zi x2), some (zi x3), some (zi x4), some (zi x5), some (zi x6), some (zi x7), some (zi x8)] [] (c, I, zRg g) :=
  zgo [35, 44, 53, 63, 73, 83, 94, 105] 17 (And.intro rfl (And.intro (fun u427 => And.intro (Or.inl rfl) (t.1 u427)) (fun u427 => And.intro rfl (And.intro (fun u428 => And.intro (Or.inl rfl) ((t.2 u427).1 u428)) (fun u428 => And.intro rfl (And.intro rfl (And.intro (fun u429 => And.intro (Or.inl rfl) (((t.2 u427).2 u428).1 u429)) (fun u429 => Exists.intro 146 (And.intro rfl (And.intro (Nat.le_of_ble_eq_true rfl) (Exists.intro 0 (Exists.intro 0 (And.intro (Or.inl rfl) (And.intro (Or.inl rfl) (((t.2 u427).2 u428).2 u429)))))))))))))))
theorem g_x12_isWord_35 {d : Nat} {B : Nat × Nat} {Q : zQ} {c : Nat × Nat × Nat} {I : Nat → Nat → Int} {g : Nat} {x1 x2 x3 x4 x5 x6 x7 x8 s0 : Int}
    (t : (s0 = 0 → (Q (some (zi 0)) (c, I, zRg g))) ∧ (¬ (s0 = 0) → (zcl d 146 0 0 [zr 67, zi 1, zi x2] (c, I, zRg g) (fun v h1 => zRn (zcl d) 147 B Q 44 [some (zr 67), some (zi x1), some (zi x2), some (zi x3), some (zi x4), some (zi x5), some (zi x6), some (zi x7), some (zi x8)] (zva v []) h1)))) :
    zRn (zcl d) 147 B Q 35 [some (zr 67), some (zi x1), some (zi x2), some (zi x3), some (zi x4), some (zi x5), some (zi x6), some (zi x7), some (zi x8)] [zi s0] (c, I, zRg g) :=
  zgo [35, 44, 53, 63, 73, 83, 94, 105] 4 (And.intro (fun u430 => And.intro (Or.inl rfl) (t.1 u430)) (fun u430 => Exists.intro 146 (And.intro rfl (And.intro (Nat.le_of_ble_eq_true rfl) (Exists.intro 0 (Exists.intro 0 (And.intro (Or.inl rfl) (And.intro (Or.inl rfl) (t.2 u430)))))))))
theorem g_x12_isWord_44 {d : Nat} {B : Nat × Nat} {Q : zQ} {c : Nat × Nat × Nat} {I : Nat → Nat → Int} {g : Nat} {x1 x2 x3 x4 x5 x6 x7 x8 s0 : Int}
    (t : (s0 = 0 → (Q (some (zi 0)) (c, I, zRg g))) ∧ (¬ (s0 = 0) → (zcl d 146 0 0 [zr 67, zi 2, zi x3] (c, I, zRg g) (fun v h1 => zRn (zcl d) 147 B Q 53 [some (zr 67), some (zi x1), some (zi x2), some (zi x3), some (zi x4), some (zi x5), some (zi x6), some (zi x7), some (zi x8)] (zva v []) h1)))) :
    zRn (zcl d) 147 B Q 44 [some (zr 67), some (zi x1), some (zi x2), some (zi x3), some (zi x4), some (zi x5), some (zi x6), some (zi x7), some (zi x8)] [zi s0] (c, I, zRg g) :=
  zgo [35, 44, 53, 63, 73, 83, 94, 105] 4 (And.intro (fun u431 => And.intro (Or.inl rfl) (t.1 u431)) (fun u431 => Exists.intro 146 (And.intro rfl (And.intro (Nat.le_of_ble_eq_true rfl) (Exists.intro 0 (Exists.intro 0 (And.intro (Or.inl rfl) (And.intro (Or.inl rfl) (t.2 u431)))))))))
theorem g_x12_isWord_53 {d : Nat} {B : Nat × Nat} {Q : zQ} {c : Nat × Nat × Nat} {I : Nat → Nat → Int} {g : Nat} {x1 x2 x3 x4 x5 x6 x7 x8 s0 : Int}
    (t : (s0 = 0 → (Q (some (zi 0)) (c, I, zRg g))) ∧ (¬ (s0 = 0) → (zcl d 146 0 0 [zr 67, zi 3, zi x4] (c, I, zRg g) (fun v h1 => zRn (zcl d) 147 B Q 63 [some (zr 67), some (zi x1), some (zi x2), some (zi x3), some (zi x4), some (zi x5), some (zi x6), some (zi x7), some (zi x8)] (zva v []) h1)))) :
    zRn (zcl d) 147 B Q 53 [some (zr 67), some (zi x1), some (zi x2), some (zi x3), some (zi x4), some (zi x5), some (zi x6), some (zi x7), some (zi x8)] [zi s0] (c, I, zRg g) :=
  zgo [35, 44, 53, 63, 73, 83, 94, 105] 4 (And.intro (fun u432 => And.intro (Or.inl rfl) (t.1 u432)) (fun u432 => Exists.intro 146 (And.intro rfl (And.intro (Nat.le_of_ble_eq_true rfl) (Exists.intro 0 (Exists.intro 0 (And.intro (Or.inl rfl) (And.intro (Or.inl rfl) (t.2 u432)))))))))
theorem g_x12_isWord_63 {d : Nat} {B : Nat × Nat} {Q : zQ} {c : Nat × Nat × Nat} {I : Nat → Nat → Int} {g : Nat} {x1 x2 x3 x4 x5 x6 x7 x8 s0 : Int}
    (t : (s0 = 0 → (Q (some (zi 0)) (c, I, zRg g))) ∧ (¬ (s0 = 0) → (zcl d 146 0 0 [zr 67, zi 4, zi x5] (c, I, zRg g) (fun v h1 => zRn (zcl d) 147 B Q 73 [some (zr 67), some (zi x1), some (zi x2), some (zi x3), some (zi x4), some (zi x5), some (zi x6), some (zi x7), some (zi x8)] (zva v []) h1)))) :
    zRn (zcl d) 147 B Q 63 [some (zr 67), some (zi x1), some (zi x2), some (zi x3), some (zi x4), some (zi x5), some (zi x6), some (zi x7), some (zi x8)] [zi s0] (c, I, zRg g) :=
  zgo [35, 44, 53, 63, 73, 83, 94, 105] 4 (And.intro (fun u433 => And.intro (Or.inl rfl) (t.1 u433)) (fun u433 => Exists.intro 146 (And.intro rfl (And.intro (Nat.le_of_ble_eq_true rfl) (Exists.intro 0 (Exists.intro 0 (And.intro (Or.inl rfl) (And.intro (Or.inl rfl) (t.2 u433)))))))))
theorem g_x12_isWord_73 {d : Nat} {B : Nat × Nat} {Q : zQ} {c : Nat × Nat × Nat} {I : Nat → Nat → Int} {g : Nat} {x1 x2 x3 x4 x5 x6 x7 x8 s0 : Int}
    (t : (s0 = 0 → (Q (some (zi 0)) (c, I, zRg g))) ∧ (¬ (s0 = 0) → (zcl d 146 0 0 [zr 67, zi 5, zi x6] (c, I, zRg g) (fun v h1 => zRn (zcl d) 147 B Q 83 [some (zr 67), some (zi x1), some (zi x2), some (zi x3), some (zi x4), some (zi x5), some (zi x6), some (zi x7), some (zi x8)] (zva v []) h1)))) :
    zRn (zcl d) 147 B Q 73 [some (zr 67), some (zi x1), some (zi x2), some (zi x3), some (zi x4), some (zi x5), some (zi x6), some (zi x7), some (zi x8)] [zi s0] (c, I, zRg g) :=
  zgo [35, 44, 53, 63, 73, 83, 94, 105] 4 (And.intro (fun u434 => And.intro (Or.inl rfl) (t.1 u434)) (fun u434 => Exists.intro 146 (And.intro rfl (And.intro (Nat.le_of_ble_eq_true rfl) (Exists.intro 0 (Exists.intro 0 (And.intro (Or.inl rfl) (And.intro (Or.inl rfl) (t.2 u434)))))))))
theorem g_x12_isWord_83 {d : Nat} {B : Nat × Nat} {Q : zQ} {c : Nat × Nat × Nat} {I : Nat → Nat → Int} {g : Nat} {x1 x2 x3 x4 x5 x6 x7 x8 s0 : Int}
    (t : (s0 = 0 → (Q (some (zi 0)) (c, I, zRg g))) ∧ (¬ (s0 = 0) → (zcl d 146 0 0 [zr 67, zi 6, zi x7] (c, I, zRg g) (fun v h1 => zRn (zcl d) 147 B Q 94 [some (zr 67), some (zi x1), some (zi x2), some (zi x3), some (zi x4), some (zi x5), some (zi x6), some (zi x7), some (zi x8)] (zva v []) h1)))) :
    zRn (zcl d) 147 B Q 83 [some (zr 67), some (zi x1), some (zi x2), some (zi x3), some (zi x4), some (zi x5), some (zi x6), some (zi x7), some (zi x8)] [zi s0] (c, I, zRg g) :=
  zgo [35, 44, 53, 63, 73, 83, 94, 105] 4 (And.intro (fun u435 => And.intro (Or.inl rfl) (t.1 u435)) (fun u435 => Exists.intro 146 (And.intro rfl (And.intro (Nat.le_of_ble_eq_true rfl) (Exists.intro 0 (Exists.intro 0 (And.intro (Or.inl rfl) (And.intro (Or.inl rfl) (t.2 u435)))))))))
theorem g_x12_isWord_94 {d : Nat} {B : Nat × Nat} {Q : zQ} {c : Nat × Nat × Nat} {I : Nat → Nat → Int} {g : Nat} {x1 x2 x3 x4 x5 x6 x7 x8 s0 : Int}
    (t : (s0 = 0 → (Q (some (zi 0)) (c, I, zRg g))) ∧ (¬ (s0 = 0) → (zcl d 146 0 0 [zr 67, zi 7, zi x8] (c, I, zRg g) (fun v h1 => zRn (zcl d) 147 B Q 105 [some (zr 67), some (zi x1), some (zi x2), some (zi x3), some (zi x4), some (zi x5), some (zi x6), some (zi x7), some (zi x8)] (zva v []) h1)))) :
    zRn (zcl d) 147 B Q 94 [some (zr 67), some (zi x1), some (zi x2), some (zi x3), some (zi x4), some (zi x5), some (zi x6), some (zi x7), some (zi x8)] [zi s0] (c, I, zRg g) :=
  zgo [35, 44, 53, 63, 73, 83, 94, 105] 4 (And.intro (fun u436 => And.intro (Or.inl rfl) (t.1 u436)) (fun u436 => Exists.intro 146 (And.intro rfl (And.intro (Nat.le_of_ble_eq_true rfl) (Exists.intro 0 (Exists.intro 0 (And.intro (Or.inl rfl) (And.intro (Or.inl rfl) (t.2 u436)))))))))
theorem g_x12_isWord_105 {d : Nat} {B : Nat × Nat} {Q : zQ} {c : Nat × Nat × Nat} {I : Nat → Nat → Int} {g : Nat} {x1 x2 x3 x4 x5 x6 x7 x8 s0 : Int}
    (t : (s0 = 0 → (Q (some (zi 0)) (c, I, zRg g))) ∧ (¬ (s0 = 0) → (Q (some (zi 1)) (c, I, zRg g)))) :
    zRn (zcl d) 147 B Q 105 [some (zr 67), some (zi x1), some (zi x2), some (zi x3), some (zi x4), some (zi x5), some (zi x6), some (zi x7), some (zi x8)] [zi s0] (c, I, zRg g) :=
  zgo [35, 44, 53, 63, 73, 83, 94, 105] 3 (And.intro (fun u437 => And.intro (Or.inl rfl) (t.1 u437)) (fun u437 => And.intro (Or.inr rfl) (t.2 u437)))
theorem g_x12_isSign_0 {d : Nat} {B : Nat × Nat} {Q : zQ} {c : Nat × Nat × Nat} {I : Nat → Nat → Int} {g : Nat} {x1 : Int}
    (t : (I 67 27 ≠ 0 → (Q (some (zi 0)) (c, I, zRg g))) ∧ (¬ (I 67 27 ≠ 0) → ((I 67 23 ≠ 3 → (Q (some (zi 0)) (c, I, zRg g))) ∧ (¬ (I 67 23 ≠ 3) → ((zcmp (I 67 25) x1 ≠ 0 → (Q (some (zi 0)) (c, I, zRg g))) ∧ (¬ (zcmp (I 67 25) x1 ≠ 0) → (Q (some (zi 1)) (c, I, zRg g)))))))) :
    zRn (zcl d) 148 B Q 0 [some (zr 67), some (zi x1)] [] (c, I, zRg g) :=
  zgo [] 15 (And.intro rfl (And.intro (fun u438 => And.intro (Or.inl rfl) (t.1 u438)) (fun u438 => And.intro rfl (And.intro (fun u439 => And.intro (Or.inl rfl) ((t.2 u438).1 u439)) (fun u439 => And.intro rfl (And.intro (fun u440 => And.intro (Or.inl rfl) (((t.2 u438).2 u439).1 u440)) (fun u440 => And.intro (Or.inr rfl) (((t.2 u438).2 u439).2 u440))))))))
theorem g_x12_opens_0 {d : Nat} {B : Nat × Nat} {Q : zQ} {c : Nat × Nat × Nat} {I : Nat → Nat → Int} {g : Nat}
    (t : (I 67 26 ≠ 5 → (zcl d 144 0 0 [zr 67] (c, (z2 I 67 26 (zwr ((I 67 26) + 1))), zRg g) (fun v h1 => zRn (zcl d) 149 B Q 28 [some (zr 67)] (zva v []) h1))) ∧ (¬ (I 67 26 ≠ 5) → (zcl d 145 0 0 [zr 67] (c, I, zRg g) (fun v h1 => zRn (zcl d) 149 B Q 12 [some (zr 67)] (zva v []) h1)))) :
    zRn (zcl d) 149 B Q 0 [some (zr 67)] [] (c, I, zRg g) :=
  zgo [12, 28] 11 (And.intro rfl (And.intro (fun u441 => And.intro rfl (And.intro rfl (Exists.intro 144 (And.intro rfl (And.intro (Nat.le_of_ble_eq_true rfl) (Exists.intro 0 (Exists.intro 0 (And.intro (Or.inl rfl) (And.intro (Or.inl rfl) (t.1 u441)))))))))) (fun u441 => Exists.intro 145 (And.intro rfl (And.intro (Nat.le_of_ble_eq_true rfl) (Exists.intro 0 (Exists.intro 0 (And.intro (Or.inl rfl) (And.intro (Or.inl rfl) (t.2 u441))))))))))
theorem g_x12_opens_12 {d : Nat} {B : Nat × Nat} {Q : zQ} {c : Nat × Nat × Nat} {I : Nat → Nat → Int} {g : Nat}
    (t : Q (some (zi 0)) (c, I, zRg g)) :
    zRn (zcl d) 149 B Q 12 [some (zr 67)] [] (c, I, zRg g) :=
  zgo [12, 28] 1 (And.intro (Or.inl rfl) t)
theorem g_x12_opens_28 {d : Nat} {B : Nat × Nat} {Q : zQ} {c : Nat × Nat × Nat} {I : Nat → Nat → Int} {g : Nat}
    (t : Q (some (zi 1)) (c, I, zRg g)) :
    zRn (zcl d) 149 B Q 28 [some (zr 67)] [] (c, I, zRg g) :=
  zgo [12, 28] 1 (And.intro (Or.inr rfl) t)
theorem g_x12_name_0 {d : Nat} {B : Nat × Nat} {Q : zQ} {c : Nat × Nat × Nat} {I : Nat → Nat → Int} {g : Nat}
    (t : zcl d 147 0 0 [zr 67, zi 119, zi 111, zi 114, zi 100, zi 115, zi 0, zi 0, zi 0] (c, I, zRg g) (fun v h1 => zRn (zcl d) 150 B Q 17 [some (zr 67)] (zva v []) h1)) :
    zRn (zcl d) 150 B Q 0 [some (zr 67)] [] (c, I, zRg g) :=
  zgo [17, 43, 69, 92, 117, 141, 153] 9 (Exists.intro 147 (And.intro rfl (And.intro (Nat.le_of_ble_eq_true rfl) (Exists.intro 0 (Exists.intro 0 (And.intro (Or.inl rfl) (And.intro (Or.inl rfl) t)))))))
theorem g_x12_name_17 {d : Nat} {B : Nat × Nat} {Q : zQ} {c : Nat × Nat × Nat} {I : Nat → Nat → Int} {g : Nat} {s0 : Int}
    (t : (s0 = 0 → (zcl d 147 0 0 [zr 67, zi 109, zi 101, zi 109, zi 111, zi 114, zi 121, zi 0, zi 0] (c, I, zRg g) (fun v h1 => zRn (zcl d) 150 B Q 43 [some (zr 67)] (zva v []) h1))) ∧ (¬ (s0 = 0) → (Q (some (zi (I 67 14))) (c, I, zRg g)))) :
    zRn (zcl d) 150 B Q 17 [some (zr 67)] [zi s0] (c, I, zRg g) :=
  zgo [17, 43, 69, 92, 117, 141, 153] 10 (And.intro (fun u442 => Exists.intro 147 (And.intro rfl (And.intro (Nat.le_of_ble_eq_true rfl) (Exists.intro 0 (Exists.intro 0 (And.intro (Or.inl rfl) (And.intro (Or.inl rfl) (t.1 u442)))))))) (fun u442 => And.intro rfl (t.2 u442)))
theorem g_x12_name_43 {d : Nat} {B : Nat × Nat} {Q : zQ} {c : Nat × Nat × Nat} {I : Nat → Nat → Int} {g : Nat} {s0 : Int}
    (t : (s0 = 0 → (zcl d 147 0 0 [zr 67, zi 110, zi 117, zi 109, zi 98, zi 101, zi 114, zi 0, zi 0] (c, I, zRg g) (fun v h1 => zRn (zcl d) 150 B Q 69 [some (zr 67)] (zva v []) h1))) ∧ (¬ (s0 = 0) → (Q (some (zi (I 67 15))) (c, I, zRg g)))) :
    zRn (zcl d) 150 B Q 43 [some (zr 67)] [zi s0] (c, I, zRg g) :=
  zgo [17, 43, 69, 92, 117, 141, 153] 10 (And.intro (fun u443 => Exists.intro 147 (And.intro rfl (And.intro (Nat.le_of_ble_eq_true rfl) (Exists.intro 0 (Exists.intro 0 (And.intro (Or.inl rfl) (And.intro (Or.inl rfl) (t.1 u443)))))))) (fun u443 => And.intro rfl (t.2 u443)))
theorem g_x12_name_69 {d : Nat} {B : Nat × Nat} {Q : zQ} {c : Nat × Nat × Nat} {I : Nat → Nat → Int} {g : Nat} {s0 : Int}
    (t : (s0 = 0 → (zcl d 147 0 0 [zr 67, zi 100, zi 97, zi 121, zi 0, zi 0, zi 0, zi 0, zi 0] (c, I, zRg g) (fun v h1 => zRn (zcl d) 150 B Q 92 [some (zr 67)] (zva v []) h1))) ∧ (¬ (s0 = 0) → (Q (some (zi (I 67 16))) (c, I, zRg g)))) :
    zRn (zcl d) 150 B Q 69 [some (zr 67)] [zi s0] (c, I, zRg g) :=
  zgo [17, 43, 69, 92, 117, 141, 153] 10 (And.intro (fun u444 => Exists.intro 147 (And.intro rfl (And.intro (Nat.le_of_ble_eq_true rfl) (Exists.intro 0 (Exists.intro 0 (And.intro (Or.inl rfl) (And.intro (Or.inl rfl) (t.1 u444)))))))) (fun u444 => And.intro rfl (t.2 u444)))
theorem g_x12_name_92 {d : Nat} {B : Nat × Nat} {Q : zQ} {c : Nat × Nat × Nat} {I : Nat → Nat → Int} {g : Nat} {s0 : Int}
    (t : (s0 = 0 → (zcl d 147 0 0 [zr 67, zi 112, zi 97, zi 114, zi 116, zi 115, zi 0, zi 0, zi 0] (c, I, zRg g) (fun v h1 => zRn (zcl d) 150 B Q 117 [some (zr 67)] (zva v []) h1))) ∧ (¬ (s0 = 0) → (Q (some (zi (I 67 17))) (c, I, zRg g)))) :
    zRn (zcl d) 150 B Q 92 [some (zr 67)] [zi s0] (c, I, zRg g) :=
  zgo [17, 43, 69, 92, 117, 141, 153] 10 (And.intro (fun u445 => Exists.intro 147 (And.intro rfl (And.intro (Nat.le_of_ble_eq_true rfl) (Exists.intro 0 (Exists.intro 0 (And.intro (Or.inl rfl) (And.intro (Or.inl rfl) (t.1 u445)))))))) (fun u445 => And.intro rfl (t.2 u445)))
theorem g_x12_name_117 {d : Nat} {B : Nat × Nat} {Q : zQ} {c : Nat × Nat × Nat} {I : Nat → Nat → Int} {g : Nat} {s0 : Int}
    (t : (s0 = 0 → (zcl d 147 0 0 [zr 67, zi 115, zi 97, zi 105, zi 100, zi 0, zi 0, zi 0, zi 0] (c, I, zRg g) (fun v h1 => zRn (zcl d) 150 B Q 141 [some (zr 67)] (zva v []) h1))) ∧ (¬ (s0 = 0) → (Q (some (zi (I 67 18))) (c, I, zRg g)))) :
    zRn (zcl d) 150 B Q 117 [some (zr 67)] [zi s0] (c, I, zRg g) :=
  zgo [17, 43, 69, 92, 117, 141, 153] 10 (And.intro (fun u446 => Exists.intro 147 (And.intro rfl (And.intro (Nat.le_of_ble_eq_true rfl) (Exists.intro 0 (Exists.intro 0 (And.intro (Or.inl rfl) (And.intro (Or.inl rfl) (t.1 u446)))))))) (fun u446 => And.intro rfl (t.2 u446)))
theorem g_x12_name_141 {d : Nat} {B : Nat × Nat} {Q : zQ} {c : Nat × Nat × Nat} {I : Nat → Nat → Int} {g : Nat} {s0 : Int}
    (t : (s0 = 0 → (zcl d 145 0 0 [zr 67] (c, I, zRg g) (fun v h1 => zRn (zcl d) 150 B Q 153 [some (zr 67)] (zva v []) h1))) ∧ (¬ (s0 = 0) → (Q (some (zi (I 67 19))) (c, I, zRg g)))) :
    zRn (zcl d) 150 B Q 141 [some (zr 67)] [zi s0] (c, I, zRg g) :=
  zgo [17, 43, 69, 92, 117, 141, 153] 3 (And.intro (fun u447 => Exists.intro 145 (And.intro rfl (And.intro (Nat.le_of_ble_eq_true rfl) (Exists.intro 0 (Exists.intro 0 (And.intro (Or.inl rfl) (And.intro (Or.inl rfl) (t.1 u447)))))))) (fun u447 => And.intro rfl (t.2 u447)))
theorem g_x12_name_153 {d : Nat} {B : Nat × Nat} {Q : zQ} {c : Nat × Nat × Nat} {I : Nat → Nat → Int} {g : Nat}
    (t : Q (some (zi 0)) (c, I, zRg g)) :
    zRn (zcl d) 150 B Q 153 [some (zr 67)] [] (c, I, zRg g) :=
  zgo [17, 43, 69, 92, 117, 141, 153] 1 (t)
theorem g_x12_atom_0 {d : Nat} {B : Nat × Nat} {Q : zQ} {c : Nat × Nat × Nat} {I : Nat → Nat → Int} {g : Nat}
    (t : zcl d 148 0 0 [zr 67, zi 45] (c, I, zRg g) (fun v h1 => zRn (zcl d) 151 B Q 8 [some (zr 67), some (zi 0)] (zva v []) h1)) :
    zRn (zcl d) 151 B Q 0 [some (zr 67), none] [] (c, I, zRg g) :=
  zgo [8, 15, 22, 43, 50, 57, 64, 71, 92, 120, 142, 154, 161] 4 (Exists.intro 148 (And.intro rfl (And.intro (Nat.le_of_ble_eq_true rfl) (Exists.intro 0 (Exists.intro 0 (And.intro (Or.inl rfl) (And.intro (Or.inl rfl) t)))))))
theorem g_x12_atom_8 {d : Nat} {B : Nat × Nat} {Q : zQ} {c : Nat × Nat × Nat} {I : Nat → Nat → Int} {g : Nat} {x1 s0 : Int}
    (t : (s0 = 0 → (zcl d 148 0 0 [zr 67, zi 40] (c, I, zRg g) (fun v h1 => zRn (zcl d) 151 B Q 43 [some (zr 67), some (zi x1)] (zva v []) h1))) ∧ (¬ (s0 = 0) → (zcl d 149 0 0 [zr 67] (c, I, zRg g) (fun v h1 => zRn (zcl d) 151 B Q 15 [some (zr 67), some (zi x1)] (zva v []) h1)))) :
    zRn (zcl d) 151 B Q 8 [some (zr 67), some (zi x1)] [zi s0] (c, I, zRg g) :=
  zgo [8, 15, 22, 43, 50, 57, 64, 71, 92, 120, 142, 154, 161] 3 (And.intro (fun u448 => Exists.intro 148 (And.intro rfl (And.intro (Nat.le_of_ble_eq_true rfl) (Exists.intro 0 (Exists.intro 0 (And.intro (Or.inl rfl) (And.intro (Or.inl rfl) (t.1 u448)))))))) (fun u448 => Exists.intro 149 (And.intro rfl (And.intro (Nat.le_of_ble_eq_true rfl) (Exists.intro 0 (Exists.intro 0 (And.intro (Or.inl rfl) (And.intro (Or.inl rfl) (t.2 u448)))))))))
theorem g_x12_atom_15 {d : Nat} {B : Nat × Nat} {Q : zQ} {c : Nat × Nat × Nat} {I : Nat → Nat → Int} {g : Nat} {x1 s0 : Int}
    (t : (s0 = 0 → (zRn (zcl d) 151 B Q 161 [some (zr 67), some (zi x1)] [] (c, I, zRg g))) ∧ (¬ (s0 = 0) → (zcl d 151 0 0 [zr 67] (c, I, zRg g) (fun v h1 => zRn (zcl d) 151 B Q 22 [some (zr 67), some (zi x1)] (zva v []) h1)))) :
    zRn (zcl d) 151 B Q 15 [some (zr 67), some (zi x1)] [zi s0] (c, I, zRg g) :=
  zgo [8, 15, 22, 43, 50, 57, 64, 71, 92, 120, 142, 154, 161] 2 (And.intro (fun u456 => (t.1 u456)) (fun u456 => Exists.intro 151 (And.intro rfl (And.intro (Nat.le_of_ble_eq_true rfl) (Exists.intro 0 (Exists.intro 0 (And.intro (Or.inl rfl) (And.intro (Or.inl rfl) (t.2 u456)))))))))
theorem g_x12_atom_22 {d : Nat} {B : Nat × Nat} {Q : zQ} {c : Nat × Nat × Nat} {I : Nat → Nat → Int} {g : Nat} {x1 s0 : Int}
    (t : zRn (zcl d) 151 B Q 161 [some (zr 67), some (zi (zwr (-s0)))] [] (c, (z2 I 67 26 (zwr ((I 67 26) - 1))), zRg g)) :
    zRn (zcl d) 151 B Q 22 [some (zr 67), some (zi x1)] [zi s0] (c, I, zRg g) :=
  zgo [8, 15, 22, 43, 50, 57, 64, 71, 92, 120, 142, 154, 161] 9 (And.intro rfl (And.intro rfl t))
theorem g_x12_atom_43 {d : Nat} {B : Nat × Nat} {Q : zQ} {c : Nat × Nat × Nat} {I : Nat → Nat → Int} {g : Nat} {x1 s0 : Int}
    (t : (s0 = 0 → ((I 67 27 ≠ 0 → ((I 67 27 ≠ 0 → (zcl d 145 0 0 [zr 67] (c, I, zRg g) (fun v h1 => zRn (zcl d) 151 B Q 161 [some (zr 67), some (zi x1)] (zva v []) h1))) ∧ (¬ (I 67 27 ≠ 0) → ((I 67 23 ≠ 1 → (zcl d 145 0 0 [zr 67] (c, I, zRg g) (fun v h1 => zRn (zcl d) 151 B Q 161 [some (zr 67), some (zi x1)] (zva v []) h1))) ∧ (¬ (I 67 23 ≠ 1) → (zcl d 150 0 0 [zr 67] (c, I, zRg g) (fun v h1 => zRn (zcl d) 151 B Q 142 [some (zr 67), some (zi x1)] (zva v []) h1))))))) ∧ (¬ (I 67 27 ≠ 0) → ((I 67 23 ≠ 2 → ((I 67 27 ≠ 0 → (zcl d 145 0 0 [zr 67] (c, I, zRg g) (fun v h1 => zRn (zcl d) 151 B Q 161 [some (zr 67), some (zi x1)] (zva v []) h1))) ∧ (¬ (I 67 27 ≠ 0) → ((I 67 23 ≠ 1 → (zcl d 145 0 0 [zr 67] (c, I, zRg g) (fun v h1 => zRn (zcl d) 151 B Q 161 [some (zr 67), some (zi x1)] (zva v []) h1))) ∧ (¬ (I 67 23 ≠ 1) → (zcl d 150 0 0 [zr 67] (c, I, zRg g) (fun v h1 => zRn (zcl d) 151 B Q 142 [some (zr 67), some (zi x1)] (zva v []) h1))))))) ∧ (¬ (I 67 23 ≠ 2) → (zcl d 144 0 0 [zr 67] (c, I, zRg g) (fun v h1 => zRn (zcl d) 151 B Q 120 [some (zr 67), some (zi (zwr (I 67 25)))] (zva v []) h1))))))) ∧ (¬ (s0 = 0) → (zcl d 149 0 0 [zr 67] (c, I, zRg g) (fun v h1 => zRn (zcl d) 151 B Q 50 [some (zr 67), some (zi x1)] (zva v []) h1)))) :
    zRn (zcl d) 151 B Q 43 [some (zr 67), some (zi x1)] [zi s0] (c, I, zRg g) :=
  zgo [8, 15, 22, 43, 50, 57, 64, 71, 92, 120, 142, 154, 161] 16 (And.intro (fun u449 => And.intro rfl (And.intro (fun u450 => And.intro rfl (And.intro (fun u451 => Exists.intro 145 (And.intro rfl (And.intro (Nat.le_of_ble_eq_true rfl) (Exists.intro 0 (Exists.intro 0 (And.intro (Or.inl rfl) (And.intro (Or.inl rfl) (((t.1 u449).1 u450).1 u451)))))))) (fun u451 => And.intro rfl (And.intro (fun u452 => Exists.intro 145 (And.intro rfl (And.intro (Nat.le_of_ble_eq_true rfl) (Exists.intro 0 (Exists.intro 0 (And.intro (Or.inl rfl) (And.intro (Or.inl rfl) ((((t.1 u449).1 u450).2 u451).1 u452)))))))) (fun u452 => Exists.intro 150 (And.intro rfl (And.intro (Nat.le_of_ble_eq_true rfl) (Exists.intro 0 (Exists.intro 0 (And.intro (Or.inl rfl) (And.intro (Or.inl rfl) ((((t.1 u449).1 u450).2 u451).2 u452)))))))))))) (fun u450 => And.intro rfl (And.intro (fun u453 => And.intro rfl (And.intro (fun u454 => Exists.intro 145 (And.intro rfl (And.intro (Nat.le_of_ble_eq_true rfl) (Exists.intro 0 (Exists.intro 0 (And.intro (Or.inl rfl) (And.intro (Or.inl rfl) ((((t.1 u449).2 u450).1 u453).1 u454)))))))) (fun u454 => And.intro rfl (And.intro (fun u455 => Exists.intro 145 (And.intro rfl (And.intro (Nat.le_of_ble_eq_true rfl) (Exists.intro 0 (Exists.intro 0 (And.intro (Or.inl rfl) (And.intro (Or.inl rfl) (((((t.1 u449).2 u450).1 u453).2 u454).1 u455)))))))) (fun u455 => Exists.intro 150 (And.intro rfl (And.intro (Nat.le_of_ble_eq_true rfl) (Exists.intro 0 (Exists.intro 0 (And.intro (Or.inl rfl) (And.intro (Or.inl rfl) (((((t.1 u449).2 u450).1 u453).2 u454).2 u455)))))))))))) (fun u453 => And.intro rfl (Exists.intro 144 (And.intro rfl (And.intro (Nat.le_of_ble_eq_true rfl) (Exists.intro 0 (Exists.intro 0 (And.intro (Or.inl rfl) (And.intro (Or.inl rfl) (((t.1 u449).2 u450).2 u453))))))))))))) (fun u449 => Exists.intro 149 (And.intro rfl (And.intro (Nat.le_of_ble_eq_true rfl) (Exists.intro 0 (Exists.intro 0 (And.intro (Or.inl rfl) (And.intro (Or.inl rfl) (t.2 u449)))))))))
theorem g_x12_atom_50 {d : Nat} {B : Nat × Nat} {Q : zQ} {c : Nat × Nat × Nat} {I : Nat → Nat → Int} {g : Nat} {x1 s0 : Int}
    (t : (s0 = 0 → (zRn (zcl d) 151 B Q 161 [some (zr 67), some (zi x1)] [] (c, I, zRg g))) ∧ (¬ (s0 = 0) → (zcl d 156 0 0 [zr 67] (c, I, zRg g) (fun v h1 => zRn (zcl d) 151 B Q 57 [some (zr 67), some (zi x1)] (zva v []) h1)))) :
    zRn (zcl d) 151 B Q 50 [some (zr 67), some (zi x1)] [zi s0] (c, I, zRg g) :=
  zgo [8, 15, 22, 43, 50, 57, 64, 71, 92, 120, 142, 154, 161] 2 (And.intro (fun u458 => (t.1 u458)) (fun u458 => Exists.intro 156 (And.intro rfl (And.intro (Nat.le_of_ble_eq_true rfl) (Exists.intro 0 (Exists.intro 0 (And.intro (Or.inl rfl) (And.intro (Or.inl rfl) (t.2 u458)))))))))
theorem g_x12_atom_57 {d : Nat} {B : Nat × Nat} {Q : zQ} {c : Nat × Nat × Nat} {I : Nat → Nat → Int} {g : Nat} {x1 s0 : Int}
    (t : zcl d 148 0 0 [zr 67, zi 41] (c, I, zRg g) (fun v h1 => zRn (zcl d) 151 B Q 64 [some (zr 67), some (zi s0)] (zva v []) h1)) :
    zRn (zcl d) 151 B Q 57 [some (zr 67), some (zi x1)] [zi s0] (c, I, zRg g) :=
  zgo [8, 15, 22, 43, 50, 57, 64, 71, 92, 120, 142, 154, 161] 3 (Exists.intro 148 (And.intro rfl (And.intro (Nat.le_of_ble_eq_true rfl) (Exists.intro 0 (Exists.intro 0 (And.intro (Or.inl rfl) (And.intro (Or.inl rfl) t)))))))
theorem g_x12_atom_64 {d : Nat} {B : Nat × Nat} {Q : zQ} {c : Nat × Nat × Nat} {I : Nat → Nat → Int} {g : Nat} {x1 s0 : Int}
    (t : (s0 ≠ 0 → (zRn (zcl d) 151 B Q 71 [some (zr 67), some (zi x1)] [] (c, I, zRg g))) ∧ (¬ (s0 ≠ 0) → (zcl d 145 0 0 [zr 67] (c, I, zRg g) (fun v h1 => zRn (zcl d) 151 B Q 71 [some (zr 67), some (zi x1)] (zva v []) h1)))) :
    zRn (zcl d) 151 B Q 64 [some (zr 67), some (zi x1)] [zi s0] (c, I, zRg g) :=
  zgo [8, 15, 22, 43, 50, 57, 64, 71, 92, 120, 142, 154, 161] 2 (And.intro (fun u459 => (t.1 u459)) (fun u459 => Exists.intro 145 (And.intro rfl (And.intro (Nat.le_of_ble_eq_true rfl) (Exists.intro 0 (Exists.intro 0 (And.intro (Or.inl rfl) (And.intro (Or.inl rfl) (t.2 u459)))))))))
theorem g_x12_atom_71 {d : Nat} {B : Nat × Nat} {Q : zQ} {c : Nat × Nat × Nat} {I : Nat → Nat → Int} {g : Nat} {x1 : Int}
    (t : (I 67 27 ≠ 0 → (zRn (zcl d) 151 B Q 161 [some (zr 67), some (zi x1)] [] (c, (z2 I 67 26 (zwr ((I 67 26) - 1))), zRg g))) ∧ (¬ (I 67 27 ≠ 0) → (zcl d 144 0 0 [zr 67] (c, (z2 I 67 26 (zwr ((I 67 26) - 1))), zRg g) (fun v h1 => zRn (zcl d) 151 B Q 92 [some (zr 67), some (zi x1)] (zva v []) h1)))) :
    zRn (zcl d) 151 B Q 71 [some (zr 67), some (zi x1)] [] (c, I, zRg g) :=
  zgo [8, 15, 22, 43, 50, 57, 64, 71, 92, 120, 142, 154, 161] 10 (And.intro rfl (And.intro rfl (And.intro rfl (And.intro (fun u460 => (t.1 u460)) (fun u460 => Exists.intro 144 (And.intro rfl (And.intro (Nat.le_of_ble_eq_true rfl) (Exists.intro 0 (Exists.intro 0 (And.intro (Or.inl rfl) (And.intro (Or.inl rfl) (t.2 u460))))))))))))
theorem g_x12_atom_92 {d : Nat} {B : Nat × Nat} {Q : zQ} {c : Nat × Nat × Nat} {I : Nat → Nat → Int} {g : Nat} {x1 : Int}
    (t : zRn (zcl d) 151 B Q 161 [some (zr 67), some (zi x1)] [] (c, I, zRg g)) :
    zRn (zcl d) 151 B Q 92 [some (zr 67), some (zi x1)] [] (c, I, zRg g) :=
  zgo [8, 15, 22, 43, 50, 57, 64, 71, 92, 120, 142, 154, 161] 1 (t)
theorem g_x12_atom_120 {d : Nat} {B : Nat × Nat} {Q : zQ} {c : Nat × Nat × Nat} {I : Nat → Nat → Int} {g : Nat} {x1 : Int}
    (t : zRn (zcl d) 151 B Q 161 [some (zr 67), some (zi x1)] [] (c, I, zRg g)) :
    zRn (zcl d) 151 B Q 120 [some (zr 67), some (zi x1)] [] (c, I, zRg g) :=
  zgo [8, 15, 22, 43, 50, 57, 64, 71, 92, 120, 142, 154, 161] 1 (t)
theorem g_x12_atom_142 {d : Nat} {B : Nat × Nat} {Q : zQ} {c : Nat × Nat × Nat} {I : Nat → Nat → Int} {g : Nat} {x1 s0 : Int}
    (t : (I 67 27 ≠ 0 → (zRn (zcl d) 151 B Q 161 [some (zr 67), some (zi s0)] [] (c, I, zRg g))) ∧ (¬ (I 67 27 ≠ 0) → (zcl d 144 0 0 [zr 67] (c, I, zRg g) (fun v h1 => zRn (zcl d) 151 B Q 154 [some (zr 67), some (zi s0)] (zva v []) h1)))) :
    zRn (zcl d) 151 B Q 142 [some (zr 67), some (zi x1)] [zi s0] (c, I, zRg g) :=
  zgo [8, 15, 22, 43, 50, 57, 64, 71, 92, 120, 142, 154, 161] 5 (And.intro rfl (And.intro (fun u457 => (t.1 u457)) (fun u457 => Exists.intro 144 (And.intro rfl (And.intro (Nat.le_of_ble_eq_true rfl) (Exists.intro 0 (Exists.intro 0 (And.intro (Or.inl rfl) (And.intro (Or.inl rfl) (t.2 u457))))))))))
theorem g_x12_atom_154 {d : Nat} {B : Nat × Nat} {Q : zQ} {c : Nat × Nat × Nat} {I : Nat → Nat → Int} {g : Nat} {x1 : Int}
    (t : zRn (zcl d) 151 B Q 161 [some (zr 67), some (zi x1)] [] (c, I, zRg g)) :
    zRn (zcl d) 151 B Q 154 [some (zr 67), some (zi x1)] [] (c, I, zRg g) :=
  zgo [8, 15, 22, 43, 50, 57, 64, 71, 92, 120, 142, 154, 161] 1 (t)
theorem g_x12_atom_161 {d : Nat} {B : Nat × Nat} {Q : zQ} {c : Nat × Nat × Nat} {I : Nat → Nat → Int} {g : Nat} {x1 : Int}
    (t : Q (some (zi x1)) (c, I, zRg g)) :
    zRn (zcl d) 151 B Q 161 [some (zr 67), some (zi x1)] [] (c, I, zRg g) :=
  zgo [8, 15, 22, 43, 50, 57, 64, 71, 92, 120, 142, 154, 161] 1 (t)
theorem g_x12_term_0 {d : Nat} {B : Nat × Nat} {Q : zQ} {c : Nat × Nat × Nat} {I : Nat → Nat → Int} {g : Nat}
    (t : zcl d 151 0 0 [zr 67] (c, I, zRg g) (fun v h1 => zRn (zcl d) 152 B Q 4 [some (zr 67), none] (zva v []) h1)) :
    zRn (zcl d) 152 B Q 0 [some (zr 67), none] [] (c, I, zRg g) :=
  zgo [4, 5, 11, 18, 23] 1 (Exists.intro 151 (And.intro rfl (And.intro (Nat.le_of_ble_eq_true rfl) (Exists.intro 0 (Exists.intro 0 (And.intro (Or.inl rfl) (And.intro (Or.inl rfl) t)))))))
theorem g_x12_term_4 {d : Nat} {B : Nat × Nat} {Q : zQ} {c : Nat × Nat × Nat} {I : Nat → Nat → Int} {g : Nat} {s0 : Int}
    (t : zRn (zcl d) 152 B Q 5 [some (zr 67), some (zi s0)] [] (c, I, zRg g)) :
    zRn (zcl d) 152 B Q 4 [some (zr 67), none] [zi s0] (c, I, zRg g) :=
  zgo [4, 5, 11, 18, 23] 1 (t)
theorem g_x12_term_5 {d : Nat} {B : Nat × Nat} {Q : zQ} {c : Nat × Nat × Nat} {I : Nat → Nat → Int} {g : Nat} {x1 : Int}
    (t : zcl d 148 0 0 [zr 67, zi 42] (c, I, zRg g) (fun v h1 => zRn (zcl d) 152 B Q 11 [some (zr 67), some (zi x1)] (zva v []) h1)) :
    zRn (zcl d) 152 B Q 5 [some (zr 67), some (zi x1)] [] (c, I, zRg g) :=
  zgo [4, 5, 11, 18, 23] 2 (Exists.intro 148 (And.intro rfl (And.intro (Nat.le_of_ble_eq_true rfl) (Exists.intro 0 (Exists.intro 0 (And.intro (Or.inl rfl) (And.intro (Or.inl rfl) t)))))))
theorem g_x12_term_11 {d : Nat} {B : Nat × Nat} {Q : zQ} {c : Nat × Nat × Nat} {I : Nat → Nat → Int} {g : Nat} {x1 s0 : Int}
    (t : (s0 = 0 → (Q (some (zi x1)) (c, I, zRg g))) ∧ (¬ (s0 = 0) → (zcl d 144 0 0 [zr 67] (c, I, zRg g) (fun v h1 => zRn (zcl d) 152 B Q 18 [some (zr 67), some (zi x1)] (zva v []) h1)))) :
    zRn (zcl d) 152 B Q 11 [some (zr 67), some (zi x1)] [zi s0] (c, I, zRg g) :=
  zgo [4, 5, 11, 18, 23] 2 (And.intro (fun u461 => (t.1 u461)) (fun u461 => Exists.intro 144 (And.intro rfl (And.intro (Nat.le_of_ble_eq_true rfl) (Exists.intro 0 (Exists.intro 0 (And.intro (Or.inl rfl) (And.intro (Or.inl rfl) (t.2 u461)))))))))
theorem g_x12_term_18 {d : Nat} {B : Nat × Nat} {Q : zQ} {c : Nat × Nat × Nat} {I : Nat → Nat → Int} {g : Nat} {x1 : Int}
    (t : zcl d 151 0 0 [zr 67] (c, I, zRg g) (fun v h1 => zRn (zcl d) 152 B Q 23 [some (zr 67), some (zi x1)] (zva v [zi x1]) h1)) :
    zRn (zcl d) 152 B Q 18 [some (zr 67), some (zi x1)] [] (c, I, zRg g) :=
  zgo [4, 5, 11, 18, 23] 2 (Exists.intro 151 (And.intro rfl (And.intro (Nat.le_of_ble_eq_true rfl) (Exists.intro 0 (Exists.intro 0 (And.intro (Or.inl rfl) (And.intro (Or.inl rfl) t)))))))
theorem g_x12_term_23 {d : Nat} {B : Nat × Nat} {Q : zQ} {c : Nat × Nat × Nat} {I : Nat → Nat → Int} {g : Nat} {x1 s0 s1 : Int}
    (t : zRn (zcl d) 152 B Q 5 [some (zr 67), some (zi (zwr (s1 * s0)))] [] (c, I, zRg g)) :
    zRn (zcl d) 152 B Q 23 [some (zr 67), some (zi x1)] [zi s0, zi s1] (c, I, zRg g) :=
  zgo [4, 5, 11, 18, 23] 3 (t)
theorem g_x12_added_0 {d : Nat} {B : Nat × Nat} {Q : zQ} {c : Nat × Nat × Nat} {I : Nat → Nat → Int} {g : Nat}
    (t : zcl d 152 0 0 [zr 67] (c, I, zRg g) (fun v h1 => zRn (zcl d) 153 B Q 4 [some (zr 67), none, none, none] (zva v []) h1)) :
    zRn (zcl d) 153 B Q 0 [some (zr 67), none, none, none] [] (c, I, zRg g) :=
  zgo [4, 5, 11, 20, 44, 48] 1 (Exists.intro 152 (And.intro rfl (And.intro (Nat.le_of_ble_eq_true rfl) (Exists.intro 0 (Exists.intro 0 (And.intro (Or.inl rfl) (And.intro (Or.inl rfl) t)))))))
theorem g_x12_added_4 {d : Nat} {B : Nat × Nat} {Q : zQ} {c : Nat × Nat × Nat} {I : Nat → Nat → Int} {g : Nat} {s0 : Int}
    (t : zRn (zcl d) 153 B Q 5 [some (zr 67), some (zi s0), none, none] [] (c, I, zRg g)) :
    zRn (zcl d) 153 B Q 4 [some (zr 67), none, none, none] [zi s0] (c, I, zRg g) :=
  zgo [4, 5, 11, 20, 44, 48] 1 (t)
theorem g_x12_added_5 {d : Nat} {B : Nat × Nat} {Q : zQ} {c : Nat × Nat × Nat} {I : Nat → Nat → Int} {g : Nat} {x1 : Int}
    (t : zcl d 148 0 0 [zr 67, zi 43] (c, I, zRg g) (fun v h1 => zRn (zcl d) 153 B Q 11 [some (zr 67), some (zi x1), none, none] (zva v []) h1)) :
    zRn (zcl d) 153 B Q 5 [some (zr 67), some (zi x1), none, none] [] (c, I, zRg g) :=
  zgo [4, 5, 11, 20, 44, 48] 2 (Exists.intro 148 (And.intro rfl (And.intro (Nat.le_of_ble_eq_true rfl) (Exists.intro 0 (Exists.intro 0 (And.intro (Or.inl rfl) (And.intro (Or.inl rfl) t)))))))
theorem g_x12_added_11 {d : Nat} {B : Nat × Nat} {Q : zQ} {c : Nat × Nat × Nat} {I : Nat → Nat → Int} {g : Nat} {x1 s0 : Int}
    (t : (s0 ≠ 0 → ((zcmp (I 67 25) 43 ≠ 0 → (zcl d 144 0 0 [zr 67] (c, I, zRg g) (fun v h1 => zRn (zcl d) 153 B Q 44 [some (zr 67), some (zi x1), some (zi 0), none] (zva v []) h1))) ∧ (¬ (zcmp (I 67 25) 43 ≠ 0) → (zcl d 144 0 0 [zr 67] (c, I, zRg g) (fun v h1 => zRn (zcl d) 153 B Q 44 [some (zr 67), some (zi x1), some (zi 1), none] (zva v []) h1))))) ∧ (¬ (s0 ≠ 0) → (zcl d 148 0 0 [zr 67, zi 45] (c, I, zRg g) (fun v h1 => zRn (zcl d) 153 B Q 20 [some (zr 67), some (zi x1), none, none] (zva v []) h1)))) :
    zRn (zcl d) 153 B Q 11 [some (zr 67), some (zi x1), none, none] [zi s0] (c, I, zRg g) :=
  zgo [4, 5, 11, 20, 44, 48] 10 (And.intro (fun u462 => And.intro rfl (And.intro (fun u463 => Exists.intro 144 (And.intro rfl (And.intro (Nat.le_of_ble_eq_true rfl) (Exists.intro 0 (Exists.intro 0 (And.intro (Or.inl rfl) (And.intro (Or.inl rfl) ((t.1 u462).1 u463)))))))) (fun u463 => Exists.intro 144 (And.intro rfl (And.intro (Nat.le_of_ble_eq_true rfl) (Exists.intro 0 (Exists.intro 0 (And.intro (Or.inl rfl) (And.intro (Or.inl rfl) ((t.1 u462).2 u463)))))))))) (fun u462 => Exists.intro 148 (And.intro rfl (And.intro (Nat.le_of_ble_eq_true rfl) (Exists.intro 0 (Exists.intro 0 (And.intro (Or.inl rfl) (And.intro (Or.inl rfl) (t.2 u462)))))))))
theorem g_x12_added_20 {d : Nat} {B : Nat × Nat} {Q : zQ} {c : Nat × Nat × Nat} {I : Nat → Nat → Int} {g : Nat} {x1 s0 : Int}
    (t : (s0 = 0 → (Q (some (zi x1)) (c, I, zRg g))) ∧ (¬ (s0 = 0) → ((zcmp (I 67 25) 43 ≠ 0 → (zcl d 144 0 0 [zr 67] (c, I, zRg g) (fun v h1 => zRn (zcl d) 153 B Q 44 [some (zr 67), some (zi x1), some (zi 0), none] (zva v []) h1))) ∧ (¬ (zcmp (I 67 25) 43 ≠ 0) → (zcl d 144 0 0 [zr 67] (c, I, zRg g) (fun v h1 => zRn (zcl d) 153 B Q 44 [some (zr 67), some (zi x1), some (zi 1), none] (zva v []) h1)))))) :
    zRn (zcl d) 153 B Q 20 [some (zr 67), some (zi x1), none, none] [zi s0] (c, I, zRg g) :=
  zgo [4, 5, 11, 20, 44, 48] 10 (And.intro (fun u464 => (t.1 u464)) (fun u464 => And.intro rfl (And.intro (fun u465 => Exists.intro 144 (And.intro rfl (And.intro (Nat.le_of_ble_eq_true rfl) (Exists.intro 0 (Exists.intro 0 (And.intro (Or.inl rfl) (And.intro (Or.inl rfl) ((t.2 u464).1 u465)))))))) (fun u465 => Exists.intro 144 (And.intro rfl (And.intro (Nat.le_of_ble_eq_true rfl) (Exists.intro 0 (Exists.intro 0 (And.intro (Or.inl rfl) (And.intro (Or.inl rfl) ((t.2 u464).2 u465)))))))))))
theorem g_x12_added_44 {d : Nat} {B : Nat × Nat} {Q : zQ} {c : Nat × Nat × Nat} {I : Nat → Nat → Int} {g : Nat} {x1 x2 : Int}
    (t : zcl d 152 0 0 [zr 67] (c, I, zRg g) (fun v h1 => zRn (zcl d) 153 B Q 48 [some (zr 67), some (zi x1), some (zi x2), none] (zva v []) h1)) :
    zRn (zcl d) 153 B Q 44 [some (zr 67), some (zi x1), some (zi x2), none] [] (c, I, zRg g) :=
  zgo [4, 5, 11, 20, 44, 48] 1 (Exists.intro 152 (And.intro rfl (And.intro (Nat.le_of_ble_eq_true rfl) (Exists.intro 0 (Exists.intro 0 (And.intro (Or.inl rfl) (And.intro (Or.inl rfl) t)))))))
theorem g_x12_added_48 {d : Nat} {B : Nat × Nat} {Q : zQ} {c : Nat × Nat × Nat} {I : Nat → Nat → Int} {g : Nat} {x1 x2 s0 : Int}
    (t : (x2 = 0 → (zRn (zcl d) 153 B Q 5 [some (zr 67), some (zi (zwr (x1 - s0))), some (zi x2), some (zi s0)] [] (c, I, zRg g))) ∧ (¬ (x2 = 0) → (zRn (zcl d) 153 B Q 5 [some (zr 67), some (zi (zwr (x1 + s0))), some (zi x2), some (zi s0)] [] (c, I, zRg g)))) :
    zRn (zcl d) 153 B Q 48 [some (zr 67), some (zi x1), some (zi x2), none] [zi s0] (c, I, zRg g) :=
  zgo [4, 5, 11, 20, 44, 48] 9 (And.intro (fun u466 => (t.1 u466)) (fun u466 => (t.2 u466)))
theorem g_x12_not_0 {d : Nat} {B : Nat × Nat} {Q : zQ} {c : Nat × Nat × Nat} {I : Nat → Nat → Int} {g : Nat}
    (t : zcl d 147 0 0 [zr 67, zi 110, zi 111, zi 116, zi 0, zi 0, zi 0, zi 0, zi 0] (c, I, zRg g) (fun v h1 => zRn (zcl d) 154 B Q 15 [some (zr 67), none, none, none] (zva v []) h1)) :
    zRn (zcl d) 154 B Q 0 [some (zr 67), none, none, none] [] (c, I, zRg g) :=
  zgo [15, 22, 31, 56, 63, 72, 98, 102] 9 (Exists.intro 147 (And.intro rfl (And.intro (Nat.le_of_ble_eq_true rfl) (Exists.intro 0 (Exists.intro 0 (And.intro (Or.inl rfl) (And.intro (Or.inl rfl) t)))))))
theorem g_x12_not_15 {d : Nat} {B : Nat × Nat} {Q : zQ} {c : Nat × Nat × Nat} {I : Nat → Nat → Int} {g : Nat} {s0 : Int}
    (t : (s0 = 0 → (zcl d 153 0 0 [zr 67] (c, I, zRg g) (fun v h1 => zRn (zcl d) 154 B Q 56 [some (zr 67), none, none, none] (zva v []) h1))) ∧ (¬ (s0 = 0) → (zcl d 149 0 0 [zr 67] (c, I, zRg g) (fun v h1 => zRn (zcl d) 154 B Q 22 [some (zr 67), none, none, none] (zva v []) h1)))) :
    zRn (zcl d) 154 B Q 15 [some (zr 67), none, none, none] [zi s0] (c, I, zRg g) :=
  zgo [15, 22, 31, 56, 63, 72, 98, 102] 2 (And.intro (fun u467 => Exists.intro 153 (And.intro rfl (And.intro (Nat.le_of_ble_eq_true rfl) (Exists.intro 0 (Exists.intro 0 (And.intro (Or.inl rfl) (And.intro (Or.inl rfl) (t.1 u467)))))))) (fun u467 => Exists.intro 149 (And.intro rfl (And.intro (Nat.le_of_ble_eq_true rfl) (Exists.intro 0 (Exists.intro 0 (And.intro (Or.inl rfl) (And.intro (Or.inl rfl) (t.2 u467)))))))))
theorem g_x12_not_22 {d : Nat} {B : Nat × Nat} {Q : zQ} {c : Nat × Nat × Nat} {I : Nat → Nat → Int} {g : Nat} {s0 : Int}
    (t : (s0 ≠ 0 → (zcl d 154 0 0 [zr 67] (c, I, zRg g) (fun v h1 => zRn (zcl d) 154 B Q 31 [some (zr 67), none, none, none] (zva v []) h1))) ∧ (¬ (s0 ≠ 0) → (Q (some (zi 0)) (c, I, zRg g)))) :
    zRn (zcl d) 154 B Q 22 [some (zr 67), none, none, none] [zi s0] (c, I, zRg g) :=
  zgo [15, 22, 31, 56, 63, 72, 98, 102] 2 (And.intro (fun u468 => Exists.intro 154 (And.intro rfl (And.intro (Nat.le_of_ble_eq_true rfl) (Exists.intro 0 (Exists.intro 0 (And.intro (Or.inl rfl) (And.intro (Or.inl rfl) (t.1 u468)))))))) (fun u468 => (t.2 u468)))
theorem g_x12_not_31 {d : Nat} {B : Nat × Nat} {Q : zQ} {c : Nat × Nat × Nat} {I : Nat → Nat → Int} {g : Nat} {s0 : Int}
    (t : (s0 ≠ 0 → (Q (some (zi 0)) (c, (z2 I 67 26 (zwr ((I 67 26) - 1))), zRg g))) ∧ (¬ (s0 ≠ 0) → (Q (some (zi 1)) (c, (z2 I 67 26 (zwr ((I 67 26) - 1))), zRg g)))) :
    zRn (zcl d) 154 B Q 31 [some (zr 67), none, none, none] [zi s0] (c, I, zRg g) :=
  zgo [15, 22, 31, 56, 63, 72, 98, 102] 11 (And.intro rfl (And.intro rfl (And.intro (fun u471 => (t.1 u471)) (fun u471 => (t.2 u471)))))
theorem g_x12_not_56 {d : Nat} {B : Nat × Nat} {Q : zQ} {c : Nat × Nat × Nat} {I : Nat → Nat → Int} {g : Nat} {s0 : Int}
    (t : zcl d 148 0 0 [zr 67, zi 60] (c, I, zRg g) (fun v h1 => zRn (zcl d) 154 B Q 63 [some (zr 67), some (zi s0), none, none] (zva v []) h1)) :
    zRn (zcl d) 154 B Q 56 [some (zr 67), none, none, none] [zi s0] (c, I, zRg g) :=
  zgo [15, 22, 31, 56, 63, 72, 98, 102] 3 (Exists.intro 148 (And.intro rfl (And.intro (Nat.le_of_ble_eq_true rfl) (Exists.intro 0 (Exists.intro 0 (And.intro (Or.inl rfl) (And.intro (Or.inl rfl) t)))))))
theorem g_x12_not_63 {d : Nat} {B : Nat × Nat} {Q : zQ} {c : Nat × Nat × Nat} {I : Nat → Nat → Int} {g : Nat} {x1 s0 : Int}
    (t : (s0 ≠ 0 → ((zcmp (I 67 25) 60 ≠ 0 → (zcl d 144 0 0 [zr 67] (c, I, zRg g) (fun v h1 => zRn (zcl d) 154 B Q 98 [some (zr 67), some (zi x1), some (zi 0), none] (zva v []) h1))) ∧ (¬ (zcmp (I 67 25) 60 ≠ 0) → (zcl d 144 0 0 [zr 67] (c, I, zRg g) (fun v h1 => zRn (zcl d) 154 B Q 98 [some (zr 67), some (zi x1), some (zi 1), none] (zva v []) h1))))) ∧ (¬ (s0 ≠ 0) → (zcl d 148 0 0 [zr 67, zi 61] (c, I, zRg g) (fun v h1 => zRn (zcl d) 154 B Q 72 [some (zr 67), some (zi x1), none, none] (zva v []) h1)))) :
    zRn (zcl d) 154 B Q 63 [some (zr 67), some (zi x1), none, none] [zi s0] (c, I, zRg g) :=
  zgo [15, 22, 31, 56, 63, 72, 98, 102] 10 (And.intro (fun u469 => And.intro rfl (And.intro (fun u470 => Exists.intro 144 (And.intro rfl (And.intro (Nat.le_of_ble_eq_true rfl) (Exists.intro 0 (Exists.intro 0 (And.intro (Or.inl rfl) (And.intro (Or.inl rfl) ((t.1 u469).1 u470)))))))) (fun u470 => Exists.intro 144 (And.intro rfl (And.intro (Nat.le_of_ble_eq_true rfl) (Exists.intro 0 (Exists.intro 0 (And.intro (Or.inl rfl) (And.intro (Or.inl rfl) ((t.1 u469).2 u470)))))))))) (fun u469 => Exists.intro 148 (And.intro rfl (And.intro (Nat.le_of_ble_eq_true rfl) (Exists.intro 0 (Exists.intro 0 (And.intro (Or.inl rfl) (And.intro (Or.inl rfl) (t.2 u469)))))))))
theorem g_x12_not_72 {d : Nat} {B : Nat × Nat} {Q : zQ} {c : Nat × Nat × Nat} {I : Nat → Nat → Int} {g : Nat} {x1 s0 : Int}
    (t : (s0 ≠ 0 → ((zcmp (I 67 25) 60 ≠ 0 → (zcl d 144 0 0 [zr 67] (c, I, zRg g) (fun v h1 => zRn (zcl d) 154 B Q 98 [some (zr 67), some (zi x1), some (zi 0), none] (zva v []) h1))) ∧ (¬ (zcmp (I 67 25) 60 ≠ 0) → (zcl d 144 0 0 [zr 67] (c, I, zRg g) (fun v h1 => zRn (zcl d) 154 B Q 98 [some (zr 67), some (zi x1), some (zi 1), none] (zva v []) h1))))) ∧ (¬ (s0 ≠ 0) → (Q (some (zi x1)) (c, I, zRg g)))) :
    zRn (zcl d) 154 B Q 72 [some (zr 67), some (zi x1), none, none] [zi s0] (c, I, zRg g) :=
  zgo [15, 22, 31, 56, 63, 72, 98, 102] 10 (And.intro (fun u472 => And.intro rfl (And.intro (fun u473 => Exists.intro 144 (And.intro rfl (And.intro (Nat.le_of_ble_eq_true rfl) (Exists.intro 0 (Exists.intro 0 (And.intro (Or.inl rfl) (And.intro (Or.inl rfl) ((t.1 u472).1 u473)))))))) (fun u473 => Exists.intro 144 (And.intro rfl (And.intro (Nat.le_of_ble_eq_true rfl) (Exists.intro 0 (Exists.intro 0 (And.intro (Or.inl rfl) (And.intro (Or.inl rfl) ((t.1 u472).2 u473)))))))))) (fun u472 => (t.2 u472)))
theorem g_x12_not_98 {d : Nat} {B : Nat × Nat} {Q : zQ} {c : Nat × Nat × Nat} {I : Nat → Nat → Int} {g : Nat} {x1 x2 : Int}
    (t : zcl d 153 0 0 [zr 67] (c, I, zRg g) (fun v h1 => zRn (zcl d) 154 B Q 102 [some (zr 67), some (zi x1), some (zi x2), none] (zva v []) h1)) :
    zRn (zcl d) 154 B Q 98 [some (zr 67), some (zi x1), some (zi x2), none] [] (c, I, zRg g) :=
  zgo [15, 22, 31, 56, 63, 72, 98, 102] 1 (Exists.intro 153 (And.intro rfl (And.intro (Nat.le_of_ble_eq_true rfl) (Exists.intro 0 (Exists.intro 0 (And.intro (Or.inl rfl) (And.intro (Or.inl rfl) t)))))))
theorem g_x12_not_102 {d : Nat} {B : Nat × Nat} {Q : zQ} {c : Nat × Nat × Nat} {I : Nat → Nat → Int} {g : Nat} {x1 x2 s0 : Int}
    (t : (x2 = 0 → ((x1 ≠ s0 → (Q (some (zi 0)) (c, I, zRg g))) ∧ (¬ (x1 ≠ s0) → (Q (some (zi 1)) (c, I, zRg g))))) ∧ (¬ (x2 = 0) → ((s0 ≤ x1 → (Q (some (zi 0)) (c, I, zRg g))) ∧ (¬ (s0 ≤ x1) → (Q (some (zi 1)) (c, I, zRg g)))))) :
    zRn (zcl d) 154 B Q 102 [some (zr 67), some (zi x1), some (zi x2), none] [zi s0] (c, I, zRg g) :=
  zgo [15, 22, 31, 56, 63, 72, 98, 102] 9 (And.intro (fun u474 => And.intro (fun u475 => ((t.1 u474).1 u475)) (fun u475 => ((t.1 u474).2 u475))) (fun u474 => And.intro (fun u476 => ((t.2 u474).1 u476)) (fun u476 => ((t.2 u474).2 u476))))
theorem g_x12_both_0 {d : Nat} {B : Nat × Nat} {Q : zQ} {c : Nat × Nat × Nat} {I : Nat → Nat → Int} {g : Nat}
    (t : zcl d 154 0 0 [zr 67] (c, I, zRg g) (fun v h1 => zRn (zcl d) 155 B Q 4 [some (zr 67), none, none] (zva v []) h1)) :
    zRn (zcl d) 155 B Q 0 [some (zr 67), none, none] [] (c, I, zRg g) :=
  zgo [4, 5, 20, 27, 31] 1 (Exists.intro 154 (And.intro rfl (And.intro (Nat.le_of_ble_eq_true rfl) (Exists.intro 0 (Exists.intro 0 (And.intro (Or.inl rfl) (And.intro (Or.inl rfl) t)))))))
theorem g_x12_both_4 {d : Nat} {B : Nat × Nat} {Q : zQ} {c : Nat × Nat × Nat} {I : Nat → Nat → Int} {g : Nat} {s0 : Int}
    (t : zRn (zcl d) 155 B Q 5 [some (zr 67), some (zi s0), none] [] (c, I, zRg g)) :
    zRn (zcl d) 155 B Q 4 [some (zr 67), none, none] [zi s0] (c, I, zRg g) :=
  zgo [4, 5, 20, 27, 31] 1 (t)
theorem g_x12_both_5 {d : Nat} {B : Nat × Nat} {Q : zQ} {c : Nat × Nat × Nat} {I : Nat → Nat → Int} {g : Nat} {x1 : Int}
    (t : zcl d 147 0 0 [zr 67, zi 97, zi 110, zi 100, zi 0, zi 0, zi 0, zi 0, zi 0] (c, I, zRg g) (fun v h1 => zRn (zcl d) 155 B Q 20 [some (zr 67), some (zi x1), none] (zva v []) h1)) :
    zRn (zcl d) 155 B Q 5 [some (zr 67), some (zi x1), none] [] (c, I, zRg g) :=
  zgo [4, 5, 20, 27, 31] 9 (Exists.intro 147 (And.intro rfl (And.intro (Nat.le_of_ble_eq_true rfl) (Exists.intro 0 (Exists.intro 0 (And.intro (Or.inl rfl) (And.intro (Or.inl rfl) t)))))))
theorem g_x12_both_20 {d : Nat} {B : Nat × Nat} {Q : zQ} {c : Nat × Nat × Nat} {I : Nat → Nat → Int} {g : Nat} {x1 s0 : Int}
    (t : (s0 = 0 → (Q (some (zi x1)) (c, I, zRg g))) ∧ (¬ (s0 = 0) → (zcl d 144 0 0 [zr 67] (c, I, zRg g) (fun v h1 => zRn (zcl d) 155 B Q 27 [some (zr 67), some (zi x1), none] (zva v []) h1)))) :
    zRn (zcl d) 155 B Q 20 [some (zr 67), some (zi x1), none] [zi s0] (c, I, zRg g) :=
  zgo [4, 5, 20, 27, 31] 2 (And.intro (fun u477 => (t.1 u477)) (fun u477 => Exists.intro 144 (And.intro rfl (And.intro (Nat.le_of_ble_eq_true rfl) (Exists.intro 0 (Exists.intro 0 (And.intro (Or.inl rfl) (And.intro (Or.inl rfl) (t.2 u477)))))))))
theorem g_x12_both_27 {d : Nat} {B : Nat × Nat} {Q : zQ} {c : Nat × Nat × Nat} {I : Nat → Nat → Int} {g : Nat} {x1 : Int}
    (t : zcl d 154 0 0 [zr 67] (c, I, zRg g) (fun v h1 => zRn (zcl d) 155 B Q 31 [some (zr 67), some (zi x1), none] (zva v []) h1)) :
    zRn (zcl d) 155 B Q 27 [some (zr 67), some (zi x1), none] [] (c, I, zRg g) :=
  zgo [4, 5, 20, 27, 31] 1 (Exists.intro 154 (And.intro rfl (And.intro (Nat.le_of_ble_eq_true rfl) (Exists.intro 0 (Exists.intro 0 (And.intro (Or.inl rfl) (And.intro (Or.inl rfl) t)))))))
theorem g_x12_both_31 {d : Nat} {B : Nat × Nat} {Q : zQ} {c : Nat × Nat × Nat} {I : Nat → Nat → Int} {g : Nat} {x1 s0 : Int}
    (t : (x1 = 0 → (zRn (zcl d) 155 B Q 5 [some (zr 67), some (zi 0), some (zi s0)] [] (c, I, zRg g))) ∧ (¬ (x1 = 0) → ((s0 = 0 → (zRn (zcl d) 155 B Q 5 [some (zr 67), some (zi 0), some (zi s0)] [] (c, I, zRg g))) ∧ (¬ (s0 = 0) → (zRn (zcl d) 155 B Q 5 [some (zr 67), some (zi 1), some (zi s0)] [] (c, I, zRg g)))))) :
    zRn (zcl d) 155 B Q 31 [some (zr 67), some (zi x1), none] [zi s0] (c, I, zRg g) :=
  zgo [4, 5, 20, 27, 31] 9 (And.intro (fun u478 => (t.1 u478)) (fun u478 => And.intro (fun u479 => ((t.2 u478).1 u479)) (fun u479 => ((t.2 u478).2 u479))))
theorem g_x12_either_0 {d : Nat} {B : Nat × Nat} {Q : zQ} {c : Nat × Nat × Nat} {I : Nat → Nat → Int} {g : Nat}
    (t : zcl d 155 0 0 [zr 67] (c, I, zRg g) (fun v h1 => zRn (zcl d) 156 B Q 4 [some (zr 67), none, none] (zva v []) h1)) :
    zRn (zcl d) 156 B Q 0 [some (zr 67), none, none] [] (c, I, zRg g) :=
  zgo [4, 5, 19, 26, 30] 1 (Exists.intro 155 (And.intro rfl (And.intro (Nat.le_of_ble_eq_true rfl) (Exists.intro 0 (Exists.intro 0 (And.intro (Or.inl rfl) (And.intro (Or.inl rfl) t)))))))
theorem g_x12_either_4 {d : Nat} {B : Nat × Nat} {Q : zQ} {c : Nat × Nat × Nat} {I : Nat → Nat → Int} {g : Nat} {s0 : Int}
    (t : zRn (zcl d) 156 B Q 5 [some (zr 67), some (zi s0), none] [] (c, I, zRg g)) :
    zRn (zcl d) 156 B Q 4 [some (zr 67), none, none] [zi s0] (c, I, zRg g) :=
  zgo [4, 5, 19, 26, 30] 1 (t)
theorem g_x12_either_5 {d : Nat} {B : Nat × Nat} {Q : zQ} {c : Nat × Nat × Nat} {I : Nat → Nat → Int} {g : Nat} {x1 : Int}
    (t : zcl d 147 0 0 [zr 67, zi 111, zi 114, zi 0, zi 0, zi 0, zi 0, zi 0, zi 0] (c, I, zRg g) (fun v h1 => zRn (zcl d) 156 B Q 19 [some (zr 67), some (zi x1), none] (zva v []) h1)) :
    zRn (zcl d) 156 B Q 5 [some (zr 67), some (zi x1), none] [] (c, I, zRg g) :=
  zgo [4, 5, 19, 26, 30] 9 (Exists.intro 147 (And.intro rfl (And.intro (Nat.le_of_ble_eq_true rfl) (Exists.intro 0 (Exists.intro 0 (And.intro (Or.inl rfl) (And.intro (Or.inl rfl) t)))))))
theorem g_x12_either_19 {d : Nat} {B : Nat × Nat} {Q : zQ} {c : Nat × Nat × Nat} {I : Nat → Nat → Int} {g : Nat} {x1 s0 : Int}
    (t : (s0 = 0 → (Q (some (zi x1)) (c, I, zRg g))) ∧ (¬ (s0 = 0) → (zcl d 144 0 0 [zr 67] (c, I, zRg g) (fun v h1 => zRn (zcl d) 156 B Q 26 [some (zr 67), some (zi x1), none] (zva v []) h1)))) :
    zRn (zcl d) 156 B Q 19 [some (zr 67), some (zi x1), none] [zi s0] (c, I, zRg g) :=
  zgo [4, 5, 19, 26, 30] 2 (And.intro (fun u480 => (t.1 u480)) (fun u480 => Exists.intro 144 (And.intro rfl (And.intro (Nat.le_of_ble_eq_true rfl) (Exists.intro 0 (Exists.intro 0 (And.intro (Or.inl rfl) (And.intro (Or.inl rfl) (t.2 u480)))))))))
theorem g_x12_either_26 {d : Nat} {B : Nat × Nat} {Q : zQ} {c : Nat × Nat × Nat} {I : Nat → Nat → Int} {g : Nat} {x1 : Int}
    (t : zcl d 155 0 0 [zr 67] (c, I, zRg g) (fun v h1 => zRn (zcl d) 156 B Q 30 [some (zr 67), some (zi x1), none] (zva v []) h1)) :
    zRn (zcl d) 156 B Q 26 [some (zr 67), some (zi x1), none] [] (c, I, zRg g) :=
  zgo [4, 5, 19, 26, 30] 1 (Exists.intro 155 (And.intro rfl (And.intro (Nat.le_of_ble_eq_true rfl) (Exists.intro 0 (Exists.intro 0 (And.intro (Or.inl rfl) (And.intro (Or.inl rfl) t)))))))
theorem g_x12_either_30 {d : Nat} {B : Nat × Nat} {Q : zQ} {c : Nat × Nat × Nat} {I : Nat → Nat → Int} {g : Nat} {x1 s0 : Int}
    (t : (x1 ≠ 0 → (zRn (zcl d) 156 B Q 5 [some (zr 67), some (zi 1), some (zi s0)] [] (c, I, zRg g))) ∧ (¬ (x1 ≠ 0) → ((s0 = 0 → (zRn (zcl d) 156 B Q 5 [some (zr 67), some (zi 0), some (zi s0)] [] (c, I, zRg g))) ∧ (¬ (s0 = 0) → (zRn (zcl d) 156 B Q 5 [some (zr 67), some (zi 1), some (zi s0)] [] (c, I, zRg g)))))) :
    zRn (zcl d) 156 B Q 30 [some (zr 67), some (zi x1), none] [zi s0] (c, I, zRg g) :=
  zgo [4, 5, 19, 26, 30] 9 (And.intro (fun u481 => (t.1 u481)) (fun u481 => And.intro (fun u482 => ((t.2 u481).1 u482)) (fun u482 => ((t.2 u481).2 u482))))
theorem g_x12_part_0 {d : Nat} {B : Nat × Nat} {Q : zQ} {c : Nat × Nat × Nat} {I : Nat → Nat → Int} {g : Nat} {x1 : Int}
    (t : (x1 ≠ 0 → (zRn (zcl d) 157 B Q 8 [some (zr 67), some (zi x1), none] [] (c, I, zRg g))) ∧ (¬ (x1 ≠ 0) → (zcl d 145 0 0 [zr 67] (c, I, zRg g) (fun v h1 => zRn (zcl d) 157 B Q 8 [some (zr 67), some (zi x1), none] (zva v []) h1)))) :
    zRn (zcl d) 157 B Q 0 [some (zr 67), some (zi x1), none] [] (c, I, zRg g) :=
  zgo [8, 19, 34, 41, 48, 59] 3 (And.intro (fun u483 => (t.1 u483)) (fun u483 => Exists.intro 145 (And.intro rfl (And.intro (Nat.le_of_ble_eq_true rfl) (Exists.intro 0 (Exists.intro 0 (And.intro (Or.inl rfl) (And.intro (Or.inl rfl) (t.2 u483)))))))))
theorem g_x12_part_8 {d : Nat} {B : Nat × Nat} {Q : zQ} {c : Nat × Nat × Nat} {I : Nat → Nat → Int} {g : Nat} {x1 : Int}
    (t : (I 67 27 ≠ 0 → (zRn (zcl d) 157 B Q 19 [some (zr 67), some (zi x1), none] [] (c, I, zRg g))) ∧ (¬ (I 67 27 ≠ 0) → (zcl d 144 0 0 [zr 67] (c, I, zRg g) (fun v h1 => zRn (zcl d) 157 B Q 19 [some (zr 67), some (zi x1), none] (zva v []) h1)))) :
    zRn (zcl d) 157 B Q 8 [some (zr 67), some (zi x1), none] [] (c, I, zRg g) :=
  zgo [8, 19, 34, 41, 48, 59] 4 (And.intro rfl (And.intro (fun u484 => (t.1 u484)) (fun u484 => Exists.intro 144 (And.intro rfl (And.intro (Nat.le_of_ble_eq_true rfl) (Exists.intro 0 (Exists.intro 0 (And.intro (Or.inl rfl) (And.intro (Or.inl rfl) (t.2 u484))))))))))
theorem g_x12_part_19 {d : Nat} {B : Nat × Nat} {Q : zQ} {c : Nat × Nat × Nat} {I : Nat → Nat → Int} {g : Nat} {x1 : Int}
    (t : (I 67 27 = 0 → (zcl d 156 0 0 [zr 67] (c, I, zRg g) (fun v h1 => zRn (zcl d) 157 B Q 34 [some (zr 67), some (zi x1), none] (zva v []) h1))) ∧ (¬ (I 67 27 = 0) → (zRn (zcl d) 157 B Q 34 [some (zr 67), some (zi x1), none] [zi 0] (c, I, zRg g)))) :
    zRn (zcl d) 157 B Q 19 [some (zr 67), some (zi x1), none] [] (c, I, zRg g) :=
  zgo [8, 19, 34, 41, 48, 59] 5 (And.intro rfl (And.intro (fun u485 => Exists.intro 156 (And.intro rfl (And.intro (Nat.le_of_ble_eq_true rfl) (Exists.intro 0 (Exists.intro 0 (And.intro (Or.inl rfl) (And.intro (Or.inl rfl) (t.1 u485)))))))) (fun u485 => (t.2 u485))))
theorem g_x12_part_34 {d : Nat} {B : Nat × Nat} {Q : zQ} {c : Nat × Nat × Nat} {I : Nat → Nat → Int} {g : Nat} {x1 s0 : Int}
    (t : zcl d 148 0 0 [zr 67, zi 59] (c, I, zRg g) (fun v h1 => zRn (zcl d) 157 B Q 41 [some (zr 67), some (zi x1), some (zi s0)] (zva v []) h1)) :
    zRn (zcl d) 157 B Q 34 [some (zr 67), some (zi x1), none] [zi s0] (c, I, zRg g) :=
  zgo [8, 19, 34, 41, 48, 59] 3 (Exists.intro 148 (And.intro rfl (And.intro (Nat.le_of_ble_eq_true rfl) (Exists.intro 0 (Exists.intro 0 (And.intro (Or.inl rfl) (And.intro (Or.inl rfl) t)))))))
theorem g_x12_part_41 {d : Nat} {B : Nat × Nat} {Q : zQ} {c : Nat × Nat × Nat} {I : Nat → Nat → Int} {g : Nat} {x1 x2 s0 : Int}
    (t : (s0 ≠ 0 → (zRn (zcl d) 157 B Q 48 [some (zr 67), some (zi x1), some (zi x2)] [] (c, I, zRg g))) ∧ (¬ (s0 ≠ 0) → (zcl d 145 0 0 [zr 67] (c, I, zRg g) (fun v h1 => zRn (zcl d) 157 B Q 48 [some (zr 67), some (zi x1), some (zi x2)] (zva v []) h1)))) :
    zRn (zcl d) 157 B Q 41 [some (zr 67), some (zi x1), some (zi x2)] [zi s0] (c, I, zRg g) :=
  zgo [8, 19, 34, 41, 48, 59] 2 (And.intro (fun u486 => (t.1 u486)) (fun u486 => Exists.intro 145 (And.intro rfl (And.intro (Nat.le_of_ble_eq_true rfl) (Exists.intro 0 (Exists.intro 0 (And.intro (Or.inl rfl) (And.intro (Or.inl rfl) (t.2 u486)))))))))
theorem g_x12_part_48 {d : Nat} {B : Nat × Nat} {Q : zQ} {c : Nat × Nat × Nat} {I : Nat → Nat → Int} {g : Nat} {x1 x2 : Int}
    (t : (I 67 27 ≠ 0 → (zRn (zcl d) 157 B Q 59 [some (zr 67), some (zi x1), some (zi x2)] [] (c, I, zRg g))) ∧ (¬ (I 67 27 ≠ 0) → (zcl d 144 0 0 [zr 67] (c, I, zRg g) (fun v h1 => zRn (zcl d) 157 B Q 59 [some (zr 67), some (zi x1), some (zi x2)] (zva v []) h1)))) :
    zRn (zcl d) 157 B Q 48 [some (zr 67), some (zi x1), some (zi x2)] [] (c, I, zRg g) :=
  zgo [8, 19, 34, 41, 48, 59] 4 (And.intro rfl (And.intro (fun u487 => (t.1 u487)) (fun u487 => Exists.intro 144 (And.intro rfl (And.intro (Nat.le_of_ble_eq_true rfl) (Exists.intro 0 (Exists.intro 0 (And.intro (Or.inl rfl) (And.intro (Or.inl rfl) (t.2 u487))))))))))
theorem g_x12_part_59 {d : Nat} {B : Nat × Nat} {Q : zQ} {c : Nat × Nat × Nat} {I : Nat → Nat → Int} {g : Nat} {x1 x2 : Int}
    (t : Q (some (zi x2)) (c, I, zRg g)) :
    zRn (zcl d) 157 B Q 59 [some (zr 67), some (zi x1), some (zi x2)] [] (c, I, zRg g) :=
  zgo [8, 19, 34, 41, 48, 59] 1 (t)
theorem g_x12_read_0 {d : Nat} {B : Nat × Nat} {Q : zQ} {c : Nat × Nat × Nat} {I : Nat → Nat → Int} {g : Nat} {x1 x2 : Int}
    (t : (0 ≤ x1 ∧ x1 < 6) ∧ (zcl d 144 0 0 [zr 67] (c, (z2 (z2 (z2 (z2 (z2 I 67 20 (zwr (160 * x1))) 67 21 ((z2 I 67 20 (zwr (160 * x1))) 69 x1.toNat)) 67 22 0) 67 26 0) 67 27 0), zRg g) (fun v h1 => zRn (zcl d) 158 B Q 38 [some (zr 67), some (zi x1), some (zi x2), none, none, none] (zva v []) h1))) :
    zRn (zcl d) 158 B Q 0 [some (zr 67), some (zi x1), some (zi x2), none, none, none] [] (c, I, zRg g) :=
  zgo [38, 56, 59, 89, 92, 124, 127, 147] 21 (And.intro rfl (And.intro rfl (Exists.intro (some 69) (And.intro rfl (And.intro rfl (And.intro t.1 (And.intro rfl (And.intro rfl (And.intro rfl (And.intro rfl (And.intro (Or.inl rfl) (Exists.intro 144 (And.intro rfl (And.intro (Nat.le_of_ble_eq_true rfl) (Exists.intro 0 (Exists.intro 0 (And.intro (Or.inl rfl) (And.intro (Or.inl rfl) t.2))))))))))))))))))
theorem g_x12_read_38 {d : Nat} {B : Nat × Nat} {Q : zQ} {c : Nat × Nat × Nat} {I : Nat → Nat → Int} {g : Nat} {x1 x2 : Int}
    (t : zcl d 147 0 0 [zr 67, zi 107, zi 101, zi 101, zi 112, zi 115, zi 0, zi 0, zi 0] (c, I, zRg g) (fun v h1 => zRn (zcl d) 158 B Q 56 [some (zr 67), some (zi x1), some (zi x2), none, none, none] (zva v [zr 67]) h1)) :
    zRn (zcl d) 158 B Q 38 [some (zr 67), some (zi x1), some (zi x2), none, none, none] [] (c, I, zRg g) :=
  zgo [38, 56, 59, 89, 92, 124, 127, 147] 10 (Exists.intro 147 (And.intro rfl (And.intro (Nat.le_of_ble_eq_true rfl) (Exists.intro 0 (Exists.intro 0 (And.intro (Or.inl rfl) (And.intro (Or.inl rfl) t)))))))
theorem g_x12_read_56 {d : Nat} {B : Nat × Nat} {Q : zQ} {c : Nat × Nat × Nat} {I : Nat → Nat → Int} {g : Nat} {x1 x2 s0 : Int}
    (t : zcl d 157 0 0 [zr 67, zi s0] (c, I, zRg g) (fun v h1 => zRn (zcl d) 158 B Q 59 [some (zr 67), some (zi x1), some (zi x2), none, none, none] (zva v []) h1)) :
    zRn (zcl d) 158 B Q 56 [some (zr 67), some (zi x1), some (zi x2), none, none, none] [zi s0, zr 67] (c, I, zRg g) :=
  zgo [38, 56, 59, 89, 92, 124, 127, 147] 0 (Exists.intro 157 (And.intro rfl (And.intro (Nat.le_of_ble_eq_true rfl) (Exists.intro 0 (Exists.intro 0 (And.intro (Or.inl rfl) (And.intro (Or.inl rfl) t)))))))
theorem g_x12_read_59 {d : Nat} {B : Nat × Nat} {Q : zQ} {c : Nat × Nat × Nat} {I : Nat → Nat → Int} {g : Nat} {x1 x2 s0 : Int}
    (t : (I 67 27 = 0 → (zcl d 147 0 0 [zr 67, zi 116, zi 105, zi 114, zi 101, zi 115, zi 0, zi 0, zi 0] (c, I, zRg g) (fun v h1 => zRn (zcl d) 158 B Q 89 [some (zr 67), some (zi x1), some (zi x2), some (zi s0), none, none] (zva v [zr 67]) h1))) ∧ (¬ (I 67 27 = 0) → (zRn (zcl d) 158 B Q 92 [some (zr 67), some (zi x1), some (zi x2), some (zi s0), none, none] [zi 0] (c, I, zRg g)))) :
    zRn (zcl d) 158 B Q 59 [some (zr 67), some (zi x1), some (zi x2), none, none, none] [zi s0] (c, I, zRg g) :=
  zgo [38, 56, 59, 89, 92, 124, 127, 147] 14 (And.intro rfl (And.intro (fun u488 => Exists.intro 147 (And.intro rfl (And.intro (Nat.le_of_ble_eq_true rfl) (Exists.intro 0 (Exists.intro 0 (And.intro (Or.inl rfl) (And.intro (Or.inl rfl) (t.1 u488)))))))) (fun u488 => (t.2 u488))))
theorem g_x12_read_89 {d : Nat} {B : Nat × Nat} {Q : zQ} {c : Nat × Nat × Nat} {I : Nat → Nat → Int} {g : Nat} {x1 x2 x3 s0 : Int}
    (t : zcl d 157 0 0 [zr 67, zi s0] (c, I, zRg g) (fun v h1 => zRn (zcl d) 158 B Q 92 [some (zr 67), some (zi x1), some (zi x2), some (zi x3), none, none] (zva v []) h1)) :
    zRn (zcl d) 158 B Q 89 [some (zr 67), some (zi x1), some (zi x2), some (zi x3), none, none] [zi s0, zr 67] (c, I, zRg g) :=
  zgo [38, 56, 59, 89, 92, 124, 127, 147] 0 (Exists.intro 157 (And.intro rfl (And.intro (Nat.le_of_ble_eq_true rfl) (Exists.intro 0 (Exists.intro 0 (And.intro (Or.inl rfl) (And.intro (Or.inl rfl) t)))))))
theorem g_x12_read_92 {d : Nat} {B : Nat × Nat} {Q : zQ} {c : Nat × Nat × Nat} {I : Nat → Nat → Int} {g : Nat} {x1 x2 x3 s0 : Int}
    (t : (I 67 27 = 0 → (zcl d 147 0 0 [zr 67, zi 108, zi 101, zi 97, zi 114, zi 110, zi 115, zi 0, zi 0] (c, I, zRg g) (fun v h1 => zRn (zcl d) 158 B Q 124 [some (zr 67), some (zi x1), some (zi x2), some (zi x3), some (zi s0), none] (zva v [zr 67]) h1))) ∧ (¬ (I 67 27 = 0) → (zRn (zcl d) 158 B Q 127 [some (zr 67), some (zi x1), some (zi x2), some (zi x3), some (zi s0), none] [zi 0] (c, I, zRg g)))) :
    zRn (zcl d) 158 B Q 92 [some (zr 67), some (zi x1), some (zi x2), some (zi x3), none, none] [zi s0] (c, I, zRg g) :=
  zgo [38, 56, 59, 89, 92, 124, 127, 147] 14 (And.intro rfl (And.intro (fun u489 => Exists.intro 147 (And.intro rfl (And.intro (Nat.le_of_ble_eq_true rfl) (Exists.intro 0 (Exists.intro 0 (And.intro (Or.inl rfl) (And.intro (Or.inl rfl) (t.1 u489)))))))) (fun u489 => (t.2 u489))))
theorem g_x12_read_124 {d : Nat} {B : Nat × Nat} {Q : zQ} {c : Nat × Nat × Nat} {I : Nat → Nat → Int} {g : Nat} {x1 x2 x3 x4 s0 : Int}
    (t : zcl d 157 0 0 [zr 67, zi s0] (c, I, zRg g) (fun v h1 => zRn (zcl d) 158 B Q 127 [some (zr 67), some (zi x1), some (zi x2), some (zi x3), some (zi x4), none] (zva v []) h1)) :
    zRn (zcl d) 158 B Q 124 [some (zr 67), some (zi x1), some (zi x2), some (zi x3), some (zi x4), none] [zi s0, zr 67] (c, I, zRg g) :=
  zgo [38, 56, 59, 89, 92, 124, 127, 147] 0 (Exists.intro 157 (And.intro rfl (And.intro (Nat.le_of_ble_eq_true rfl) (Exists.intro 0 (Exists.intro 0 (And.intro (Or.inl rfl) (And.intro (Or.inl rfl) t)))))))
theorem g_x12_read_127 {d : Nat} {B : Nat × Nat} {Q : zQ} {c : Nat × Nat × Nat} {I : Nat → Nat → Int} {g : Nat} {x1 x2 x3 x4 s0 : Int}
    (t : (I 67 27 ≠ 0 → (zRn (zcl d) 158 B Q 147 [some (zr 67), some (zi x1), some (zi x2), some (zi x3), some (zi x4), some (zi s0)] [] (c, I, zRg g))) ∧ (¬ (I 67 27 ≠ 0) → ((I 67 23 = 0 → (zRn (zcl d) 158 B Q 147 [some (zr 67), some (zi x1), some (zi x2), some (zi x3), some (zi x4), some (zi s0)] [] (c, I, zRg g))) ∧ (¬ (I 67 23 = 0) → (zcl d 145 0 0 [zr 67] (c, I, zRg g) (fun v h1 => zRn (zcl d) 158 B Q 147 [some (zr 67), some (zi x1), some (zi x2), some (zi x3), some (zi x4), some (zi s0)] (zva v []) h1)))))) :
    zRn (zcl d) 158 B Q 127 [some (zr 67), some (zi x1), some (zi x2), some (zi x3), some (zi x4), none] [zi s0] (c, I, zRg g) :=
  zgo [38, 56, 59, 89, 92, 124, 127, 147] 8 (And.intro rfl (And.intro (fun u490 => (t.1 u490)) (fun u490 => And.intro rfl (And.intro (fun u491 => ((t.2 u490).1 u491)) (fun u491 => Exists.intro 145 (And.intro rfl (And.intro (Nat.le_of_ble_eq_true rfl) (Exists.intro 0 (Exists.intro 0 (And.intro (Or.inl rfl) (And.intro (Or.inl rfl) ((t.2 u490).2 u491))))))))))))
theorem g_x12_read_147 {d : Nat} {B : Nat × Nat} {Q : zQ} {c : Nat × Nat × Nat} {I : Nat → Nat → Int} {g : Nat} {x1 x2 x3 x4 x5 : Int}
    (t : (x2 ≠ 0 → ((x2 ≠ 1 → (Q (some (zi x5)) (c, I, zRg g))) ∧ (¬ (x2 ≠ 1) → (Q (some (zi x4)) (c, I, zRg g))))) ∧ (¬ (x2 ≠ 0) → (Q (some (zi x3)) (c, I, zRg g)))) :
    zRn (zcl d) 158 B Q 147 [some (zr 67), some (zi x1), some (zi x2), some (zi x3), some (zi x4), some (zi x5)] [] (c, I, zRg g) :=
  zgo [38, 56, 59, 89, 92, 124, 127, 147] 7 (And.intro (fun u492 => And.intro (fun u493 => ((t.1 u492).1 u493)) (fun u493 => ((t.1 u492).2 u493))) (fun u492 => (t.2 u492)))
theorem g_x12_text_0 {d : Nat} {B : Nat × Nat} {Q : zQ} {c : Nat × Nat × Nat} {I : Nat → Nat → Int} {g : Nat}
    (t : (I 67 3 ≠ 6 → (zRn (zcl d) 159 B Q 14 [some (zr 67), some (zi 0)] [] (c, I, zRg g))) ∧ (¬ (I 67 3 ≠ 6) → (Q (some (zi (-4))) (c, I, zRg g)))) :
    zRn (zcl d) 159 B Q 0 [some (zr 67), none] [] (c, I, zRg g) :=
  zgo [14, 76] 6 (And.intro rfl (And.intro (fun u494 => (t.1 u494)) (fun u494 => (t.2 u494))))
theorem g_x12_text_14 {d : Nat} {B : Nat × Nat} {Q : zQ} {c : Nat × Nat × Nat} {I : Nat → Nat → Int} {g : Nat} {x1 : Int}
    (t : (I 67 6 ≤ x1 → ((0 ≤ I 67 3 ∧ I 67 3 < 6) ∧ (zcl d 158 0 0 [zr 67, zi ((z2 I 69 (I 67 3).toNat (I 67 6)) 67 3), zi 0] (c, (z2 (z2 I 69 (I 67 3).toNat (I 67 6)) 67 6 0), zRg g) (fun v h1 => zRn (zcl d) 159 B Q 76 [some (zr 67), some (zi x1)] (zva v []) h1)))) ∧ (¬ (I 67 6 ≤ x1) → ((0 ≤ x1 ∧ x1 < 160) ∧ ((0 ≤ zwr ((zwr (160 * (I 67 3))) + x1) ∧ zwr ((zwr (160 * (I 67 3))) + x1) < 960) ∧ (zRn (zcl d) 159 B Q 14 [some (zr 67), some (zi (zwr (x1 + 1)))] [] (c, (z2 I 68 (zwr ((zwr (160 * (I 67 3))) + x1)).toNat (I 70 x1.toNat)), zRg g)))))) :
    zRn (zcl d) 159 B Q 14 [some (zr 67), some (zi x1)] [] (c, I, zRg g) :=
  zgo [14, 76] 19 (And.intro rfl (And.intro (fun u495 => And.intro rfl (Exists.intro (some 69) (And.intro rfl (And.intro rfl (And.intro rfl (And.intro rfl (And.intro (t.1 u495).1 (And.intro rfl (And.intro rfl (Exists.intro 158 (And.intro rfl (And.intro (Nat.le_of_ble_eq_true rfl) (Exists.intro 0 (Exists.intro 0 (And.intro (Or.inl rfl) (And.intro (Or.inl rfl) ((t.1 u495).2))))))))))))))))) (fun u495 => And.intro rfl (Exists.intro (some 68) (And.intro rfl (And.intro rfl (And.intro rfl (Exists.intro (some 70) (And.intro rfl (And.intro rfl (And.intro (t.2 u495).1 (And.intro rfl (And.intro (t.2 u495).2.1 ((t.2 u495).2.2))))))))))))))
theorem g_x12_text_76 {d : Nat} {B : Nat × Nat} {Q : zQ} {c : Nat × Nat × Nat} {I : Nat → Nat → Int} {g : Nat} {x1 s0 : Int}
    (t : (I 67 27 = 0 → (Q (some (zi (zwr ((zwr ((I 67 3) + 1)) - 1)))) (c, (z2 I 67 3 (zwr ((I 67 3) + 1))), zRg g))) ∧ (¬ (I 67 27 = 0) → (Q (some (zi (zwr ((-100) - (I 67 28))))) (c, I, zRg g)))) :
    zRn (zcl d) 159 B Q 76 [some (zr 67), some (zi x1)] [zi s0] (c, I, zRg g) :=
  zgo [14, 76] 14 (And.intro rfl (And.intro (fun u496 => And.intro rfl (And.intro rfl (And.intro rfl (t.1 u496)))) (fun u496 => And.intro rfl (t.2 u496))))
theorem g_x12_force_0 {d : Nat} {B : Nat × Nat} {Q : zQ} {c : Nat × Nat × Nat} {I : Nat → Nat → Int} {g : Nat} {x1 : Int}
    (t : zcl d 130 0 0 [zl x1, zl 0, zl (zwr ((I 67 3) - 1))] (c, I, zRg g) (fun v h1 => zRn (zcl d) 160 B Q 13 [some (zr 67), some (zi x1), none] (zva v []) h1)) :
    zRn (zcl d) 160 B Q 0 [some (zr 67), some (zi x1), none] [] (c, I, zRg g) :=
  zgo [13] 8 (And.intro rfl (And.intro (Nat.le_of_ble_eq_true rfl) (Exists.intro 0 (Exists.intro 0 (And.intro (Or.inl rfl) (And.intro (Or.inl rfl) t))))))
theorem g_x12_force_13 {d : Nat} {B : Nat × Nat} {Q : zQ} {c : Nat × Nat × Nat} {I : Nat → Nat → Int} {g : Nat} {x1 s0 : Int}
    (t : (s0 ≠ 0 → (Q (some (zi (I 67 4))) (c, (z2 I 67 4 x1), zRg g))) ∧ (¬ (s0 ≠ 0) → (Q (some (zi (-2))) (c, I, zRg g)))) :
    zRn (zcl d) 160 B Q 13 [some (zr 67), some (zi x1), none] [zi s0] (c, I, zRg g) :=
  zgo [13] 8 (And.intro (fun u497 => And.intro rfl (And.intro rfl (t.1 u497))) (fun u497 => (t.2 u497)))
theorem g_x12_bitsOf_0 {d : Nat} {B : Nat × Nat} {Q : zQ} {c : Nat × Nat × Nat} {I : Nat → Nat → Int} {g : Nat} {x0 : Int}
    (t : zRn (zcl d) 161 B Q 4 [some (zi x0), some (zi 0), some (zi x0)] [] (c, I, zRg g)) :
    zRn (zcl d) 161 B Q 0 [some (zi x0), none, none] [] (c, I, zRg g) :=
  zgo [4] 4 (t)
theorem g_x12_bitsOf_4 {d : Nat} {B : Nat × Nat} {Q : zQ} {c : Nat × Nat × Nat} {I : Nat → Nat → Int} {g : Nat} {x0 x1 x2 : Int}
    (t : (x2 = 0 → (Q (some (zi x1)) (c, I, zRg g))) ∧ (¬ (x2 = 0) → (zRn (zcl d) 161 B Q 4 [some (zi x0), some (zi (zwr (x1 + 1))), some (zi (zand x2 (zwr (x2 - 1))))] [] (c, I, zRg g)))) :
    zRn (zcl d) 161 B Q 4 [some (zi x0), some (zi x1), some (zi x2)] [] (c, I, zRg g) :=
  zgo [4] 10 (And.intro (fun u498 => (t.1 u498)) (fun u498 => (t.2 u498)))
theorem g_x12_wordsOf_0 {d : Nat} {B : Nat × Nat} {Q : zQ} {c : Nat × Nat × Nat} {I : Nat → Nat → Int} {g : Nat} {x1 : Int}
    (t : (0 ≤ zwr ((zwr (5 * x1)) + 1) ∧ zwr ((zwr (5 * x1)) + 1) < 25) ∧ (Q (some (zi (zor (I 71 ((zwr ((zwr (5 * x1)) + 1)).toNat)) (I 67 13)))) (c, I, zRg g))) :
    zRn (zcl d) 162 B Q 0 [some (zr 67), some (zi x1)] [] (c, I, zRg g) :=
  zgo [] 11 (And.intro rfl (Exists.intro (some 71) (And.intro rfl (And.intro rfl (And.intro t.1 (And.intro rfl t.2))))))
theorem g_x12_says_0 {d : Nat} {B : Nat × Nat} {Q : zQ} {c : Nat × Nat × Nat} {I : Nat → Nat → Int} {g : Nat} {x1 x2 x3 : Int}
    (t : zcl d 162 0 0 [zr 67, zi x2] (c, I, zRg g) (fun v h1 => zRn (zcl d) 163 B Q 6 [some (zr 67), some (zi x1), some (zi x2), some (zi x3)] (zva v [zr 67]) h1)) :
    zRn (zcl d) 163 B Q 0 [some (zr 67), some (zi x1), some (zi x2), some (zi x3)] [] (c, I, zRg g) :=
  zgo [6, 9, 51, 77, 83] 3 (Exists.intro 162 (And.intro rfl (And.intro (Nat.le_of_ble_eq_true rfl) (Exists.intro 0 (Exists.intro 0 (And.intro (Or.inl rfl) (And.intro (Or.inl rfl) t)))))))
theorem g_x12_says_6 {d : Nat} {B : Nat × Nat} {Q : zQ} {c : Nat × Nat × Nat} {I : Nat → Nat → Int} {g : Nat} {x1 x2 x3 s0 : Int}
    (t : zcl d 161 0 0 [zi s0] (c, I, zRg g) (fun v h1 => zRn (zcl d) 163 B Q 9 [some (zr 67), some (zi x1), some (zi x2), some (zi x3)] (zva v [zr 67]) h1)) :
    zRn (zcl d) 163 B Q 6 [some (zr 67), some (zi x1), some (zi x2), some (zi x3)] [zi s0, zr 67] (c, I, zRg g) :=
  zgo [6, 9, 51, 77, 83] 0 (And.intro (Nat.le_of_ble_eq_true rfl) (Exists.intro 0 (Exists.intro 0 (And.intro (Or.inl rfl) (And.intro (Or.inl rfl) t)))))
theorem g_x12_says_9 {d : Nat} {B : Nat × Nat} {Q : zQ} {c : Nat × Nat × Nat} {I : Nat → Nat → Int} {g : Nat} {x1 x2 x3 s0 : Int}
    (t : (0 ≤ zwr ((zwr (5 * x2)) + 2) ∧ zwr ((zwr (5 * x2)) + 2) < 25) ∧ ((0 ≤ zwr (5 * x2) ∧ zwr (5 * x2) < 25) ∧ (zcl d 161 0 0 [zi x3] (c, (z2 (z2 (z2 (z2 I 67 14 s0) 67 15 ((z2 I 67 14 s0) 71 ((zwr ((zwr (5 * x2)) + 2)).toNat))) 67 16 ((z2 (z2 I 67 14 s0) 67 15 ((z2 I 67 14 s0) 71 ((zwr ((zwr (5 * x2)) + 2)).toNat))) 71 ((zwr (5 * x2)).toNat))) 67 17 (I 67 7)), zRg g) (fun v h1 => zRn (zcl d) 163 B Q 51 [some (zr 67), some (zi x1), some (zi x2), some (zi x3)] (zva v [zr 67]) h1)))) :
    zRn (zcl d) 163 B Q 9 [some (zr 67), some (zi x1), some (zi x2), some (zi x3)] [zi s0, zr 67] (c, I, zRg g) :=
  zgo [6, 9, 51, 77, 83] 25 (And.intro rfl (And.intro rfl (Exists.intro (some 71) (And.intro rfl (And.intro rfl (And.intro t.1 (And.intro rfl (And.intro rfl (Exists.intro (some 71) (And.intro rfl (And.intro rfl (And.intro t.2.1 (And.intro rfl (And.intro rfl (And.intro rfl (And.intro (Nat.le_of_ble_eq_true rfl) (Exists.intro 0 (Exists.intro 0 (And.intro (Or.inl rfl) (And.intro (Or.inl rfl) t.2.2))))))))))))))))))))
theorem g_x12_says_51 {d : Nat} {B : Nat × Nat} {Q : zQ} {c : Nat × Nat × Nat} {I : Nat → Nat → Int} {g : Nat} {x1 x2 x3 s0 : Int}
    (t : (0 ≤ zwr ((zwr (5 * x2)) + 3) ∧ zwr ((zwr (5 * x2)) + 3) < 25) ∧ (zcl d 158 0 0 [zr 67, zi (I 67 4), zi x1] (c, (z2 (z2 I 67 18 s0) 67 19 ((z2 I 67 18 s0) 71 ((zwr ((zwr (5 * x2)) + 3)).toNat))), zRg g) (fun v h1 => zRn (zcl d) 163 B Q 77 [some (zr 67), some (zi x1), some (zi x2), some (zi x3)] (zva v []) h1))) :
    zRn (zcl d) 163 B Q 51 [some (zr 67), some (zi x1), some (zi x2), some (zi x3)] [zi s0, zr 67] (c, I, zRg g) :=
  zgo [6, 9, 51, 77, 83] 15 (And.intro rfl (And.intro rfl (Exists.intro (some 71) (And.intro rfl (And.intro rfl (And.intro t.1 (And.intro rfl (And.intro rfl (Exists.intro 158 (And.intro rfl (And.intro (Nat.le_of_ble_eq_true rfl) (Exists.intro 0 (Exists.intro 0 (And.intro (Or.inl rfl) (And.intro (Or.inl rfl) t.2)))))))))))))))
theorem g_x12_says_77 {d : Nat} {B : Nat × Nat} {Q : zQ} {c : Nat × Nat × Nat} {I : Nat → Nat → Int} {g : Nat} {x1 x2 x3 s0 : Int}
    (t : zcl d 131 0 0 [zi s0, zi 0, zi 99] (c, I, zRg g) (fun v h1 => zRn (zcl d) 163 B Q 83 [some (zr 67), some (zi x1), some (zi x2), some (zi x3)] (zva v []) h1)) :
    zRn (zcl d) 163 B Q 77 [some (zr 67), some (zi x1), some (zi x2), some (zi x3)] [zi s0] (c, I, zRg g) :=
  zgo [6, 9, 51, 77, 83] 2 (And.intro (Nat.le_of_ble_eq_true rfl) (Exists.intro 0 (Exists.intro 0 (And.intro (Or.inl rfl) (And.intro (Or.inl rfl) t)))))
theorem g_x12_says_83 {d : Nat} {B : Nat × Nat} {Q : zQ} {c : Nat × Nat × Nat} {I : Nat → Nat → Int} {g : Nat} {x1 x2 x3 s0 : Int}
    (t : Q (some (zi s0)) (c, I, zRg g)) :
    zRn (zcl d) 163 B Q 83 [some (zr 67), some (zi x1), some (zi x2), some (zi x3)] [zi s0] (c, I, zRg g) :=
  zgo [6, 9, 51, 77, 83] 0 (t)
theorem g_x12_keepsOf_0 {d : Nat} {B : Nat × Nat} {Q : zQ} {c : Nat × Nat × Nat} {I : Nat → Nat → Int} {g : Nat} {x1 x2 : Int}
    (t : (0 ≤ zwr ((zwr (5 * x1)) + 4) ∧ zwr ((zwr (5 * x1)) + 4) < 25) ∧ ((I 71 ((zwr ((zwr (5 * x1)) + 4)).toNat) ≠ 4 → (zcl d 163 0 0 [zr 67, zi 0, zi x1, zi x2] (c, I, zRg g) (fun v h1 => zRn (zcl d) 164 B Q 35 [some (zr 67), some (zi x1), some (zi x2), some (zi (I 71 ((zwr ((zwr (5 * x1)) + 4)).toNat))), none] (zva v []) h1))) ∧ (¬ (I 71 ((zwr ((zwr (5 * x1)) + 4)).toNat) ≠ 4) → ((zwr (Int.tmod (I 67 7) 4) ≠ 0 → (zcl d 163 0 0 [zr 67, zi 0, zi x1, zi x2] (c, I, zRg g) (fun v h1 => zRn (zcl d) 164 B Q 35 [some (zr 67), some (zi x1), some (zi x2), some (zi (I 71 ((zwr ((zwr (5 * x1)) + 4)).toNat))), none] (zva v []) h1))) ∧ (¬ (zwr (Int.tmod (I 67 7) 4) ≠ 0) → (Q (some (zi 10)) (c, I, zRg g))))))) :
    zRn (zcl d) 164 B Q 0 [some (zr 67), some (zi x1), some (zi x2), none, none] [] (c, I, zRg g) :=
  zgo [35, 91] 21 (And.intro rfl (Exists.intro (some 71) (And.intro rfl (And.intro rfl (And.intro t.1 (And.intro (fun u499 => Exists.intro 163 (And.intro rfl (And.intro (Nat.le_of_ble_eq_true rfl) (Exists.intro 0 (Exists.intro 0 (And.intro (Or.inl rfl) (And.intro (Or.inl rfl) (t.2.1 u499)))))))) (fun u499 => And.intro rfl (And.intro (by decide) (And.intro (fun u500 => Exists.intro 163 (And.intro rfl (And.intro (Nat.le_of_ble_eq_true rfl) (Exists.intro 0 (Exists.intro 0 (And.intro (Or.inl rfl) (And.intro (Or.inl rfl) ((t.2.2 u499).1 u500)))))))) (fun u500 => ((t.2.2 u499).2 u500)))))))))))
theorem g_x12_keepsOf_35 {d : Nat} {B : Nat × Nat} {Q : zQ} {c : Nat × Nat × Nat} {I : Nat → Nat → Int} {g : Nat} {x1 x2 x3 s0 : Int}
    (t : (x3 = 1 → (zcl d 131 0 0 [zi (zwr (s0 + 1)), zi 0, zi 10] (c, I, zRg g) (fun v h1 => zRn (zcl d) 164 B Q 91 [some (zr 67), some (zi x1), some (zi x2), some (zi x3), some (zi s0)] (zva v []) h1))) ∧ (¬ (x3 = 1) → ((x3 ≠ 3 → ((x3 = 2 → (zcl d 131 0 0 [zi (zwr (2 * s0)), zi 0, zi 10] (c, I, zRg g) (fun v h1 => zRn (zcl d) 164 B Q 91 [some (zr 67), some (zi x1), some (zi x2), some (zi x3), some (zi s0)] (zva v []) h1))) ∧ (¬ (x3 = 2) → ((x3 ≠ 4 → ((x3 ≠ 5 → (zcl d 131 0 0 [zi s0, zi 0, zi 10] (c, I, zRg g) (fun v h1 => zRn (zcl d) 164 B Q 91 [some (zr 67), some (zi x1), some (zi x2), some (zi x3), some (zi s0)] (zva v []) h1))) ∧ (¬ (x3 ≠ 5) → (zcl d 131 0 0 [zi (zwr (Int.tdiv s0 2)), zi 0, zi 10] (c, I, zRg g) (fun v h1 => zRn (zcl d) 164 B Q 91 [some (zr 67), some (zi x1), some (zi x2), some (zi x3), some (zi s0)] (zva v []) h1))))) ∧ (¬ (x3 ≠ 4) → (zcl d 131 0 0 [zi (zwr (2 * s0)), zi 0, zi 10] (c, I, zRg g) (fun v h1 => zRn (zcl d) 164 B Q 91 [some (zr 67), some (zi x1), some (zi x2), some (zi x3), some (zi s0)] (zva v []) h1))))))) ∧ (¬ (x3 ≠ 3) → (zcl d 131 0 0 [zi (zwr (s0 + 1)), zi 0, zi 10] (c, I, zRg g) (fun v h1 => zRn (zcl d) 164 B Q 91 [some (zr 67), some (zi x1), some (zi x2), some (zi x3), some (zi s0)] (zva v []) h1)))))) :
    zRn (zcl d) 164 B Q 35 [some (zr 67), some (zi x1), some (zi x2), some (zi x3), none] [zi s0] (c, I, zRg g) :=
  zgo [35, 91] 22 (And.intro (fun u501 => And.intro (Nat.le_of_ble_eq_true rfl) (Exists.intro 0 (Exists.intro 0 (And.intro (Or.inl rfl) (And.intro (Or.inl rfl) (t.1 u501)))))) (fun u501 => And.intro (fun u502 => And.intro (fun u503 => And.intro (Nat.le_of_ble_eq_true rfl) (Exists.intro 0 (Exists.intro 0 (And.intro (Or.inl rfl) (And.intro (Or.inl rfl) (((t.2 u501).1 u502).1 u503)))))) (fun u503 => And.intro (fun u504 => And.intro (fun u505 => And.intro (Nat.le_of_ble_eq_true rfl) (Exists.intro 0 (Exists.intro 0 (And.intro (Or.inl rfl) (And.intro (Or.inl rfl) (((((t.2 u501).1 u502).2 u503).1 u504).1 u505)))))) (fun u505 => And.intro (by decide) (And.intro (Nat.le_of_ble_eq_true rfl) (Exists.intro 0 (Exists.intro 0 (And.intro (Or.inl rfl) (And.intro (Or.inl rfl) (((((t.2 u501).1 u502).2 u503).1 u504).2 u505)))))))) (fun u504 => And.intro (Nat.le_of_ble_eq_true rfl) (Exists.intro 0 (Exists.intro 0 (And.intro (Or.inl rfl) (And.intro (Or.inl rfl) ((((t.2 u501).1 u502).2 u503).2 u504)))))))) (fun u502 => And.intro (Nat.le_of_ble_eq_true rfl) (Exists.intro 0 (Exists.intro 0 (And.intro (Or.inl rfl) (And.intro (Or.inl rfl) ((t.2 u501).2 u502))))))))
theorem g_x12_keepsOf_91 {d : Nat} {B : Nat × Nat} {Q : zQ} {c : Nat × Nat × Nat} {I : Nat → Nat → Int} {g : Nat} {x1 x2 x3 x4 s0 : Int}
    (t : Q (some (zi s0)) (c, I, zRg g)) :
    zRn (zcl d) 164 B Q 91 [some (zr 67), some (zi x1), some (zi x2), some (zi x3), some (zi x4)] [zi s0] (c, I, zRg g) :=
  zgo [35, 91] 0 (t)
theorem g_x12_tellsOf_0 {d : Nat} {B : Nat × Nat} {Q : zQ} {c : Nat × Nat × Nat} {I : Nat → Nat → Int} {g : Nat} {x1 x2 : Int}
    (t : (0 ≤ zwr ((zwr (5 * x1)) + 4) ∧ zwr ((zwr (5 * x1)) + 4) < 25) ∧ (zcl d 162 0 0 [zr 67, zi x1] (c, I, zRg g) (fun v h1 => zRn (zcl d) 165 B Q 17 [some (zr 67), some (zi x1), some (zi x2), some (zi (I 71 ((zwr ((zwr (5 * x1)) + 4)).toNat))), none, none, none, none] (zva v [zi x2]) h1))) :
    zRn (zcl d) 165 B Q 0 [some (zr 67), some (zi x1), some (zi x2), none, none, none, none, none] [] (c, I, zRg g) :=
  zgo [17, 29, 31, 145] 12 (And.intro rfl (Exists.intro (some 71) (And.intro rfl (And.intro rfl (And.intro t.1 (Exists.intro 162 (And.intro rfl (And.intro (Nat.le_of_ble_eq_true rfl) (Exists.intro 0 (Exists.intro 0 (And.intro (Or.inl rfl) (And.intro (Or.inl rfl) t.2))))))))))))
theorem g_x12_tellsOf_17 {d : Nat} {B : Nat × Nat} {Q : zQ} {c : Nat × Nat × Nat} {I : Nat → Nat → Int} {g : Nat} {x1 x2 x3 s0 s1 : Int}
    (t : zcl d 164 0 0 [zr 67, zi x1, zi x2] (c, I, zRg g) (fun v h1 => zRn (zcl d) 165 B Q 29 [some (zr 67), some (zi x1), some (zi x2), some (zi x3), some (zi (zand s1 s0)), some (zi 0), none, none] (zva v []) h1)) :
    zRn (zcl d) 165 B Q 17 [some (zr 67), some (zi x1), some (zi x2), some (zi x3), none, none, none, none] [zi s0, zi s1] (c, I, zRg g) :=
  zgo [17, 29, 31, 145] 7 (Exists.intro 164 (And.intro rfl (And.intro (Nat.le_of_ble_eq_true rfl) (Exists.intro 0 (Exists.intro 0 (And.intro (Or.inl rfl) (And.intro (Or.inl rfl) t)))))))
theorem g_x12_tellsOf_29 {d : Nat} {B : Nat × Nat} {Q : zQ} {c : Nat × Nat × Nat} {I : Nat → Nat → Int} {g : Nat} {x1 x2 x3 x4 x5 s0 : Int}
    (t : zRn (zcl d) 165 B Q 31 [some (zr 67), some (zi x1), some (zi x2), some (zi x3), some (zi x4), some (zi x5), some (zi s0), none] [] (c, I, zRg g)) :
    zRn (zcl d) 165 B Q 29 [some (zr 67), some (zi x1), some (zi x2), some (zi x3), some (zi x4), some (zi x5), none, none] [zi s0] (c, I, zRg g) :=
  zgo [17, 29, 31, 145] 1 (t)
theorem g_x12_tellsOf_31 {d : Nat} {B : Nat × Nat} {Q : zQ} {c : Nat × Nat × Nat} {I : Nat → Nat → Int} {g : Nat} {x1 x2 x3 x4 x5 x6 : Int}
    (t : (x6 ≤ 0 → ((0 ≤ zwr (5 * x1) ∧ zwr (5 * x1) < 25) ∧ ((x3 = 1 → ((x3 ≠ 1 → (Q (some (zi (zxor (zor x5 (zshl 1 (I 71 ((zwr (5 * x1)).toNat)))) (zshl 1 (zwr (9 - (I 71 ((zwr (5 * x1)).toNat)))))))) (c, I, zRg g))) ∧ (¬ (x3 ≠ 1) → (Q (some (zi (zor x5 (zshl 1 (I 71 ((zwr (5 * x1)).toNat)))))) (c, I, zRg g))))) ∧ (¬ (x3 = 1) → ((x3 ≠ 3 → ((x3 ≠ 4 → ((x3 ≠ 2 → ((x3 ≠ 5 → (Q (some (zi x5)) (c, I, zRg g))) ∧ (¬ (x3 ≠ 5) → (Q (some (zi (zand x5 31))) (c, I, zRg g))))) ∧ (¬ (x3 ≠ 2) → (Q (some (zi (zor x5 (zand (zshl x5 1) x2)))) (c, I, zRg g))))) ∧ (¬ (x3 ≠ 4) → ((zor x5 (zand (zshl x5 1) x2) ≠ 0 → (zcl d 162 0 0 [zr 67, zi x1] (c, I, zRg g) (fun v h1 => zRn (zcl d) 165 B Q 145 [some (zr 67), some (zi x1), some (zi x2), some (zi x3), some (zi x4), some (zi x5), some (zi (I 71 ((zwr (5 * x1)).toNat))), some (zi (zor x5 (zand (zshl x5 1) x2)))] (zva v [zi (zor x5 (zand (zshl x5 1) x2))]) h1))) ∧ (¬ (zor x5 (zand (zshl x5 1) x2) ≠ 0) → (Q (some (zi 0)) (c, I, zRg g))))))) ∧ (¬ (x3 ≠ 3) → ((x3 ≠ 1 → (Q (some (zi (zxor (zor x5 (zshl 1 (I 71 ((zwr (5 * x1)).toNat)))) (zshl 1 (zwr (9 - (I 71 ((zwr (5 * x1)).toNat)))))))) (c, I, zRg g))) ∧ (¬ (x3 ≠ 1) → (Q (some (zi (zor x5 (zshl 1 (I 71 ((zwr (5 * x1)).toNat)))))) (c, I, zRg g)))))))))) ∧ (¬ (x6 ≤ 0) → (zRn (zcl d) 165 B Q 31 [some (zr 67), some (zi x1), some (zi x2), some (zi x3), some (zi (zand x4 (zwr (x4 - 1)))), some (zi (zor x5 (zand x4 (zwr (-x4))))), some (zi (zwr (x6 + (-1)))), none] [] (c, I, zRg g)))) :
    zRn (zcl d) 165 B Q 31 [some (zr 67), some (zi x1), some (zi x2), some (zi x3), some (zi x4), some (zi x5), some (zi x6), none] [] (c, I, zRg g) :=
  zgo [17, 29, 31, 145] 37 (And.intro (fun u506 => And.intro rfl (Exists.intro (some 71) (And.intro rfl (And.intro rfl (And.intro (t.1 u506).1 (And.intro (fun u507 => And.intro (fun u508 => (((t.1 u506).2.1 u507).1 u508)) (fun u508 => (((t.1 u506).2.1 u507).2 u508))) (fun u507 => And.intro (fun u509 => And.intro (fun u510 => And.intro (fun u511 => And.intro (fun u512 => ((((((t.1 u506).2.2 u507).1 u509).1 u510).1 u511).1 u512)) (fun u512 => ((((((t.1 u506).2.2 u507).1 u509).1 u510).1 u511).2 u512))) (fun u511 => (((((t.1 u506).2.2 u507).1 u509).1 u510).2 u511))) (fun u510 => And.intro (fun u513 => Exists.intro 162 (And.intro rfl (And.intro (Nat.le_of_ble_eq_true rfl) (Exists.intro 0 (Exists.intro 0 (And.intro (Or.inl rfl) (And.intro (Or.inl rfl) (((((t.1 u506).2.2 u507).1 u509).2 u510).1 u513)))))))) (fun u513 => (((((t.1 u506).2.2 u507).1 u509).2 u510).2 u513)))) (fun u509 => And.intro (fun u514 => ((((t.1 u506).2.2 u507).2 u509).1 u514)) (fun u514 => ((((t.1 u506).2.2 u507).2 u509).2 u514)))))))))) (fun u506 => (t.2 u506)))
theorem g_x12_tellsOf_145 {d : Nat} {B : Nat × Nat} {Q : zQ} {c : Nat × Nat × Nat} {I : Nat → Nat → Int} {g : Nat} {x1 x2 x3 x4 x5 x6 x7 s0 s1 : Int}
    (t : Q (some (zi (zor s1 (zand s0 (zwr ((zand x7 (zwr (-x7))) - 1)))))) (c, I, zRg g)) :
    zRn (zcl d) 165 B Q 145 [some (zr 67), some (zi x1), some (zi x2), some (zi x3), some (zi x4), some (zi x5), some (zi x6), some (zi x7)] [zi s0, zi s1] (c, I, zRg g) :=
  zgo [17, 29, 31, 145] 8 (t)
theorem g_x12_tiresOf_0 {d : Nat} {B : Nat × Nat} {Q : zQ} {c : Nat × Nat × Nat} {I : Nat → Nat → Int} {g : Nat} {x1 x2 : Int}
    (t : (0 ≤ zwr ((zwr (5 * x1)) + 4) ∧ zwr ((zwr (5 * x1)) + 4) < 25) ∧ ((I 71 ((zwr ((zwr (5 * x1)) + 4)).toNat) = 1 → ((I 71 ((zwr ((zwr (5 * x1)) + 4)).toNat) ≠ 3 → (Q (some (zi 0)) (c, I, zRg g))) ∧ (¬ (I 71 ((zwr ((zwr (5 * x1)) + 4)).toNat) ≠ 3) → ((0 ≤ zwr (5 * x1) ∧ zwr (5 * x1) < 25) ∧ (Q (some (zi (I 71 ((zwr (5 * x1)).toNat)))) (c, I, zRg g)))))) ∧ (¬ (I 71 ((zwr ((zwr (5 * x1)) + 4)).toNat) = 1) → ((I 71 ((zwr ((zwr (5 * x1)) + 4)).toNat) ≠ 3 → (zcl d 163 0 0 [zr 67, zi 1, zi x1, zi x2] (c, I, zRg g) (fun v h1 => zRn (zcl d) 166 B Q 46 [some (zr 67), some (zi x1), some (zi x2), some (zi (I 71 ((zwr ((zwr (5 * x1)) + 4)).toNat))), none] (zva v []) h1))) ∧ (¬ (I 71 ((zwr ((zwr (5 * x1)) + 4)).toNat) ≠ 3) → ((I 71 ((zwr ((zwr (5 * x1)) + 4)).toNat) ≠ 3 → (Q (some (zi 0)) (c, I, zRg g))) ∧ (¬ (I 71 ((zwr ((zwr (5 * x1)) + 4)).toNat) ≠ 3) → ((0 ≤ zwr (5 * x1) ∧ zwr (5 * x1) < 25) ∧ (Q (some (zi (I 71 ((zwr (5 * x1)).toNat)))) (c, I, zRg g)))))))))) :
    zRn (zcl d) 166 B Q 0 [some (zr 67), some (zi x1), some (zi x2), none, none] [] (c, I, zRg g) :=
  zgo [46] 25 (And.intro rfl (Exists.intro (some 71) (And.intro rfl (And.intro rfl (And.intro t.1 (And.intro (fun u515 => And.intro (fun u516 => ((t.2.1 u515).1 u516)) (fun u516 => And.intro rfl (Exists.intro (some 71) (And.intro rfl (And.intro rfl (And.intro ((t.2.1 u515).2 u516).1 (((t.2.1 u515).2 u516).2))))))) (fun u515 => And.intro (fun u517 => Exists.intro 163 (And.intro rfl (And.intro (Nat.le_of_ble_eq_true rfl) (Exists.intro 0 (Exists.intro 0 (And.intro (Or.inl rfl) (And.intro (Or.inl rfl) ((t.2.2 u515).1 u517)))))))) (fun u517 => And.intro (fun u518 => (((t.2.2 u515).2 u517).1 u518)) (fun u518 => And.intro rfl (Exists.intro (some 71) (And.intro rfl (And.intro rfl (And.intro (((t.2.2 u515).2 u517).2 u518).1 ((((t.2.2 u515).2 u517).2 u518).2))))))))))))))
theorem g_x12_tiresOf_46 {d : Nat} {B : Nat × Nat} {Q : zQ} {c : Nat × Nat × Nat} {I : Nat → Nat → Int} {g : Nat} {x1 x2 x3 s0 : Int}
    (t : (x3 ≠ 2 → ((x3 ≠ 4 → ((x3 ≠ 5 → (Q (some (zi s0)) (c, I, zRg g))) ∧ (¬ (x3 ≠ 5) → ((0 ≤ zwr ((zwr (5 * x1)) + 3) ∧ zwr ((zwr (5 * x1)) + 3) < 25) ∧ ((zwr (Int.tmod (I 71 ((zwr ((zwr (5 * x1)) + 3)).toNat)) 2) ≠ 1 → (Q (some (zi s0)) (c, I, zRg g))) ∧ (¬ (zwr (Int.tmod (I 71 ((zwr ((zwr (5 * x1)) + 3)).toNat)) 2) ≠ 1) → (Q (some (zi 0)) (c, I, zRg g)))))))) ∧ (¬ (x3 ≠ 4) → (Q (some (zi (zwr (Int.tdiv (zwr (s0 + 1)) 2)))) (c, I, zRg g))))) ∧ (¬ (x3 ≠ 2) → (Q (some (zi (zwr (s0 + 1)))) (c, I, zRg g)))) :
    zRn (zcl d) 166 B Q 46 [some (zr 67), some (zi x1), some (zi x2), some (zi x3), none] [zi s0] (c, I, zRg g) :=
  zgo [46] 24 (And.intro (fun u519 => And.intro (fun u520 => And.intro (fun u521 => (((t.1 u519).1 u520).1 u521)) (fun u521 => And.intro rfl (Exists.intro (some 71) (And.intro rfl (And.intro rfl (And.intro (((t.1 u519).1 u520).2 u521).1 (And.intro (by decide) (And.intro (fun u522 => ((((t.1 u519).1 u520).2 u521).2.1 u522)) (fun u522 => ((((t.1 u519).1 u520).2 u521).2.2 u522)))))))))) (fun u520 => And.intro (by decide) ((t.1 u519).2 u520))) (fun u519 => (t.2 u519)))
theorem g_x12_learns_0 {d : Nat} {B : Nat × Nat} {Q : zQ} {c : Nat × Nat × Nat} {I : Nat → Nat → Int} {g : Nat} {x1 x2 : Int}
    (t : (0 ≤ zwr ((zwr (5 * x1)) + 4) ∧ zwr ((zwr (5 * x1)) + 4) < 25) ∧ ((I 71 ((zwr ((zwr (5 * x1)) + 4)).toNat) = 1 → (Q (some (zi 0)) (c, I, zRg g))) ∧ (¬ (I 71 ((zwr ((zwr (5 * x1)) + 4)).toNat) = 1) → ((I 71 ((zwr ((zwr (5 * x1)) + 4)).toNat) ≠ 5 → (zcl d 163 0 0 [zr 67, zi 2, zi x1, zi x2] (c, I, zRg g) (fun v h1 => zRn (zcl d) 167 B Q 30 [some (zr 67), some (zi x1), some (zi x2), some (zi (I 71 ((zwr ((zwr (5 * x1)) + 4)).toNat)))] (zva v []) h1))) ∧ (¬ (I 71 ((zwr ((zwr (5 * x1)) + 4)).toNat) ≠ 5) → (Q (some (zi 0)) (c, I, zRg g))))))) :
    zRn (zcl d) 167 B Q 0 [some (zr 67), some (zi x1), some (zi x2), none] [] (c, I, zRg g) :=
  zgo [30, 47] 19 (And.intro rfl (Exists.intro (some 71) (And.intro rfl (And.intro rfl (And.intro t.1 (And.intro (fun u523 => And.intro (Or.inl rfl) (t.2.1 u523)) (fun u523 => And.intro (fun u524 => Exists.intro 163 (And.intro rfl (And.intro (Nat.le_of_ble_eq_true rfl) (Exists.intro 0 (Exists.intro 0 (And.intro (Or.inl rfl) (And.intro (Or.inl rfl) ((t.2.2 u523).1 u524)))))))) (fun u524 => And.intro (Or.inl rfl) ((t.2.2 u523).2 u524)))))))))
theorem g_x12_learns_30 {d : Nat} {B : Nat × Nat} {Q : zQ} {c : Nat × Nat × Nat} {I : Nat → Nat → Int} {g : Nat} {x1 x2 x3 s0 : Int}
    (t : (s0 ≠ 0 → (Q (some (zi 1)) (c, I, zRg g))) ∧ (¬ (s0 ≠ 0) → ((x3 = 2 → (zcl d 161 0 0 [zi x2] (c, I, zRg g) (fun v h1 => zRn (zcl d) 167 B Q 47 [some (zr 67), some (zi x1), some (zi x2), some (zi x3)] (zva v []) h1))) ∧ (¬ (x3 = 2) → ((x3 ≠ 4 → (Q (some (zi 0)) (c, I, zRg g))) ∧ (¬ (x3 ≠ 4) → (zcl d 161 0 0 [zi x2] (c, I, zRg g) (fun v h1 => zRn (zcl d) 167 B Q 47 [some (zr 67), some (zi x1), some (zi x2), some (zi x3)] (zva v []) h1)))))))) :
    zRn (zcl d) 167 B Q 30 [some (zr 67), some (zi x1), some (zi x2), some (zi x3)] [zi s0] (c, I, zRg g) :=
  zgo [30, 47] 8 (And.intro (fun u525 => And.intro (Or.inr rfl) (t.1 u525)) (fun u525 => And.intro (fun u526 => And.intro (Nat.le_of_ble_eq_true rfl) (Exists.intro 0 (Exists.intro 0 (And.intro (Or.inl rfl) (And.intro (Or.inl rfl) ((t.2 u525).1 u526)))))) (fun u526 => And.intro (fun u527 => And.intro (Or.inl rfl) (((t.2 u525).2 u526).1 u527)) (fun u527 => And.intro (Nat.le_of_ble_eq_true rfl) (Exists.intro 0 (Exists.intro 0 (And.intro (Or.inl rfl) (And.intro (Or.inl rfl) (((t.2 u525).2 u526).2 u527)))))))))
theorem g_x12_learns_47 {d : Nat} {B : Nat × Nat} {Q : zQ} {c : Nat × Nat × Nat} {I : Nat → Nat → Int} {g : Nat} {x1 x2 x3 s0 : Int}
    (t : (s0 ≠ 1 → (Q (some (zi 0)) (c, I, zRg g))) ∧ (¬ (s0 ≠ 1) → (Q (some (zi 1)) (c, I, zRg g)))) :
    zRn (zcl d) 167 B Q 47 [some (zr 67), some (zi x1), some (zi x2), some (zi x3)] [zi s0] (c, I, zRg g) :=
  zgo [30, 47] 4 (And.intro (fun u528 => And.intro (Or.inl rfl) (t.1 u528)) (fun u528 => And.intro (Or.inr rfl) (t.2 u528)))
theorem g_x12_asks_0 {d : Nat} {B : Nat × Nat} {Q : zQ} {c : Nat × Nat × Nat} {I : Nat → Nat → Int} {g : Nat} {x1 x2 x3 : Int}
    (t : zcl d 134 0 0 [zr 67, zi x1] (c, I, zRg g) (fun v h1 => zRn (zcl d) 168 B Q 5 [some (zr 67), some (zi x1), some (zi x2), some (zi x3)] (zva v []) h1)) :
    zRn (zcl d) 168 B Q 0 [some (zr 67), some (zi x1), some (zi x2), some (zi x3)] [] (c, I, zRg g) :=
  zgo [5, 17, 29, 45, 59, 73, 82] 2 (Exists.intro 134 (And.intro rfl (And.intro (Nat.le_of_ble_eq_true rfl) (Exists.intro 0 (Exists.intro 0 (And.intro (Or.inl rfl) (And.intro (Or.inl rfl) t)))))))
theorem g_x12_asks_5 {d : Nat} {B : Nat × Nat} {Q : zQ} {c : Nat × Nat × Nat} {I : Nat → Nat → Int} {g : Nat} {x1 x2 x3 s0 : Int}
    (t : (s0 = 0 → (Q (some (zi (-2))) (c, I, zRg g))) ∧ (¬ (s0 = 0) → (zcl d 130 0 0 [zl x2, zl 0, zl 1023] (c, I, zRg g) (fun v h1 => zRn (zcl d) 168 B Q 17 [some (zr 67), some (zi x1), some (zi x2), some (zi x3)] (zva v []) h1)))) :
    zRn (zcl d) 168 B Q 5 [some (zr 67), some (zi x1), some (zi x2), some (zi x3)] [zi s0] (c, I, zRg g) :=
  zgo [5, 17, 29, 45, 59, 73, 82] 5 (And.intro (fun u529 => (t.1 u529)) (fun u529 => And.intro (Nat.le_of_ble_eq_true rfl) (Exists.intro 0 (Exists.intro 0 (And.intro (Or.inl rfl) (And.intro (Or.inl rfl) (t.2 u529)))))))
theorem g_x12_asks_17 {d : Nat} {B : Nat × Nat} {Q : zQ} {c : Nat × Nat × Nat} {I : Nat → Nat → Int} {g : Nat} {x1 x2 x3 s0 : Int}
    (t : (s0 = 0 → (Q (some (zi (-2))) (c, I, zRg g))) ∧ (¬ (s0 = 0) → (zcl d 130 0 0 [zl x3, zl 0, zl 3] (c, I, zRg g) (fun v h1 => zRn (zcl d) 168 B Q 29 [some (zr 67), some (zi x1), some (zi x2), some (zi x3)] (zva v []) h1)))) :
    zRn (zcl d) 168 B Q 17 [some (zr 67), some (zi x1), some (zi x2), some (zi x3)] [zi s0] (c, I, zRg g) :=
  zgo [5, 17, 29, 45, 59, 73, 82] 5 (And.intro (fun u530 => (t.1 u530)) (fun u530 => And.intro (Nat.le_of_ble_eq_true rfl) (Exists.intro 0 (Exists.intro 0 (And.intro (Or.inl rfl) (And.intro (Or.inl rfl) (t.2 u530)))))))
theorem g_x12_asks_29 {d : Nat} {B : Nat × Nat} {Q : zQ} {c : Nat × Nat × Nat} {I : Nat → Nat → Int} {g : Nat} {x1 x2 x3 s0 : Int}
    (t : (s0 ≠ 0 → ((x3 ≠ 0 → ((x3 ≠ 1 → ((x3 ≠ 2 → (zcl d 167 0 0 [zr 67, zi x1, zi x2] (c, I, zRg g) (fun v h1 => zRn (zcl d) 168 B Q 82 [some (zr 67), some (zi x1), some (zi x2), some (zi x3)] (zva v []) h1))) ∧ (¬ (x3 ≠ 2) → (zcl d 166 0 0 [zr 67, zi x1, zi x2] (c, I, zRg g) (fun v h1 => zRn (zcl d) 168 B Q 73 [some (zr 67), some (zi x1), some (zi x2), some (zi x3)] (zva v []) h1))))) ∧ (¬ (x3 ≠ 1) → (zcl d 164 0 0 [zr 67, zi x1, zi x2] (c, I, zRg g) (fun v h1 => zRn (zcl d) 168 B Q 59 [some (zr 67), some (zi x1), some (zi x2), some (zi x3)] (zva v []) h1))))) ∧ (¬ (x3 ≠ 0) → (zcl d 165 0 0 [zr 67, zi x1, zi x2] (c, I, zRg g) (fun v h1 => zRn (zcl d) 168 B Q 45 [some (zr 67), some (zi x1), some (zi x2), some (zi x3)] (zva v []) h1))))) ∧ (¬ (s0 ≠ 0) → (Q (some (zi (-2))) (c, I, zRg g)))) :
    zRn (zcl d) 168 B Q 29 [some (zr 67), some (zi x1), some (zi x2), some (zi x3)] [zi s0] (c, I, zRg g) :=
  zgo [5, 17, 29, 45, 59, 73, 82] 12 (And.intro (fun u531 => And.intro (fun u532 => And.intro (fun u533 => And.intro (fun u534 => Exists.intro 167 (And.intro rfl (And.intro (Nat.le_of_ble_eq_true rfl) (Exists.intro 0 (Exists.intro 0 (And.intro (Or.inl rfl) (And.intro (Or.inl rfl) ((((t.1 u531).1 u532).1 u533).1 u534)))))))) (fun u534 => Exists.intro 166 (And.intro rfl (And.intro (Nat.le_of_ble_eq_true rfl) (Exists.intro 0 (Exists.intro 0 (And.intro (Or.inl rfl) (And.intro (Or.inl rfl) ((((t.1 u531).1 u532).1 u533).2 u534))))))))) (fun u533 => Exists.intro 164 (And.intro rfl (And.intro (Nat.le_of_ble_eq_true rfl) (Exists.intro 0 (Exists.intro 0 (And.intro (Or.inl rfl) (And.intro (Or.inl rfl) (((t.1 u531).1 u532).2 u533))))))))) (fun u532 => Exists.intro 165 (And.intro rfl (And.intro (Nat.le_of_ble_eq_true rfl) (Exists.intro 0 (Exists.intro 0 (And.intro (Or.inl rfl) (And.intro (Or.inl rfl) ((t.1 u531).2 u532))))))))) (fun u531 => (t.2 u531)))
theorem g_x12_asks_45 {d : Nat} {B : Nat × Nat} {Q : zQ} {c : Nat × Nat × Nat} {I : Nat → Nat → Int} {g : Nat} {x1 x2 x3 s0 : Int}
    (t : Q (some (zi s0)) (c, I, zRg g)) :
    zRn (zcl d) 168 B Q 45 [some (zr 67), some (zi x1), some (zi x2), some (zi x3)] [zi s0] (c, I, zRg g) :=
  zgo [5, 17, 29, 45, 59, 73, 82] 1 (t)
theorem g_x12_asks_59 {d : Nat} {B : Nat × Nat} {Q : zQ} {c : Nat × Nat × Nat} {I : Nat → Nat → Int} {g : Nat} {x1 x2 x3 s0 : Int}
    (t : Q (some (zi s0)) (c, I, zRg g)) :
    zRn (zcl d) 168 B Q 59 [some (zr 67), some (zi x1), some (zi x2), some (zi x3)] [zi s0] (c, I, zRg g) :=
  zgo [5, 17, 29, 45, 59, 73, 82] 1 (t)
theorem g_x12_asks_73 {d : Nat} {B : Nat × Nat} {Q : zQ} {c : Nat × Nat × Nat} {I : Nat → Nat → Int} {g : Nat} {x1 x2 x3 s0 : Int}
    (t : Q (some (zi s0)) (c, I, zRg g)) :
    zRn (zcl d) 168 B Q 73 [some (zr 67), some (zi x1), some (zi x2), some (zi x3)] [zi s0] (c, I, zRg g) :=
  zgo [5, 17, 29, 45, 59, 73, 82] 1 (t)
theorem g_x12_asks_82 {d : Nat} {B : Nat × Nat} {Q : zQ} {c : Nat × Nat × Nat} {I : Nat → Nat → Int} {g : Nat} {x1 x2 x3 s0 : Int}
    (t : (s0 = 0 → (Q (some (zi 0)) (c, I, zRg g))) ∧ (¬ (s0 = 0) → (Q (some (zi 1)) (c, I, zRg g)))) :
    zRn (zcl d) 168 B Q 82 [some (zr 67), some (zi x1), some (zi x2), some (zi x3)] [zi s0] (c, I, zRg g) :=
  zgo [5, 17, 29, 45, 59, 73, 82] 3 (And.intro (fun u535 => (t.1 u535)) (fun u535 => (t.2 u535)))
theorem g_x12_byAll_0 {d : Nat} {B : Nat × Nat} {Q : zQ} {c : Nat × Nat × Nat} {I : Nat → Nat → Int} {g : Nat} {x1 : Int}
    (t : zRn (zcl d) 169 B Q 4 [some (zr 67), some (zi x1), some (zi x1), some (zi 0)] [] (c, I, zRg g)) :
    zRn (zcl d) 169 B Q 0 [some (zr 67), some (zi x1), none, none] [] (c, I, zRg g) :=
  zgo [4, 18] 4 (t)
theorem g_x12_byAll_4 {d : Nat} {B : Nat × Nat} {Q : zQ} {c : Nat × Nat × Nat} {I : Nat → Nat → Int} {g : Nat} {x1 x2 x3 : Int}
    (t : (I 67 9 ≤ x3 → (Q (some (zi x2)) (c, I, zRg g))) ∧ (¬ (I 67 9 ≤ x3) → (zcl d 165 0 0 [zr 67, zi x3, zi x2] (c, I, zRg g) (fun v h1 => zRn (zcl d) 169 B Q 18 [some (zr 67), some (zi x1), some (zi x2), some (zi x3)] (zva v []) h1)))) :
    zRn (zcl d) 169 B Q 4 [some (zr 67), some (zi x1), some (zi x2), some (zi x3)] [] (c, I, zRg g) :=
  zgo [4, 18] 7 (And.intro rfl (And.intro (fun u536 => (t.1 u536)) (fun u536 => Exists.intro 165 (And.intro rfl (And.intro (Nat.le_of_ble_eq_true rfl) (Exists.intro 0 (Exists.intro 0 (And.intro (Or.inl rfl) (And.intro (Or.inl rfl) (t.2 u536))))))))))
theorem g_x12_byAll_18 {d : Nat} {B : Nat × Nat} {Q : zQ} {c : Nat × Nat × Nat} {I : Nat → Nat → Int} {g : Nat} {x1 x2 x3 s0 : Int}
    (t : zRn (zcl d) 169 B Q 4 [some (zr 67), some (zi x1), some (zi s0), some (zi (zwr (x3 + 1)))] [] (c, I, zRg g)) :
    zRn (zcl d) 169 B Q 18 [some (zr 67), some (zi x1), some (zi x2), some (zi x3)] [zi s0] (c, I, zRg g) :=
  zgo [4, 18] 3 (t)
theorem g_x12_off_0 {d : Nat} {B : Nat × Nat} {Q : zQ} {c : Nat × Nat × Nat} {I : Nat → Nat → Int} {g : Nat} {x0 x1 : Int}
    (t : zcl d 161 0 0 [zi (zxor x0 x1)] (c, I, zRg g) (fun v h1 => zRn (zcl d) 170 B Q 6 [some (zi x0), some (zi x1)] (zva v []) h1)) :
    zRn (zcl d) 170 B Q 0 [some (zi x0), some (zi x1)] [] (c, I, zRg g) :=
  zgo [6] 3 (And.intro (Nat.le_of_ble_eq_true rfl) (Exists.intro 0 (Exists.intro 0 (And.intro (Or.inl rfl) (And.intro (Or.inl rfl) t)))))
theorem g_x12_off_6 {d : Nat} {B : Nat × Nat} {Q : zQ} {c : Nat × Nat × Nat} {I : Nat → Nat → Int} {g : Nat} {x0 x1 s0 : Int}
    (t : Q (some (zi s0)) (c, I, zRg g)) :
    zRn (zcl d) 170 B Q 6 [some (zi x0), some (zi x1)] [zi s0] (c, I, zRg g) :=
  zgo [6] 0 (t)
theorem g_x12_over_0 {d : Nat} {B : Nat × Nat} {Q : zQ} {c : Nat × Nat × Nat} {I : Nat → Nat → Int} {g : Nat} {x1 x2 x3 : Int}
    (t : zcl d 195 0 0 [zi x1] (c, I, zRg g) (fun v h1 => zRn (zcl d) 171 B Q 4 [some (zr 67), some (zi x1), some (zi x2), some (zi x3), none, none] (zva v []) h1)) :
    zRn (zcl d) 171 B Q 0 [some (zr 67), some (zi x1), some (zi x2), some (zi x3), none, none] [] (c, I, zRg g) :=
  zgo [4, 16, 28, 52, 79, 94, 123, 151] 1 (And.intro (Nat.le_of_ble_eq_true rfl) (Exists.intro 0 (Exists.intro 0 (And.intro (Or.inl rfl) (And.intro (Or.inl rfl) t)))))
theorem g_x12_over_4 {d : Nat} {B : Nat × Nat} {Q : zQ} {c : Nat × Nat × Nat} {I : Nat → Nat → Int} {g : Nat} {x1 x2 x3 s0 : Int}
    (t : (s0 = 0 → (Q (some (zi (-2))) (c, I, zRg g))) ∧ (¬ (s0 = 0) → (zcl d 130 0 0 [zl x2, zl 0, zl 1023] (c, I, zRg g) (fun v h1 => zRn (zcl d) 171 B Q 16 [some (zr 67), some (zi x1), some (zi x2), some (zi x3), none, none] (zva v []) h1)))) :
    zRn (zcl d) 171 B Q 4 [some (zr 67), some (zi x1), some (zi x2), some (zi x3), none, none] [zi s0] (c, I, zRg g) :=
  zgo [4, 16, 28, 52, 79, 94, 123, 151] 5 (And.intro (fun u537 => (t.1 u537)) (fun u537 => And.intro (Nat.le_of_ble_eq_true rfl) (Exists.intro 0 (Exists.intro 0 (And.intro (Or.inl rfl) (And.intro (Or.inl rfl) (t.2 u537)))))))
theorem g_x12_over_16 {d : Nat} {B : Nat × Nat} {Q : zQ} {c : Nat × Nat × Nat} {I : Nat → Nat → Int} {g : Nat} {x1 x2 x3 s0 : Int}
    (t : (s0 = 0 → (Q (some (zi (-2))) (c, I, zRg g))) ∧ (¬ (s0 = 0) → (zcl d 130 0 0 [zl x3, zl 0, zl 3] (c, I, zRg g) (fun v h1 => zRn (zcl d) 171 B Q 28 [some (zr 67), some (zi x1), some (zi x2), some (zi x3), none, none] (zva v []) h1)))) :
    zRn (zcl d) 171 B Q 16 [some (zr 67), some (zi x1), some (zi x2), some (zi x3), none, none] [zi s0] (c, I, zRg g) :=
  zgo [4, 16, 28, 52, 79, 94, 123, 151] 5 (And.intro (fun u538 => (t.1 u538)) (fun u538 => And.intro (Nat.le_of_ble_eq_true rfl) (Exists.intro 0 (Exists.intro 0 (And.intro (Or.inl rfl) (And.intro (Or.inl rfl) (t.2 u538)))))))
theorem g_x12_over_28 {d : Nat} {B : Nat × Nat} {Q : zQ} {c : Nat × Nat × Nat} {I : Nat → Nat → Int} {g : Nat} {x1 x2 x3 s0 : Int}
    (t : (s0 ≠ 0 → ((0 ≤ x1 ∧ x1 < 4) ∧ ((I 77 x1.toNat ≠ 0 → (zRn (zcl d) 171 B Q 52 [some (zr 67), some (zi x1), some (zi x2), some (zi x3), some (zi x2), some (zi 0)] [] (c, I, zRg g))) ∧ (¬ (I 77 x1.toNat ≠ 0) → (Q (some (zi (-11))) (c, I, zRg g)))))) ∧ (¬ (s0 ≠ 0) → (Q (some (zi (-2))) (c, I, zRg g)))) :
    zRn (zcl d) 171 B Q 28 [some (zr 67), some (zi x1), some (zi x2), some (zi x3), none, none] [zi s0] (c, I, zRg g) :=
  zgo [4, 16, 28, 52, 79, 94, 123, 151] 10 (And.intro (fun u539 => And.intro rfl (Exists.intro (some 77) (And.intro rfl (And.intro rfl (And.intro (t.1 u539).1 (And.intro (fun u540 => ((t.1 u539).2.1 u540)) (fun u540 => ((t.1 u539).2.2 u540)))))))) (fun u539 => (t.2 u539)))
theorem g_x12_over_52 {d : Nat} {B : Nat × Nat} {Q : zQ} {c : Nat × Nat × Nat} {I : Nat → Nat → Int} {g : Nat} {x1 x2 x3 x4 x5 : Int}
    (t : (0 ≤ x1 ∧ x1 < 4) ∧ ((I 79 x1.toNat ≤ x5 → (zRn (zcl d) 171 B Q 94 [some (zr 67), some (zi x1), some (zi x2), some (zi x3), some (zi x4), some (zi 0)] [] (c, I, zRg g))) ∧ (¬ (I 79 x1.toNat ≤ x5) → ((0 ≤ zwr ((zwr (40 * x1)) + x5) ∧ zwr ((zwr (40 * x1)) + x5) < 160) ∧ (zcl d 134 0 0 [zr 67, zi (I 80 ((zwr ((zwr (40 * x1)) + x5)).toNat))] (c, I, zRg g) (fun v h1 => zRn (zcl d) 171 B Q 79 [some (zr 67), some (zi x1), some (zi x2), some (zi x3), some (zi x4), some (zi x5)] (zva v []) h1)))))) :
    zRn (zcl d) 171 B Q 52 [some (zr 67), some (zi x1), some (zi x2), some (zi x3), some (zi x4), some (zi x5)] [] (c, I, zRg g) :=
  zgo [4, 16, 28, 52, 79, 94, 123, 151] 15 (And.intro rfl (Exists.intro (some 79) (And.intro rfl (And.intro rfl (And.intro t.1 (And.intro (fun u541 => (t.2.1 u541)) (fun u541 => And.intro rfl (Exists.intro (some 80) (And.intro rfl (And.intro rfl (And.intro (t.2.2 u541).1 (Exists.intro 134 (And.intro rfl (And.intro (Nat.le_of_ble_eq_true rfl) (Exists.intro 0 (Exists.intro 0 (And.intro (Or.inl rfl) (And.intro (Or.inl rfl) ((t.2.2 u541).2)))))))))))))))))))
theorem g_x12_over_79 {d : Nat} {B : Nat × Nat} {Q : zQ} {c : Nat × Nat × Nat} {I : Nat → Nat → Int} {g : Nat} {x1 x2 x3 x4 x5 s0 : Int}
    (t : (s0 ≠ 0 → (zRn (zcl d) 171 B Q 52 [some (zr 67), some (zi x1), some (zi x2), some (zi x3), some (zi x4), some (zi (zwr (x5 + 1)))] [] (c, I, zRg g))) ∧ (¬ (s0 ≠ 0) → (Q (some (zi (-2))) (c, I, zRg g)))) :
    zRn (zcl d) 171 B Q 79 [some (zr 67), some (zi x1), some (zi x2), some (zi x3), some (zi x4), some (zi x5)] [zi s0] (c, I, zRg g) :=
  zgo [4, 16, 28, 52, 79, 94, 123, 151] 3 (And.intro (fun u546 => (t.1 u546)) (fun u546 => (t.2 u546)))
theorem g_x12_over_94 {d : Nat} {B : Nat × Nat} {Q : zQ} {c : Nat × Nat × Nat} {I : Nat → Nat → Int} {g : Nat} {x1 x2 x3 x4 x5 : Int}
    (t : (0 ≤ x1 ∧ x1 < 4) ∧ ((I 79 x1.toNat ≤ x5 → ((x3 ≠ 0 → ((x3 ≠ 1 → ((x3 ≠ 2 → (Q (some (zi (zand x4 (zxor x2 (-1))))) (c, I, zRg g))) ∧ (¬ (x3 ≠ 2) → (Q (some (zi (zand x2 (zxor x4 (-1))))) (c, I, zRg g))))) ∧ (¬ (x3 ≠ 1) → (zcl d 170 0 0 [zi x2, zi x4] (c, I, zRg g) (fun v h1 => zRn (zcl d) 171 B Q 151 [some (zr 67), some (zi x1), some (zi x2), some (zi x3), some (zi x4), some (zi x5)] (zva v []) h1))))) ∧ (¬ (x3 ≠ 0) → (Q (some (zi x4)) (c, I, zRg g))))) ∧ (¬ (I 79 x1.toNat ≤ x5) → ((0 ≤ zwr ((zwr (40 * x1)) + x5) ∧ zwr ((zwr (40 * x1)) + x5) < 160) ∧ (zcl d 165 0 0 [zr 67, zi (I 80 ((zwr ((zwr (40 * x1)) + x5)).toNat)), zi x4] (c, I, zRg g) (fun v h1 => zRn (zcl d) 171 B Q 123 [some (zr 67), some (zi x1), some (zi x2), some (zi x3), some (zi x4), some (zi x5)] (zva v []) h1)))))) :
    zRn (zcl d) 171 B Q 94 [some (zr 67), some (zi x1), some (zi x2), some (zi x3), some (zi x4), some (zi x5)] [] (c, I, zRg g) :=
  zgo [4, 16, 28, 52, 79, 94, 123, 151] 20 (And.intro rfl (Exists.intro (some 79) (And.intro rfl (And.intro rfl (And.intro t.1 (And.intro (fun u542 => And.intro (fun u543 => And.intro (fun u544 => And.intro (fun u545 => ((((t.2.1 u542).1 u543).1 u544).1 u545)) (fun u545 => ((((t.2.1 u542).1 u543).1 u544).2 u545))) (fun u544 => And.intro (Nat.le_of_ble_eq_true rfl) (Exists.intro 0 (Exists.intro 0 (And.intro (Or.inl rfl) (And.intro (Or.inl rfl) (((t.2.1 u542).1 u543).2 u544))))))) (fun u543 => ((t.2.1 u542).2 u543))) (fun u542 => And.intro rfl (Exists.intro (some 80) (And.intro rfl (And.intro rfl (And.intro (t.2.2 u542).1 (Exists.intro 165 (And.intro rfl (And.intro (Nat.le_of_ble_eq_true rfl) (Exists.intro 0 (Exists.intro 0 (And.intro (Or.inl rfl) (And.intro (Or.inl rfl) ((t.2.2 u542).2)))))))))))))))))))
theorem g_x12_over_123 {d : Nat} {B : Nat × Nat} {Q : zQ} {c : Nat × Nat × Nat} {I : Nat → Nat → Int} {g : Nat} {x1 x2 x3 x4 x5 s0 : Int}
    (t : zRn (zcl d) 171 B Q 94 [some (zr 67), some (zi x1), some (zi x2), some (zi x3), some (zi s0), some (zi (zwr (x5 + 1)))] [] (c, I, zRg g)) :
    zRn (zcl d) 171 B Q 123 [some (zr 67), some (zi x1), some (zi x2), some (zi x3), some (zi x4), some (zi x5)] [zi s0] (c, I, zRg g) :=
  zgo [4, 16, 28, 52, 79, 94, 123, 151] 3 (t)
theorem g_x12_over_151 {d : Nat} {B : Nat × Nat} {Q : zQ} {c : Nat × Nat × Nat} {I : Nat → Nat → Int} {g : Nat} {x1 x2 x3 x4 x5 s0 : Int}
    (t : Q (some (zi s0)) (c, I, zRg g)) :
    zRn (zcl d) 171 B Q 151 [some (zr 67), some (zi x1), some (zi x2), some (zi x3), some (zi x4), some (zi x5)] [zi s0] (c, I, zRg g) :=
  zgo [4, 16, 28, 52, 79, 94, 123, 151] 1 (t)
theorem g_x12_tellsTruly_0 {d : Nat} {B : Nat × Nat} {Q : zQ} {c : Nat × Nat × Nat} {I : Nat → Nat → Int} {g : Nat} {x1 x2 : Int}
    (t : zcl d 165 0 0 [zr 67, zi x1, zi x2] (c, I, zRg g) (fun v h1 => zRn (zcl d) 172 B Q 10 [some (zr 67), some (zi x1), some (zi x2), some (zi (zwr (5 * x1))), none, none, none] (zva v []) h1)) :
    zRn (zcl d) 172 B Q 0 [some (zr 67), some (zi x1), some (zi x2), none, none, none, none] [] (c, I, zRg g) :=
  zgo [10, 18, 49, 88, 112] 7 (Exists.intro 165 (And.intro rfl (And.intro (Nat.le_of_ble_eq_true rfl) (Exists.intro 0 (Exists.intro 0 (And.intro (Or.inl rfl) (And.intro (Or.inl rfl) t)))))))
theorem g_x12_tellsTruly_10 {d : Nat} {B : Nat × Nat} {Q : zQ} {c : Nat × Nat × Nat} {I : Nat → Nat → Int} {g : Nat} {x1 x2 x3 s0 : Int}
    (t : zcl d 166 0 0 [zr 67, zi x1, zi x2] (c, I, zRg g) (fun v h1 => zRn (zcl d) 172 B Q 18 [some (zr 67), some (zi x1), some (zi x2), some (zi x3), some (zi s0), none, none] (zva v []) h1)) :
    zRn (zcl d) 172 B Q 10 [some (zr 67), some (zi x1), some (zi x2), some (zi x3), none, none, none] [zi s0] (c, I, zRg g) :=
  zgo [10, 18, 49, 88, 112] 4 (Exists.intro 166 (And.intro rfl (And.intro (Nat.le_of_ble_eq_true rfl) (Exists.intro 0 (Exists.intro 0 (And.intro (Or.inl rfl) (And.intro (Or.inl rfl) t)))))))
theorem g_x12_tellsTruly_18 {d : Nat} {B : Nat × Nat} {Q : zQ} {c : Nat × Nat × Nat} {I : Nat → Nat → Int} {g : Nat} {x1 x2 x3 x4 s0 : Int}
    (t : (0 ≤ zwr (x3 + 1) ∧ zwr (x3 + 1) < 25) ∧ ((0 ≤ zwr (x3 + 1) ∧ zwr (x3 + 1) < 25) ∧ (zcl d 167 0 0 [zr 67, zi x1, zi x2] (c, I, zRg g) (fun v h1 => zRn (zcl d) 172 B Q 49 [some (zr 67), some (zi x1), some (zi x2), some (zi x3), some (zi x4), some (zi s0), some (zi (zand x2 (zxor (I 71 ((zwr (x3 + 1)).toNat)) (-1))))] (zva v [zi (I 71 ((zwr (x3 + 1)).toNat)), zi (zwr (x3 + 1)), zr 71]) h1)))) :
    zRn (zcl d) 172 B Q 18 [some (zr 67), some (zi x1), some (zi x2), some (zi x3), some (zi x4), none, none] [zi s0] (c, I, zRg g) :=
  zgo [10, 18, 49, 88, 112] 22 (And.intro rfl (Exists.intro (some 71) (And.intro rfl (And.intro rfl (And.intro t.1 (And.intro rfl (Exists.intro (some 71) (And.intro rfl (And.intro rfl (And.intro t.2.1 (Exists.intro 167 (And.intro rfl (And.intro (Nat.le_of_ble_eq_true rfl) (Exists.intro 0 (Exists.intro 0 (And.intro (Or.inl rfl) (And.intro (Or.inl rfl) t.2.2)))))))))))))))))
theorem g_x12_tellsTruly_49 {d : Nat} {B : Nat × Nat} {Q : zQ} {c : Nat × Nat × Nat} {I : Nat → Nat → Int} {g : Nat} {x1 x2 x3 x4 x5 x6 s0 s1 s2 : Int}
    (t : (s0 = 0 → ((0 ≤ s2 ∧ s2 < 25) ∧ ((0 ≤ zwr (x3 + 2) ∧ zwr (x3 + 2) < 25) ∧ (zcl d 131 0 0 [zi (zwr (((z2 I 71 s2.toNat (zor s1 0)) 71 ((zwr (x3 + 2)).toNat)) - x5)), zi 0, zi 99] (c, (z2 I 71 s2.toNat (zor s1 0)), zRg g) (fun v h1 => zRn (zcl d) 172 B Q 88 [some (zr 67), some (zi x1), some (zi x2), some (zi x3), some (zi x4), some (zi x5), some (zi x6)] (zva v [zi (zwr (x3 + 2)), zr 71]) h1))))) ∧ (¬ (s0 = 0) → ((0 ≤ s2 ∧ s2 < 25) ∧ ((0 ≤ zwr (x3 + 2) ∧ zwr (x3 + 2) < 25) ∧ (zcl d 131 0 0 [zi (zwr (((z2 I 71 s2.toNat (zor s1 (zand x6 (zwr (-x6))))) 71 ((zwr (x3 + 2)).toNat)) - x5)), zi 0, zi 99] (c, (z2 I 71 s2.toNat (zor s1 (zand x6 (zwr (-x6))))), zRg g) (fun v h1 => zRn (zcl d) 172 B Q 88 [some (zr 67), some (zi x1), some (zi x2), some (zi x3), some (zi x4), some (zi x5), some (zi x6)] (zva v [zi (zwr (x3 + 2)), zr 71]) h1)))))) :
    zRn (zcl d) 172 B Q 49 [some (zr 67), some (zi x1), some (zi x2), some (zi x3), some (zi x4), some (zi x5), some (zi x6)] [zi s0, zi s1, zi s2, zr 71] (c, I, zRg g) :=
  zgo [10, 18, 49, 88, 112] 23 (And.intro (fun u547 => And.intro rfl (And.intro (t.1 u547).1 (And.intro rfl (Exists.intro (some 71) (And.intro rfl (And.intro rfl (Exists.intro (some 71) (And.intro rfl (And.intro rfl (And.intro (t.1 u547).2.1 (And.intro (Nat.le_of_ble_eq_true rfl) (Exists.intro 0 (Exists.intro 0 (And.intro (Or.inl rfl) (And.intro (Or.inl rfl) ((t.1 u547).2.2)))))))))))))))) (fun u547 => And.intro rfl (And.intro (t.2 u547).1 (And.intro rfl (Exists.intro (some 71) (And.intro rfl (And.intro rfl (Exists.intro (some 71) (And.intro rfl (And.intro rfl (And.intro (t.2 u547).2.1 (And.intro (Nat.le_of_ble_eq_true rfl) (Exists.intro 0 (Exists.intro 0 (And.intro (Or.inl rfl) (And.intro (Or.inl rfl) ((t.2 u547).2.2)))))))))))))))))
theorem g_x12_tellsTruly_88 {d : Nat} {B : Nat × Nat} {Q : zQ} {c : Nat × Nat × Nat} {I : Nat → Nat → Int} {g : Nat} {x1 x2 x3 x4 x5 x6 s0 s1 : Int}
    (t : (0 ≤ s1 ∧ s1 < 25) ∧ ((0 ≤ zwr (x3 + 3) ∧ zwr (x3 + 3) < 25) ∧ (zcl d 131 0 0 [zi (zwr (((z2 I 71 s1.toNat s0) 71 ((zwr (x3 + 3)).toNat)) + 1)), zi 0, zi 99] (c, (z2 I 71 s1.toNat s0), zRg g) (fun v h1 => zRn (zcl d) 172 B Q 112 [some (zr 67), some (zi x1), some (zi x2), some (zi x3), some (zi x4), some (zi x5), some (zi x6)] (zva v [zi (zwr (x3 + 3)), zr 71]) h1)))) :
    zRn (zcl d) 172 B Q 88 [some (zr 67), some (zi x1), some (zi x2), some (zi x3), some (zi x4), some (zi x5), some (zi x6)] [zi s0, zi s1, zr 71] (c, I, zRg g) :=
  zgo [10, 18, 49, 88, 112] 16 (And.intro rfl (And.intro t.1 (And.intro rfl (Exists.intro (some 71) (And.intro rfl (And.intro rfl (Exists.intro (some 71) (And.intro rfl (And.intro rfl (And.intro t.2.1 (And.intro (Nat.le_of_ble_eq_true rfl) (Exists.intro 0 (Exists.intro 0 (And.intro (Or.inl rfl) (And.intro (Or.inl rfl) t.2.2)))))))))))))))
theorem g_x12_tellsTruly_112 {d : Nat} {B : Nat × Nat} {Q : zQ} {c : Nat × Nat × Nat} {I : Nat → Nat → Int} {g : Nat} {x1 x2 x3 x4 x5 x6 s0 s1 : Int}
    (t : (0 ≤ s1 ∧ s1 < 25) ∧ (Q (some (zi x4)) (c, (z2 I 71 s1.toNat s0), zRg g))) :
    zRn (zcl d) 172 B Q 112 [some (zr 67), some (zi x1), some (zi x2), some (zi x3), some (zi x4), some (zi x5), some (zi x6)] [zi s0, zi s1, zr 71] (c, I, zRg g) :=
  zgo [10, 18, 49, 88, 112] 2 (And.intro rfl (And.intro t.1 t.2))
theorem g_x12_passes_0 {d : Nat} {B : Nat × Nat} {Q : zQ} {c : Nat × Nat × Nat} {I : Nat → Nat → Int} {g : Nat}
    (t : (I 67 11 ≤ 0 → (Q (some (zi (-1))) (c, (z2 I 67 7 (zwr ((I 67 7) + 1))), zRg g))) ∧ (¬ (I 67 11 ≤ 0) → (zRn (zcl d) 173 B Q 18 [some (zr 67), some (zi (I 72 0)), some (zi 0)] [] (c, I, zRg g)))) :
    zRn (zcl d) 173 B Q 0 [some (zr 67), none, none] [] (c, I, zRg g) :=
  zgo [18, 32, 51, 93] 12 (And.intro rfl (And.intro (fun u548 => And.intro rfl (And.intro rfl (t.1 u548))) (fun u548 => And.intro rfl (Exists.intro (some 72) (And.intro rfl (And.intro rfl (And.intro (by decide) (t.2 u548))))))))
theorem g_x12_passes_18 {d : Nat} {B : Nat × Nat} {Q : zQ} {c : Nat × Nat × Nat} {I : Nat → Nat → Int} {g : Nat} {x1 x2 : Int}
    (t : (I 67 9 ≤ x2 → (zRn (zcl d) 173 B Q 51 [some (zr 67), some (zi x1), some (zi 0)] [] (c, (z2 I 67 11 (zwr ((I 67 11) - 1))), zRg g))) ∧ (¬ (I 67 9 ≤ x2) → (zcl d 172 0 0 [zr 67, zi x2, zi x1] (c, I, zRg g) (fun v h1 => zRn (zcl d) 173 B Q 32 [some (zr 67), some (zi x1), some (zi x2)] (zva v []) h1)))) :
    zRn (zcl d) 173 B Q 18 [some (zr 67), some (zi x1), some (zi x2)] [] (c, I, zRg g) :=
  zgo [18, 32, 51, 93] 12 (And.intro rfl (And.intro (fun u549 => And.intro rfl (And.intro rfl (t.1 u549))) (fun u549 => Exists.intro 172 (And.intro rfl (And.intro (Nat.le_of_ble_eq_true rfl) (Exists.intro 0 (Exists.intro 0 (And.intro (Or.inl rfl) (And.intro (Or.inl rfl) (t.2 u549))))))))))
theorem g_x12_passes_32 {d : Nat} {B : Nat × Nat} {Q : zQ} {c : Nat × Nat × Nat} {I : Nat → Nat → Int} {g : Nat} {x1 x2 s0 : Int}
    (t : zRn (zcl d) 173 B Q 18 [some (zr 67), some (zi s0), some (zi (zwr (x2 + 1)))] [] (c, I, zRg g)) :
    zRn (zcl d) 173 B Q 32 [some (zr 67), some (zi x1), some (zi x2)] [zi s0] (c, I, zRg g) :=
  zgo [18, 32, 51, 93] 3 (t)
theorem g_x12_passes_51 {d : Nat} {B : Nat × Nat} {Q : zQ} {c : Nat × Nat × Nat} {I : Nat → Nat → Int} {g : Nat} {x1 x2 : Int}
    (t : (I 67 11 ≤ x2 → (zcl d 131 0 0 [zi (zwr ((I 67 12) + 1)), zi 0, zi 999] (c, I, zRg g) (fun v h1 => zRn (zcl d) 173 B Q 93 [some (zr 67), some (zi x1), some (zi x2)] (zva v [zr 67]) h1))) ∧ (¬ (I 67 11 ≤ x2) → ((0 ≤ zwr (x2 + 1) ∧ zwr (x2 + 1) < 8) ∧ ((0 ≤ x2 ∧ x2 < 8) ∧ (zRn (zcl d) 173 B Q 51 [some (zr 67), some (zi x1), some (zi (zwr (x2 + 1)))] [] (c, (z2 I 72 x2.toNat (I 72 ((zwr (x2 + 1)).toNat))), zRg g)))))) :
    zRn (zcl d) 173 B Q 51 [some (zr 67), some (zi x1), some (zi x2)] [] (c, I, zRg g) :=
  zgo [18, 32, 51, 93] 16 (And.intro rfl (And.intro (fun u550 => And.intro rfl (And.intro (Nat.le_of_ble_eq_true rfl) (Exists.intro 0 (Exists.intro 0 (And.intro (Or.inl rfl) (And.intro (Or.inl rfl) (t.1 u550))))))) (fun u550 => And.intro rfl (Exists.intro (some 72) (And.intro rfl (And.intro rfl (Exists.intro (some 72) (And.intro rfl (And.intro rfl (And.intro (t.2 u550).1 (And.intro rfl (And.intro (t.2 u550).2.1 ((t.2 u550).2.2)))))))))))))
theorem g_x12_passes_93 {d : Nat} {B : Nat × Nat} {Q : zQ} {c : Nat × Nat × Nat} {I : Nat → Nat → Int} {g : Nat} {x1 x2 s0 : Int}
    (t : Q (some (zi x1)) (c, (z2 (z2 I 67 12 s0) 67 7 (zwr ((I 67 7) + 1))), zRg g)) :
    zRn (zcl d) 173 B Q 93 [some (zr 67), some (zi x1), some (zi x2)] [zi s0, zr 67] (c, I, zRg g) :=
  zgo [18, 32, 51, 93] 8 (And.intro rfl (And.intro rfl (And.intro rfl t)))
theorem g_x12_day_0 {d : Nat} {B : Nat × Nat} {Q : zQ} {c : Nat × Nat × Nat} {I : Nat → Nat → Int} {g : Nat}
    (t : (I 67 7 ≠ 999 → (zcl d 173 0 0 [zr 67] (c, I, zRg g) (fun v h1 => zRn (zcl d) 174 B Q 19 [some (zr 67)] (zva v []) h1))) ∧ (¬ (I 67 7 ≠ 999) → (zRn (zcl d) 174 B Q 19 [some (zr 67)] [zi (-3)] (c, I, zRg g)))) :
    zRn (zcl d) 174 B Q 0 [some (zr 67)] [] (c, I, zRg g) :=
  zgo [19] 6 (And.intro rfl (And.intro (fun u551 => Exists.intro 173 (And.intro rfl (And.intro (Nat.le_of_ble_eq_true rfl) (Exists.intro 0 (Exists.intro 0 (And.intro (Or.inl rfl) (And.intro (Or.inl rfl) (t.1 u551)))))))) (fun u551 => (t.2 u551))))
theorem g_x12_day_19 {d : Nat} {B : Nat × Nat} {Q : zQ} {c : Nat × Nat × Nat} {I : Nat → Nat → Int} {g : Nat} {s0 : Int}
    (t : Q (some (zi s0)) (c, I, zRg g)) :
    zRn (zcl d) 174 B Q 19 [some (zr 67)] [zi s0] (c, I, zRg g) :=
  zgo [19] 0 (t)
theorem g_x12_laysAside_0 {d : Nat} {B : Nat × Nat} {Q : zQ} {c : Nat × Nat × Nat} {I : Nat → Nat → Int} {g : Nat}
    (t : zRn (zcl d) 175 B Q 2 [some (zr 67), some (zi 0)] [] (c, I, zRg g)) :
    zRn (zcl d) 175 B Q 0 [some (zr 67), none] [] (c, I, zRg g) :=
  zgo [2, 28] 2 (t)
theorem g_x12_laysAside_2 {d : Nat} {B : Nat × Nat} {Q : zQ} {c : Nat × Nat × Nat} {I : Nat → Nat → Int} {g : Nat} {x1 : Int}
    (t : (25 ≤ x1 → (zRn (zcl d) 175 B Q 28 [some (zr 67), some (zi 0)] [] (c, I, zRg g))) ∧ (¬ (25 ≤ x1) → ((0 ≤ x1 ∧ x1 < 25) ∧ ((0 ≤ x1 ∧ x1 < 36) ∧ (zRn (zcl d) 175 B Q 2 [some (zr 67), some (zi (zwr (x1 + 1)))] [] (c, (z2 I 73 x1.toNat (I 71 x1.toNat)), zRg g)))))) :
    zRn (zcl d) 175 B Q 2 [some (zr 67), some (zi x1)] [] (c, I, zRg g) :=
  zgo [2, 28] 13 (And.intro (fun u552 => (t.1 u552)) (fun u552 => And.intro rfl (Exists.intro (some 73) (And.intro rfl (And.intro rfl (Exists.intro (some 71) (And.intro rfl (And.intro rfl (And.intro (t.2 u552).1 (And.intro rfl (And.intro (t.2 u552).2.1 ((t.2 u552).2.2))))))))))))
theorem g_x12_laysAside_28 {d : Nat} {B : Nat × Nat} {Q : zQ} {c : Nat × Nat × Nat} {I : Nat → Nat → Int} {g : Nat} {x1 : Int}
    (t : (8 ≤ x1 → (Q none (c, (z2 (z2 (z2 I 73 33 (I 67 11)) 73 34 (I 67 12)) 73 35 (I 67 7)), zRg g))) ∧ (¬ (8 ≤ x1) → ((0 ≤ x1 ∧ x1 < 8) ∧ ((0 ≤ zwr (25 + x1) ∧ zwr (25 + x1) < 36) ∧ (zRn (zcl d) 175 B Q 28 [some (zr 67), some (zi (zwr (x1 + 1)))] [] (c, (z2 I 73 (zwr (25 + x1)).toNat (I 72 x1.toNat)), zRg g)))))) :
    zRn (zcl d) 175 B Q 28 [some (zr 67), some (zi x1)] [] (c, I, zRg g) :=
  zgo [2, 28] 21 (And.intro (fun u553 => And.intro rfl (Exists.intro (some 73) (And.intro rfl (And.intro rfl (And.intro rfl (And.intro (by decide) (And.intro rfl (Exists.intro (some 73) (And.intro rfl (And.intro rfl (And.intro rfl (And.intro (by decide) (And.intro rfl (Exists.intro (some 73) (And.intro rfl (And.intro rfl (And.intro rfl (And.intro (by decide) (t.1 u553))))))))))))))))))) (fun u553 => And.intro rfl (Exists.intro (some 73) (And.intro rfl (And.intro rfl (Exists.intro (some 72) (And.intro rfl (And.intro rfl (And.intro (t.2 u553).1 (And.intro rfl (And.intro (t.2 u553).2.1 ((t.2 u553).2.2))))))))))))
theorem g_x12_laysBack_0 {d : Nat} {B : Nat × Nat} {Q : zQ} {c : Nat × Nat × Nat} {I : Nat → Nat → Int} {g : Nat}
    (t : zRn (zcl d) 176 B Q 2 [some (zr 67), some (zi 0)] [] (c, I, zRg g)) :
    zRn (zcl d) 176 B Q 0 [some (zr 67), none] [] (c, I, zRg g) :=
  zgo [2, 28] 2 (t)
theorem g_x12_laysBack_2 {d : Nat} {B : Nat × Nat} {Q : zQ} {c : Nat × Nat × Nat} {I : Nat → Nat → Int} {g : Nat} {x1 : Int}
    (t : (25 ≤ x1 → (zRn (zcl d) 176 B Q 28 [some (zr 67), some (zi 0)] [] (c, I, zRg g))) ∧ (¬ (25 ≤ x1) → ((0 ≤ x1 ∧ x1 < 36) ∧ ((0 ≤ x1 ∧ x1 < 25) ∧ (zRn (zcl d) 176 B Q 2 [some (zr 67), some (zi (zwr (x1 + 1)))] [] (c, (z2 I 71 x1.toNat (I 73 x1.toNat)), zRg g)))))) :
    zRn (zcl d) 176 B Q 2 [some (zr 67), some (zi x1)] [] (c, I, zRg g) :=
  zgo [2, 28] 13 (And.intro (fun u554 => (t.1 u554)) (fun u554 => And.intro rfl (Exists.intro (some 71) (And.intro rfl (And.intro rfl (Exists.intro (some 73) (And.intro rfl (And.intro rfl (And.intro (t.2 u554).1 (And.intro rfl (And.intro (t.2 u554).2.1 ((t.2 u554).2.2))))))))))))
theorem g_x12_laysBack_28 {d : Nat} {B : Nat × Nat} {Q : zQ} {c : Nat × Nat × Nat} {I : Nat → Nat → Int} {g : Nat} {x1 : Int}
    (t : (8 ≤ x1 → (Q none (c, (z2 (z2 (z2 I 67 11 (I 73 33)) 67 12 (I 73 34)) 67 7 (I 73 35)), zRg g))) ∧ (¬ (8 ≤ x1) → ((0 ≤ zwr (25 + x1) ∧ zwr (25 + x1) < 36) ∧ ((0 ≤ x1 ∧ x1 < 8) ∧ (zRn (zcl d) 176 B Q 28 [some (zr 67), some (zi (zwr (x1 + 1)))] [] (c, (z2 I 72 x1.toNat (I 73 ((zwr (25 + x1)).toNat))), zRg g)))))) :
    zRn (zcl d) 176 B Q 28 [some (zr 67), some (zi x1)] [] (c, I, zRg g) :=
  zgo [2, 28] 21 (And.intro (fun u555 => And.intro rfl (Exists.intro (some 73) (And.intro rfl (And.intro rfl (And.intro (by decide) (And.intro rfl (And.intro rfl (Exists.intro (some 73) (And.intro rfl (And.intro rfl (And.intro (by decide) (And.intro rfl (And.intro rfl (Exists.intro (some 73) (And.intro rfl (And.intro rfl (And.intro (by decide) (And.intro rfl (t.1 u555))))))))))))))))))) (fun u555 => And.intro rfl (Exists.intro (some 72) (And.intro rfl (And.intro rfl (Exists.intro (some 73) (And.intro rfl (And.intro rfl (And.intro (t.2 u555).1 (And.intro rfl (And.intro (t.2 u555).2.1 ((t.2 u555).2.2))))))))))))
theorem g_x12_run_0 {d : Nat} {B : Nat × Nat} {Q : zQ} {c : Nat × Nat × Nat} {I : Nat → Nat → Int} {g : Nat} {x1 x2 : Int}
    (t : zcl d 130 0 0 [zl x2, zl 10, zl 14] (c, I, zRg g) (fun v h1 => zRn (zcl d) 177 B Q 11 [some (zr 67), some (zi x1), some (zi x2), none, none, none, none, none] (zva v []) h1)) :
    zRn (zcl d) 177 B Q 0 [some (zr 67), some (zi x1), some (zi x2), none, none, none, none, none] [] (c, I, zRg g) :=
  zgo [11, 25, 36, 54, 64, 79, 88, 98, 178] 4 (And.intro (Nat.le_of_ble_eq_true rfl) (Exists.intro 0 (Exists.intro 0 (And.intro (Or.inl rfl) (And.intro (Or.inl rfl) t)))))
theorem g_x12_run_11 {d : Nat} {B : Nat × Nat} {Q : zQ} {c : Nat × Nat × Nat} {I : Nat → Nat → Int} {g : Nat} {x1 x2 s0 : Int}
    (t : (s0 ≠ 0 → (zcl d 134 0 0 [zr 67, zi (zwr (Int.tmod x2 10))] (c, I, zRg g) (fun v h1 => zRn (zcl d) 177 B Q 36 [some (zr 67), some (zi x1), some (zi x2), none, none, none, none, none] (zva v []) h1))) ∧ (¬ (s0 ≠ 0) → (zcl d 130 0 0 [zl x2, zl 20, zl 24] (c, I, zRg g) (fun v h1 => zRn (zcl d) 177 B Q 25 [some (zr 67), some (zi x1), some (zi x2), none, none, none, none, none] (zva v []) h1)))) :
    zRn (zcl d) 177 B Q 11 [some (zr 67), some (zi x1), some (zi x2), none, none, none, none, none] [zi s0] (c, I, zRg g) :=
  zgo [11, 25, 36, 54, 64, 79, 88, 98, 178] 5 (And.intro (fun u556 => And.intro (by decide) (Exists.intro 134 (And.intro rfl (And.intro (Nat.le_of_ble_eq_true rfl) (Exists.intro 0 (Exists.intro 0 (And.intro (Or.inl rfl) (And.intro (Or.inl rfl) (t.1 u556))))))))) (fun u556 => And.intro (Nat.le_of_ble_eq_true rfl) (Exists.intro 0 (Exists.intro 0 (And.intro (Or.inl rfl) (And.intro (Or.inl rfl) (t.2 u556)))))))
theorem g_x12_run_25 {d : Nat} {B : Nat × Nat} {Q : zQ} {c : Nat × Nat × Nat} {I : Nat → Nat → Int} {g : Nat} {x1 x2 s0 : Int}
    (t : (s0 = 0 → (zcl d 130 0 0 [zl x1, zl 0, zl 20] (c, I, zRg g) (fun v h1 => zRn (zcl d) 177 B Q 54 [some (zr 67), some (zi x1), some (zi x2), some (zi 0), none, none, none, none] (zva v []) h1))) ∧ (¬ (s0 = 0) → (zcl d 134 0 0 [zr 67, zi (zwr (Int.tmod x2 10))] (c, I, zRg g) (fun v h1 => zRn (zcl d) 177 B Q 36 [some (zr 67), some (zi x1), some (zi x2), none, none, none, none, none] (zva v []) h1)))) :
    zRn (zcl d) 177 B Q 25 [some (zr 67), some (zi x1), some (zi x2), none, none, none, none, none] [zi s0] (c, I, zRg g) :=
  zgo [11, 25, 36, 54, 64, 79, 88, 98, 178] 7 (And.intro (fun u558 => And.intro (Nat.le_of_ble_eq_true rfl) (Exists.intro 0 (Exists.intro 0 (And.intro (Or.inl rfl) (And.intro (Or.inl rfl) (t.1 u558)))))) (fun u558 => And.intro (by decide) (Exists.intro 134 (And.intro rfl (And.intro (Nat.le_of_ble_eq_true rfl) (Exists.intro 0 (Exists.intro 0 (And.intro (Or.inl rfl) (And.intro (Or.inl rfl) (t.2 u558))))))))))
theorem g_x12_run_36 {d : Nat} {B : Nat × Nat} {Q : zQ} {c : Nat × Nat × Nat} {I : Nat → Nat → Int} {g : Nat} {x1 x2 s0 : Int}
    (t : (s0 = 0 → (zcl d 130 0 0 [zl x1, zl 0, zl 20] (c, I, zRg g) (fun v h1 => zRn (zcl d) 177 B Q 54 [some (zr 67), some (zi x1), some (zi x2), some (zi 0), none, none, none, none] (zva v []) h1))) ∧ (¬ (s0 = 0) → (zcl d 130 0 0 [zl x1, zl 0, zl 20] (c, I, zRg g) (fun v h1 => zRn (zcl d) 177 B Q 54 [some (zr 67), some (zi x1), some (zi x2), some (zi 1), none, none, none, none] (zva v []) h1)))) :
    zRn (zcl d) 177 B Q 36 [some (zr 67), some (zi x1), some (zi x2), none, none, none, none, none] [zi s0] (c, I, zRg g) :=
  zgo [11, 25, 36, 54, 64, 79, 88, 98, 178] 8 (And.intro (fun u557 => And.intro (Nat.le_of_ble_eq_true rfl) (Exists.intro 0 (Exists.intro 0 (And.intro (Or.inl rfl) (And.intro (Or.inl rfl) (t.1 u557)))))) (fun u557 => And.intro (Nat.le_of_ble_eq_true rfl) (Exists.intro 0 (Exists.intro 0 (And.intro (Or.inl rfl) (And.intro (Or.inl rfl) (t.2 u557)))))))
theorem g_x12_run_54 {d : Nat} {B : Nat × Nat} {Q : zQ} {c : Nat × Nat × Nat} {I : Nat → Nat → Int} {g : Nat} {x1 x2 x3 s0 : Int}
    (t : (s0 = 0 → (Q (some (zi (-1000))) (c, I, zRg g))) ∧ (¬ (s0 = 0) → (zcl d 130 0 0 [zl x2, zl 0, zl 1] (c, I, zRg g) (fun v h1 => zRn (zcl d) 177 B Q 64 [some (zr 67), some (zi x1), some (zi x2), some (zi x3), none, none, none, none] (zva v []) h1)))) :
    zRn (zcl d) 177 B Q 54 [some (zr 67), some (zi x1), some (zi x2), some (zi x3), none, none, none, none] [zi s0] (c, I, zRg g) :=
  zgo [11, 25, 36, 54, 64, 79, 88, 98, 178] 5 (And.intro (fun u559 => (t.1 u559)) (fun u559 => And.intro (Nat.le_of_ble_eq_true rfl) (Exists.intro 0 (Exists.intro 0 (And.intro (Or.inl rfl) (And.intro (Or.inl rfl) (t.2 u559)))))))
theorem g_x12_run_64 {d : Nat} {B : Nat × Nat} {Q : zQ} {c : Nat × Nat × Nat} {I : Nat → Nat → Int} {g : Nat} {x1 x2 x3 s0 : Int}
    (t : (s0 ≠ 0 → (zcl d 175 0 0 [zr 67] (c, I, zRg g) (fun v h1 => zRn (zcl d) 177 B Q 79 [some (zr 67), some (zi x1), some (zi x2), some (zi x3), none, none, none, none] (zva v []) h1))) ∧ (¬ (s0 ≠ 0) → ((x3 ≠ 0 → (zcl d 175 0 0 [zr 67] (c, I, zRg g) (fun v h1 => zRn (zcl d) 177 B Q 79 [some (zr 67), some (zi x1), some (zi x2), some (zi x3), none, none, none, none] (zva v []) h1))) ∧ (¬ (x3 ≠ 0) → (Q (some (zi (-1000))) (c, I, zRg g)))))) :
    zRn (zcl d) 177 B Q 64 [some (zr 67), some (zi x1), some (zi x2), some (zi x3), none, none, none, none] [zi s0] (c, I, zRg g) :=
  zgo [11, 25, 36, 54, 64, 79, 88, 98, 178] 4 (And.intro (fun u560 => Exists.intro 175 (And.intro rfl (And.intro (Nat.le_of_ble_eq_true rfl) (Exists.intro 0 (Exists.intro 0 (And.intro (Or.inl rfl) (And.intro (Or.inl rfl) (t.1 u560)))))))) (fun u560 => And.intro (fun u561 => Exists.intro 175 (And.intro rfl (And.intro (Nat.le_of_ble_eq_true rfl) (Exists.intro 0 (Exists.intro 0 (And.intro (Or.inl rfl) (And.intro (Or.inl rfl) ((t.2 u560).1 u561)))))))) (fun u561 => ((t.2 u560).2 u561))))
theorem g_x12_run_79 {d : Nat} {B : Nat × Nat} {Q : zQ} {c : Nat × Nat × Nat} {I : Nat → Nat → Int} {g : Nat} {x1 x2 x3 : Int}
    (t : zRn (zcl d) 177 B Q 88 [some (zr 67), some (zi x1), some (zi x2), some (zi x3), some (zi (-1)), some (zi 0), some (zi 0), none] [] (c, I, zRg g)) :
    zRn (zcl d) 177 B Q 79 [some (zr 67), some (zi x1), some (zi x2), some (zi x3), none, none, none, none] [] (c, I, zRg g) :=
  zgo [11, 25, 36, 54, 64, 79, 88, 98, 178] 6 (t)
theorem g_x12_run_88 {d : Nat} {B : Nat × Nat} {Q : zQ} {c : Nat × Nat × Nat} {I : Nat → Nat → Int} {g : Nat} {x1 x2 x3 x4 x5 x6 : Int}
    (t : (x1 ≤ x6 → ((x2 ≠ 0 → ((x2 ≠ 1 → ((0 ≤ zwr ((zwr (5 * (zwr (Int.tmod x2 10)))) + (zwr (Int.tdiv x2 10))) ∧ zwr ((zwr (5 * (zwr (Int.tmod x2 10)))) + (zwr (Int.tdiv x2 10))) < 25) ∧ (zcl d 176 0 0 [zr 67] (c, I, zRg g) (fun v h1 => zRn (zcl d) 177 B Q 178 [some (zr 67), some (zi x1), some (zi x2), some (zi x3), some (zi x4), some (zi x5), some (zi (I 71 ((zwr ((zwr (5 * (zwr (Int.tmod x2 10)))) + (zwr (Int.tdiv x2 10)))).toNat))), none] (zva v []) h1)))) ∧ (¬ (x2 ≠ 1) → (zcl d 176 0 0 [zr 67] (c, I, zRg g) (fun v h1 => zRn (zcl d) 177 B Q 178 [some (zr 67), some (zi x1), some (zi x2), some (zi x3), some (zi x4), some (zi x5), some (zi x5), none] (zva v []) h1))))) ∧ (¬ (x2 ≠ 0) → (zcl d 176 0 0 [zr 67] (c, I, zRg g) (fun v h1 => zRn (zcl d) 177 B Q 178 [some (zr 67), some (zi x1), some (zi x2), some (zi x3), some (zi x4), some (zi x5), some (zi x4), none] (zva v []) h1))))) ∧ (¬ (x1 ≤ x6) → (zcl d 173 0 0 [zr 67] (c, I, zRg g) (fun v h1 => zRn (zcl d) 177 B Q 98 [some (zr 67), some (zi x1), some (zi x2), some (zi x3), some (zi x4), some (zi x5), some (zi x6), none] (zva v []) h1)))) :
    zRn (zcl d) 177 B Q 88 [some (zr 67), some (zi x1), some (zi x2), some (zi x3), some (zi x4), some (zi x5), some (zi x6), none] [] (c, I, zRg g) :=
  zgo [11, 25, 36, 54, 64, 79, 88, 98, 178] 22 (And.intro (fun u562 => And.intro (fun u563 => And.intro (fun u564 => And.intro rfl (Exists.intro (some 71) (And.intro rfl (And.intro (by decide) (And.intro (by decide) (And.intro rfl (And.intro (((t.1 u562).1 u563).1 u564).1 (Exists.intro 176 (And.intro rfl (And.intro (Nat.le_of_ble_eq_true rfl) (Exists.intro 0 (Exists.intro 0 (And.intro (Or.inl rfl) (And.intro (Or.inl rfl) ((((t.1 u562).1 u563).1 u564).2))))))))))))))) (fun u564 => Exists.intro 176 (And.intro rfl (And.intro (Nat.le_of_ble_eq_true rfl) (Exists.intro 0 (Exists.intro 0 (And.intro (Or.inl rfl) (And.intro (Or.inl rfl) (((t.1 u562).1 u563).2 u564))))))))) (fun u563 => Exists.intro 176 (And.intro rfl (And.intro (Nat.le_of_ble_eq_true rfl) (Exists.intro 0 (Exists.intro 0 (And.intro (Or.inl rfl) (And.intro (Or.inl rfl) ((t.1 u562).2 u563))))))))) (fun u562 => Exists.intro 173 (And.intro rfl (And.intro (Nat.le_of_ble_eq_true rfl) (Exists.intro 0 (Exists.intro 0 (And.intro (Or.inl rfl) (And.intro (Or.inl rfl) (t.2 u562)))))))))
theorem g_x12_run_98 {d : Nat} {B : Nat × Nat} {Q : zQ} {c : Nat × Nat × Nat} {I : Nat → Nat → Int} {g : Nat} {x1 x2 x3 x4 x5 x6 s0 : Int}
    (t : (s0 ≠ (-1) → ((s0 ≠ (-1) → (zRn (zcl d) 177 B Q 88 [some (zr 67), some (zi x1), some (zi x2), some (zi x3), some (zi s0), some (zi (zwr (x5 + 1))), some (zi (zwr (x6 + 1))), some (zi s0)] [] (c, I, zRg g))) ∧ (¬ (s0 ≠ (-1)) → (zRn (zcl d) 177 B Q 88 [some (zr 67), some (zi x1), some (zi x2), some (zi x3), some (zi s0), some (zi (zwr (x5 + 0))), some (zi (zwr (x6 + 1))), some (zi s0)] [] (c, I, zRg g))))) ∧ (¬ (s0 ≠ (-1)) → ((s0 ≠ (-1) → (zRn (zcl d) 177 B Q 88 [some (zr 67), some (zi x1), some (zi x2), some (zi x3), some (zi x4), some (zi (zwr (x5 + 1))), some (zi (zwr (x6 + 1))), some (zi s0)] [] (c, I, zRg g))) ∧ (¬ (s0 ≠ (-1)) → (zRn (zcl d) 177 B Q 88 [some (zr 67), some (zi x1), some (zi x2), some (zi x3), some (zi x4), some (zi (zwr (x5 + 0))), some (zi (zwr (x6 + 1))), some (zi s0)] [] (c, I, zRg g)))))) :
    zRn (zcl d) 177 B Q 98 [some (zr 67), some (zi x1), some (zi x2), some (zi x3), some (zi x4), some (zi x5), some (zi x6), none] [zi s0] (c, I, zRg g) :=
  zgo [11, 25, 36, 54, 64, 79, 88, 98, 178] 17 (And.intro (fun u565 => And.intro (fun u566 => ((t.1 u565).1 u566)) (fun u566 => ((t.1 u565).2 u566))) (fun u565 => And.intro (fun u567 => ((t.2 u565).1 u567)) (fun u567 => ((t.2 u565).2 u567))))
theorem g_x12_run_178 {d : Nat} {B : Nat × Nat} {Q : zQ} {c : Nat × Nat × Nat} {I : Nat → Nat → Int} {g : Nat} {x1 x2 x3 x4 x5 x6 : Int}
    (t : Q (some (zi x6)) (c, I, zRg g)) :
    zRn (zcl d) 177 B Q 178 [some (zr 67), some (zi x1), some (zi x2), some (zi x3), some (zi x4), some (zi x5), some (zi x6), none] [] (c, I, zRg g) :=
  zgo [11, 25, 36, 54, 64, 79, 88, 98, 178] 1 (t)
theorem g_x12_fro_0 {d : Nat} {B : Nat × Nat} {Q : zQ} {c : Nat × Nat × Nat} {I : Nat → Nat → Int} {g : Nat} {x1 x2 : Int}
    (t : zcl d 130 0 0 [zl x1, zl 0, zl 1023] (c, I, zRg g) (fun v h1 => zRn (zcl d) 178 B Q 9 [some (zr 67), some (zi x1), some (zi x2), none, none] (zva v []) h1)) :
    zRn (zcl d) 178 B Q 0 [some (zr 67), some (zi x1), some (zi x2), none, none] [] (c, I, zRg g) :=
  zgo [9, 19, 34, 57, 61] 4 (And.intro (Nat.le_of_ble_eq_true rfl) (Exists.intro 0 (Exists.intro 0 (And.intro (Or.inl rfl) (And.intro (Or.inl rfl) t)))))
theorem g_x12_fro_9 {d : Nat} {B : Nat × Nat} {Q : zQ} {c : Nat × Nat × Nat} {I : Nat → Nat → Int} {g : Nat} {x1 x2 s0 : Int}
    (t : (s0 = 0 → (Q (some (zi (-2))) (c, I, zRg g))) ∧ (¬ (s0 = 0) → (zcl d 130 0 0 [zl x2, zl 0, zl 1] (c, I, zRg g) (fun v h1 => zRn (zcl d) 178 B Q 19 [some (zr 67), some (zi x1), some (zi x2), none, none] (zva v []) h1)))) :
    zRn (zcl d) 178 B Q 9 [some (zr 67), some (zi x1), some (zi x2), none, none] [zi s0] (c, I, zRg g) :=
  zgo [9, 19, 34, 57, 61] 5 (And.intro (fun u568 => (t.1 u568)) (fun u568 => And.intro (Nat.le_of_ble_eq_true rfl) (Exists.intro 0 (Exists.intro 0 (And.intro (Or.inl rfl) (And.intro (Or.inl rfl) (t.2 u568)))))))
theorem g_x12_fro_19 {d : Nat} {B : Nat × Nat} {Q : zQ} {c : Nat × Nat × Nat} {I : Nat → Nat → Int} {g : Nat} {x1 x2 s0 : Int}
    (t : (s0 ≠ 0 → (zRn (zcl d) 178 B Q 34 [some (zr 67), some (zi x1), some (zi x2), some (zi 1), none] [] (c, (z2 I 74 0 x1), zRg g))) ∧ (¬ (s0 ≠ 0) → (Q (some (zi (-2))) (c, I, zRg g)))) :
    zRn (zcl d) 178 B Q 19 [some (zr 67), some (zi x1), some (zi x2), none, none] [zi s0] (c, I, zRg g) :=
  zgo [9, 19, 34, 57, 61] 8 (And.intro (fun u569 => And.intro rfl (Exists.intro (some 74) (And.intro rfl (And.intro rfl (And.intro (by decide) (t.1 u569)))))) (fun u569 => (t.2 u569)))
theorem g_x12_fro_34 {d : Nat} {B : Nat × Nat} {Q : zQ} {c : Nat × Nat × Nat} {I : Nat → Nat → Int} {g : Nat} {x1 x2 x3 : Int}
    (t : (60 < x3 → (Q (some (zi (-1))) (c, I, zRg g))) ∧ (¬ (60 < x3) → ((0 ≤ zwr (x3 - 1) ∧ zwr (x3 - 1) < 61) ∧ (zcl d 169 0 0 [zr 67, zi (I 74 ((zwr (x3 - 1)).toNat))] (c, I, zRg g) (fun v h1 => zRn (zcl d) 178 B Q 57 [some (zr 67), some (zi x1), some (zi x2), some (zi x3), none] (zva v [zi x3, zr 74]) h1))))) :
    zRn (zcl d) 178 B Q 34 [some (zr 67), some (zi x1), some (zi x2), some (zi x3), none] [] (c, I, zRg g) :=
  zgo [9, 19, 34, 57, 61] 13 (And.intro (fun u570 => (t.1 u570)) (fun u570 => And.intro rfl (Exists.intro (some 74) (And.intro rfl (And.intro rfl (Exists.intro (some 74) (And.intro rfl (And.intro rfl (And.intro (t.2 u570).1 (Exists.intro 169 (And.intro rfl (And.intro (Nat.le_of_ble_eq_true rfl) (Exists.intro 0 (Exists.intro 0 (And.intro (Or.inl rfl) (And.intro (Or.inl rfl) ((t.2 u570).2)))))))))))))))))
theorem g_x12_fro_57 {d : Nat} {B : Nat × Nat} {Q : zQ} {c : Nat × Nat × Nat} {I : Nat → Nat → Int} {g : Nat} {x1 x2 x3 s0 s1 : Int}
    (t : (0 ≤ s1 ∧ s1 < 61) ∧ (zRn (zcl d) 178 B Q 61 [some (zr 67), some (zi x1), some (zi x2), some (zi x3), some (zi 0)] [] (c, (z2 I 74 s1.toNat s0), zRg g))) :
    zRn (zcl d) 178 B Q 57 [some (zr 67), some (zi x1), some (zi x2), some (zi x3), none] [zi s0, zi s1, zr 74] (c, I, zRg g) :=
  zgo [9, 19, 34, 57, 61] 3 (And.intro rfl (And.intro t.1 t.2))
theorem g_x12_fro_61 {d : Nat} {B : Nat × Nat} {Q : zQ} {c : Nat × Nat × Nat} {I : Nat → Nat → Int} {g : Nat} {x1 x2 x3 x4 : Int}
    (t : (x3 ≤ x4 → (zRn (zcl d) 178 B Q 34 [some (zr 67), some (zi x1), some (zi x2), some (zi (zwr (x3 + 1))), some (zi x4)] [] (c, I, zRg g))) ∧ (¬ (x3 ≤ x4) → ((0 ≤ x4 ∧ x4 < 61) ∧ ((0 ≤ x3 ∧ x3 < 61) ∧ ((I 74 x4.toNat ≠ I 74 x3.toNat → (zRn (zcl d) 178 B Q 61 [some (zr 67), some (zi x1), some (zi x2), some (zi x3), some (zi (zwr (x4 + 1)))] [] (c, I, zRg g))) ∧ (¬ (I 74 x4.toNat ≠ I 74 x3.toNat) → ((x2 ≠ 0 → ((0 ≤ x3 ∧ x3 < 61) ∧ (Q (some (zi (I 74 x3.toNat))) (c, I, zRg g)))) ∧ (¬ (x2 ≠ 0) → (Q (some (zi x3)) (c, I, zRg g)))))))))) :
    zRn (zcl d) 178 B Q 61 [some (zr 67), some (zi x1), some (zi x2), some (zi x3), some (zi x4)] [] (c, I, zRg g) :=
  zgo [9, 19, 34, 57, 61] 18 (And.intro (fun u571 => (t.1 u571)) (fun u571 => And.intro rfl (Exists.intro (some 74) (And.intro rfl (And.intro rfl (And.intro (t.2 u571).1 (And.intro rfl (Exists.intro (some 74) (And.intro rfl (And.intro rfl (And.intro (t.2 u571).2.1 (And.intro (fun u572 => ((t.2 u571).2.2.1 u572)) (fun u572 => And.intro (fun u573 => And.intro rfl (Exists.intro (some 74) (And.intro rfl (And.intro rfl (And.intro (((t.2 u571).2.2.2 u572).1 u573).1 ((((t.2 u571).2.2.2 u572).1 u573).2)))))) (fun u573 => (((t.2 u571).2.2.2 u572).2 u573)))))))))))))))
theorem g_x12_rowsFrom_0 {d : Nat} {B : Nat × Nat} {Q : zQ} {c : Nat × Nat × Nat} {I : Nat → Nat → Int} {g : Nat} {x1 x2 x3 x4 x5 x6 : Int}
    (t : zcl d 170 0 0 [zi x1, zi x2] (c, I, zRg g) (fun v h1 => zRn (zcl d) 179 B Q 5 [some (zr 67), some (zi x1), some (zi x2), some (zi x3), some (zi x4), some (zi x5), some (zi x6), none, none] (zva v []) h1)) :
    zRn (zcl d) 179 B Q 0 [some (zr 67), some (zi x1), some (zi x2), some (zi x3), some (zi x4), some (zi x5), some (zi x6), none, none] [] (c, I, zRg g) :=
  zgo [5, 57, 91, 116] 2 (And.intro (Nat.le_of_ble_eq_true rfl) (Exists.intro 0 (Exists.intro 0 (And.intro (Or.inl rfl) (And.intro (Or.inl rfl) t)))))
theorem g_x12_rowsFrom_5 {d : Nat} {B : Nat × Nat} {Q : zQ} {c : Nat × Nat × Nat} {I : Nat → Nat → Int} {g : Nat} {x1 x2 x3 x4 x5 x6 s0 : Int}
    (t : (x3 ≤ 0 → (zRn (zcl d) 179 B Q 57 [some (zr 67), some (zi x1), some (zi x2), some (zi x3), some (zi x4), some (zi x5), some (zi x6), some (zi s0), some (zi 0)] [] (c, I, zRg g))) ∧ (¬ (x3 ≤ 0) → ((s0 < I 67 32 → (zRn (zcl d) 179 B Q 57 [some (zr 67), some (zi x1), some (zi x2), some (zi x3), some (zi x4), some (zi x5), some (zi x6), some (zi s0), some (zi 0)] [] (c, (z2 (z2 (z2 I 67 31 x6) 67 32 s0) 67 33 x3), zRg g))) ∧ (¬ (s0 < I 67 32) → ((s0 ≠ I 67 32 → (zRn (zcl d) 179 B Q 57 [some (zr 67), some (zi x1), some (zi x2), some (zi x3), some (zi x4), some (zi x5), some (zi x6), some (zi s0), some (zi 0)] [] (c, I, zRg g))) ∧ (¬ (s0 ≠ I 67 32) → ((I 67 33 ≤ x3 → (zRn (zcl d) 179 B Q 57 [some (zr 67), some (zi x1), some (zi x2), some (zi x3), some (zi x4), some (zi x5), some (zi x6), some (zi s0), some (zi 0)] [] (c, I, zRg g))) ∧ (¬ (I 67 33 ≤ x3) → (zRn (zcl d) 179 B Q 57 [some (zr 67), some (zi x1), some (zi x2), some (zi x3), some (zi x4), some (zi x5), some (zi x6), some (zi s0), some (zi 0)] [] (c, (z2 (z2 (z2 I 67 31 x6) 67 32 s0) 67 33 x3), zRg g)))))))))) :
    zRn (zcl d) 179 B Q 5 [some (zr 67), some (zi x1), some (zi x2), some (zi x3), some (zi x4), some (zi x5), some (zi x6), none, none] [zi s0] (c, I, zRg g) :=
  zgo [5, 57, 91, 116] 26 (And.intro (fun u574 => (t.1 u574)) (fun u574 => And.intro rfl (And.intro (fun u575 => And.intro rfl (And.intro rfl (And.intro rfl ((t.2 u574).1 u575)))) (fun u575 => And.intro rfl (And.intro (fun u576 => (((t.2 u574).2 u575).1 u576)) (fun u576 => And.intro rfl (And.intro (fun u577 => ((((t.2 u574).2 u575).2 u576).1 u577)) (fun u577 => And.intro rfl (And.intro rfl (And.intro rfl ((((t.2 u574).2 u575).2 u576).2 u577)))))))))))
theorem g_x12_rowsFrom_57 {d : Nat} {B : Nat × Nat} {Q : zQ} {c : Nat × Nat × Nat} {I : Nat → Nat → Int} {g : Nat} {x1 x2 x3 x4 x5 x6 x7 x8 : Int}
    (t : (I 67 9 ≤ x8 → (Q none (c, I, zRg g))) ∧ (¬ (I 67 9 ≤ x8) → ((x4 ≤ x3 → (Q none (c, I, zRg g))) ∧ (¬ (x4 ≤ x3) → ((zand (zshr x5 x8) 1 ≠ 0 → (zRn (zcl d) 179 B Q 116 [some (zr 67), some (zi x1), some (zi x2), some (zi x3), some (zi x4), some (zi x5), some (zi x6), some (zi x7), some (zi x8)] [] (c, I, zRg g))) ∧ (¬ (zand (zshr x5 x8) 1 ≠ 0) → (zcl d 165 0 0 [zr 67, zi x8, zi x2] (c, I, zRg g) (fun v h1 => zRn (zcl d) 179 B Q 91 [some (zr 67), some (zi x1), some (zi x2), some (zi x3), some (zi x4), some (zi x5), some (zi x6), some (zi x7), some (zi x8)] (zva v [zi x1, zr 67]) h1)))))))) :
    zRn (zcl d) 179 B Q 57 [some (zr 67), some (zi x1), some (zi x2), some (zi x3), some (zi x4), some (zi x5), some (zi x6), some (zi x7), some (zi x8)] [] (c, I, zRg g) :=
  zgo [5, 57, 91, 116] 18 (And.intro rfl (And.intro (fun u578 => (t.1 u578)) (fun u578 => And.intro (fun u579 => ((t.2 u578).1 u579)) (fun u579 => And.intro (fun u580 => (((t.2 u578).2 u579).1 u580)) (fun u580 => Exists.intro 165 (And.intro rfl (And.intro (Nat.le_of_ble_eq_true rfl) (Exists.intro 0 (Exists.intro 0 (And.intro (Or.inl rfl) (And.intro (Or.inl rfl) (((t.2 u578).2 u579).2 u580))))))))))))
theorem g_x12_rowsFrom_91 {d : Nat} {B : Nat × Nat} {Q : zQ} {c : Nat × Nat × Nat} {I : Nat → Nat → Int} {g : Nat} {x1 x2 x3 x4 x5 x6 x7 x8 s0 s1 : Int}
    (t : zcl d 179 0 0 [zr 67, zi s1, zi s0, zi (zwr (x3 + 1)), zi x4, zi (zor x5 (zshl 1 x8)), zi (zwr ((zwr ((zwr (10 * x6)) + x8)) + 1))] (c, I, zRg g) (fun v h1 => zRn (zcl d) 179 B Q 116 [some (zr 67), some (zi x1), some (zi x2), some (zi x3), some (zi x4), some (zi x5), some (zi x6), some (zi x7), some (zi x8)] (zva v []) h1)) :
    zRn (zcl d) 179 B Q 91 [some (zr 67), some (zi x1), some (zi x2), some (zi x3), some (zi x4), some (zi x5), some (zi x6), some (zi x7), some (zi x8)] [zi s0, zi s1, zr 67] (c, I, zRg g) :=
  zgo [5, 57, 91, 116] 16 (Exists.intro 179 (And.intro rfl (And.intro (Nat.le_of_ble_eq_true rfl) (Exists.intro 0 (Exists.intro 0 (And.intro (Or.inl rfl) (And.intro (Or.inl rfl) t)))))))
theorem g_x12_rowsFrom_116 {d : Nat} {B : Nat × Nat} {Q : zQ} {c : Nat × Nat × Nat} {I : Nat → Nat → Int} {g : Nat} {x1 x2 x3 x4 x5 x6 x7 x8 : Int}
    (t : zRn (zcl d) 179 B Q 57 [some (zr 67), some (zi x1), some (zi x2), some (zi x3), some (zi x4), some (zi x5), some (zi x6), some (zi x7), some (zi (zwr (x8 + 1)))] [] (c, I, zRg g)) :
    zRn (zcl d) 179 B Q 116 [some (zr 67), some (zi x1), some (zi x2), some (zi x3), some (zi x4), some (zi x5), some (zi x6), some (zi x7), some (zi x8)] [] (c, I, zRg g) :=
  zgo [5, 57, 91, 116] 2 (t)
theorem g_x12_row_0 {d : Nat} {B : Nat × Nat} {Q : zQ} {c : Nat × Nat × Nat} {I : Nat → Nat → Int} {g : Nat} {x1 x2 x3 : Int}
    (t : zcl d 130 0 0 [zl x1, zl 0, zl 1023] (c, I, zRg g) (fun v h1 => zRn (zcl d) 180 B Q 9 [some (zr 67), some (zi x1), some (zi x2), some (zi x3)] (zva v []) h1)) :
    zRn (zcl d) 180 B Q 0 [some (zr 67), some (zi x1), some (zi x2), some (zi x3)] [] (c, I, zRg g) :=
  zgo [9, 21, 31, 62] 4 (And.intro (Nat.le_of_ble_eq_true rfl) (Exists.intro 0 (Exists.intro 0 (And.intro (Or.inl rfl) (And.intro (Or.inl rfl) t)))))
theorem g_x12_row_9 {d : Nat} {B : Nat × Nat} {Q : zQ} {c : Nat × Nat × Nat} {I : Nat → Nat → Int} {g : Nat} {x1 x2 x3 s0 : Int}
    (t : (s0 = 0 → (Q (some (zi (-2))) (c, I, zRg g))) ∧ (¬ (s0 = 0) → (zcl d 130 0 0 [zl x2, zl 1, zl 3] (c, I, zRg g) (fun v h1 => zRn (zcl d) 180 B Q 21 [some (zr 67), some (zi x1), some (zi x2), some (zi x3)] (zva v []) h1)))) :
    zRn (zcl d) 180 B Q 9 [some (zr 67), some (zi x1), some (zi x2), some (zi x3)] [zi s0] (c, I, zRg g) :=
  zgo [9, 21, 31, 62] 5 (And.intro (fun u581 => (t.1 u581)) (fun u581 => And.intro (Nat.le_of_ble_eq_true rfl) (Exists.intro 0 (Exists.intro 0 (And.intro (Or.inl rfl) (And.intro (Or.inl rfl) (t.2 u581)))))))
theorem g_x12_row_21 {d : Nat} {B : Nat × Nat} {Q : zQ} {c : Nat × Nat × Nat} {I : Nat → Nat → Int} {g : Nat} {x1 x2 x3 s0 : Int}
    (t : (s0 = 0 → (Q (some (zi (-2))) (c, I, zRg g))) ∧ (¬ (s0 = 0) → (zcl d 130 0 0 [zl x3, zl 0, zl 1] (c, I, zRg g) (fun v h1 => zRn (zcl d) 180 B Q 31 [some (zr 67), some (zi x1), some (zi x2), some (zi x3)] (zva v []) h1)))) :
    zRn (zcl d) 180 B Q 21 [some (zr 67), some (zi x1), some (zi x2), some (zi x3)] [zi s0] (c, I, zRg g) :=
  zgo [9, 21, 31, 62] 5 (And.intro (fun u582 => (t.1 u582)) (fun u582 => And.intro (Nat.le_of_ble_eq_true rfl) (Exists.intro 0 (Exists.intro 0 (And.intro (Or.inl rfl) (And.intro (Or.inl rfl) (t.2 u582)))))))
theorem g_x12_row_31 {d : Nat} {B : Nat × Nat} {Q : zQ} {c : Nat × Nat × Nat} {I : Nat → Nat → Int} {g : Nat} {x1 x2 x3 s0 : Int}
    (t : (s0 ≠ 0 → ((I 67 9 ≠ 0 → (zcl d 179 0 0 [zr 67, zi x1, zi x1, zi 0, zi x2, zi 0, zi 0] (c, (z2 I 67 32 100), zRg g) (fun v h1 => zRn (zcl d) 180 B Q 62 [some (zr 67), some (zi x1), some (zi x2), some (zi x3)] (zva v []) h1))) ∧ (¬ (I 67 9 ≠ 0) → (Q (some (zi (-1))) (c, I, zRg g))))) ∧ (¬ (s0 ≠ 0) → (Q (some (zi (-2))) (c, I, zRg g)))) :
    zRn (zcl d) 180 B Q 31 [some (zr 67), some (zi x1), some (zi x2), some (zi x3)] [zi s0] (c, I, zRg g) :=
  zgo [9, 21, 31, 62] 14 (And.intro (fun u583 => And.intro rfl (And.intro (fun u584 => And.intro rfl (Exists.intro 179 (And.intro rfl (And.intro (Nat.le_of_ble_eq_true rfl) (Exists.intro 0 (Exists.intro 0 (And.intro (Or.inl rfl) (And.intro (Or.inl rfl) ((t.1 u583).1 u584))))))))) (fun u584 => ((t.1 u583).2 u584)))) (fun u583 => (t.2 u583)))
theorem g_x12_row_62 {d : Nat} {B : Nat × Nat} {Q : zQ} {c : Nat × Nat × Nat} {I : Nat → Nat → Int} {g : Nat} {x1 x2 x3 : Int}
    (t : (x3 ≠ 0 → (Q (some (zi (I 67 32))) (c, I, zRg g))) ∧ (¬ (x3 ≠ 0) → (Q (some (zi (I 67 31))) (c, I, zRg g)))) :
    zRn (zcl d) 180 B Q 62 [some (zr 67), some (zi x1), some (zi x2), some (zi x3)] [] (c, I, zRg g) :=
  zgo [9, 21, 31, 62] 5 (And.intro (fun u585 => And.intro rfl (t.1 u585)) (fun u585 => And.intro rfl (t.2 u585)))
theorem g_x12_learn_0 {d : Nat} {B : Nat × Nat} {Q : zQ} {c : Nat × Nat × Nat} {I : Nat → Nat → Int} {g : Nat} {x1 x2 : Int}
    (t : zcl d 130 0 0 [zl x1, zl 0, zl 1023] (c, I, zRg g) (fun v h1 => zRn (zcl d) 181 B Q 9 [some (zr 67), some (zi x1), some (zi x2), none, none] (zva v []) h1)) :
    zRn (zcl d) 181 B Q 0 [some (zr 67), some (zi x1), some (zi x2), none, none] [] (c, I, zRg g) :=
  zgo [9, 19, 30, 48, 52, 66, 105] 4 (And.intro (Nat.le_of_ble_eq_true rfl) (Exists.intro 0 (Exists.intro 0 (And.intro (Or.inl rfl) (And.intro (Or.inl rfl) t)))))
theorem g_x12_learn_9 {d : Nat} {B : Nat × Nat} {Q : zQ} {c : Nat × Nat × Nat} {I : Nat → Nat → Int} {g : Nat} {x1 x2 s0 : Int}
    (t : (s0 = 0 → (Q (some (zi (-2))) (c, I, zRg g))) ∧ (¬ (s0 = 0) → (zcl d 130 0 0 [zl x2, zl 0, zl 1] (c, I, zRg g) (fun v h1 => zRn (zcl d) 181 B Q 19 [some (zr 67), some (zi x1), some (zi x2), none, none] (zva v []) h1)))) :
    zRn (zcl d) 181 B Q 9 [some (zr 67), some (zi x1), some (zi x2), none, none] [zi s0] (c, I, zRg g) :=
  zgo [9, 19, 30, 48, 52, 66, 105] 5 (And.intro (fun u586 => (t.1 u586)) (fun u586 => And.intro (Nat.le_of_ble_eq_true rfl) (Exists.intro 0 (Exists.intro 0 (And.intro (Or.inl rfl) (And.intro (Or.inl rfl) (t.2 u586)))))))
theorem g_x12_learn_19 {d : Nat} {B : Nat × Nat} {Q : zQ} {c : Nat × Nat × Nat} {I : Nat → Nat → Int} {g : Nat} {x1 x2 s0 : Int}
    (t : (s0 ≠ 0 → (zRn (zcl d) 181 B Q 30 [some (zr 67), some (zi x1), some (zi x2), some (zi (-1)), some (zi 0)] [] (c, I, zRg g))) ∧ (¬ (s0 ≠ 0) → (Q (some (zi (-2))) (c, I, zRg g)))) :
    zRn (zcl d) 181 B Q 19 [some (zr 67), some (zi x1), some (zi x2), none, none] [zi s0] (c, I, zRg g) :=
  zgo [9, 19, 30, 48, 52, 66, 105] 5 (And.intro (fun u587 => (t.1 u587)) (fun u587 => (t.2 u587)))
theorem g_x12_learn_30 {d : Nat} {B : Nat × Nat} {Q : zQ} {c : Nat × Nat × Nat} {I : Nat → Nat → Int} {g : Nat} {x1 x2 x3 x4 : Int}
    (t : (1023 < x4 → ((x2 = 0 → (zRn (zcl d) 181 B Q 105 [some (zr 67), some (zi x1), some (zi x2), some (zi x3), some (zi x4)] [zi x3] (c, (z2 I 67 13 0), zRg g))) ∧ (¬ (x2 = 0) → ((x3 ≠ (-1) → (zcl d 161 0 0 [zi x3] (c, (z2 I 67 13 0), zRg g) (fun v h1 => zRn (zcl d) 181 B Q 105 [some (zr 67), some (zi x1), some (zi x2), some (zi x3), some (zi x4)] (zva v []) h1))) ∧ (¬ (x3 ≠ (-1)) → (zRn (zcl d) 181 B Q 105 [some (zr 67), some (zi x1), some (zi x2), some (zi x3), some (zi x4)] [zi x3] (c, (z2 I 67 13 0), zRg g))))))) ∧ (¬ (1023 < x4) → ((x3 = (-1) → (zcl d 169 0 0 [zr 67, zi x1] (c, (z2 I 67 13 x4), zRg g) (fun v h1 => zRn (zcl d) 181 B Q 66 [some (zr 67), some (zi x1), some (zi x2), some (zi x3), some (zi x4)] (zva v []) h1))) ∧ (¬ (x3 = (-1)) → (zcl d 161 0 0 [zi x4] (c, I, zRg g) (fun v h1 => zRn (zcl d) 181 B Q 48 [some (zr 67), some (zi x1), some (zi x2), some (zi x3), some (zi x4)] (zva v []) h1)))))) :
    zRn (zcl d) 181 B Q 30 [some (zr 67), some (zi x1), some (zi x2), some (zi x3), some (zi x4)] [] (c, I, zRg g) :=
  zgo [9, 19, 30, 48, 52, 66, 105] 13 (And.intro (fun u588 => And.intro rfl (And.intro (fun u589 => ((t.1 u588).1 u589)) (fun u589 => And.intro (fun u590 => And.intro (Nat.le_of_ble_eq_true rfl) (Exists.intro 0 (Exists.intro 0 (And.intro (Or.inl rfl) (And.intro (Or.inl rfl) (((t.1 u588).2 u589).1 u590)))))) (fun u590 => (((t.1 u588).2 u589).2 u590))))) (fun u588 => And.intro (fun u591 => And.intro rfl (Exists.intro 169 (And.intro rfl (And.intro (Nat.le_of_ble_eq_true rfl) (Exists.intro 0 (Exists.intro 0 (And.intro (Or.inl rfl) (And.intro (Or.inl rfl) ((t.2 u588).1 u591))))))))) (fun u591 => And.intro (Nat.le_of_ble_eq_true rfl) (Exists.intro 0 (Exists.intro 0 (And.intro (Or.inl rfl) (And.intro (Or.inl rfl) ((t.2 u588).2 u591))))))))
theorem g_x12_learn_48 {d : Nat} {B : Nat × Nat} {Q : zQ} {c : Nat × Nat × Nat} {I : Nat → Nat → Int} {g : Nat} {x1 x2 x3 x4 s0 : Int}
    (t : zcl d 161 0 0 [zi x3] (c, I, zRg g) (fun v h1 => zRn (zcl d) 181 B Q 52 [some (zr 67), some (zi x1), some (zi x2), some (zi x3), some (zi x4)] (zva v [zi s0]) h1)) :
    zRn (zcl d) 181 B Q 48 [some (zr 67), some (zi x1), some (zi x2), some (zi x3), some (zi x4)] [zi s0] (c, I, zRg g) :=
  zgo [9, 19, 30, 48, 52, 66, 105] 1 (And.intro (Nat.le_of_ble_eq_true rfl) (Exists.intro 0 (Exists.intro 0 (And.intro (Or.inl rfl) (And.intro (Or.inl rfl) t)))))
theorem g_x12_learn_52 {d : Nat} {B : Nat × Nat} {Q : zQ} {c : Nat × Nat × Nat} {I : Nat → Nat → Int} {g : Nat} {x1 x2 x3 x4 s0 s1 : Int}
    (t : (s0 ≤ s1 → (zRn (zcl d) 181 B Q 30 [some (zr 67), some (zi x1), some (zi x2), some (zi x3), some (zi (zwr (x4 + 1)))] [] (c, I, zRg g))) ∧ (¬ (s0 ≤ s1) → (zcl d 169 0 0 [zr 67, zi x1] (c, (z2 I 67 13 x4), zRg g) (fun v h1 => zRn (zcl d) 181 B Q 66 [some (zr 67), some (zi x1), some (zi x2), some (zi x3), some (zi x4)] (zva v []) h1)))) :
    zRn (zcl d) 181 B Q 52 [some (zr 67), some (zi x1), some (zi x2), some (zi x3), some (zi x4)] [zi s0, zi s1] (c, I, zRg g) :=
  zgo [9, 19, 30, 48, 52, 66, 105] 6 (And.intro (fun u593 => (t.1 u593)) (fun u593 => And.intro rfl (Exists.intro 169 (And.intro rfl (And.intro (Nat.le_of_ble_eq_true rfl) (Exists.intro 0 (Exists.intro 0 (And.intro (Or.inl rfl) (And.intro (Or.inl rfl) (t.2 u593))))))))))
theorem g_x12_learn_66 {d : Nat} {B : Nat × Nat} {Q : zQ} {c : Nat × Nat × Nat} {I : Nat → Nat → Int} {g : Nat} {x1 x2 x3 x4 s0 : Int}
    (t : (s0 ≠ x1 → (zRn (zcl d) 181 B Q 30 [some (zr 67), some (zi x1), some (zi x2), some (zi x3), some (zi (zwr (x4 + 1)))] [] (c, I, zRg g))) ∧ (¬ (s0 ≠ x1) → (zRn (zcl d) 181 B Q 30 [some (zr 67), some (zi x1), some (zi x2), some (zi x4), some (zi (zwr (x4 + 1)))] [] (c, I, zRg g)))) :
    zRn (zcl d) 181 B Q 66 [some (zr 67), some (zi x1), some (zi x2), some (zi x3), some (zi x4)] [zi s0] (c, I, zRg g) :=
  zgo [9, 19, 30, 48, 52, 66, 105] 7 (And.intro (fun u592 => (t.1 u592)) (fun u592 => (t.2 u592)))
theorem g_x12_learn_105 {d : Nat} {B : Nat × Nat} {Q : zQ} {c : Nat × Nat × Nat} {I : Nat → Nat → Int} {g : Nat} {x1 x2 x3 x4 s0 : Int}
    (t : Q (some (zi s0)) (c, I, zRg g)) :
    zRn (zcl d) 181 B Q 105 [some (zr 67), some (zi x1), some (zi x2), some (zi x3), some (zi x4)] [zi s0] (c, I, zRg g) :=
  zgo [9, 19, 30, 48, 52, 66, 105] 0 (t)
theorem g_x12_from_0 {d : Nat} {B : Nat × Nat} {Q : zQ} {c : Nat × Nat × Nat} {I : Nat → Nat → Int} {g : Nat} {x1 x2 : Int}
    (t : zcl d 130 0 0 [zl x1, zl 0, zl 1023] (c, I, zRg g) (fun v h1 => zRn (zcl d) 182 B Q 9 [some (zr 67), some (zi x1), some (zi x2), none, none, none] (zva v []) h1)) :
    zRn (zcl d) 182 B Q 0 [some (zr 67), some (zi x1), some (zi x2), none, none, none] [] (c, I, zRg g) :=
  zgo [9, 19, 35, 46] 4 (And.intro (Nat.le_of_ble_eq_true rfl) (Exists.intro 0 (Exists.intro 0 (And.intro (Or.inl rfl) (And.intro (Or.inl rfl) t)))))
theorem g_x12_from_9 {d : Nat} {B : Nat × Nat} {Q : zQ} {c : Nat × Nat × Nat} {I : Nat → Nat → Int} {g : Nat} {x1 x2 s0 : Int}
    (t : (s0 = 0 → (Q (some (zi (-2))) (c, I, zRg g))) ∧ (¬ (s0 = 0) → (zcl d 130 0 0 [zl x2, zl 0, zl 1] (c, I, zRg g) (fun v h1 => zRn (zcl d) 182 B Q 19 [some (zr 67), some (zi x1), some (zi x2), none, none, none] (zva v []) h1)))) :
    zRn (zcl d) 182 B Q 9 [some (zr 67), some (zi x1), some (zi x2), none, none, none] [zi s0] (c, I, zRg g) :=
  zgo [9, 19, 35, 46] 5 (And.intro (fun u594 => (t.1 u594)) (fun u594 => And.intro (Nat.le_of_ble_eq_true rfl) (Exists.intro 0 (Exists.intro 0 (And.intro (Or.inl rfl) (And.intro (Or.inl rfl) (t.2 u594)))))))
theorem g_x12_from_19 {d : Nat} {B : Nat × Nat} {Q : zQ} {c : Nat × Nat × Nat} {I : Nat → Nat → Int} {g : Nat} {x1 x2 s0 : Int}
    (t : (s0 ≠ 0 → (zRn (zcl d) 182 B Q 35 [some (zr 67), some (zi x1), some (zi x2), some (zi 0), some (zi (-1)), some (zi 1023)] [] (c, I, zRg g))) ∧ (¬ (s0 ≠ 0) → (Q (some (zi (-2))) (c, I, zRg g)))) :
    zRn (zcl d) 182 B Q 19 [some (zr 67), some (zi x1), some (zi x2), none, none, none] [zi s0] (c, I, zRg g) :=
  zgo [9, 19, 35, 46] 7 (And.intro (fun u595 => (t.1 u595)) (fun u595 => (t.2 u595)))
theorem g_x12_from_35 {d : Nat} {B : Nat × Nat} {Q : zQ} {c : Nat × Nat × Nat} {I : Nat → Nat → Int} {g : Nat} {x1 x2 x3 x4 x5 : Int}
    (t : (x5 < 0 → ((x2 ≠ 0 → (Q (some (zi x4)) (c, I, zRg g))) ∧ (¬ (x2 ≠ 0) → (Q (some (zi x3)) (c, I, zRg g))))) ∧ (¬ (x5 < 0) → (zcl d 169 0 0 [zr 67, zi x5] (c, I, zRg g) (fun v h1 => zRn (zcl d) 182 B Q 46 [some (zr 67), some (zi x1), some (zi x2), some (zi x3), some (zi x4), some (zi x5)] (zva v []) h1)))) :
    zRn (zcl d) 182 B Q 35 [some (zr 67), some (zi x1), some (zi x2), some (zi x3), some (zi x4), some (zi x5)] [] (c, I, zRg g) :=
  zgo [9, 19, 35, 46] 6 (And.intro (fun u596 => And.intro (fun u597 => ((t.1 u596).1 u597)) (fun u597 => ((t.1 u596).2 u597))) (fun u596 => Exists.intro 169 (And.intro rfl (And.intro (Nat.le_of_ble_eq_true rfl) (Exists.intro 0 (Exists.intro 0 (And.intro (Or.inl rfl) (And.intro (Or.inl rfl) (t.2 u596)))))))))
theorem g_x12_from_46 {d : Nat} {B : Nat × Nat} {Q : zQ} {c : Nat × Nat × Nat} {I : Nat → Nat → Int} {g : Nat} {x1 x2 x3 x4 x5 s0 : Int}
    (t : (s0 ≠ x1 → (zRn (zcl d) 182 B Q 35 [some (zr 67), some (zi x1), some (zi x2), some (zi x3), some (zi x4), some (zi (zwr (x5 + (-1))))] [] (c, I, zRg g))) ∧ (¬ (s0 ≠ x1) → (zRn (zcl d) 182 B Q 35 [some (zr 67), some (zi x1), some (zi x2), some (zi (zwr (x3 + 1))), some (zi x5), some (zi (zwr (x5 + (-1))))] [] (c, I, zRg g)))) :
    zRn (zcl d) 182 B Q 46 [some (zr 67), some (zi x1), some (zi x2), some (zi x3), some (zi x4), some (zi x5)] [zi s0] (c, I, zRg g) :=
  zgo [9, 19, 35, 46] 7 (And.intro (fun u598 => (t.1 u598)) (fun u598 => (t.2 u598)))
theorem g_x12_lowest_0 {d : Nat} {B : Nat × Nat} {Q : zQ} {c : Nat × Nat × Nat} {I : Nat → Nat → Int} {g : Nat} {x0 x2 x4 : Int}
    (t : zRn (zcl d) 183 B Q 6 [some (zl x0), none, some (zl x2), none, some (zi x4), some (zl x0), none, some (zl x2), none, none, none] [] (c, I, zRg g)) :
    zRn (zcl d) 183 B Q 0 [some (zl x0), none, some (zl x2), none, some (zi x4), none, none, none, none, none, none] [] (c, I, zRg g) :=
  zgo [6] 4 (t)
theorem g_x12_lowest_6 {d : Nat} {B : Nat × Nat} {Q : zQ} {c : Nat × Nat × Nat} {I : Nat → Nat → Int} {g : Nat} {x0 x2 x4 x5 x7 : Int}
    (t : (zcmp x7 0 = 0 → ((x4 ≠ 0 → ((x5 ≠ 0) ∧ (Q (some (zl (zwl (Int.tdiv x2 x5)))) (c, I, zRg g)))) ∧ (¬ (x4 ≠ 0) → ((x5 ≠ 0) ∧ (Q (some (zl (zwl (Int.tdiv x0 x5)))) (c, I, zRg g)))))) ∧ (¬ (zcmp x7 0 = 0) → ((x7 ≠ 0) ∧ (zRn (zcl d) 183 B Q 6 [some (zl x0), none, some (zl x2), none, some (zi x4), some (zl x7), none, some (zl (zwl (Int.tmod x5 x7))), none, some (zl (zwl (Int.tmod x5 x7))), none] [] (c, I, zRg g))))) :
    zRn (zcl d) 183 B Q 6 [some (zl x0), none, some (zl x2), none, some (zi x4), some (zl x5), none, some (zl x7), none, none, none] [] (c, I, zRg g) :=
  zgo [6] 13 (And.intro (fun u599 => And.intro (fun u600 => And.intro ((t.1 u599).1 u600).1 (((t.1 u599).1 u600).2)) (fun u600 => And.intro ((t.1 u599).2 u600).1 (((t.1 u599).2 u600).2))) (fun u599 => And.intro (t.2 u599).1 ((t.2 u599).2)))
theorem g_x12_mean_0 {d : Nat} {B : Nat × Nat} {Q : zQ} {c : Nat × Nat × Nat} {I : Nat → Nat → Int} {g : Nat} {x1 : Int}
    (t : zcl d 130 0 0 [zl x1, zl 0, zl 1] (c, I, zRg g) (fun v h1 => zRn (zcl d) 184 B Q 7 [some (zr 67), some (zi x1), none, none] (zva v []) h1)) :
    zRn (zcl d) 184 B Q 0 [some (zr 67), some (zi x1), none, none] [] (c, I, zRg g) :=
  zgo [7, 25, 47, 66] 4 (And.intro (Nat.le_of_ble_eq_true rfl) (Exists.intro 0 (Exists.intro 0 (And.intro (Or.inl rfl) (And.intro (Or.inl rfl) t)))))
theorem g_x12_mean_7 {d : Nat} {B : Nat × Nat} {Q : zQ} {c : Nat × Nat × Nat} {I : Nat → Nat → Int} {g : Nat} {x1 s0 : Int}
    (t : (s0 = 0 → (Q (some (zl (-4611686018427387904))) (c, I, zRg g))) ∧ (¬ (s0 = 0) → ((I 67 9 ≠ 0 → (zRn (zcl d) 184 B Q 25 [some (zr 67), some (zi x1), some (zi 0), some (zi 0)] [] (c, I, zRg g))) ∧ (¬ (I 67 9 ≠ 0) → (Q (some (zl (-4611686018427387904))) (c, I, zRg g)))))) :
    zRn (zcl d) 184 B Q 7 [some (zr 67), some (zi x1), none, none] [zi s0] (c, I, zRg g) :=
  zgo [7, 25, 47, 66] 8 (And.intro (fun u601 => (t.1 u601)) (fun u601 => And.intro rfl (And.intro (fun u602 => ((t.2 u601).1 u602)) (fun u602 => ((t.2 u601).2 u602)))))
theorem g_x12_mean_25 {d : Nat} {B : Nat × Nat} {Q : zQ} {c : Nat × Nat × Nat} {I : Nat → Nat → Int} {g : Nat} {x1 x2 x3 : Int}
    (t : (I 67 9 ≤ x3 → (zcl d 183 0 0 [zl x2, zl (I 67 9), zi x1] (c, I, zRg g) (fun v h1 => zRn (zcl d) 184 B Q 66 [some (zr 67), some (zi x1), some (zi x2), some (zi x3)] (zva v []) h1))) ∧ (¬ (I 67 9 ≤ x3) → ((0 ≤ zwr ((zwr (5 * x3)) + 1) ∧ zwr ((zwr (5 * x3)) + 1) < 25) ∧ (zcl d 161 0 0 [zi (I 71 ((zwr ((zwr (5 * x3)) + 1)).toNat))] (c, I, zRg g) (fun v h1 => zRn (zcl d) 184 B Q 47 [some (zr 67), some (zi x1), some (zi x2), some (zi x3)] (zva v [zi x2]) h1))))) :
    zRn (zcl d) 184 B Q 25 [some (zr 67), some (zi x1), some (zi x2), some (zi x3)] [] (c, I, zRg g) :=
  zgo [7, 25, 47, 66] 13 (And.intro rfl (And.intro (fun u603 => And.intro rfl (And.intro (Nat.le_of_ble_eq_true rfl) (Exists.intro 0 (Exists.intro 0 (And.intro (Or.inl rfl) (And.intro (Or.inl rfl) (t.1 u603))))))) (fun u603 => And.intro rfl (Exists.intro (some 71) (And.intro rfl (And.intro rfl (And.intro (t.2 u603).1 (And.intro (Nat.le_of_ble_eq_true rfl) (Exists.intro 0 (Exists.intro 0 (And.intro (Or.inl rfl) (And.intro (Or.inl rfl) ((t.2 u603).2)))))))))))))
theorem g_x12_mean_47 {d : Nat} {B : Nat × Nat} {Q : zQ} {c : Nat × Nat × Nat} {I : Nat → Nat → Int} {g : Nat} {x1 x2 x3 s0 s1 : Int}
    (t : zRn (zcl d) 184 B Q 25 [some (zr 67), some (zi x1), some (zi (zwr (s1 + s0))), some (zi (zwr (x3 + 1)))] [] (c, I, zRg g)) :
    zRn (zcl d) 184 B Q 47 [some (zr 67), some (zi x1), some (zi x2), some (zi x3)] [zi s0, zi s1] (c, I, zRg g) :=
  zgo [7, 25, 47, 66] 4 (t)
theorem g_x12_mean_66 {d : Nat} {B : Nat × Nat} {Q : zQ} {c : Nat × Nat × Nat} {I : Nat → Nat → Int} {g : Nat} {x1 x2 x3 s0 : Int}
    (t : Q (some (zl s0)) (c, I, zRg g)) :
    zRn (zcl d) 184 B Q 66 [some (zr 67), some (zi x1), some (zi x2), some (zi x3)] [zl s0] (c, I, zRg g) :=
  zgo [7, 25, 47, 66] 0 (t)
theorem g_x12_firstOther_0 {d : Nat} {B : Nat × Nat} {Q : zQ} {c : Nat × Nat × Nat} {I : Nat → Nat → Int} {g : Nat} {x1 x2 : Int}
    (t : zRn (zcl d) 185 B Q 2 [some (zr 67), some (zi x1), some (zi x2), some (zi 0)] [] (c, I, zRg g)) :
    zRn (zcl d) 185 B Q 0 [some (zr 67), some (zi x1), some (zi x2), none] [] (c, I, zRg g) :=
  zgo [2, 20] 2 (t)
theorem g_x12_firstOther_2 {d : Nat} {B : Nat × Nat} {Q : zQ} {c : Nat × Nat × Nat} {I : Nat → Nat → Int} {g : Nat} {x1 x2 x3 : Int}
    (t : (0 ≤ x1 ∧ x1 < 4) ∧ ((I 79 x1.toNat ≤ x3 → (Q (some (zi (-1))) (c, I, zRg g))) ∧ (¬ (I 79 x1.toNat ≤ x3) → (zcl d 165 0 0 [zr 67, zi x2, zi (zshl 1 x3)] (c, I, zRg g) (fun v h1 => zRn (zcl d) 185 B Q 20 [some (zr 67), some (zi x1), some (zi x2), some (zi x3)] (zva v []) h1))))) :
    zRn (zcl d) 185 B Q 2 [some (zr 67), some (zi x1), some (zi x2), some (zi x3)] [] (c, I, zRg g) :=
  zgo [2, 20] 11 (And.intro rfl (Exists.intro (some 79) (And.intro rfl (And.intro rfl (And.intro t.1 (And.intro (fun u604 => (t.2.1 u604)) (fun u604 => Exists.intro 165 (And.intro rfl (And.intro (Nat.le_of_ble_eq_true rfl) (Exists.intro 0 (Exists.intro 0 (And.intro (Or.inl rfl) (And.intro (Or.inl rfl) (t.2.2 u604))))))))))))))
theorem g_x12_firstOther_20 {d : Nat} {B : Nat × Nat} {Q : zQ} {c : Nat × Nat × Nat} {I : Nat → Nat → Int} {g : Nat} {x1 x2 x3 s0 : Int}
    (t : (0 ≤ zwr ((zwr (40 * x1)) + x3) ∧ zwr ((zwr (40 * x1)) + x3) < 160) ∧ ((s0 = I 80 ((zwr ((zwr (40 * x1)) + x3)).toNat) → (zRn (zcl d) 185 B Q 2 [some (zr 67), some (zi x1), some (zi x2), some (zi (zwr (x3 + 1)))] [] (c, I, zRg g))) ∧ (¬ (s0 = I 80 ((zwr ((zwr (40 * x1)) + x3)).toNat)) → (Q (some (zi x3)) (c, I, zRg g))))) :
    zRn (zcl d) 185 B Q 20 [some (zr 67), some (zi x1), some (zi x2), some (zi x3)] [zi s0] (c, I, zRg g) :=
  zgo [2, 20] 11 (And.intro rfl (Exists.intro (some 80) (And.intro rfl (And.intro rfl (And.intro t.1 (And.intro (fun u605 => (t.2.1 u605)) (fun u605 => (t.2.2 u605))))))))
theorem g_x12_likeSet_0 {d : Nat} {B : Nat × Nat} {Q : zQ} {c : Nat × Nat × Nat} {I : Nat → Nat → Int} {g : Nat} {x1 : Int}
    (t : zRn (zcl d) 186 B Q 4 [some (zr 67), some (zi x1), some (zi 0), some (zi 0)] [] (c, I, zRg g)) :
    zRn (zcl d) 186 B Q 0 [some (zr 67), some (zi x1), none, none] [] (c, I, zRg g) :=
  zgo [4, 19] 4 (t)
theorem g_x12_likeSet_4 {d : Nat} {B : Nat × Nat} {Q : zQ} {c : Nat × Nat × Nat} {I : Nat → Nat → Int} {g : Nat} {x1 x2 x3 : Int}
    (t : (I 67 9 ≤ x3 → (Q (some (zi x2)) (c, I, zRg g))) ∧ (¬ (I 67 9 ≤ x3) → (zcl d 185 0 0 [zr 67, zi x1, zi x3] (c, I, zRg g) (fun v h1 => zRn (zcl d) 186 B Q 19 [some (zr 67), some (zi x1), some (zi x2), some (zi x3)] (zva v [zi x2]) h1)))) :
    zRn (zcl d) 186 B Q 4 [some (zr 67), some (zi x1), some (zi x2), some (zi x3)] [] (c, I, zRg g) :=
  zgo [4, 19] 8 (And.intro rfl (And.intro (fun u606 => (t.1 u606)) (fun u606 => Exists.intro 185 (And.intro rfl (And.intro (Nat.le_of_ble_eq_true rfl) (Exists.intro 0 (Exists.intro 0 (And.intro (Or.inl rfl) (And.intro (Or.inl rfl) (t.2 u606))))))))))
theorem g_x12_likeSet_19 {d : Nat} {B : Nat × Nat} {Q : zQ} {c : Nat × Nat × Nat} {I : Nat → Nat → Int} {g : Nat} {x1 x2 x3 s0 s1 : Int}
    (t : (s0 ≠ (-1) → (zRn (zcl d) 186 B Q 4 [some (zr 67), some (zi x1), some (zi (zor s1 (zshl 0 x3))), some (zi (zwr (x3 + 1)))] [] (c, I, zRg g))) ∧ (¬ (s0 ≠ (-1)) → (zRn (zcl d) 186 B Q 4 [some (zr 67), some (zi x1), some (zi (zor s1 (zshl 1 x3))), some (zi (zwr (x3 + 1)))] [] (c, I, zRg g)))) :
    zRn (zcl d) 186 B Q 19 [some (zr 67), some (zi x1), some (zi x2), some (zi x3)] [zi s0, zi s1] (c, I, zRg g) :=
  zgo [4, 19] 10 (And.intro (fun u607 => (t.1 u607)) (fun u607 => (t.2 u607)))
theorem g_x12_tells_0 {d : Nat} {B : Nat × Nat} {Q : zQ} {c : Nat × Nat × Nat} {I : Nat → Nat → Int} {g : Nat} {x1 x2 x3 : Int}
    (t : zcl d 195 0 0 [zi x1] (c, I, zRg g) (fun v h1 => zRn (zcl d) 187 B Q 4 [some (zr 67), some (zi x1), some (zi x2), some (zi x3), none, none, none, none, none, none, none] (zva v []) h1)) :
    zRn (zcl d) 187 B Q 0 [some (zr 67), some (zi x1), some (zi x2), some (zi x3), none, none, none, none, none, none, none] [] (c, I, zRg g) :=
  zgo [4, 12, 24, 76, 84, 147, 215, 229, 235, 281] 1 (And.intro (Nat.le_of_ble_eq_true rfl) (Exists.intro 0 (Exists.intro 0 (And.intro (Or.inl rfl) (And.intro (Or.inl rfl) t)))))
theorem g_x12_tells_4 {d : Nat} {B : Nat × Nat} {Q : zQ} {c : Nat × Nat × Nat} {I : Nat → Nat → Int} {g : Nat} {x1 x2 x3 s0 : Int}
    (t : (s0 = 0 → (Q (some (zi (-2))) (c, I, zRg g))) ∧ (¬ (s0 = 0) → (zcl d 134 0 0 [zr 67, zi x2] (c, I, zRg g) (fun v h1 => zRn (zcl d) 187 B Q 12 [some (zr 67), some (zi x1), some (zi x2), some (zi x3), none, none, none, none, none, none, none] (zva v []) h1)))) :
    zRn (zcl d) 187 B Q 4 [some (zr 67), some (zi x1), some (zi x2), some (zi x3), none, none, none, none, none, none, none] [zi s0] (c, I, zRg g) :=
  zgo [4, 12, 24, 76, 84, 147, 215, 229, 235, 281] 3 (And.intro (fun u608 => (t.1 u608)) (fun u608 => Exists.intro 134 (And.intro rfl (And.intro (Nat.le_of_ble_eq_true rfl) (Exists.intro 0 (Exists.intro 0 (And.intro (Or.inl rfl) (And.intro (Or.inl rfl) (t.2 u608)))))))))
theorem g_x12_tells_12 {d : Nat} {B : Nat × Nat} {Q : zQ} {c : Nat × Nat × Nat} {I : Nat → Nat → Int} {g : Nat} {x1 x2 x3 s0 : Int}
    (t : (s0 = 0 → (Q (some (zi (-2))) (c, I, zRg g))) ∧ (¬ (s0 = 0) → (zcl d 130 0 0 [zl x3, zl 0, zl 8] (c, I, zRg g) (fun v h1 => zRn (zcl d) 187 B Q 24 [some (zr 67), some (zi x1), some (zi x2), some (zi x3), none, none, none, none, none, none, none] (zva v []) h1)))) :
    zRn (zcl d) 187 B Q 12 [some (zr 67), some (zi x1), some (zi x2), some (zi x3), none, none, none, none, none, none, none] [zi s0] (c, I, zRg g) :=
  zgo [4, 12, 24, 76, 84, 147, 215, 229, 235, 281] 5 (And.intro (fun u609 => (t.1 u609)) (fun u609 => And.intro (Nat.le_of_ble_eq_true rfl) (Exists.intro 0 (Exists.intro 0 (And.intro (Or.inl rfl) (And.intro (Or.inl rfl) (t.2 u609)))))))
theorem g_x12_tells_24 {d : Nat} {B : Nat × Nat} {Q : zQ} {c : Nat × Nat × Nat} {I : Nat → Nat → Int} {g : Nat} {x1 x2 x3 s0 : Int}
    (t : (s0 ≠ 0 → ((0 ≤ x1 ∧ x1 < 4) ∧ ((I 77 x1.toNat ≠ 0 → ((0 ≤ x1 ∧ x1 < 4) ∧ ((I 79 x1.toNat ≤ 10 → ((x3 = 0 → ((x3 ≠ 0 → (zcl d 186 0 0 [zr 67, zi x1] (c, I, zRg g) (fun v h1 => zRn (zcl d) 187 B Q 84 [some (zr 67), some (zi x1), some (zi x2), some (zi x3), none, none, none, none, none, none, none] (zva v []) h1))) ∧ (¬ (x3 ≠ 0) → (zcl d 185 0 0 [zr 67, zi x1, zi x2] (c, I, zRg g) (fun v h1 => zRn (zcl d) 187 B Q 76 [some (zr 67), some (zi x1), some (zi x2), some (zi x3), none, none, none, none, none, none, none] (zva v []) h1))))) ∧ (¬ (x3 = 0) → ((x3 ≠ 8 → ((x3 ≠ 1 → ((x3 ≠ 2 → ((5 ≤ x3 → ((7 ≤ x3 → (zRn (zcl d) 187 B Q 147 [some (zr 67), some (zi x1), some (zi x2), some (zi x3), some (zi 6), none, none, none, none, none, none] [zi (I 67 4)] (c, I, zRg g))) ∧ (¬ (7 ≤ x3) → (zcl d 140 0 0 [zr 67, zi x2, zi 2] (c, I, zRg g) (fun v h1 => zRn (zcl d) 187 B Q 147 [some (zr 67), some (zi x1), some (zi x2), some (zi x3), some (zi 2), none, none, none, none, none, none] (zva v []) h1))))) ∧ (¬ (5 ≤ x3) → (zcl d 140 0 0 [zr 67, zi x2, zi 3] (c, I, zRg g) (fun v h1 => zRn (zcl d) 187 B Q 147 [some (zr 67), some (zi x1), some (zi x2), some (zi x3), some (zi 3), none, none, none, none, none, none] (zva v []) h1))))) ∧ (¬ (x3 ≠ 2) → (zcl d 140 0 0 [zr 67, zi x2, zi 1] (c, I, zRg g) (fun v h1 => zRn (zcl d) 187 B Q 147 [some (zr 67), some (zi x1), some (zi x2), some (zi x3), some (zi 1), none, none, none, none, none, none] (zva v []) h1))))) ∧ (¬ (x3 ≠ 1) → (zcl d 140 0 0 [zr 67, zi x2, zi 5] (c, I, zRg g) (fun v h1 => zRn (zcl d) 187 B Q 147 [some (zr 67), some (zi x1), some (zi x2), some (zi x3), some (zi 5), none, none, none, none, none, none] (zva v []) h1))))) ∧ (¬ (x3 ≠ 8) → ((x3 ≠ 0 → (zcl d 186 0 0 [zr 67, zi x1] (c, I, zRg g) (fun v h1 => zRn (zcl d) 187 B Q 84 [some (zr 67), some (zi x1), some (zi x2), some (zi x3), none, none, none, none, none, none, none] (zva v []) h1))) ∧ (¬ (x3 ≠ 0) → (zcl d 185 0 0 [zr 67, zi x1, zi x2] (c, I, zRg g) (fun v h1 => zRn (zcl d) 187 B Q 76 [some (zr 67), some (zi x1), some (zi x2), some (zi x3), none, none, none, none, none, none, none] (zva v []) h1))))))))) ∧ (¬ (I 79 x1.toNat ≤ 10) → (Q (some (zi (-2))) (c, I, zRg g)))))) ∧ (¬ (I 77 x1.toNat ≠ 0) → (Q (some (zi (-11))) (c, I, zRg g)))))) ∧ (¬ (s0 ≠ 0) → (Q (some (zi (-2))) (c, I, zRg g)))) :
    zRn (zcl d) 187 B Q 24 [some (zr 67), some (zi x1), some (zi x2), some (zi x3), none, none, none, none, none, none, none] [zi s0] (c, I, zRg g) :=
  zgo [4, 12, 24, 76, 84, 147, 215, 229, 235, 281] 38 (And.intro (fun u610 => And.intro rfl (Exists.intro (some 77) (And.intro rfl (And.intro rfl (And.intro (t.1 u610).1 (And.intro (fun u611 => And.intro rfl (Exists.intro (some 79) (And.intro rfl (And.intro rfl (And.intro ((t.1 u610).2.1 u611).1 (And.intro (fun u612 => And.intro (fun u613 => And.intro (fun u614 => Exists.intro 186 (And.intro rfl (And.intro (Nat.le_of_ble_eq_true rfl) (Exists.intro 0 (Exists.intro 0 (And.intro (Or.inl rfl) (And.intro (Or.inl rfl) (((((t.1 u610).2.1 u611).2.1 u612).1 u613).1 u614)))))))) (fun u614 => Exists.intro 185 (And.intro rfl (And.intro (Nat.le_of_ble_eq_true rfl) (Exists.intro 0 (Exists.intro 0 (And.intro (Or.inl rfl) (And.intro (Or.inl rfl) (((((t.1 u610).2.1 u611).2.1 u612).1 u613).2 u614))))))))) (fun u613 => And.intro (fun u615 => And.intro (fun u616 => And.intro (fun u617 => And.intro (fun u618 => And.intro (fun u619 => And.intro (fun n => absurd n (by decide)) (fun _ => And.intro rfl (((((((((t.1 u610).2.1 u611).2.1 u612).2 u613).1 u615).1 u616).1 u617).1 u618).1 u619))) (fun u619 => And.intro (fun _ => Exists.intro 140 (And.intro rfl (And.intro (Nat.le_of_ble_eq_true rfl) (Exists.intro 0 (Exists.intro 0 (And.intro (Or.inl rfl) (And.intro (Or.inl rfl) (((((((((t.1 u610).2.1 u611).2.1 u612).2 u613).1 u615).1 u616).1 u617).1 u618).2 u619)))))))) (fun n => absurd (by decide) n))) (fun u618 => And.intro (fun _ => Exists.intro 140 (And.intro rfl (And.intro (Nat.le_of_ble_eq_true rfl) (Exists.intro 0 (Exists.intro 0 (And.intro (Or.inl rfl) (And.intro (Or.inl rfl) ((((((((t.1 u610).2.1 u611).2.1 u612).2 u613).1 u615).1 u616).1 u617).2 u618)))))))) (fun n => absurd (by decide) n))) (fun u617 => And.intro (fun _ => Exists.intro 140 (And.intro rfl (And.intro (Nat.le_of_ble_eq_true rfl) (Exists.intro 0 (Exists.intro 0 (And.intro (Or.inl rfl) (And.intro (Or.inl rfl) (((((((t.1 u610).2.1 u611).2.1 u612).2 u613).1 u615).1 u616).2 u617)))))))) (fun n => absurd (by decide) n))) (fun u616 => And.intro (fun _ => Exists.intro 140 (And.intro rfl (And.intro (Nat.le_of_ble_eq_true rfl) (Exists.intro 0 (Exists.intro 0 (And.intro (Or.inl rfl) (And.intro (Or.inl rfl) ((((((t.1 u610).2.1 u611).2.1 u612).2 u613).1 u615).2 u616)))))))) (fun n => absurd (by decide) n))) (fun u615 => And.intro (fun u620 => Exists.intro 186 (And.intro rfl (And.intro (Nat.le_of_ble_eq_true rfl) (Exists.intro 0 (Exists.intro 0 (And.intro (Or.inl rfl) (And.intro (Or.inl rfl) ((((((t.1 u610).2.1 u611).2.1 u612).2 u613).2 u615).1 u620)))))))) (fun u620 => Exists.intro 185 (And.intro rfl (And.intro (Nat.le_of_ble_eq_true rfl) (Exists.intro 0 (Exists.intro 0 (And.intro (Or.inl rfl) (And.intro (Or.inl rfl) ((((((t.1 u610).2.1 u611).2.1 u612).2 u613).2 u615).2 u620))))))))))) (fun u612 => (((t.1 u610).2.1 u611).2.2 u612)))))))) (fun u611 => ((t.1 u610).2.2 u611)))))))) (fun u610 => (t.2 u610)))
theorem g_x12_tells_76 {d : Nat} {B : Nat × Nat} {Q : zQ} {c : Nat × Nat × Nat} {I : Nat → Nat → Int} {g : Nat} {x1 x2 x3 s0 : Int}
    (t : zRn (zcl d) 187 B Q 84 [some (zr 67), some (zi x1), some (zi x2), some (zi x3), none, none, none, none, none, none, none] [zi s0] (c, I, zRg g)) :
    zRn (zcl d) 187 B Q 76 [some (zr 67), some (zi x1), some (zi x2), some (zi x3), none, none, none, none, none, none, none] [zi s0] (c, I, zRg g) :=
  zgo [4, 12, 24, 76, 84, 147, 215, 229, 235, 281] 1 (t)
theorem g_x12_tells_84 {d : Nat} {B : Nat × Nat} {Q : zQ} {c : Nat × Nat × Nat} {I : Nat → Nat → Int} {g : Nat} {x1 x2 x3 s0 : Int}
    (t : Q (some (zi s0)) (c, I, zRg g)) :
    zRn (zcl d) 187 B Q 84 [some (zr 67), some (zi x1), some (zi x2), some (zi x3), none, none, none, none, none, none, none] [zi s0] (c, I, zRg g) :=
  zgo [4, 12, 24, 76, 84, 147, 215, 229, 235, 281] 0 (t)
theorem g_x12_tells_147 {d : Nat} {B : Nat × Nat} {Q : zQ} {c : Nat × Nat × Nat} {I : Nat → Nat → Int} {g : Nat} {x1 x2 x3 x4 s0 : Int}
    (t : (x4 ≠ 6 → ((x4 ≠ 5 → ((x4 ≠ 1 → ((x4 ≠ 3 → (zRn (zcl d) 187 B Q 215 [some (zr 67), some (zi x1), some (zi x2), some (zi x3), some (zi x4), some (zi s0), some (zi 1023), some (zi 0), some (zi 0), some (zi (-1)), some (zi 1023)] [] (c, I, zRg g))) ∧ (¬ (x4 ≠ 3) → (zRn (zcl d) 187 B Q 215 [some (zr 67), some (zi x1), some (zi x2), some (zi x3), some (zi x4), some (zi s0), some (zi 99), some (zi 0), some (zi 0), some (zi (-1)), some (zi 99)] [] (c, I, zRg g))))) ∧ (¬ (x4 ≠ 1) → (zRn (zcl d) 187 B Q 215 [some (zr 67), some (zi x1), some (zi x2), some (zi x3), some (zi x4), some (zi s0), some (zi 9), some (zi 0), some (zi 0), some (zi (-1)), some (zi 9)] [] (c, I, zRg g))))) ∧ (¬ (x4 ≠ 5) → (zRn (zcl d) 187 B Q 215 [some (zr 67), some (zi x1), some (zi x2), some (zi x3), some (zi x4), some (zi s0), some (zi 5), some (zi 0), some (zi 0), some (zi (-1)), some (zi 5)] [] (c, I, zRg g))))) ∧ (¬ (x4 ≠ 6) → (zRn (zcl d) 187 B Q 215 [some (zr 67), some (zi x1), some (zi x2), some (zi x3), some (zi x4), some (zi s0), some (zi (zwr ((I 67 3) - 1))), some (zi 0), some (zi 0), some (zi (-1)), some (zi (zwr ((I 67 3) - 1)))] [] (c, I, zRg g)))) :
    zRn (zcl d) 187 B Q 147 [some (zr 67), some (zi x1), some (zi x2), some (zi x3), some (zi x4), none, none, none, none, none, none] [zi s0] (c, I, zRg g) :=
  zgo [4, 12, 24, 76, 84, 147, 215, 229, 235, 281] 24 (And.intro (fun u621 => And.intro (fun u622 => And.intro (fun u623 => And.intro (fun u624 => ((((t.1 u621).1 u622).1 u623).1 u624)) (fun u624 => ((((t.1 u621).1 u622).1 u623).2 u624))) (fun u623 => (((t.1 u621).1 u622).2 u623))) (fun u622 => ((t.1 u621).2 u622))) (fun u621 => And.intro rfl (t.2 u621)))
theorem g_x12_tells_215 {d : Nat} {B : Nat × Nat} {Q : zQ} {c : Nat × Nat × Nat} {I : Nat → Nat → Int} {g : Nat} {x1 x2 x3 x4 x5 x6 x7 x8 x9 x10 : Int}
    (t : (x10 < 0 → (zcl d 138 0 0 [zr 67, zi x4, zi x2, zi x5] (c, I, zRg g) (fun v h1 => zRn (zcl d) 187 B Q 281 [some (zr 67), some (zi x1), some (zi x2), some (zi x3), some (zi x4), some (zi x5), some (zi x6), some (zi x7), some (zi x8), some (zi x9), some (zi x10)] (zva v []) h1))) ∧ (¬ (x10 < 0) → (zcl d 138 0 0 [zr 67, zi x4, zi x2, zi x10] (c, I, zRg g) (fun v h1 => zRn (zcl d) 187 B Q 229 [some (zr 67), some (zi x1), some (zi x2), some (zi x3), some (zi x4), some (zi x5), some (zi x6), some (zi x7), some (zi x8), some (zi x9), some (zi x10)] (zva v []) h1)))) :
    zRn (zcl d) 187 B Q 215 [some (zr 67), some (zi x1), some (zi x2), some (zi x3), some (zi x4), some (zi x5), some (zi x6), some (zi x7), some (zi x8), some (zi x9), some (zi x10)] [] (c, I, zRg g) :=
  zgo [4, 12, 24, 76, 84, 147, 215, 229, 235, 281] 6 (And.intro (fun u625 => Exists.intro 138 (And.intro rfl (And.intro (Nat.le_of_ble_eq_true rfl) (Exists.intro 0 (Exists.intro 0 (And.intro (Or.inl rfl) (And.intro (Or.inl rfl) (t.1 u625)))))))) (fun u625 => Exists.intro 138 (And.intro rfl (And.intro (Nat.le_of_ble_eq_true rfl) (Exists.intro 0 (Exists.intro 0 (And.intro (Or.inl rfl) (And.intro (Or.inl rfl) (t.2 u625)))))))))
theorem g_x12_tells_229 {d : Nat} {B : Nat × Nat} {Q : zQ} {c : Nat × Nat × Nat} {I : Nat → Nat → Int} {g : Nat} {x1 x2 x3 x4 x5 x6 x7 x8 x9 x10 : Int}
    (t : zcl d 185 0 0 [zr 67, zi x1, zi x2] (c, I, zRg g) (fun v h1 => zRn (zcl d) 187 B Q 235 [some (zr 67), some (zi x1), some (zi x2), some (zi x3), some (zi x4), some (zi x5), some (zi x6), some (zi x7), some (zi x8), some (zi x9), some (zi x10)] (zva v []) h1)) :
    zRn (zcl d) 187 B Q 229 [some (zr 67), some (zi x1), some (zi x2), some (zi x3), some (zi x4), some (zi x5), some (zi x6), some (zi x7), some (zi x8), some (zi x9), some (zi x10)] [] (c, I, zRg g) :=
  zgo [4, 12, 24, 76, 84, 147, 215, 229, 235, 281] 3 (Exists.intro 185 (And.intro rfl (And.intro (Nat.le_of_ble_eq_true rfl) (Exists.intro 0 (Exists.intro 0 (And.intro (Or.inl rfl) (And.intro (Or.inl rfl) t)))))))
theorem g_x12_tells_235 {d : Nat} {B : Nat × Nat} {Q : zQ} {c : Nat × Nat × Nat} {I : Nat → Nat → Int} {g : Nat} {x1 x2 x3 x4 x5 x6 x7 x8 x9 x10 s0 : Int}
    (t : (s0 ≠ (-1) → (zRn (zcl d) 187 B Q 215 [some (zr 67), some (zi x1), some (zi x2), some (zi x3), some (zi x4), some (zi x5), some (zi x6), some (zi x7), some (zi x8), some (zi x9), some (zi (zwr (x10 + (-1))))] [] (c, I, zRg g))) ∧ (¬ (s0 ≠ (-1)) → ((10 ≤ x10 → (zRn (zcl d) 187 B Q 215 [some (zr 67), some (zi x1), some (zi x2), some (zi x3), some (zi x4), some (zi x5), some (zi x6), some (zi (zor x7 0)), some (zi (zwr (x8 + 1))), some (zi x10), some (zi (zwr (x10 + (-1))))] [] (c, I, zRg g))) ∧ (¬ (10 ≤ x10) → (zRn (zcl d) 187 B Q 215 [some (zr 67), some (zi x1), some (zi x2), some (zi x3), some (zi x4), some (zi x5), some (zi x6), some (zi (zor x7 (zshl 1 x10))), some (zi (zwr (x8 + 1))), some (zi x10), some (zi (zwr (x10 + (-1))))] [] (c, I, zRg g)))))) :
    zRn (zcl d) 187 B Q 235 [some (zr 67), some (zi x1), some (zi x2), some (zi x3), some (zi x4), some (zi x5), some (zi x6), some (zi x7), some (zi x8), some (zi x9), some (zi x10)] [zi s0] (c, I, zRg g) :=
  zgo [4, 12, 24, 76, 84, 147, 215, 229, 235, 281] 17 (And.intro (fun u630 => (t.1 u630)) (fun u630 => And.intro (fun u631 => ((t.2 u630).1 u631)) (fun u631 => ((t.2 u630).2 u631))))
theorem g_x12_tells_281 {d : Nat} {B : Nat × Nat} {Q : zQ} {c : Nat × Nat × Nat} {I : Nat → Nat → Int} {g : Nat} {x1 x2 x3 x4 x5 x6 x7 x8 x9 x10 : Int}
    (t : (x3 = 3 → (Q (some (zi x8)) (c, I, zRg g))) ∧ (¬ (x3 = 3) → ((x3 ≠ 5 → ((x3 = 4 → (Q (some (zi x9)) (c, I, zRg g))) ∧ (¬ (x3 = 4) → ((x3 ≠ 6 → (Q (some (zi x7)) (c, I, zRg g))) ∧ (¬ (x3 ≠ 6) → (Q (some (zi x9)) (c, I, zRg g))))))) ∧ (¬ (x3 ≠ 5) → (Q (some (zi x8)) (c, I, zRg g)))))) :
    zRn (zcl d) 187 B Q 281 [some (zr 67), some (zi x1), some (zi x2), some (zi x3), some (zi x4), some (zi x5), some (zi x6), some (zi x7), some (zi x8), some (zi x9), some (zi x10)] [] (c, I, zRg g) :=
  zgo [4, 12, 24, 76, 84, 147, 215, 229, 235, 281] 14 (And.intro (fun u626 => (t.1 u626)) (fun u626 => And.intro (fun u627 => And.intro (fun u628 => (((t.2 u626).1 u627).1 u628)) (fun u628 => And.intro (fun u629 => ((((t.2 u626).1 u627).2 u628).1 u629)) (fun u629 => ((((t.2 u626).1 u627).2 u628).2 u629)))) (fun u627 => ((t.2 u626).2 u627))))
theorem g_x12_film_0 {d : Nat} {B : Nat × Nat} {Q : zQ} {c : Nat × Nat × Nat} {I : Nat → Nat → Int} {g : Nat} {x1 x2 : Int}
    (t : zcl d 195 0 0 [zi x1] (c, I, zRg g) (fun v h1 => zRn (zcl d) 188 B Q 4 [some (zr 67), some (zi x1), some (zi x2), none, none, none] (zva v []) h1)) :
    zRn (zcl d) 188 B Q 0 [some (zr 67), some (zi x1), some (zi x2), none, none, none] [] (c, I, zRg g) :=
  zgo [4, 12, 26, 32, 48] 1 (And.intro (Nat.le_of_ble_eq_true rfl) (Exists.intro 0 (Exists.intro 0 (And.intro (Or.inl rfl) (And.intro (Or.inl rfl) t)))))
theorem g_x12_film_4 {d : Nat} {B : Nat × Nat} {Q : zQ} {c : Nat × Nat × Nat} {I : Nat → Nat → Int} {g : Nat} {x1 x2 s0 : Int}
    (t : (s0 = 0 → (Q (some (zi (-2))) (c, I, zRg g))) ∧ (¬ (s0 = 0) → (zcl d 134 0 0 [zr 67, zi x2] (c, I, zRg g) (fun v h1 => zRn (zcl d) 188 B Q 12 [some (zr 67), some (zi x1), some (zi x2), none, none, none] (zva v []) h1)))) :
    zRn (zcl d) 188 B Q 4 [some (zr 67), some (zi x1), some (zi x2), none, none, none] [zi s0] (c, I, zRg g) :=
  zgo [4, 12, 26, 32, 48] 3 (And.intro (fun u632 => (t.1 u632)) (fun u632 => Exists.intro 134 (And.intro rfl (And.intro (Nat.le_of_ble_eq_true rfl) (Exists.intro 0 (Exists.intro 0 (And.intro (Or.inl rfl) (And.intro (Or.inl rfl) (t.2 u632)))))))))
theorem g_x12_film_12 {d : Nat} {B : Nat × Nat} {Q : zQ} {c : Nat × Nat × Nat} {I : Nat → Nat → Int} {g : Nat} {x1 x2 s0 : Int}
    (t : (s0 ≠ 0 → (zcl d 196 0 0 [zr 67, zi x1, zi 1, zi 10] (c, I, zRg g) (fun v h1 => zRn (zcl d) 188 B Q 26 [some (zr 67), some (zi x1), some (zi x2), none, none, none] (zva v []) h1))) ∧ (¬ (s0 ≠ 0) → (Q (some (zi (-2))) (c, I, zRg g)))) :
    zRn (zcl d) 188 B Q 12 [some (zr 67), some (zi x1), some (zi x2), none, none, none] [zi s0] (c, I, zRg g) :=
  zgo [4, 12, 26, 32, 48] 5 (And.intro (fun u633 => Exists.intro 196 (And.intro rfl (And.intro (Nat.le_of_ble_eq_true rfl) (Exists.intro 0 (Exists.intro 0 (And.intro (Or.inl rfl) (And.intro (Or.inl rfl) (t.1 u633)))))))) (fun u633 => (t.2 u633)))
theorem g_x12_film_26 {d : Nat} {B : Nat × Nat} {Q : zQ} {c : Nat × Nat × Nat} {I : Nat → Nat → Int} {g : Nat} {x1 x2 s0 : Int}
    (t : zRn (zcl d) 188 B Q 32 [some (zr 67), some (zi x1), some (zi x2), some (zi 0), some (zi 0), none] [] (c, I, zRg g)) :
    zRn (zcl d) 188 B Q 26 [some (zr 67), some (zi x1), some (zi x2), none, none, none] [zi s0] (c, I, zRg g) :=
  zgo [4, 12, 26, 32, 48] 5 (t)
theorem g_x12_film_32 {d : Nat} {B : Nat × Nat} {Q : zQ} {c : Nat × Nat × Nat} {I : Nat → Nat → Int} {g : Nat} {x1 x2 x3 x4 : Int}
    (t : (10 ≤ x4 → (Q (some (zi x3)) (c, I, zRg g))) ∧ (¬ (10 ≤ x4) → (zcl d 165 0 0 [zr 67, zi x2, zi (zshl 1 x4)] (c, I, zRg g) (fun v h1 => zRn (zcl d) 188 B Q 48 [some (zr 67), some (zi x1), some (zi x2), some (zi x3), some (zi x4), none] (zva v []) h1)))) :
    zRn (zcl d) 188 B Q 32 [some (zr 67), some (zi x1), some (zi x2), some (zi x3), some (zi x4), none] [] (c, I, zRg g) :=
  zgo [4, 12, 26, 32, 48] 8 (And.intro (fun u634 => (t.1 u634)) (fun u634 => Exists.intro 165 (And.intro rfl (And.intro (Nat.le_of_ble_eq_true rfl) (Exists.intro 0 (Exists.intro 0 (And.intro (Or.inl rfl) (And.intro (Or.inl rfl) (t.2 u634)))))))))
theorem g_x12_film_48 {d : Nat} {B : Nat × Nat} {Q : zQ} {c : Nat × Nat × Nat} {I : Nat → Nat → Int} {g : Nat} {x1 x2 x3 x4 s0 : Int}
    (t : (0 ≤ zwr ((zwr (40 * x1)) + x4) ∧ zwr ((zwr (40 * x1)) + x4) < 160) ∧ ((s0 ≠ zshl 1 x4 → (zRn (zcl d) 188 B Q 32 [some (zr 67), some (zi x1), some (zi x2), some (zi (zwr (x3 + 0))), some (zi (zwr (x4 + 1))), some (zi s0)] [] (c, (z2 I 80 (zwr ((zwr (40 * x1)) + x4)).toNat s0), zRg g))) ∧ (¬ (s0 ≠ zshl 1 x4) → (zRn (zcl d) 188 B Q 32 [some (zr 67), some (zi x1), some (zi x2), some (zi (zwr (x3 + 1))), some (zi (zwr (x4 + 1))), some (zi s0)] [] (c, (z2 I 80 (zwr ((zwr (40 * x1)) + x4)).toNat s0), zRg g))))) :
    zRn (zcl d) 188 B Q 48 [some (zr 67), some (zi x1), some (zi x2), some (zi x3), some (zi x4), none] [zi s0] (c, I, zRg g) :=
  zgo [4, 12, 26, 32, 48] 22 (And.intro rfl (Exists.intro (some 80) (And.intro rfl (And.intro rfl (And.intro t.1 (And.intro (fun u635 => (t.2.1 u635)) (fun u635 => (t.2.2 u635))))))))
theorem g_x12_offDrawn_0 {d : Nat} {B : Nat × Nat} {Q : zQ} {c : Nat × Nat × Nat} {I : Nat → Nat → Int} {g : Nat} {x1 x2 : Int}
    (t : zRn (zcl d) 189 B Q 8 [some (zr 67), some (zi x1), some (zi x2), some (zi x1), some (zi 0), some (zi 0), none] [] (c, I, zRg g)) :
    zRn (zcl d) 189 B Q 0 [some (zr 67), some (zi x1), some (zi x2), none, none, none, none] [] (c, I, zRg g) :=
  zgo [8, 44, 47] 6 (t)
theorem g_x12_offDrawn_8 {d : Nat} {B : Nat × Nat} {Q : zQ} {c : Nat × Nat × Nat} {I : Nat → Nat → Int} {g : Nat} {x1 x2 x3 x4 x5 : Int}
    (t : (x2 ≤ x5 → (Q (some (zi x4)) (c, I, zRg g))) ∧ (¬ (x2 ≤ x5) → (zcl d 169 0 0 [zr 67, zi (zwr (Int.tmod (zushr (zwr ((zwr (x3 * 1103515245)) + 12345)) 9) 1024))] (c, I, zRg g) (fun v h1 => zRn (zcl d) 189 B Q 44 [some (zr 67), some (zi x1), some (zi x2), some (zi (zwr ((zwr (x3 * 1103515245)) + 12345))), some (zi x4), some (zi x5), some (zi (zwr (Int.tmod (zushr (zwr ((zwr (x3 * 1103515245)) + 12345)) 9) 1024)))] (zva v [zi (zwr (Int.tmod (zushr (zwr ((zwr (x3 * 1103515245)) + 12345)) 9) 1024)), zi x4]) h1)))) :
    zRn (zcl d) 189 B Q 8 [some (zr 67), some (zi x1), some (zi x2), some (zi x3), some (zi x4), some (zi x5), none] [] (c, I, zRg g) :=
  zgo [8, 44, 47] 19 (And.intro (fun u636 => (t.1 u636)) (fun u636 => And.intro (by decide) (Exists.intro 169 (And.intro rfl (And.intro (Nat.le_of_ble_eq_true rfl) (Exists.intro 0 (Exists.intro 0 (And.intro (Or.inl rfl) (And.intro (Or.inl rfl) (t.2 u636))))))))))
theorem g_x12_offDrawn_44 {d : Nat} {B : Nat × Nat} {Q : zQ} {c : Nat × Nat × Nat} {I : Nat → Nat → Int} {g : Nat} {x1 x2 x3 x4 x5 x6 s0 s1 s2 : Int}
    (t : zcl d 170 0 0 [zi s1, zi s0] (c, I, zRg g) (fun v h1 => zRn (zcl d) 189 B Q 47 [some (zr 67), some (zi x1), some (zi x2), some (zi x3), some (zi x4), some (zi x5), some (zi x6)] (zva v [zi s2]) h1)) :
    zRn (zcl d) 189 B Q 44 [some (zr 67), some (zi x1), some (zi x2), some (zi x3), some (zi x4), some (zi x5), some (zi x6)] [zi s0, zi s1, zi s2] (c, I, zRg g) :=
  zgo [8, 44, 47] 0 (And.intro (Nat.le_of_ble_eq_true rfl) (Exists.intro 0 (Exists.intro 0 (And.intro (Or.inl rfl) (And.intro (Or.inl rfl) t)))))
theorem g_x12_offDrawn_47 {d : Nat} {B : Nat × Nat} {Q : zQ} {c : Nat × Nat × Nat} {I : Nat → Nat → Int} {g : Nat} {x1 x2 x3 x4 x5 x6 s0 s1 : Int}
    (t : zRn (zcl d) 189 B Q 8 [some (zr 67), some (zi x1), some (zi x2), some (zi x3), some (zi (zwr (s1 + s0))), some (zi (zwr (x5 + 1))), some (zi x6)] [] (c, I, zRg g)) :
    zRn (zcl d) 189 B Q 47 [some (zr 67), some (zi x1), some (zi x2), some (zi x3), some (zi x4), some (zi x5), some (zi x6)] [zi s0, zi s1] (c, I, zRg g) :=
  zgo [8, 44, 47] 4 (t)
theorem g_x12_drawn_0 {d : Nat} {B : Nat × Nat} {Q : zQ} {c : Nat × Nat × Nat} {I : Nat → Nat → Int} {g : Nat} {x1 x2 : Int}
    (t : zcl d 130 0 0 [zl x2, zl 0, zl 40] (c, I, zRg g) (fun v h1 => zRn (zcl d) 190 B Q 9 [some (zr 67), some (zi x1), some (zi x2)] (zva v []) h1)) :
    zRn (zcl d) 190 B Q 0 [some (zr 67), some (zi x1), some (zi x2)] [] (c, I, zRg g) :=
  zgo [9, 18] 4 (And.intro (Nat.le_of_ble_eq_true rfl) (Exists.intro 0 (Exists.intro 0 (And.intro (Or.inl rfl) (And.intro (Or.inl rfl) t)))))
theorem g_x12_drawn_9 {d : Nat} {B : Nat × Nat} {Q : zQ} {c : Nat × Nat × Nat} {I : Nat → Nat → Int} {g : Nat} {x1 x2 s0 : Int}
    (t : (s0 = 0 → (Q (some (zi (-2))) (c, I, zRg g))) ∧ (¬ (s0 = 0) → (zcl d 189 0 0 [zr 67, zi x1, zi x2] (c, I, zRg g) (fun v h1 => zRn (zcl d) 190 B Q 18 [some (zr 67), some (zi x1), some (zi x2)] (zva v []) h1)))) :
    zRn (zcl d) 190 B Q 9 [some (zr 67), some (zi x1), some (zi x2)] [zi s0] (c, I, zRg g) :=
  zgo [9, 18] 4 (And.intro (fun u637 => (t.1 u637)) (fun u637 => Exists.intro 189 (And.intro rfl (And.intro (Nat.le_of_ble_eq_true rfl) (Exists.intro 0 (Exists.intro 0 (And.intro (Or.inl rfl) (And.intro (Or.inl rfl) (t.2 u637)))))))))
theorem g_x12_drawn_18 {d : Nat} {B : Nat × Nat} {Q : zQ} {c : Nat × Nat × Nat} {I : Nat → Nat → Int} {g : Nat} {x1 x2 s0 : Int}
    (t : Q (some (zi s0)) (c, I, zRg g)) :
    zRn (zcl d) 190 B Q 18 [some (zr 67), some (zi x1), some (zi x2)] [zi s0] (c, I, zRg g) :=
  zgo [9, 18] 1 (t)
theorem g_x12_chance_0 {d : Nat} {B : Nat × Nat} {Q : zQ} {c : Nat × Nat × Nat} {I : Nat → Nat → Int} {g : Nat} {x1 x2 x3 x4 : Int}
    (t : zcl d 130 0 0 [zl x2, zl 1, zl 40] (c, I, zRg g) (fun v h1 => zRn (zcl d) 191 B Q 9 [some (zr 67), some (zi x1), some (zi x2), some (zi x3), some (zi x4), none, none, none] (zva v []) h1)) :
    zRn (zcl d) 191 B Q 0 [some (zr 67), some (zi x1), some (zi x2), some (zi x3), some (zi x4), none, none, none] [] (c, I, zRg g) :=
  zgo [9, 21, 32, 45, 62, 89] 4 (And.intro (Nat.le_of_ble_eq_true rfl) (Exists.intro 0 (Exists.intro 0 (And.intro (Or.inl rfl) (And.intro (Or.inl rfl) t)))))
theorem g_x12_chance_9 {d : Nat} {B : Nat × Nat} {Q : zQ} {c : Nat × Nat × Nat} {I : Nat → Nat → Int} {g : Nat} {x1 x2 x3 x4 s0 : Int}
    (t : (s0 = 0 → (Q (some (zl (-4611686018427387904))) (c, I, zRg g))) ∧ (¬ (s0 = 0) → (zcl d 130 0 0 [zl x3, zl 0, zl 10] (c, I, zRg g) (fun v h1 => zRn (zcl d) 191 B Q 21 [some (zr 67), some (zi x1), some (zi x2), some (zi x3), some (zi x4), none, none, none] (zva v []) h1)))) :
    zRn (zcl d) 191 B Q 9 [some (zr 67), some (zi x1), some (zi x2), some (zi x3), some (zi x4), none, none, none] [zi s0] (c, I, zRg g) :=
  zgo [9, 21, 32, 45, 62, 89] 5 (And.intro (fun u638 => (t.1 u638)) (fun u638 => And.intro (Nat.le_of_ble_eq_true rfl) (Exists.intro 0 (Exists.intro 0 (And.intro (Or.inl rfl) (And.intro (Or.inl rfl) (t.2 u638)))))))
theorem g_x12_chance_21 {d : Nat} {B : Nat × Nat} {Q : zQ} {c : Nat × Nat × Nat} {I : Nat → Nat → Int} {g : Nat} {x1 x2 x3 x4 s0 : Int}
    (t : (s0 = 0 → (Q (some (zl (-4611686018427387904))) (c, I, zRg g))) ∧ (¬ (s0 = 0) → (zcl d 130 0 0 [zl x4, zl 0, zl 1] (c, I, zRg g) (fun v h1 => zRn (zcl d) 191 B Q 32 [some (zr 67), some (zi x1), some (zi x2), some (zi x3), some (zi x4), none, none, none] (zva v []) h1)))) :
    zRn (zcl d) 191 B Q 21 [some (zr 67), some (zi x1), some (zi x2), some (zi x3), some (zi x4), none, none, none] [zi s0] (c, I, zRg g) :=
  zgo [9, 21, 32, 45, 62, 89] 5 (And.intro (fun u639 => (t.1 u639)) (fun u639 => And.intro (Nat.le_of_ble_eq_true rfl) (Exists.intro 0 (Exists.intro 0 (And.intro (Or.inl rfl) (And.intro (Or.inl rfl) (t.2 u639)))))))
theorem g_x12_chance_32 {d : Nat} {B : Nat × Nat} {Q : zQ} {c : Nat × Nat × Nat} {I : Nat → Nat → Int} {g : Nat} {x1 x2 x3 x4 s0 : Int}
    (t : (s0 ≠ 0 → (zRn (zcl d) 191 B Q 45 [some (zr 67), some (zi x1), some (zi x2), some (zi x3), some (zi x4), some (zl 0), none, some (zi 0)] [] (c, I, zRg g))) ∧ (¬ (s0 ≠ 0) → (Q (some (zl (-4611686018427387904))) (c, I, zRg g)))) :
    zRn (zcl d) 191 B Q 32 [some (zr 67), some (zi x1), some (zi x2), some (zi x3), some (zi x4), none, none, none] [zi s0] (c, I, zRg g) :=
  zgo [9, 21, 32, 45, 62, 89] 5 (And.intro (fun u640 => (t.1 u640)) (fun u640 => (t.2 u640)))
theorem g_x12_chance_45 {d : Nat} {B : Nat × Nat} {Q : zQ} {c : Nat × Nat × Nat} {I : Nat → Nat → Int} {g : Nat} {x1 x2 x3 x4 x5 x7 : Int}
    (t : (x2 ≤ x7 → (zcl d 183 0 0 [zl x5, zl x2, zi x4] (c, I, zRg g) (fun v h1 => zRn (zcl d) 191 B Q 89 [some (zr 67), some (zi x1), some (zi x2), some (zi x3), some (zi x4), some (zl x5), none, some (zi x7)] (zva v []) h1))) ∧ (¬ (x2 ≤ x7) → (zcl d 189 0 0 [zr 67, zi (zwr (x1 + x7)), zi 1] (c, I, zRg g) (fun v h1 => zRn (zcl d) 191 B Q 62 [some (zr 67), some (zi x1), some (zi x2), some (zi x3), some (zi x4), some (zl x5), none, some (zi x7)] (zva v [zl x5]) h1)))) :
    zRn (zcl d) 191 B Q 45 [some (zr 67), some (zi x1), some (zi x2), some (zi x3), some (zi x4), some (zl x5), none, some (zi x7)] [] (c, I, zRg g) :=
  zgo [9, 21, 32, 45, 62, 89] 9 (And.intro (fun u641 => And.intro (Nat.le_of_ble_eq_true rfl) (Exists.intro 0 (Exists.intro 0 (And.intro (Or.inl rfl) (And.intro (Or.inl rfl) (t.1 u641)))))) (fun u641 => Exists.intro 189 (And.intro rfl (And.intro (Nat.le_of_ble_eq_true rfl) (Exists.intro 0 (Exists.intro 0 (And.intro (Or.inl rfl) (And.intro (Or.inl rfl) (t.2 u641)))))))))
theorem g_x12_chance_62 {d : Nat} {B : Nat × Nat} {Q : zQ} {c : Nat × Nat × Nat} {I : Nat → Nat → Int} {g : Nat} {x1 x2 x3 x4 x5 x7 s0 s1 : Int}
    (t : (x3 < s0 → (zRn (zcl d) 191 B Q 45 [some (zr 67), some (zi x1), some (zi x2), some (zi x3), some (zi x4), some (zl (zwl (s1 + 0))), none, some (zi (zwr (x7 + 1)))] [] (c, I, zRg g))) ∧ (¬ (x3 < s0) → (zRn (zcl d) 191 B Q 45 [some (zr 67), some (zi x1), some (zi x2), some (zi x3), some (zi x4), some (zl (zwl (s1 + 1))), none, some (zi (zwr (x7 + 1)))] [] (c, I, zRg g)))) :
    zRn (zcl d) 191 B Q 62 [some (zr 67), some (zi x1), some (zi x2), some (zi x3), some (zi x4), some (zl x5), none, some (zi x7)] [zi s0, zl s1] (c, I, zRg g) :=
  zgo [9, 21, 32, 45, 62, 89] 8 (And.intro (fun u642 => (t.1 u642)) (fun u642 => (t.2 u642)))
theorem g_x12_chance_89 {d : Nat} {B : Nat × Nat} {Q : zQ} {c : Nat × Nat × Nat} {I : Nat → Nat → Int} {g : Nat} {x1 x2 x3 x4 x5 x7 s0 : Int}
    (t : Q (some (zl s0)) (c, I, zRg g)) :
    zRn (zcl d) 191 B Q 89 [some (zr 67), some (zi x1), some (zi x2), some (zi x3), some (zi x4), some (zl x5), none, some (zi x7)] [zl s0] (c, I, zRg g) :=
  zgo [9, 21, 32, 45, 62, 89] 0 (t)
theorem g_x12_image_0 {d : Nat} {B : Nat × Nat} {Q : zQ} {c : Nat × Nat × Nat} {I : Nat → Nat → Int} {g : Nat}
    (t : zRn (zcl d) 192 B Q 2 [some (zr 67), some (zi 0)] [] (c, I, zRg g)) :
    zRn (zcl d) 192 B Q 0 [some (zr 67), none] [] (c, I, zRg g) :=
  zgo [2, 28] 2 (t)
theorem g_x12_image_2 {d : Nat} {B : Nat × Nat} {Q : zQ} {c : Nat × Nat × Nat} {I : Nat → Nat → Int} {g : Nat} {x1 : Int}
    (t : (25 ≤ x1 → (zRn (zcl d) 192 B Q 28 [some (zr 67), some (zi 0)] [] (c, I, zRg g))) ∧ (¬ (25 ≤ x1) → ((0 ≤ x1 ∧ x1 < 25) ∧ ((0 ≤ x1 ∧ x1 < 25) ∧ (zRn (zcl d) 192 B Q 2 [some (zr 67), some (zi (zwr (x1 + 1)))] [] (c, (z2 I 75 x1.toNat (I 71 x1.toNat)), zRg g)))))) :
    zRn (zcl d) 192 B Q 2 [some (zr 67), some (zi x1)] [] (c, I, zRg g) :=
  zgo [2, 28] 13 (And.intro (fun u643 => (t.1 u643)) (fun u643 => And.intro rfl (Exists.intro (some 75) (And.intro rfl (And.intro rfl (Exists.intro (some 71) (And.intro rfl (And.intro rfl (And.intro (t.2 u643).1 (And.intro rfl (And.intro (t.2 u643).2.1 ((t.2 u643).2.2))))))))))))
theorem g_x12_image_28 {d : Nat} {B : Nat × Nat} {Q : zQ} {c : Nat × Nat × Nat} {I : Nat → Nat → Int} {g : Nat} {x1 : Int}
    (t : (8 ≤ x1 → (Q (some (zi (I 67 9))) (c, (z2 (z2 (z2 (z2 (z2 I 67 36 (I 67 9)) 67 37 (I 67 11)) 67 38 (I 67 12)) 67 39 (I 67 7)) 67 40 (I 67 4)), zRg g))) ∧ (¬ (8 ≤ x1) → ((0 ≤ x1 ∧ x1 < 8) ∧ ((0 ≤ x1 ∧ x1 < 8) ∧ (zRn (zcl d) 192 B Q 28 [some (zr 67), some (zi (zwr (x1 + 1)))] [] (c, (z2 I 76 x1.toNat (I 72 x1.toNat)), zRg g)))))) :
    zRn (zcl d) 192 B Q 28 [some (zr 67), some (zi x1)] [] (c, I, zRg g) :=
  zgo [2, 28] 25 (And.intro (fun u644 => And.intro rfl (And.intro rfl (And.intro rfl (And.intro rfl (And.intro rfl (And.intro rfl (And.intro rfl (And.intro rfl (And.intro rfl (And.intro rfl (And.intro rfl (t.1 u644)))))))))))) (fun u644 => And.intro rfl (Exists.intro (some 76) (And.intro rfl (And.intro rfl (Exists.intro (some 72) (And.intro rfl (And.intro rfl (And.intro (t.2 u644).1 (And.intro rfl (And.intro (t.2 u644).2.1 ((t.2 u644).2.2))))))))))))
theorem g_x12_back_0 {d : Nat} {B : Nat × Nat} {Q : zQ} {c : Nat × Nat × Nat} {I : Nat → Nat → Int} {g : Nat}
    (t : (I 67 36 ≠ (-1) → (zRn (zcl d) 193 B Q 13 [some (zr 67), some (zi 0)] [] (c, I, zRg g))) ∧ (¬ (I 67 36 ≠ (-1)) → (Q (some (zi (-3))) (c, I, zRg g)))) :
    zRn (zcl d) 193 B Q 0 [some (zr 67), none] [] (c, I, zRg g) :=
  zgo [13, 39] 6 (And.intro rfl (And.intro (fun u645 => (t.1 u645)) (fun u645 => (t.2 u645))))
theorem g_x12_back_13 {d : Nat} {B : Nat × Nat} {Q : zQ} {c : Nat × Nat × Nat} {I : Nat → Nat → Int} {g : Nat} {x1 : Int}
    (t : (25 ≤ x1 → (zRn (zcl d) 193 B Q 39 [some (zr 67), some (zi 0)] [] (c, I, zRg g))) ∧ (¬ (25 ≤ x1) → ((0 ≤ x1 ∧ x1 < 25) ∧ ((0 ≤ x1 ∧ x1 < 25) ∧ (zRn (zcl d) 193 B Q 13 [some (zr 67), some (zi (zwr (x1 + 1)))] [] (c, (z2 I 71 x1.toNat (I 75 x1.toNat)), zRg g)))))) :
    zRn (zcl d) 193 B Q 13 [some (zr 67), some (zi x1)] [] (c, I, zRg g) :=
  zgo [13, 39] 13 (And.intro (fun u646 => (t.1 u646)) (fun u646 => And.intro rfl (Exists.intro (some 71) (And.intro rfl (And.intro rfl (Exists.intro (some 75) (And.intro rfl (And.intro rfl (And.intro (t.2 u646).1 (And.intro rfl (And.intro (t.2 u646).2.1 ((t.2 u646).2.2))))))))))))
theorem g_x12_back_39 {d : Nat} {B : Nat × Nat} {Q : zQ} {c : Nat × Nat × Nat} {I : Nat → Nat → Int} {g : Nat} {x1 : Int}
    (t : (8 ≤ x1 → (Q (some (zi (I 67 36))) (c, (z2 (z2 (z2 (z2 (z2 I 67 9 (I 67 36)) 67 11 (I 67 37)) 67 12 (I 67 38)) 67 7 (I 67 39)) 67 4 (I 67 40)), zRg g))) ∧ (¬ (8 ≤ x1) → ((0 ≤ x1 ∧ x1 < 8) ∧ ((0 ≤ x1 ∧ x1 < 8) ∧ (zRn (zcl d) 193 B Q 39 [some (zr 67), some (zi (zwr (x1 + 1)))] [] (c, (z2 I 72 x1.toNat (I 76 x1.toNat)), zRg g)))))) :
    zRn (zcl d) 193 B Q 39 [some (zr 67), some (zi x1)] [] (c, I, zRg g) :=
  zgo [13, 39] 25 (And.intro (fun u647 => And.intro rfl (And.intro rfl (And.intro rfl (And.intro rfl (And.intro rfl (And.intro rfl (And.intro rfl (And.intro rfl (And.intro rfl (And.intro rfl (And.intro rfl (t.1 u647)))))))))))) (fun u647 => And.intro rfl (Exists.intro (some 72) (And.intro rfl (And.intro rfl (Exists.intro (some 76) (And.intro rfl (And.intro rfl (And.intro (t.2 u647).1 (And.intro rfl (And.intro (t.2 u647).2.1 ((t.2 u647).2.2))))))))))))
theorem g_x12_count_0 {d : Nat} {B : Nat × Nat} {Q : zQ} {c : Nat × Nat × Nat} {I : Nat → Nat → Int} {g : Nat} {x1 : Int}
    (t : zcl d 130 0 0 [zl x1, zl 0, zl 5] (c, I, zRg g) (fun v h1 => zRn (zcl d) 194 B Q 9 [some (zr 67), some (zi x1)] (zva v []) h1)) :
    zRn (zcl d) 194 B Q 0 [some (zr 67), some (zi x1)] [] (c, I, zRg g) :=
  zgo [9] 4 (And.intro (Nat.le_of_ble_eq_true rfl) (Exists.intro 0 (Exists.intro 0 (And.intro (Or.inl rfl) (And.intro (Or.inl rfl) t)))))
theorem g_x12_count_9 {d : Nat} {B : Nat × Nat} {Q : zQ} {c : Nat × Nat × Nat} {I : Nat → Nat → Int} {g : Nat} {x1 s0 : Int}
    (t : (s0 ≠ 0 → ((x1 ≠ 0 → ((x1 ≠ 1 → ((x1 ≠ 2 → ((x1 ≠ 3 → ((x1 ≠ 4 → (Q (some (zi (I 67 4))) (c, I, zRg g))) ∧ (¬ (x1 ≠ 4) → (Q (some (zi (I 67 6))) (c, I, zRg g))))) ∧ (¬ (x1 ≠ 3) → (Q (some (zi (I 67 3))) (c, I, zRg g))))) ∧ (¬ (x1 ≠ 2) → (Q (some (zi (I 67 7))) (c, I, zRg g))))) ∧ (¬ (x1 ≠ 1) → (Q (some (zi (I 67 11))) (c, I, zRg g))))) ∧ (¬ (x1 ≠ 0) → (Q (some (zi (I 67 9))) (c, I, zRg g))))) ∧ (¬ (s0 ≠ 0) → (Q (some (zi (-2))) (c, I, zRg g)))) :
    zRn (zcl d) 194 B Q 9 [some (zr 67), some (zi x1)] [zi s0] (c, I, zRg g) :=
  zgo [9] 18 (And.intro (fun u648 => And.intro (fun u649 => And.intro (fun u650 => And.intro (fun u651 => And.intro (fun u652 => And.intro (fun u653 => And.intro rfl ((((((t.1 u648).1 u649).1 u650).1 u651).1 u652).1 u653)) (fun u653 => And.intro rfl ((((((t.1 u648).1 u649).1 u650).1 u651).1 u652).2 u653))) (fun u652 => And.intro rfl (((((t.1 u648).1 u649).1 u650).1 u651).2 u652))) (fun u651 => And.intro rfl ((((t.1 u648).1 u649).1 u650).2 u651))) (fun u650 => And.intro rfl (((t.1 u648).1 u649).2 u650))) (fun u649 => And.intro rfl ((t.1 u648).2 u649))) (fun u648 => (t.2 u648)))
theorem g_x12_isSheet_0 {d : Nat} {B : Nat × Nat} {Q : zQ} {c : Nat × Nat × Nat} {I : Nat → Nat → Int} {g : Nat} {x0 : Int}
    (t : zcl d 130 0 0 [zl x0, zl 0, zl 3] (c, I, zRg g) (fun v h1 => zRn (zcl d) 195 B Q 9 [some (zi x0)] (zva v []) h1)) :
    zRn (zcl d) 195 B Q 0 [some (zi x0)] [] (c, I, zRg g) :=
  zgo [9] 4 (And.intro (Nat.le_of_ble_eq_true rfl) (Exists.intro 0 (Exists.intro 0 (And.intro (Or.inl rfl) (And.intro (Or.inl rfl) t)))))
theorem g_x12_isSheet_9 {d : Nat} {B : Nat × Nat} {Q : zQ} {c : Nat × Nat × Nat} {I : Nat → Nat → Int} {g : Nat} {x0 s0 : Int}
    (t : (s0 = 0 ∨ s0 = 1) ∧ (Q (some (zi s0)) (c, I, zRg g))) :
    zRn (zcl d) 195 B Q 9 [some (zi x0)] [zi s0] (c, I, zRg g) :=
  zgo [9] 0 (And.intro t.1 t.2)
theorem g_x12_sheet_0 {d : Nat} {B : Nat × Nat} {Q : zQ} {c : Nat × Nat × Nat} {I : Nat → Nat → Int} {g : Nat} {x1 x2 x3 : Int}
    (t : zcl d 195 0 0 [zi x1] (c, I, zRg g) (fun v h1 => zRn (zcl d) 196 B Q 4 [some (zr 67), some (zi x1), some (zi x2), some (zi x3), none] (zva v []) h1)) :
    zRn (zcl d) 196 B Q 0 [some (zr 67), some (zi x1), some (zi x2), some (zi x3), none] [] (c, I, zRg g) :=
  zgo [4, 18, 77] 1 (And.intro (Nat.le_of_ble_eq_true rfl) (Exists.intro 0 (Exists.intro 0 (And.intro (Or.inl rfl) (And.intro (Or.inl rfl) t)))))
theorem g_x12_sheet_4 {d : Nat} {B : Nat × Nat} {Q : zQ} {c : Nat × Nat × Nat} {I : Nat → Nat → Int} {g : Nat} {x1 x2 x3 s0 : Int}
    (t : (s0 = 0 → (Q (some (zi (-2))) (c, I, zRg g))) ∧ (¬ (s0 = 0) → (zcl d 130 0 0 [zl x2, zl (-1), zl 2] (c, I, zRg g) (fun v h1 => zRn (zcl d) 196 B Q 18 [some (zr 67), some (zi x1), some (zi x2), some (zi x3), none] (zva v []) h1)))) :
    zRn (zcl d) 196 B Q 4 [some (zr 67), some (zi x1), some (zi x2), some (zi x3), none] [zi s0] (c, I, zRg g) :=
  zgo [4, 18, 77] 5 (And.intro (fun u654 => (t.1 u654)) (fun u654 => And.intro (Nat.le_of_ble_eq_true rfl) (Exists.intro 0 (Exists.intro 0 (And.intro (Or.inl rfl) (And.intro (Or.inl rfl) (t.2 u654)))))))
theorem g_x12_sheet_18 {d : Nat} {B : Nat × Nat} {Q : zQ} {c : Nat × Nat × Nat} {I : Nat → Nat → Int} {g : Nat} {x1 x2 x3 s0 : Int}
    (t : (s0 = 0 → (Q (some (zi (-2))) (c, I, zRg g))) ∧ (¬ (s0 = 0) → ((x2 < 0 → ((x2 < 0 → ((x2 < 0 → ((0 ≤ x1 ∧ x1 < 4) ∧ ((0 ≤ x1 ∧ x1 < 4) ∧ ((0 ≤ x1 ∧ x1 < 4) ∧ (zRn (zcl d) 196 B Q 77 [some (zr 67), some (zi x1), some (zi x2), some (zi x3), some (zi 0)] [] (c, (z2 (z2 (z2 I 77 x1.toNat 0) 78 x1.toNat x2) 79 x1.toNat x3), zRg g)))))) ∧ (¬ (x2 < 0) → ((0 ≤ x1 ∧ x1 < 4) ∧ ((0 ≤ x1 ∧ x1 < 4) ∧ ((0 ≤ x1 ∧ x1 < 4) ∧ (zRn (zcl d) 196 B Q 77 [some (zr 67), some (zi x1), some (zi x2), some (zi x3), some (zi 0)] [] (c, (z2 (z2 (z2 I 77 x1.toNat 1) 78 x1.toNat x2) 79 x1.toNat x3), zRg g)))))))) ∧ (¬ (x2 < 0) → ((0 ≤ x3 → ((x2 < 0 → ((0 ≤ x1 ∧ x1 < 4) ∧ ((0 ≤ x1 ∧ x1 < 4) ∧ ((0 ≤ x1 ∧ x1 < 4) ∧ (zRn (zcl d) 196 B Q 77 [some (zr 67), some (zi x1), some (zi x2), some (zi x3), some (zi 0)] [] (c, (z2 (z2 (z2 I 77 x1.toNat 0) 78 x1.toNat x2) 79 x1.toNat x3), zRg g)))))) ∧ (¬ (x2 < 0) → ((0 ≤ x1 ∧ x1 < 4) ∧ ((0 ≤ x1 ∧ x1 < 4) ∧ ((0 ≤ x1 ∧ x1 < 4) ∧ (zRn (zcl d) 196 B Q 77 [some (zr 67), some (zi x1), some (zi x2), some (zi x3), some (zi 0)] [] (c, (z2 (z2 (z2 I 77 x1.toNat 1) 78 x1.toNat x2) 79 x1.toNat x3), zRg g)))))))) ∧ (¬ (0 ≤ x3) → (Q (some (zi (-14))) (c, I, zRg g))))))) ∧ (¬ (x2 < 0) → ((x3 ≤ 40 → ((x2 < 0 → ((x2 < 0 → ((0 ≤ x1 ∧ x1 < 4) ∧ ((0 ≤ x1 ∧ x1 < 4) ∧ ((0 ≤ x1 ∧ x1 < 4) ∧ (zRn (zcl d) 196 B Q 77 [some (zr 67), some (zi x1), some (zi x2), some (zi x3), some (zi 0)] [] (c, (z2 (z2 (z2 I 77 x1.toNat 0) 78 x1.toNat x2) 79 x1.toNat x3), zRg g)))))) ∧ (¬ (x2 < 0) → ((0 ≤ x1 ∧ x1 < 4) ∧ ((0 ≤ x1 ∧ x1 < 4) ∧ ((0 ≤ x1 ∧ x1 < 4) ∧ (zRn (zcl d) 196 B Q 77 [some (zr 67), some (zi x1), some (zi x2), some (zi x3), some (zi 0)] [] (c, (z2 (z2 (z2 I 77 x1.toNat 1) 78 x1.toNat x2) 79 x1.toNat x3), zRg g)))))))) ∧ (¬ (x2 < 0) → ((0 ≤ x3 → ((x2 < 0 → ((0 ≤ x1 ∧ x1 < 4) ∧ ((0 ≤ x1 ∧ x1 < 4) ∧ ((0 ≤ x1 ∧ x1 < 4) ∧ (zRn (zcl d) 196 B Q 77 [some (zr 67), some (zi x1), some (zi x2), some (zi x3), some (zi 0)] [] (c, (z2 (z2 (z2 I 77 x1.toNat 0) 78 x1.toNat x2) 79 x1.toNat x3), zRg g)))))) ∧ (¬ (x2 < 0) → ((0 ≤ x1 ∧ x1 < 4) ∧ ((0 ≤ x1 ∧ x1 < 4) ∧ ((0 ≤ x1 ∧ x1 < 4) ∧ (zRn (zcl d) 196 B Q 77 [some (zr 67), some (zi x1), some (zi x2), some (zi x3), some (zi 0)] [] (c, (z2 (z2 (z2 I 77 x1.toNat 1) 78 x1.toNat x2) 79 x1.toNat x3), zRg g)))))))) ∧ (¬ (0 ≤ x3) → (Q (some (zi (-14))) (c, I, zRg g))))))) ∧ (¬ (x3 ≤ 40) → (Q (some (zi (-2))) (c, I, zRg g)))))))) :
    zRn (zcl d) 196 B Q 18 [some (zr 67), some (zi x1), some (zi x2), some (zi x3), none] [zi s0] (c, I, zRg g) :=
  zgo [4, 18, 77] 30 (And.intro (fun u655 => (t.1 u655)) (fun u655 => And.intro (fun u656 => And.intro (fun u657 => And.intro rfl (Exists.intro (some 77) (And.intro rfl (And.intro (fun u658 => And.intro rfl (And.intro ((((t.2 u655).1 u656).1 u657).1 u658).1 (And.intro (Or.inl rfl) (And.intro rfl (Exists.intro (some 78) (And.intro rfl (And.intro rfl (And.intro ((((t.2 u655).1 u656).1 u657).1 u658).2.1 (And.intro rfl (Exists.intro (some 79) (And.intro rfl (And.intro rfl (And.intro ((((t.2 u655).1 u656).1 u657).1 u658).2.2.1 (((((t.2 u655).1 u656).1 u657).1 u658).2.2.2)))))))))))))) (fun u658 => And.intro rfl (And.intro ((((t.2 u655).1 u656).1 u657).2 u658).1 (And.intro (Or.inr rfl) (And.intro rfl (Exists.intro (some 78) (And.intro rfl (And.intro rfl (And.intro ((((t.2 u655).1 u656).1 u657).2 u658).2.1 (And.intro rfl (Exists.intro (some 79) (And.intro rfl (And.intro rfl (And.intro ((((t.2 u655).1 u656).1 u657).2 u658).2.2.1 (((((t.2 u655).1 u656).1 u657).2 u658).2.2.2)))))))))))))))))) (fun u657 => And.intro (fun u659 => And.intro rfl (Exists.intro (some 77) (And.intro rfl (And.intro (fun u660 => And.intro rfl (And.intro (((((t.2 u655).1 u656).2 u657).1 u659).1 u660).1 (And.intro (Or.inl rfl) (And.intro rfl (Exists.intro (some 78) (And.intro rfl (And.intro rfl (And.intro (((((t.2 u655).1 u656).2 u657).1 u659).1 u660).2.1 (And.intro rfl (Exists.intro (some 79) (And.intro rfl (And.intro rfl (And.intro (((((t.2 u655).1 u656).2 u657).1 u659).1 u660).2.2.1 ((((((t.2 u655).1 u656).2 u657).1 u659).1 u660).2.2.2)))))))))))))) (fun u660 => And.intro rfl (And.intro (((((t.2 u655).1 u656).2 u657).1 u659).2 u660).1 (And.intro (Or.inr rfl) (And.intro rfl (Exists.intro (some 78) (And.intro rfl (And.intro rfl (And.intro (((((t.2 u655).1 u656).2 u657).1 u659).2 u660).2.1 (And.intro rfl (Exists.intro (some 79) (And.intro rfl (And.intro rfl (And.intro (((((t.2 u655).1 u656).2 u657).1 u659).2 u660).2.2.1 ((((((t.2 u655).1 u656).2 u657).1 u659).2 u660).2.2.2)))))))))))))))))) (fun u659 => ((((t.2 u655).1 u656).2 u657).2 u659)))) (fun u656 => And.intro (fun u661 => And.intro (fun u662 => And.intro rfl (Exists.intro (some 77) (And.intro rfl (And.intro (fun u663 => And.intro rfl (And.intro (((((t.2 u655).2 u656).1 u661).1 u662).1 u663).1 (And.intro (Or.inl rfl) (And.intro rfl (Exists.intro (some 78) (And.intro rfl (And.intro rfl (And.intro (((((t.2 u655).2 u656).1 u661).1 u662).1 u663).2.1 (And.intro rfl (Exists.intro (some 79) (And.intro rfl (And.intro rfl (And.intro (((((t.2 u655).2 u656).1 u661).1 u662).1 u663).2.2.1 ((((((t.2 u655).2 u656).1 u661).1 u662).1 u663).2.2.2)))))))))))))) (fun u663 => And.intro rfl (And.intro (((((t.2 u655).2 u656).1 u661).1 u662).2 u663).1 (And.intro (Or.inr rfl) (And.intro rfl (Exists.intro (some 78) (And.intro rfl (And.intro rfl (And.intro (((((t.2 u655).2 u656).1 u661).1 u662).2 u663).2.1 (And.intro rfl (Exists.intro (some 79) (And.intro rfl (And.intro rfl (And.intro (((((t.2 u655).2 u656).1 u661).1 u662).2 u663).2.2.1 ((((((t.2 u655).2 u656).1 u661).1 u662).2 u663).2.2.2)))))))))))))))))) (fun u662 => And.intro (fun u664 => And.intro rfl (Exists.intro (some 77) (And.intro rfl (And.intro (fun u665 => And.intro rfl (And.intro ((((((t.2 u655).2 u656).1 u661).2 u662).1 u664).1 u665).1 (And.intro (Or.inl rfl) (And.intro rfl (Exists.intro (some 78) (And.intro rfl (And.intro rfl (And.intro ((((((t.2 u655).2 u656).1 u661).2 u662).1 u664).1 u665).2.1 (And.intro rfl (Exists.intro (some 79) (And.intro rfl (And.intro rfl (And.intro ((((((t.2 u655).2 u656).1 u661).2 u662).1 u664).1 u665).2.2.1 (((((((t.2 u655).2 u656).1 u661).2 u662).1 u664).1 u665).2.2.2)))))))))))))) (fun u665 => And.intro rfl (And.intro ((((((t.2 u655).2 u656).1 u661).2 u662).1 u664).2 u665).1 (And.intro (Or.inr rfl) (And.intro rfl (Exists.intro (some 78) (And.intro rfl (And.intro rfl (And.intro ((((((t.2 u655).2 u656).1 u661).2 u662).1 u664).2 u665).2.1 (And.intro rfl (Exists.intro (some 79) (And.intro rfl (And.intro rfl (And.intro ((((((t.2 u655).2 u656).1 u661).2 u662).1 u664).2 u665).2.2.1 (((((((t.2 u655).2 u656).1 u661).2 u662).1 u664).2 u665).2.2.2)))))))))))))))))) (fun u664 => (((((t.2 u655).2 u656).1 u661).2 u662).2 u664)))) (fun u661 => (((t.2 u655).2 u656).2 u661)))))
theorem g_x12_sheet_77 {d : Nat} {B : Nat × Nat} {Q : zQ} {c : Nat × Nat × Nat} {I : Nat → Nat → Int} {g : Nat} {x1 x2 x3 x4 : Int}
    (t : (x3 ≤ x4 → (Q (some (zi 1)) (c, I, zRg g))) ∧ (¬ (x3 ≤ x4) → ((x2 < 0 → (Q (some (zi 1)) (c, I, zRg g))) ∧ (¬ (x2 < 0) → ((0 ≤ zwr ((zwr (40 * x1)) + x4) ∧ zwr ((zwr (40 * x1)) + x4) < 160) ∧ (zRn (zcl d) 196 B Q 77 [some (zr 67), some (zi x1), some (zi x2), some (zi x3), some (zi (zwr (x4 + 1)))] [] (c, (z2 I 80 (zwr ((zwr (40 * x1)) + x4)).toNat 0), zRg g))))))) :
    zRn (zcl d) 196 B Q 77 [some (zr 67), some (zi x1), some (zi x2), some (zi x3), some (zi x4)] [] (c, I, zRg g) :=
  zgo [4, 18, 77] 16 (And.intro (fun u666 => (t.1 u666)) (fun u666 => And.intro (fun u667 => ((t.2 u666).1 u667)) (fun u667 => And.intro rfl (Exists.intro (some 80) (And.intro rfl (And.intro rfl (And.intro ((t.2 u666).2 u667).1 (((t.2 u666).2 u667).2))))))))
theorem g_x12_cell_0 {d : Nat} {B : Nat × Nat} {Q : zQ} {c : Nat × Nat × Nat} {I : Nat → Nat → Int} {g : Nat} {x1 x2 x3 : Int}
    (t : zcl d 195 0 0 [zi x1] (c, I, zRg g) (fun v h1 => zRn (zcl d) 197 B Q 4 [some (zr 67), some (zi x1), some (zi x2), some (zi x3)] (zva v []) h1)) :
    zRn (zcl d) 197 B Q 0 [some (zr 67), some (zi x1), some (zi x2), some (zi x3)] [] (c, I, zRg g) :=
  zgo [4, 37] 1 (And.intro (Nat.le_of_ble_eq_true rfl) (Exists.intro 0 (Exists.intro 0 (And.intro (Or.inl rfl) (And.intro (Or.inl rfl) t)))))
theorem g_x12_cell_4 {d : Nat} {B : Nat × Nat} {Q : zQ} {c : Nat × Nat × Nat} {I : Nat → Nat → Int} {g : Nat} {x1 x2 x3 s0 : Int}
    (t : (s0 ≠ 0 → ((0 ≤ x1 ∧ x1 < 4) ∧ ((I 77 x1.toNat ≠ 0 → ((0 ≤ x1 ∧ x1 < 4) ∧ (zcl d 130 0 0 [zl x2, zl 0, zl (zwr ((I 79 x1.toNat) - 1))] (c, I, zRg g) (fun v h1 => zRn (zcl d) 197 B Q 37 [some (zr 67), some (zi x1), some (zi x2), some (zi x3)] (zva v []) h1)))) ∧ (¬ (I 77 x1.toNat ≠ 0) → (Q (some (zi (-11))) (c, I, zRg g)))))) ∧ (¬ (s0 ≠ 0) → (Q (some (zi (-2))) (c, I, zRg g)))) :
    zRn (zcl d) 197 B Q 4 [some (zr 67), some (zi x1), some (zi x2), some (zi x3)] [zi s0] (c, I, zRg g) :=
  zgo [4, 37] 16 (And.intro (fun u668 => And.intro rfl (Exists.intro (some 77) (And.intro rfl (And.intro rfl (And.intro (t.1 u668).1 (And.intro (fun u669 => And.intro rfl (Exists.intro (some 79) (And.intro rfl (And.intro rfl (And.intro ((t.1 u668).2.1 u669).1 (And.intro (Nat.le_of_ble_eq_true rfl) (Exists.intro 0 (Exists.intro 0 (And.intro (Or.inl rfl) (And.intro (Or.inl rfl) (((t.1 u668).2.1 u669).2))))))))))) (fun u669 => ((t.1 u668).2.2 u669)))))))) (fun u668 => (t.2 u668)))
theorem g_x12_cell_37 {d : Nat} {B : Nat × Nat} {Q : zQ} {c : Nat × Nat × Nat} {I : Nat → Nat → Int} {g : Nat} {x1 x2 x3 s0 : Int}
    (t : (s0 ≠ 0 → ((0 ≤ x1 ∧ x1 < 4) ∧ ((I 78 x1.toNat ≠ 0 → ((0 ≤ x1 ∧ x1 < 4) ∧ ((I 78 x1.toNat ≠ 1 → ((0 ≤ zwr ((zwr (40 * x1)) + x2) ∧ zwr ((zwr (40 * x1)) + x2) < 160) ∧ (Q (some (zi 1)) (c, (z2 I 80 (zwr ((zwr (40 * x1)) + x2)).toNat x3), zRg g)))) ∧ (¬ (I 78 x1.toNat ≠ 1) → ((0 ≤ zwr ((zwr (40 * x1)) + x2) ∧ zwr ((zwr (40 * x1)) + x2) < 160) ∧ (Q (some (zi 1)) (c, (z2 I 80 (zwr ((zwr (40 * x1)) + x2)).toNat (zi2s x3)), zRg g))))))) ∧ (¬ (I 78 x1.toNat ≠ 0) → ((0 ≤ zwr ((zwr (40 * x1)) + x2) ∧ zwr ((zwr (40 * x1)) + x2) < 160) ∧ (Q (some (zi 1)) (c, (z2 I 80 (zwr ((zwr (40 * x1)) + x2)).toNat (zi2b x3)), zRg g))))))) ∧ (¬ (s0 ≠ 0) → (Q (some (zi (-12))) (c, I, zRg g)))) :
    zRn (zcl d) 197 B Q 37 [some (zr 67), some (zi x1), some (zi x2), some (zi x3)] [zi s0] (c, I, zRg g) :=
  zgo [4, 37] 24 (And.intro (fun u670 => And.intro rfl (Exists.intro (some 80) (And.intro rfl (And.intro rfl (Exists.intro (some 78) (And.intro rfl (And.intro rfl (And.intro (t.1 u670).1 (And.intro (fun u671 => And.intro rfl (Exists.intro (some 78) (And.intro rfl (And.intro rfl (And.intro ((t.1 u670).2.1 u671).1 (And.intro (fun u672 => And.intro rfl (And.intro (((t.1 u670).2.1 u671).2.1 u672).1 ((((t.1 u670).2.1 u671).2.1 u672).2))) (fun u672 => And.intro rfl (And.intro (((t.1 u670).2.1 u671).2.2 u672).1 ((((t.1 u670).2.1 u671).2.2 u672).2))))))))) (fun u671 => And.intro rfl (And.intro ((t.1 u670).2.2 u671).1 (((t.1 u670).2.2 u671).2)))))))))))) (fun u670 => (t.2 u670)))
theorem g_x12_copy_0 {d : Nat} {B : Nat × Nat} {Q : zQ} {c : Nat × Nat × Nat} {I : Nat → Nat → Int} {g : Nat} {x1 x2 x3 x4 x5 : Int}
    (t : zcl d 195 0 0 [zi x1] (c, I, zRg g) (fun v h1 => zRn (zcl d) 198 B Q 4 [some (zr 67), some (zi x1), some (zi x2), some (zi x3), some (zi x4), some (zi x5), none, none, none] (zva v []) h1)) :
    zRn (zcl d) 198 B Q 0 [some (zr 67), some (zi x1), some (zi x2), some (zi x3), some (zi x4), some (zi x5), none, none, none] [] (c, I, zRg g) :=
  zgo [4, 11, 121] 1 (And.intro (Nat.le_of_ble_eq_true rfl) (Exists.intro 0 (Exists.intro 0 (And.intro (Or.inl rfl) (And.intro (Or.inl rfl) t)))))
theorem g_x12_copy_4 {d : Nat} {B : Nat × Nat} {Q : zQ} {c : Nat × Nat × Nat} {I : Nat → Nat → Int} {g : Nat} {x1 x2 x3 x4 x5 s0 : Int}
    (t : (s0 = 0 → (Q (some (zi (-2))) (c, I, zRg g))) ∧ (¬ (s0 = 0) → (zcl d 195 0 0 [zi x3] (c, I, zRg g) (fun v h1 => zRn (zcl d) 198 B Q 11 [some (zr 67), some (zi x1), some (zi x2), some (zi x3), some (zi x4), some (zi x5), none, none, none] (zva v []) h1)))) :
    zRn (zcl d) 198 B Q 4 [some (zr 67), some (zi x1), some (zi x2), some (zi x3), some (zi x4), some (zi x5), none, none, none] [zi s0] (c, I, zRg g) :=
  zgo [4, 11, 121] 2 (And.intro (fun u673 => (t.1 u673)) (fun u673 => And.intro (Nat.le_of_ble_eq_true rfl) (Exists.intro 0 (Exists.intro 0 (And.intro (Or.inl rfl) (And.intro (Or.inl rfl) (t.2 u673)))))))
theorem g_x12_copy_11 {d : Nat} {B : Nat × Nat} {Q : zQ} {c : Nat × Nat × Nat} {I : Nat → Nat → Int} {g : Nat} {x1 x2 x3 x4 x5 s0 : Int}
    (t : (s0 ≠ 0 → ((0 ≤ x1 ∧ x1 < 4) ∧ ((I 77 x1.toNat = 0 → (Q (some (zi (-11))) (c, I, zRg g))) ∧ (¬ (I 77 x1.toNat = 0) → ((0 ≤ x3 ∧ x3 < 4) ∧ ((I 77 x3.toNat ≠ 0 → ((0 ≤ x1 ∧ x1 < 4) ∧ ((0 ≤ x3 ∧ x3 < 4) ∧ ((I 78 x1.toNat = I 78 x3.toNat → ((x5 < 0 → (Q (some (zi (-12))) (c, I, zRg g))) ∧ (¬ (x5 < 0) → ((x2 < 0 → (Q (some (zi (-12))) (c, I, zRg g))) ∧ (¬ (x2 < 0) → ((x4 < 0 → (Q (some (zi (-12))) (c, I, zRg g))) ∧ (¬ (x4 < 0) → ((0 ≤ x1 ∧ x1 < 4) ∧ ((zwr ((I 79 x1.toNat) - x5) < x2 → (Q (some (zi (-12))) (c, I, zRg g))) ∧ (¬ (zwr ((I 79 x1.toNat) - x5) < x2) → ((0 ≤ x3 ∧ x3 < 4) ∧ ((x4 ≤ zwr ((I 79 x3.toNat) - x5) → ((x1 ≠ x3 → (zRn (zcl d) 198 B Q 121 [some (zr 67), some (zi x1), some (zi x2), some (zi x3), some (zi x4), some (zi x5), some (zi 0), some (zi 0), none] [] (c, I, zRg g))) ∧ (¬ (x1 ≠ x3) → ((x4 ≤ x2 → (zRn (zcl d) 198 B Q 121 [some (zr 67), some (zi x1), some (zi x2), some (zi x3), some (zi x4), some (zi x5), some (zi 0), some (zi 0), none] [] (c, I, zRg g))) ∧ (¬ (x4 ≤ x2) → (zRn (zcl d) 198 B Q 121 [some (zr 67), some (zi x1), some (zi x2), some (zi x3), some (zi x4), some (zi x5), some (zi 1), some (zi 0), none] [] (c, I, zRg g))))))) ∧ (¬ (x4 ≤ zwr ((I 79 x3.toNat) - x5)) → (Q (some (zi (-12))) (c, I, zRg g))))))))))))))) ∧ (¬ (I 78 x1.toNat = I 78 x3.toNat) → (Q (some (zi (-13))) (c, I, zRg g))))))) ∧ (¬ (I 77 x3.toNat ≠ 0) → (Q (some (zi (-11))) (c, I, zRg g))))))))) ∧ (¬ (s0 ≠ 0) → (Q (some (zi (-2))) (c, I, zRg g)))) :
    zRn (zcl d) 198 B Q 11 [some (zr 67), some (zi x1), some (zi x2), some (zi x3), some (zi x4), some (zi x5), none, none, none] [zi s0] (c, I, zRg g) :=
  zgo [4, 11, 121] 53 (And.intro (fun u674 => And.intro rfl (Exists.intro (some 77) (And.intro rfl (And.intro rfl (And.intro (t.1 u674).1 (And.intro (fun u675 => ((t.1 u674).2.1 u675)) (fun u675 => And.intro rfl (Exists.intro (some 77) (And.intro rfl (And.intro rfl (And.intro ((t.1 u674).2.2 u675).1 (And.intro (fun u676 => And.intro rfl (Exists.intro (some 78) (And.intro rfl (And.intro rfl (And.intro (((t.1 u674).2.2 u675).2.1 u676).1 (And.intro rfl (Exists.intro (some 78) (And.intro rfl (And.intro rfl (And.intro (((t.1 u674).2.2 u675).2.1 u676).2.1 (And.intro (fun u677 => And.intro (fun u678 => (((((t.1 u674).2.2 u675).2.1 u676).2.2.1 u677).1 u678)) (fun u678 => And.intro (fun u679 => ((((((t.1 u674).2.2 u675).2.1 u676).2.2.1 u677).2 u678).1 u679)) (fun u679 => And.intro (fun u680 => (((((((t.1 u674).2.2 u675).2.1 u676).2.2.1 u677).2 u678).2 u679).1 u680)) (fun u680 => And.intro rfl (Exists.intro (some 79) (And.intro rfl (And.intro rfl (And.intro (((((((t.1 u674).2.2 u675).2.1 u676).2.2.1 u677).2 u678).2 u679).2 u680).1 (And.intro (fun u681 => ((((((((t.1 u674).2.2 u675).2.1 u676).2.2.1 u677).2 u678).2 u679).2 u680).2.1 u681)) (fun u681 => And.intro rfl (Exists.intro (some 79) (And.intro rfl (And.intro rfl (And.intro ((((((((t.1 u674).2.2 u675).2.1 u676).2.2.1 u677).2 u678).2 u679).2 u680).2.2 u681).1 (And.intro (fun u682 => And.intro (fun u683 => ((((((((((t.1 u674).2.2 u675).2.1 u676).2.2.1 u677).2 u678).2 u679).2 u680).2.2 u681).2.1 u682).1 u683)) (fun u683 => And.intro (fun u684 => (((((((((((t.1 u674).2.2 u675).2.1 u676).2.2.1 u677).2 u678).2 u679).2 u680).2.2 u681).2.1 u682).2 u683).1 u684)) (fun u684 => (((((((((((t.1 u674).2.2 u675).2.1 u676).2.2.1 u677).2 u678).2 u679).2 u680).2.2 u681).2.1 u682).2 u683).2 u684)))) (fun u682 => (((((((((t.1 u674).2.2 u675).2.1 u676).2.2.1 u677).2 u678).2 u679).2 u680).2.2 u681).2.2 u682))))))))))))))))) (fun u677 => ((((t.1 u674).2.2 u675).2.1 u676).2.2.2 u677))))))))))))) (fun u676 => (((t.1 u674).2.2 u675).2.2 u676)))))))))))))) (fun u674 => (t.2 u674)))
theorem g_x12_copy_121 {d : Nat} {B : Nat × Nat} {Q : zQ} {c : Nat × Nat × Nat} {I : Nat → Nat → Int} {g : Nat} {x1 x2 x3 x4 x5 x6 x7 : Int}
    (t : (x5 ≤ x7 → (Q (some (zi x5)) (c, I, zRg g))) ∧ (¬ (x5 ≤ x7) → ((x6 = 0 → ((0 ≤ zwr ((zwr ((zwr (40 * x1)) + x2)) + x7) ∧ zwr ((zwr ((zwr (40 * x1)) + x2)) + x7) < 160) ∧ ((0 ≤ zwr ((zwr ((zwr (40 * x3)) + x4)) + x7) ∧ zwr ((zwr ((zwr (40 * x3)) + x4)) + x7) < 160) ∧ (zRn (zcl d) 198 B Q 121 [some (zr 67), some (zi x1), some (zi x2), some (zi x3), some (zi x4), some (zi x5), some (zi x6), some (zi (zwr (x7 + 1))), some (zi x7)] [] (c, (z2 I 80 (zwr ((zwr ((zwr (40 * x3)) + x4)) + x7)).toNat (I 80 ((zwr ((zwr ((zwr (40 * x1)) + x2)) + x7)).toNat))), zRg g))))) ∧ (¬ (x6 = 0) → ((0 ≤ zwr ((zwr ((zwr (40 * x1)) + x2)) + (zwr ((zwr (x5 - 1)) - x7))) ∧ zwr ((zwr ((zwr (40 * x1)) + x2)) + (zwr ((zwr (x5 - 1)) - x7))) < 160) ∧ ((0 ≤ zwr ((zwr ((zwr (40 * x3)) + x4)) + (zwr ((zwr (x5 - 1)) - x7))) ∧ zwr ((zwr ((zwr (40 * x3)) + x4)) + (zwr ((zwr (x5 - 1)) - x7))) < 160) ∧ (zRn (zcl d) 198 B Q 121 [some (zr 67), some (zi x1), some (zi x2), some (zi x3), some (zi x4), some (zi x5), some (zi x6), some (zi (zwr (x7 + 1))), some (zi (zwr ((zwr (x5 - 1)) - x7)))] [] (c, (z2 I 80 (zwr ((zwr ((zwr (40 * x3)) + x4)) + (zwr ((zwr (x5 - 1)) - x7)))).toNat (I 80 ((zwr ((zwr ((zwr (40 * x1)) + x2)) + (zwr ((zwr (x5 - 1)) - x7)))).toNat))), zRg g)))))))) :
    zRn (zcl d) 198 B Q 121 [some (zr 67), some (zi x1), some (zi x2), some (zi x3), some (zi x4), some (zi x5), some (zi x6), some (zi x7), none] [] (c, I, zRg g) :=
  zgo [4, 11, 121] 34 (And.intro (fun u685 => (t.1 u685)) (fun u685 => And.intro (fun u686 => And.intro rfl (Exists.intro (some 80) (And.intro rfl (And.intro rfl (Exists.intro (some 80) (And.intro rfl (And.intro rfl (And.intro ((t.2 u685).1 u686).1 (And.intro rfl (And.intro ((t.2 u685).1 u686).2.1 (((t.2 u685).1 u686).2.2))))))))))) (fun u686 => And.intro rfl (Exists.intro (some 80) (And.intro rfl (And.intro rfl (Exists.intro (some 80) (And.intro rfl (And.intro rfl (And.intro ((t.2 u685).2 u686).1 (And.intro rfl (And.intro ((t.2 u685).2 u686).2.1 (((t.2 u685).2 u686).2.2)))))))))))))
theorem g_x12_crew_0 {d : Nat} {B : Nat × Nat} {Q : zQ} {c : Nat × Nat × Nat} {I : Nat → Nat → Int} {g : Nat} {x1 x2 x3 x4 : Int}
    (t : zcl d 195 0 0 [zi x1] (c, I, zRg g) (fun v h1 => zRn (zcl d) 199 B Q 4 [some (zr 67), some (zi x1), some (zi x2), some (zi x3), some (zi x4), none, none, none] (zva v []) h1)) :
    zRn (zcl d) 199 B Q 0 [some (zr 67), some (zi x1), some (zi x2), some (zi x3), some (zi x4), none, none, none] [] (c, I, zRg g) :=
  zgo [4, 16, 29, 75, 159] 1 (And.intro (Nat.le_of_ble_eq_true rfl) (Exists.intro 0 (Exists.intro 0 (And.intro (Or.inl rfl) (And.intro (Or.inl rfl) t)))))
theorem g_x12_crew_4 {d : Nat} {B : Nat × Nat} {Q : zQ} {c : Nat × Nat × Nat} {I : Nat → Nat → Int} {g : Nat} {x1 x2 x3 x4 s0 : Int}
    (t : (s0 = 0 → (Q (some (zi (-2))) (c, I, zRg g))) ∧ (¬ (s0 = 0) → (zcl d 130 0 0 [zl x2, zl 0, zl 2] (c, I, zRg g) (fun v h1 => zRn (zcl d) 199 B Q 16 [some (zr 67), some (zi x1), some (zi x2), some (zi x3), some (zi x4), none, none, none] (zva v []) h1)))) :
    zRn (zcl d) 199 B Q 4 [some (zr 67), some (zi x1), some (zi x2), some (zi x3), some (zi x4), none, none, none] [zi s0] (c, I, zRg g) :=
  zgo [4, 16, 29, 75, 159] 5 (And.intro (fun u687 => (t.1 u687)) (fun u687 => And.intro (Nat.le_of_ble_eq_true rfl) (Exists.intro 0 (Exists.intro 0 (And.intro (Or.inl rfl) (And.intro (Or.inl rfl) (t.2 u687)))))))
theorem g_x12_crew_16 {d : Nat} {B : Nat × Nat} {Q : zQ} {c : Nat × Nat × Nat} {I : Nat → Nat → Int} {g : Nat} {x1 x2 x3 x4 s0 : Int}
    (t : (s0 = 0 → (Q (some (zi (-2))) (c, I, zRg g))) ∧ (¬ (s0 = 0) → (zcl d 130 0 0 [zl x4, zl 0, zl 5] (c, I, zRg g) (fun v h1 => zRn (zcl d) 199 B Q 29 [some (zr 67), some (zi x1), some (zi x2), some (zi x3), some (zi x4), none, none, none] (zva v []) h1)))) :
    zRn (zcl d) 199 B Q 16 [some (zr 67), some (zi x1), some (zi x2), some (zi x3), some (zi x4), none, none, none] [zi s0] (c, I, zRg g) :=
  zgo [4, 16, 29, 75, 159] 5 (And.intro (fun u688 => (t.1 u688)) (fun u688 => And.intro (Nat.le_of_ble_eq_true rfl) (Exists.intro 0 (Exists.intro 0 (And.intro (Or.inl rfl) (And.intro (Or.inl rfl) (t.2 u688)))))))
theorem g_x12_crew_29 {d : Nat} {B : Nat × Nat} {Q : zQ} {c : Nat × Nat × Nat} {I : Nat → Nat → Int} {g : Nat} {x1 x2 x3 x4 s0 : Int}
    (t : (s0 ≠ 0 → ((0 ≤ x1 ∧ x1 < 4) ∧ ((I 77 x1.toNat = 0 → ((0 ≤ x1 ∧ x1 < 4) ∧ ((I 77 x1.toNat ≠ 0 → (zRn (zcl d) 199 B Q 75 [some (zr 67), some (zi x1), some (zi x2), some (zi x3), some (zi x4), some (zi 0), some (zi 0), none] [] (c, I, zRg g))) ∧ (¬ (I 77 x1.toNat ≠ 0) → (Q (some (zi (-11))) (c, I, zRg g)))))) ∧ (¬ (I 77 x1.toNat = 0) → ((0 ≤ x1 ∧ x1 < 4) ∧ ((I 78 x1.toNat = x2 → ((0 ≤ x1 ∧ x1 < 4) ∧ ((I 77 x1.toNat ≠ 0 → (zRn (zcl d) 199 B Q 75 [some (zr 67), some (zi x1), some (zi x2), some (zi x3), some (zi x4), some (zi 0), some (zi 0), none] [] (c, I, zRg g))) ∧ (¬ (I 77 x1.toNat ≠ 0) → (Q (some (zi (-11))) (c, I, zRg g)))))) ∧ (¬ (I 78 x1.toNat = x2) → (Q (some (zi (-13))) (c, I, zRg g))))))))) ∧ (¬ (s0 ≠ 0) → (Q (some (zi (-2))) (c, I, zRg g)))) :
    zRn (zcl d) 199 B Q 29 [some (zr 67), some (zi x1), some (zi x2), some (zi x3), some (zi x4), none, none, none] [zi s0] (c, I, zRg g) :=
  zgo [4, 16, 29, 75, 159] 21 (And.intro (fun u689 => And.intro rfl (Exists.intro (some 77) (And.intro rfl (And.intro rfl (And.intro (t.1 u689).1 (And.intro (fun u690 => And.intro rfl (Exists.intro (some 77) (And.intro rfl (And.intro rfl (And.intro ((t.1 u689).2.1 u690).1 (And.intro (fun u691 => (((t.1 u689).2.1 u690).2.1 u691)) (fun u691 => (((t.1 u689).2.1 u690).2.2 u691)))))))) (fun u690 => And.intro rfl (Exists.intro (some 78) (And.intro rfl (And.intro rfl (And.intro ((t.1 u689).2.2 u690).1 (And.intro (fun u692 => And.intro rfl (Exists.intro (some 77) (And.intro rfl (And.intro rfl (And.intro (((t.1 u689).2.2 u690).2.1 u692).1 (And.intro (fun u693 => ((((t.1 u689).2.2 u690).2.1 u692).2.1 u693)) (fun u693 => ((((t.1 u689).2.2 u690).2.1 u692).2.2 u693)))))))) (fun u692 => (((t.1 u689).2.2 u690).2.2 u692)))))))))))))) (fun u689 => (t.2 u689)))
theorem g_x12_crew_75 {d : Nat} {B : Nat × Nat} {Q : zQ} {c : Nat × Nat × Nat} {I : Nat → Nat → Int} {g : Nat} {x1 x2 x3 x4 x5 x6 : Int}
    (t : (x4 ≤ x6 → (Q (some (zi x5)) (c, I, zRg g))) ∧ (¬ (x4 ≤ x6) → ((x3 < 0 → (Q (some (zi (-12))) (c, I, zRg g))) ∧ (¬ (x3 < 0) → ((0 ≤ x1 ∧ x1 < 4) ∧ ((x3 ≤ zwr ((zwr ((I 79 x1.toNat) - (zwr (4 * x6)))) - 4) → ((0 ≤ zwr ((zwr ((zwr (40 * x1)) + x3)) + (zwr (4 * x6))) ∧ zwr ((zwr ((zwr (40 * x1)) + x3)) + (zwr (4 * x6))) < 160) ∧ ((0 ≤ zwr ((zwr ((zwr ((zwr (40 * x1)) + x3)) + (zwr (4 * x6)))) + 1) ∧ zwr ((zwr ((zwr ((zwr (40 * x1)) + x3)) + (zwr (4 * x6)))) + 1) < 160) ∧ ((0 ≤ zwr ((zwr ((zwr ((zwr (40 * x1)) + x3)) + (zwr (4 * x6)))) + 2) ∧ zwr ((zwr ((zwr ((zwr (40 * x1)) + x3)) + (zwr (4 * x6)))) + 2) < 160) ∧ ((0 ≤ zwr ((zwr ((zwr ((zwr (40 * x1)) + x3)) + (zwr (4 * x6)))) + 3) ∧ zwr ((zwr ((zwr ((zwr (40 * x1)) + x3)) + (zwr (4 * x6)))) + 3) < 160) ∧ (zcl d 139 0 0 [zr 67, zi (I 80 ((zwr ((zwr ((zwr (40 * x1)) + x3)) + (zwr (4 * x6)))).toNat)), zi (I 80 ((zwr ((zwr ((zwr ((zwr (40 * x1)) + x3)) + (zwr (4 * x6)))) + 1)).toNat)), zi (I 80 ((zwr ((zwr ((zwr ((zwr (40 * x1)) + x3)) + (zwr (4 * x6)))) + 2)).toNat)), zi (I 80 ((zwr ((zwr ((zwr ((zwr (40 * x1)) + x3)) + (zwr (4 * x6)))) + 3)).toNat))] (c, I, zRg g) (fun v h1 => zRn (zcl d) 199 B Q 159 [some (zr 67), some (zi x1), some (zi x2), some (zi x3), some (zi x4), some (zi x5), some (zi x6), some (zi (zwr ((zwr ((zwr (40 * x1)) + x3)) + (zwr (4 * x6)))))] (zva v [zi x5]) h1))))))) ∧ (¬ (x3 ≤ zwr ((zwr ((I 79 x1.toNat) - (zwr (4 * x6)))) - 4)) → (Q (some (zi (-12))) (c, I, zRg g))))))))) :
    zRn (zcl d) 199 B Q 75 [some (zr 67), some (zi x1), some (zi x2), some (zi x3), some (zi x4), some (zi x5), some (zi x6), none] [] (c, I, zRg g) :=
  zgo [4, 16, 29, 75, 159] 51 (And.intro (fun u694 => (t.1 u694)) (fun u694 => And.intro (fun u695 => ((t.2 u694).1 u695)) (fun u695 => And.intro rfl (Exists.intro (some 79) (And.intro rfl (And.intro rfl (And.intro ((t.2 u694).2 u695).1 (And.intro (fun u696 => And.intro rfl (Exists.intro (some 80) (And.intro rfl (And.intro rfl (And.intro (((t.2 u694).2 u695).2.1 u696).1 (And.intro rfl (Exists.intro (some 80) (And.intro rfl (And.intro rfl (And.intro (((t.2 u694).2 u695).2.1 u696).2.1 (And.intro rfl (Exists.intro (some 80) (And.intro rfl (And.intro rfl (And.intro (((t.2 u694).2 u695).2.1 u696).2.2.1 (And.intro rfl (Exists.intro (some 80) (And.intro rfl (And.intro rfl (And.intro (((t.2 u694).2 u695).2.1 u696).2.2.2.1 (Exists.intro 139 (And.intro rfl (And.intro (Nat.le_of_ble_eq_true rfl) (Exists.intro 0 (Exists.intro 0 (And.intro (Or.inl rfl) (And.intro (Or.inl rfl) ((((t.2 u694).2 u695).2.1 u696).2.2.2.2)))))))))))))))))))))))))))) (fun u696 => (((t.2 u694).2 u695).2.2 u696))))))))))
theorem g_x12_crew_159 {d : Nat} {B : Nat × Nat} {Q : zQ} {c : Nat × Nat × Nat} {I : Nat → Nat → Int} {g : Nat} {x1 x2 x3 x4 x5 x6 x7 s0 s1 : Int}
    (t : (s0 < 0 → (zRn (zcl d) 199 B Q 75 [some (zr 67), some (zi x1), some (zi x2), some (zi x3), some (zi x4), some (zi (zwr (s1 + 0))), some (zi (zwr (x6 + 1))), some (zi x7)] [] (c, I, zRg g))) ∧ (¬ (s0 < 0) → (zRn (zcl d) 199 B Q 75 [some (zr 67), some (zi x1), some (zi x2), some (zi x3), some (zi x4), some (zi (zwr (s1 + 1))), some (zi (zwr (x6 + 1))), some (zi x7)] [] (c, I, zRg g)))) :
    zRn (zcl d) 199 B Q 159 [some (zr 67), some (zi x1), some (zi x2), some (zi x3), some (zi x4), some (zi x5), some (zi x6), some (zi x7)] [zi s0, zi s1] (c, I, zRg g) :=
  zgo [4, 16, 29, 75, 159] 7 (And.intro (fun u697 => (t.1 u697)) (fun u697 => (t.2 u697)))
theorem g_x12_above_0 {d : Nat} {B : Nat × Nat} {Q : zQ} {c : Nat × Nat × Nat} {I : Nat → Nat → Int} {g : Nat} {x0 : Int}
    (t : (x0 ≠ 0 → ((x0 ≠ 3 → ((x0 ≠ 4 → (Q (some (zi 0)) (c, I, zRg g))) ∧ (¬ (x0 ≠ 4) → (Q (some (zi 2)) (c, I, zRg g))))) ∧ (¬ (x0 ≠ 3) → (Q (some (zi 1)) (c, I, zRg g))))) ∧ (¬ (x0 ≠ 0) → (Q (some (zi (-1))) (c, I, zRg g)))) :
    zRn (zcl d) 200 B Q 0 [some (zi x0)] [] (c, I, zRg g) :=
  zgo [] 10 (And.intro (fun u698 => And.intro (fun u699 => And.intro (fun u700 => (((t.1 u698).1 u699).1 u700)) (fun u700 => (((t.1 u698).1 u699).2 u700))) (fun u699 => ((t.1 u698).2 u699))) (fun u698 => (t.2 u698)))
theorem g_x12_taken_0 {d : Nat} {B : Nat × Nat} {Q : zQ} {c : Nat × Nat × Nat} {I : Nat → Nat → Int} {g : Nat} {x1 x2 : Int}
    (t : zcl d 130 0 0 [zl x2, zl 0, zl 5] (c, I, zRg g) (fun v h1 => zRn (zcl d) 201 B Q 9 [some (zr 67), some (zi x1), some (zi x2), none] (zva v []) h1)) :
    zRn (zcl d) 201 B Q 0 [some (zr 67), some (zi x1), some (zi x2), none] [] (c, I, zRg g) :=
  zgo [9, 20, 37, 51] 4 (And.intro (Nat.le_of_ble_eq_true rfl) (Exists.intro 0 (Exists.intro 0 (And.intro (Or.inl rfl) (And.intro (Or.inl rfl) t)))))
theorem g_x12_taken_9 {d : Nat} {B : Nat × Nat} {Q : zQ} {c : Nat × Nat × Nat} {I : Nat → Nat → Int} {g : Nat} {x1 x2 s0 : Int}
    (t : (s0 ≠ 0 → (zcl d 134 0 0 [zr 67, zi x1] (c, I, zRg g) (fun v h1 => zRn (zcl d) 201 B Q 20 [some (zr 67), some (zi x1), some (zi x2), none] (zva v []) h1))) ∧ (¬ (s0 ≠ 0) → (Q (some (zi (-2))) (c, I, zRg g)))) :
    zRn (zcl d) 201 B Q 9 [some (zr 67), some (zi x1), some (zi x2), none] [zi s0] (c, I, zRg g) :=
  zgo [9, 20, 37, 51] 3 (And.intro (fun u701 => Exists.intro 134 (And.intro rfl (And.intro (Nat.le_of_ble_eq_true rfl) (Exists.intro 0 (Exists.intro 0 (And.intro (Or.inl rfl) (And.intro (Or.inl rfl) (t.1 u701)))))))) (fun u701 => (t.2 u701)))
theorem g_x12_taken_20 {d : Nat} {B : Nat × Nat} {Q : zQ} {c : Nat × Nat × Nat} {I : Nat → Nat → Int} {g : Nat} {x1 x2 s0 : Int}
    (t : (s0 ≠ 0 → ((0 ≤ zwr ((zwr (5 * x1)) + 4) ∧ zwr ((zwr (5 * x1)) + 4) < 25) ∧ (zRn (zcl d) 201 B Q 37 [some (zr 67), some (zi x1), some (zi x2), some (zi (I 71 ((zwr ((zwr (5 * x1)) + 4)).toNat)))] [] (c, I, zRg g)))) ∧ (¬ (s0 ≠ 0) → (Q (some (zi (-11))) (c, I, zRg g)))) :
    zRn (zcl d) 201 B Q 20 [some (zr 67), some (zi x1), some (zi x2), none] [zi s0] (c, I, zRg g) :=
  zgo [9, 20, 37, 51] 10 (And.intro (fun u702 => And.intro rfl (Exists.intro (some 71) (And.intro rfl (And.intro rfl (And.intro (t.1 u702).1 ((t.1 u702).2)))))) (fun u702 => (t.2 u702)))
theorem g_x12_taken_37 {d : Nat} {B : Nat × Nat} {Q : zQ} {c : Nat × Nat × Nat} {I : Nat → Nat → Int} {g : Nat} {x1 x2 x3 : Int}
    (t : (x3 = (-1) → ((x3 ≠ x2 → (Q (some (zi (-13))) (c, I, zRg g))) ∧ (¬ (x3 ≠ x2) → ((0 ≤ zwr (5 * x1) ∧ zwr (5 * x1) < 25) ∧ (Q (some (zi (I 71 ((zwr (5 * x1)).toNat)))) (c, I, zRg g)))))) ∧ (¬ (x3 = (-1)) → ((x3 = x2 → ((x3 ≠ x2 → (Q (some (zi (-13))) (c, I, zRg g))) ∧ (¬ (x3 ≠ x2) → ((0 ≤ zwr (5 * x1) ∧ zwr (5 * x1) < 25) ∧ (Q (some (zi (I 71 ((zwr (5 * x1)).toNat)))) (c, I, zRg g)))))) ∧ (¬ (x3 = x2) → (zcl d 200 0 0 [zi x3] (c, I, zRg g) (fun v h1 => zRn (zcl d) 201 B Q 51 [some (zr 67), some (zi x1), some (zi x2), some (zi x3)] (zva v []) h1)))))) :
    zRn (zcl d) 201 B Q 37 [some (zr 67), some (zi x1), some (zi x2), some (zi x3)] [] (c, I, zRg g) :=
  zgo [9, 20, 37, 51] 16 (And.intro (fun u703 => And.intro (fun u704 => ((t.1 u703).1 u704)) (fun u704 => And.intro rfl (Exists.intro (some 71) (And.intro rfl (And.intro rfl (And.intro ((t.1 u703).2 u704).1 (((t.1 u703).2 u704).2))))))) (fun u703 => And.intro (fun u705 => And.intro (fun u706 => (((t.2 u703).1 u705).1 u706)) (fun u706 => And.intro rfl (Exists.intro (some 71) (And.intro rfl (And.intro rfl (And.intro (((t.2 u703).1 u705).2 u706).1 ((((t.2 u703).1 u705).2 u706).2))))))) (fun u705 => And.intro (Nat.le_of_ble_eq_true rfl) (Exists.intro 0 (Exists.intro 0 (And.intro (Or.inl rfl) (And.intro (Or.inl rfl) ((t.2 u703).2 u705))))))))
theorem g_x12_taken_51 {d : Nat} {B : Nat × Nat} {Q : zQ} {c : Nat × Nat × Nat} {I : Nat → Nat → Int} {g : Nat} {x1 x2 x3 s0 : Int}
    (t : zRn (zcl d) 201 B Q 37 [some (zr 67), some (zi x1), some (zi x2), some (zi s0)] [] (c, I, zRg g)) :
    zRn (zcl d) 201 B Q 51 [some (zr 67), some (zi x1), some (zi x2), some (zi x3)] [zi s0] (c, I, zRg g) :=
  zgo [9, 20, 37, 51] 2 (t)
end
section
/-! the links' words, by their places; the resolved code against the bytes; written by wip/whole/gen4.py -/
theorem zFT_ok : ∀ q ∈ zFT, Cond.fieldLink (zR q.1) q.2.1 (zT q.2.2.1 q.2.2.2).1 (zT q.2.2.1 q.2.2.2).2.1 (zT q.2.2.1 q.2.2.2).2.2.1 ∈ zGL := by
  unfold zFT
  refine List.forall_mem_cons.mpr ⟨zg1 75 (by decide +kernel) (by decide +kernel), ?_⟩
  refine List.forall_mem_cons.mpr ⟨zg1 77 (by decide +kernel) (by decide +kernel), ?_⟩
  refine List.forall_mem_cons.mpr ⟨zg1 79 (by decide +kernel) (by decide +kernel), ?_⟩
  refine List.forall_mem_cons.mpr ⟨zg1 81 (by decide +kernel) (by decide +kernel), ?_⟩
  refine List.forall_mem_cons.mpr ⟨zg1 84 (by decide +kernel) (by decide +kernel), ?_⟩
  refine List.forall_mem_cons.mpr ⟨zg1 85 (by decide +kernel) (by decide +kernel), ?_⟩
  refine List.forall_mem_cons.mpr ⟨zg1 87 (by decide +kernel) (by decide +kernel), ?_⟩
  refine List.forall_mem_cons.mpr ⟨zg1 49 (by decide +kernel) (by decide +kernel), ?_⟩
  refine List.forall_mem_cons.mpr ⟨zg1 47 (by decide +kernel) (by decide +kernel), ?_⟩
  refine List.forall_mem_cons.mpr ⟨zg1 54 (by decide +kernel) (by decide +kernel), ?_⟩
  refine List.forall_mem_cons.mpr ⟨zg1 46 (by decide +kernel) (by decide +kernel), ?_⟩
  refine List.forall_mem_cons.mpr ⟨zg1 51 (by decide +kernel) (by decide +kernel), ?_⟩
  refine List.forall_mem_cons.mpr ⟨zg1 56 (by decide +kernel) (by decide +kernel), ?_⟩
  refine List.forall_mem_cons.mpr ⟨zg1 59 (by decide +kernel) (by decide +kernel), ?_⟩
  refine List.forall_mem_cons.mpr ⟨zg1 44 (by decide +kernel) (by decide +kernel), ?_⟩
  refine List.forall_mem_cons.mpr ⟨zg1 62 (by decide +kernel) (by decide +kernel), ?_⟩
  refine List.forall_mem_cons.mpr ⟨zg1 190 (by decide +kernel) (by decide +kernel), ?_⟩
  refine List.forall_mem_cons.mpr ⟨zg1 193 (by decide +kernel) (by decide +kernel), ?_⟩
  refine List.forall_mem_cons.mpr ⟨zg1 194 (by decide +kernel) (by decide +kernel), ?_⟩
  refine List.forall_mem_cons.mpr ⟨zg1 195 (by decide +kernel) (by decide +kernel), ?_⟩
  refine List.forall_mem_cons.mpr ⟨zg1 200 (by decide +kernel) (by decide +kernel), ?_⟩
  refine List.forall_mem_cons.mpr ⟨zg1 191 (by decide +kernel) (by decide +kernel), ?_⟩
  refine List.forall_mem_cons.mpr ⟨zg1 176 (by decide +kernel) (by decide +kernel), ?_⟩
  refine List.forall_mem_cons.mpr ⟨zg1 199 (by decide +kernel) (by decide +kernel), ?_⟩
  refine List.forall_mem_cons.mpr ⟨zg1 197 (by decide +kernel) (by decide +kernel), ?_⟩
  refine List.forall_mem_cons.mpr ⟨zg1 198 (by decide +kernel) (by decide +kernel), ?_⟩
  refine List.forall_mem_cons.mpr ⟨zg1 174 (by decide +kernel) (by decide +kernel), ?_⟩
  refine List.forall_mem_cons.mpr ⟨zg1 196 (by decide +kernel) (by decide +kernel), ?_⟩
  refine List.forall_mem_cons.mpr ⟨zg1 154 (by decide +kernel) (by decide +kernel), ?_⟩
  refine List.forall_mem_cons.mpr ⟨zg1 156 (by decide +kernel) (by decide +kernel), ?_⟩
  refine List.forall_mem_cons.mpr ⟨zg1 158 (by decide +kernel) (by decide +kernel), ?_⟩
  refine List.forall_mem_cons.mpr ⟨zg1 53 (by decide +kernel) (by decide +kernel), ?_⟩
  refine List.forall_mem_cons.mpr ⟨zg1 172 (by decide +kernel) (by decide +kernel), ?_⟩
  refine List.forall_mem_cons.mpr ⟨zg1 173 (by decide +kernel) (by decide +kernel), ?_⟩
  refine List.forall_mem_cons.mpr ⟨zg1 175 (by decide +kernel) (by decide +kernel), ?_⟩
  refine List.forall_mem_cons.mpr ⟨zg1 55 (by decide +kernel) (by decide +kernel), ?_⟩
  refine List.forall_mem_cons.mpr ⟨zg1 58 (by decide +kernel) (by decide +kernel), ?_⟩
  refine List.forall_mem_cons.mpr ⟨zg1 50 (by decide +kernel) (by decide +kernel), ?_⟩
  refine List.forall_mem_cons.mpr ⟨zg1 61 (by decide +kernel) (by decide +kernel), ?_⟩
  refine List.forall_mem_cons.mpr ⟨zg2 139 (by decide +kernel) (by decide +kernel), ?_⟩
  refine List.forall_mem_cons.mpr ⟨zg2 140 (by decide +kernel) (by decide +kernel), ?_⟩
  refine List.forall_mem_cons.mpr ⟨zg2 141 (by decide +kernel) (by decide +kernel), ?_⟩
  refine List.forall_mem_cons.mpr ⟨zg2 142 (by decide +kernel) (by decide +kernel), ?_⟩
  refine List.forall_mem_cons.mpr ⟨zg2 144 (by decide +kernel) (by decide +kernel), ?_⟩
  refine List.forall_mem_cons.mpr ⟨zg2 147 (by decide +kernel) (by decide +kernel), ?_⟩
  refine List.forall_mem_cons.mpr ⟨zg2 148 (by decide +kernel) (by decide +kernel), ?_⟩
  refine List.forall_mem_cons.mpr ⟨zg2 149 (by decide +kernel) (by decide +kernel), ?_⟩
  refine List.forall_mem_cons.mpr ⟨zg2 145 (by decide +kernel) (by decide +kernel), ?_⟩
  refine List.forall_mem_cons.mpr ⟨zg2 146 (by decide +kernel) (by decide +kernel), ?_⟩
  refine List.forall_mem_cons.mpr ⟨zg1 83 (by decide +kernel) (by decide +kernel), ?_⟩
  refine List.forall_mem_cons.mpr ⟨zg1 76 (by decide +kernel) (by decide +kernel), ?_⟩
  refine List.forall_mem_cons.mpr ⟨zg1 80 (by decide +kernel) (by decide +kernel), ?_⟩
  refine List.forall_mem_cons.mpr ⟨zg1 45 (by decide +kernel) (by decide +kernel), ?_⟩
  refine List.forall_mem_cons.mpr ⟨zg1 48 (by decide +kernel) (by decide +kernel), ?_⟩
  refine List.forall_mem_cons.mpr ⟨zg1 52 (by decide +kernel) (by decide +kernel), ?_⟩
  refine List.forall_mem_cons.mpr ⟨zg1 57 (by decide +kernel) (by decide +kernel), ?_⟩
  refine List.forall_mem_cons.mpr ⟨zg1 60 (by decide +kernel) (by decide +kernel), ?_⟩
  refine List.forall_mem_cons.mpr ⟨zg1 82 (by decide +kernel) (by decide +kernel), ?_⟩
  refine List.forall_mem_cons.mpr ⟨zg1 78 (by decide +kernel) (by decide +kernel), ?_⟩
  refine List.forall_mem_cons.mpr ⟨zg1 86 (by decide +kernel) (by decide +kernel), ?_⟩
  refine List.forall_mem_cons.mpr ⟨zg1 192 (by decide +kernel) (by decide +kernel), ?_⟩
  refine List.forall_mem_cons.mpr ⟨zg1 88 (by decide +kernel) (by decide +kernel), ?_⟩
  refine List.forall_mem_cons.mpr ⟨zg1 159 (by decide +kernel) (by decide +kernel), ?_⟩
  refine List.forall_mem_cons.mpr ⟨zg1 155 (by decide +kernel) (by decide +kernel), ?_⟩
  refine List.forall_mem_cons.mpr ⟨zg2 150 (by decide +kernel) (by decide +kernel), ?_⟩
  refine List.forall_mem_cons.mpr ⟨zg2 151 (by decide +kernel) (by decide +kernel), ?_⟩
  refine List.forall_mem_cons.mpr ⟨zg2 143 (by decide +kernel) (by decide +kernel), ?_⟩
  refine List.forall_mem_cons.mpr ⟨zg1 157 (by decide +kernel) (by decide +kernel), ?_⟩
  refine List.forall_mem_cons.mpr ⟨zg4 102 (by decide +kernel) (by decide +kernel), ?_⟩
  refine List.forall_mem_cons.mpr ⟨zg4 103 (by decide +kernel) (by decide +kernel), ?_⟩
  refine List.forall_mem_cons.mpr ⟨zg4 106 (by decide +kernel) (by decide +kernel), ?_⟩
  refine List.forall_mem_cons.mpr ⟨zg4 109 (by decide +kernel) (by decide +kernel), ?_⟩
  refine List.forall_mem_cons.mpr ⟨zg4 111 (by decide +kernel) (by decide +kernel), ?_⟩
  refine List.forall_mem_cons.mpr ⟨zg4 130 (by decide +kernel) (by decide +kernel), ?_⟩
  refine List.forall_mem_cons.mpr ⟨zg4 131 (by decide +kernel) (by decide +kernel), ?_⟩
  refine List.forall_mem_cons.mpr ⟨zg4 135 (by decide +kernel) (by decide +kernel), ?_⟩
  refine List.forall_mem_cons.mpr ⟨zg4 136 (by decide +kernel) (by decide +kernel), ?_⟩
  refine List.forall_mem_cons.mpr ⟨zg4 137 (by decide +kernel) (by decide +kernel), ?_⟩
  refine List.forall_mem_cons.mpr ⟨zg4 142 (by decide +kernel) (by decide +kernel), ?_⟩
  refine List.forall_mem_cons.mpr ⟨zg4 143 (by decide +kernel) (by decide +kernel), ?_⟩
  refine List.forall_mem_cons.mpr ⟨zg4 144 (by decide +kernel) (by decide +kernel), ?_⟩
  refine List.forall_mem_cons.mpr ⟨zg4 145 (by decide +kernel) (by decide +kernel), ?_⟩
  refine List.forall_mem_cons.mpr ⟨zg4 104 (by decide +kernel) (by decide +kernel), ?_⟩
  refine List.forall_mem_cons.mpr ⟨zg4 110 (by decide +kernel) (by decide +kernel), ?_⟩
  refine List.forall_mem_cons.mpr ⟨zg4 112 (by decide +kernel) (by decide +kernel), ?_⟩
  refine List.forall_mem_cons.mpr ⟨zg4 108 (by decide +kernel) (by decide +kernel), ?_⟩
  refine List.forall_mem_cons.mpr ⟨zg4 105 (by decide +kernel) (by decide +kernel), ?_⟩
  refine List.forall_mem_cons.mpr ⟨zg4 113 (by decide +kernel) (by decide +kernel), ?_⟩
  refine List.forall_mem_cons.mpr ⟨zg4 107 (by decide +kernel) (by decide +kernel), ?_⟩
  refine List.forall_mem_cons.mpr ⟨zg4 122 (by decide +kernel) (by decide +kernel), ?_⟩
  refine List.forall_mem_cons.mpr ⟨zg4 121 (by decide +kernel) (by decide +kernel), ?_⟩
  refine List.forall_mem_cons.mpr ⟨zg4 123 (by decide +kernel) (by decide +kernel), ?_⟩
  refine List.forall_mem_cons.mpr ⟨zg4 125 (by decide +kernel) (by decide +kernel), ?_⟩
  refine List.forall_mem_cons.mpr ⟨zg4 124 (by decide +kernel) (by decide +kernel), ?_⟩
  refine List.forall_mem_cons.mpr ⟨zg4 126 (by decide +kernel) (by decide +kernel), ?_⟩
  refine List.forall_mem_cons.mpr ⟨zg4 128 (by decide +kernel) (by decide +kernel), ?_⟩
  refine List.forall_mem_cons.mpr ⟨zg4 129 (by decide +kernel) (by decide +kernel), ?_⟩
  refine List.forall_mem_cons.mpr ⟨zg4 127 (by decide +kernel) (by decide +kernel), ?_⟩
  refine List.forall_mem_cons.mpr ⟨zg4 115 (by decide +kernel) (by decide +kernel), ?_⟩
  refine List.forall_mem_cons.mpr ⟨zg4 116 (by decide +kernel) (by decide +kernel), ?_⟩
  refine List.forall_mem_cons.mpr ⟨zg4 117 (by decide +kernel) (by decide +kernel), ?_⟩
  refine List.forall_mem_cons.mpr ⟨zg4 118 (by decide +kernel) (by decide +kernel), ?_⟩
  refine List.forall_mem_cons.mpr ⟨zg4 119 (by decide +kernel) (by decide +kernel), ?_⟩
  refine List.forall_mem_cons.mpr ⟨zg4 120 (by decide +kernel) (by decide +kernel), ?_⟩
  refine List.forall_mem_cons.mpr ⟨zg4 114 (by decide +kernel) (by decide +kernel), ?_⟩
  refine List.forall_mem_cons.mpr ⟨zg4 133 (by decide +kernel) (by decide +kernel), ?_⟩
  refine List.forall_mem_cons.mpr ⟨zg4 134 (by decide +kernel) (by decide +kernel), ?_⟩
  refine List.forall_mem_cons.mpr ⟨zg4 132 (by decide +kernel) (by decide +kernel), ?_⟩
  refine List.forall_mem_cons.mpr ⟨zg4 138 (by decide +kernel) (by decide +kernel), ?_⟩
  refine List.forall_mem_cons.mpr ⟨zg4 139 (by decide +kernel) (by decide +kernel), ?_⟩
  refine List.forall_mem_cons.mpr ⟨zg4 140 (by decide +kernel) (by decide +kernel), ?_⟩
  refine List.forall_mem_cons.mpr ⟨zg4 141 (by decide +kernel) (by decide +kernel), ?_⟩
  exact List.forall_mem_nil _
theorem zST_ok : ∀ q ∈ zST, Cond.methodLink (zR q.1) q.2.1 (zY q.2.2.1) ∈ zGL ∧ Cond.static (zY q.2.2.1) ∈ zGL := by
  unfold zST
  refine List.forall_mem_cons.mpr ⟨⟨zg3 110 (by decide +kernel) (by decide +kernel), zg3 2 (by decide +kernel) (by decide +kernel)⟩, ?_⟩
  refine List.forall_mem_cons.mpr ⟨⟨zg2 88 (by decide +kernel) (by decide +kernel), zg2 89 (by decide +kernel) (by decide +kernel)⟩, ?_⟩
  refine List.forall_mem_cons.mpr ⟨⟨zg2 85 (by decide +kernel) (by decide +kernel), zg2 86 (by decide +kernel) (by decide +kernel)⟩, ?_⟩
  refine List.forall_mem_cons.mpr ⟨⟨zg2 238 (by decide +kernel) (by decide +kernel), zg2 239 (by decide +kernel) (by decide +kernel)⟩, ?_⟩
  refine List.forall_mem_cons.mpr ⟨⟨zg3 7 (by decide +kernel) (by decide +kernel), zg3 8 (by decide +kernel) (by decide +kernel)⟩, ?_⟩
  refine List.forall_mem_cons.mpr ⟨⟨zg3 10 (by decide +kernel) (by decide +kernel), zg3 11 (by decide +kernel) (by decide +kernel)⟩, ?_⟩
  refine List.forall_mem_cons.mpr ⟨⟨zg3 1 (by decide +kernel) (by decide +kernel), zg3 2 (by decide +kernel) (by decide +kernel)⟩, ?_⟩
  refine List.forall_mem_cons.mpr ⟨⟨zg2 188 (by decide +kernel) (by decide +kernel), zg2 189 (by decide +kernel) (by decide +kernel)⟩, ?_⟩
  refine List.forall_mem_cons.mpr ⟨⟨zg2 203 (by decide +kernel) (by decide +kernel), zg2 204 (by decide +kernel) (by decide +kernel)⟩, ?_⟩
  refine List.forall_mem_cons.mpr ⟨⟨zg3 138 (by decide +kernel) (by decide +kernel), zg3 139 (by decide +kernel) (by decide +kernel)⟩, ?_⟩
  refine List.forall_mem_cons.mpr ⟨⟨zg3 149 (by decide +kernel) (by decide +kernel), zg3 150 (by decide +kernel) (by decide +kernel)⟩, ?_⟩
  refine List.forall_mem_cons.mpr ⟨⟨zg3 42 (by decide +kernel) (by decide +kernel), zg3 14 (by decide +kernel) (by decide +kernel)⟩, ?_⟩
  refine List.forall_mem_cons.mpr ⟨⟨zg3 169 (by decide +kernel) (by decide +kernel), zg3 64 (by decide +kernel) (by decide +kernel)⟩, ?_⟩
  refine List.forall_mem_cons.mpr ⟨⟨zg3 19 (by decide +kernel) (by decide +kernel), zg2 89 (by decide +kernel) (by decide +kernel)⟩, ?_⟩
  refine List.forall_mem_cons.mpr ⟨⟨zg3 16 (by decide +kernel) (by decide +kernel), zg3 17 (by decide +kernel) (by decide +kernel)⟩, ?_⟩
  refine List.forall_mem_cons.mpr ⟨⟨zg3 152 (by decide +kernel) (by decide +kernel), zg3 2 (by decide +kernel) (by decide +kernel)⟩, ?_⟩
  refine List.forall_mem_cons.mpr ⟨⟨zg3 219 (by decide +kernel) (by decide +kernel), zg3 220 (by decide +kernel) (by decide +kernel)⟩, ?_⟩
  refine List.forall_mem_cons.mpr ⟨⟨zg3 222 (by decide +kernel) (by decide +kernel), zg3 223 (by decide +kernel) (by decide +kernel)⟩, ?_⟩
  refine List.forall_mem_cons.mpr ⟨⟨zg5 3 (by decide +kernel) (by decide +kernel), zg5 4 (by decide +kernel) (by decide +kernel)⟩, ?_⟩
  refine List.forall_mem_cons.mpr ⟨⟨zg5 14 (by decide +kernel) (by decide +kernel), zg5 15 (by decide +kernel) (by decide +kernel)⟩, ?_⟩
  refine List.forall_mem_cons.mpr ⟨⟨zg5 144 (by decide +kernel) (by decide +kernel), zg5 145 (by decide +kernel) (by decide +kernel)⟩, ?_⟩
  refine List.forall_mem_cons.mpr ⟨⟨zg5 147 (by decide +kernel) (by decide +kernel), zg5 148 (by decide +kernel) (by decide +kernel)⟩, ?_⟩
  refine List.forall_mem_cons.mpr ⟨⟨zg5 162 (by decide +kernel) (by decide +kernel), zg5 163 (by decide +kernel) (by decide +kernel)⟩, ?_⟩
  refine List.forall_mem_cons.mpr ⟨⟨zg5 165 (by decide +kernel) (by decide +kernel), zg5 166 (by decide +kernel) (by decide +kernel)⟩, ?_⟩
  refine List.forall_mem_cons.mpr ⟨⟨zg5 224 (by decide +kernel) (by decide +kernel), zg5 225 (by decide +kernel) (by decide +kernel)⟩, ?_⟩
  refine List.forall_mem_cons.mpr ⟨⟨zg6 53 (by decide +kernel) (by decide +kernel), zg6 54 (by decide +kernel) (by decide +kernel)⟩, ?_⟩
  exact List.forall_mem_nil _
theorem zSN_ok : ∀ q ∈ zSN, Cond.methodLinkNest (zR q.1) q.2.1 (zY q.2.2.1) RX11 ∈ lw_tbl ∧ Cond.static (zY q.2.2.1) ∈ zGL := by
  unfold zSN
  refine List.forall_mem_cons.mpr ⟨⟨zt3 63 (by decide +kernel), zg3 64 (by decide +kernel) (by decide +kernel)⟩, ?_⟩
  refine List.forall_mem_cons.mpr ⟨⟨zt4 9 (by decide +kernel), zg3 14 (by decide +kernel) (by decide +kernel)⟩, ?_⟩
  refine List.forall_mem_cons.mpr ⟨⟨zt3 71 (by decide +kernel), zg3 64 (by decide +kernel) (by decide +kernel)⟩, ?_⟩
  refine List.forall_mem_cons.mpr ⟨⟨zt3 13 (by decide +kernel), zg3 14 (by decide +kernel) (by decide +kernel)⟩, ?_⟩
  exact List.forall_mem_nil _
theorem zIT_ok : ∀ q ∈ zIT, Cond.methodLink (zR q.1) q.2.1 (zY q.2.2.1) ∈ zGL ∧ Cond.instanceMethod (zY q.2.2.1) ∈ zGL := by
  unfold zIT
  refine List.forall_mem_cons.mpr ⟨⟨zg1 33 (by decide +kernel) (by decide +kernel), zg1 34 (by decide +kernel) (by decide +kernel)⟩, ?_⟩
  refine List.forall_mem_cons.mpr ⟨⟨zg1 186 (by decide +kernel) (by decide +kernel), zg1 187 (by decide +kernel) (by decide +kernel)⟩, ?_⟩
  refine List.forall_mem_cons.mpr ⟨⟨zg1 23 (by decide +kernel) (by decide +kernel), zg1 24 (by decide +kernel) (by decide +kernel)⟩, ?_⟩
  refine List.forall_mem_cons.mpr ⟨⟨zg4 94 (by decide +kernel) (by decide +kernel), zg4 95 (by decide +kernel) (by decide +kernel)⟩, ?_⟩
  exact List.forall_mem_nil _
theorem zIN_ok : ∀ q ∈ zIN, Cond.methodLinkNest (zR q.1) q.2.1 (zY q.2.2.1) RX11 ∈ lw_tbl ∧ Cond.instanceMethod (zY q.2.2.1) ∈ zGL := by
  unfold zIN
  refine List.forall_mem_cons.mpr ⟨⟨zt1 40 (by decide +kernel), zg1 41 (by decide +kernel) (by decide +kernel)⟩, ?_⟩
  refine List.forall_mem_cons.mpr ⟨⟨zt1 126 (by decide +kernel), zg1 110 (by decide +kernel) (by decide +kernel)⟩, ?_⟩
  refine List.forall_mem_cons.mpr ⟨⟨zt1 119 (by decide +kernel), zg1 110 (by decide +kernel) (by decide +kernel)⟩, ?_⟩
  refine List.forall_mem_cons.mpr ⟨⟨zt1 133 (by decide +kernel), zg1 117 (by decide +kernel) (by decide +kernel)⟩, ?_⟩
  refine List.forall_mem_cons.mpr ⟨⟨zt1 140 (by decide +kernel), zg1 124 (by decide +kernel) (by decide +kernel)⟩, ?_⟩
  refine List.forall_mem_cons.mpr ⟨⟨zt1 147 (by decide +kernel), zg1 110 (by decide +kernel) (by decide +kernel)⟩, ?_⟩
  refine List.forall_mem_cons.mpr ⟨⟨zt1 109 (by decide +kernel), zg1 110 (by decide +kernel) (by decide +kernel)⟩, ?_⟩
  refine List.forall_mem_cons.mpr ⟨⟨zt1 116 (by decide +kernel), zg1 117 (by decide +kernel) (by decide +kernel)⟩, ?_⟩
  refine List.forall_mem_cons.mpr ⟨⟨zt1 123 (by decide +kernel), zg1 124 (by decide +kernel) (by decide +kernel)⟩, ?_⟩
  refine List.forall_mem_cons.mpr ⟨⟨zt1 130 (by decide +kernel), zg1 131 (by decide +kernel) (by decide +kernel)⟩, ?_⟩
  refine List.forall_mem_cons.mpr ⟨⟨zt1 137 (by decide +kernel), zg1 138 (by decide +kernel) (by decide +kernel)⟩, ?_⟩
  refine List.forall_mem_cons.mpr ⟨⟨zt1 144 (by decide +kernel), zg1 145 (by decide +kernel) (by decide +kernel)⟩, ?_⟩
  refine List.forall_mem_cons.mpr ⟨⟨zt1 150 (by decide +kernel), zg1 151 (by decide +kernel) (by decide +kernel)⟩, ?_⟩
  refine List.forall_mem_cons.mpr ⟨⟨zt1 168 (by decide +kernel), zg1 169 (by decide +kernel) (by decide +kernel)⟩, ?_⟩
  exact List.forall_mem_nil _
theorem zOT_ok : ∀ q ∈ zOT, Cond.methodLink (zR q.1) q.2 Lib.objectInit ∈ zGL := by
  unfold zOT
  refine List.forall_mem_cons.mpr ⟨zg1 36 (by decide +kernel) (by decide +kernel), ?_⟩
  refine List.forall_mem_cons.mpr ⟨zg1 43 (by decide +kernel) (by decide +kernel), ?_⟩
  refine List.forall_mem_cons.mpr ⟨zg1 189 (by decide +kernel) (by decide +kernel), ?_⟩
  refine List.forall_mem_cons.mpr ⟨zg1 153 (by decide +kernel) (by decide +kernel), ?_⟩
  refine List.forall_mem_cons.mpr ⟨zg1 112 (by decide +kernel) (by decide +kernel), ?_⟩
  refine List.forall_mem_cons.mpr ⟨zg1 171 (by decide +kernel) (by decide +kernel), ?_⟩
  refine List.forall_mem_cons.mpr ⟨zg1 26 (by decide +kernel) (by decide +kernel), ?_⟩
  refine List.forall_mem_cons.mpr ⟨zg4 97 (by decide +kernel) (by decide +kernel), ?_⟩
  exact List.forall_mem_nil _
theorem zOI_ok : Cond.instanceMethod Lib.objectInit ∈ zGL ∧ Cond.code Lib.objectInit ⟨#[0xb1]⟩ 1 none ∈ zGL := ⟨zg1 27 (by decide +kernel) (by decide +kernel), zg1 28 (by decide +kernel) (by decide +kernel)⟩
theorem zUT_ok : ∀ q ∈ zUT, Cond.methodLink (zR q.1) q.2.1 (zY q.2.2.1) ∈ zGL ∧ Cond.sameMethod (zY q.2.2.1).cls (zY q.2.2.1).cls (zY q.2.2.1).name (zY q.2.2.1).desc ∈ zGL ∧ Cond.superclass (zR q.1) (zY q.2.2.1).cls ∈ zGL ∧ Cond.instanceMethod (zY q.2.2.1) ∈ zGL := by
  unfold zUT
  refine List.forall_mem_cons.mpr ⟨⟨zg4 74 (by decide +kernel) (by decide +kernel), zg4 70 (by decide +kernel) (by decide +kernel), zg1 127 (by decide +kernel) (by decide +kernel), zg4 68 (by decide +kernel) (by decide +kernel)⟩, ?_⟩
  refine List.forall_mem_cons.mpr ⟨⟨zg3 27 (by decide +kernel) (by decide +kernel), zg3 23 (by decide +kernel) (by decide +kernel), zg1 127 (by decide +kernel) (by decide +kernel), zg3 21 (by decide +kernel) (by decide +kernel)⟩, ?_⟩
  refine List.forall_mem_cons.mpr ⟨⟨zg3 50 (by decide +kernel) (by decide +kernel), zg3 46 (by decide +kernel) (by decide +kernel), zg1 127 (by decide +kernel) (by decide +kernel), zg3 44 (by decide +kernel) (by decide +kernel)⟩, ?_⟩
  refine List.forall_mem_cons.mpr ⟨⟨zg3 83 (by decide +kernel) (by decide +kernel), zg3 79 (by decide +kernel) (by decide +kernel), zg1 127 (by decide +kernel) (by decide +kernel), zg3 77 (by decide +kernel) (by decide +kernel)⟩, ?_⟩
  refine List.forall_mem_cons.mpr ⟨⟨zg4 78 (by decide +kernel) (by decide +kernel), zg4 70 (by decide +kernel) (by decide +kernel), zg1 120 (by decide +kernel) (by decide +kernel), zg4 68 (by decide +kernel) (by decide +kernel)⟩, ?_⟩
  refine List.forall_mem_cons.mpr ⟨⟨zg3 31 (by decide +kernel) (by decide +kernel), zg3 23 (by decide +kernel) (by decide +kernel), zg1 120 (by decide +kernel) (by decide +kernel), zg3 21 (by decide +kernel) (by decide +kernel)⟩, ?_⟩
  refine List.forall_mem_cons.mpr ⟨⟨zg3 54 (by decide +kernel) (by decide +kernel), zg3 46 (by decide +kernel) (by decide +kernel), zg1 120 (by decide +kernel) (by decide +kernel), zg3 44 (by decide +kernel) (by decide +kernel)⟩, ?_⟩
  refine List.forall_mem_cons.mpr ⟨⟨zg4 82 (by decide +kernel) (by decide +kernel), zg6 60 (by decide +kernel) (by decide +kernel), zg1 134 (by decide +kernel) (by decide +kernel), zg4 76 (by decide +kernel) (by decide +kernel)⟩, ?_⟩
  refine List.forall_mem_cons.mpr ⟨⟨zg3 58 (by decide +kernel) (by decide +kernel), zg6 57 (by decide +kernel) (by decide +kernel), zg1 134 (by decide +kernel) (by decide +kernel), zg3 52 (by decide +kernel) (by decide +kernel)⟩, ?_⟩
  refine List.forall_mem_cons.mpr ⟨⟨zg4 86 (by decide +kernel) (by decide +kernel), zg6 61 (by decide +kernel) (by decide +kernel), zg1 141 (by decide +kernel) (by decide +kernel), zg4 72 (by decide +kernel) (by decide +kernel)⟩, ?_⟩
  refine List.forall_mem_cons.mpr ⟨⟨zg3 36 (by decide +kernel) (by decide +kernel), zg6 56 (by decide +kernel) (by decide +kernel), zg1 141 (by decide +kernel) (by decide +kernel), zg3 25 (by decide +kernel) (by decide +kernel)⟩, ?_⟩
  refine List.forall_mem_cons.mpr ⟨⟨zg3 62 (by decide +kernel) (by decide +kernel), zg6 58 (by decide +kernel) (by decide +kernel), zg1 141 (by decide +kernel) (by decide +kernel), zg3 48 (by decide +kernel) (by decide +kernel)⟩, ?_⟩
  refine List.forall_mem_cons.mpr ⟨⟨zg3 93 (by decide +kernel) (by decide +kernel), zg6 59 (by decide +kernel) (by decide +kernel), zg1 141 (by decide +kernel) (by decide +kernel), zg3 81 (by decide +kernel) (by decide +kernel)⟩, ?_⟩
  refine List.forall_mem_cons.mpr ⟨⟨zg4 90 (by decide +kernel) (by decide +kernel), zg4 70 (by decide +kernel) (by decide +kernel), zg1 148 (by decide +kernel) (by decide +kernel), zg4 68 (by decide +kernel) (by decide +kernel)⟩, ?_⟩
  refine List.forall_mem_cons.mpr ⟨⟨zg3 40 (by decide +kernel) (by decide +kernel), zg3 23 (by decide +kernel) (by decide +kernel), zg1 148 (by decide +kernel) (by decide +kernel), zg3 21 (by decide +kernel) (by decide +kernel)⟩, ?_⟩
  refine List.forall_mem_cons.mpr ⟨⟨zg3 69 (by decide +kernel) (by decide +kernel), zg3 46 (by decide +kernel) (by decide +kernel), zg1 148 (by decide +kernel) (by decide +kernel), zg3 44 (by decide +kernel) (by decide +kernel)⟩, ?_⟩
  refine List.forall_mem_cons.mpr ⟨⟨zg3 97 (by decide +kernel) (by decide +kernel), zg3 79 (by decide +kernel) (by decide +kernel), zg1 148 (by decide +kernel) (by decide +kernel), zg3 77 (by decide +kernel) (by decide +kernel)⟩, ?_⟩
  exact List.forall_mem_nil _
theorem zsel_of {q : MethodName × Nat} (h : q ∈ lw_privs) (g : goodWord (Cond.selects q.1.cls q.1 q.1) = true) : Cond.selects q.1.cls q.1 q.1 ∈ zGL := List.mem_filter.mpr ⟨List.mem_append_left _ (List.mem_map.mpr ⟨q, h, rfl⟩), g⟩
theorem zVT_ok : ∀ q ∈ zVT, Cond.methodLink (zR q.1) q.2.1 (zY q.2.2.2.1) ∈ zGL ∧ Cond.instanceMethod (zY q.2.2.2.1) ∈ zGL ∧ Cond.selects (zR q.2.2.1) (zY q.2.2.2.1) (zY q.2.2.2.1) ∈ zGL := by
  unfold zVT
  refine List.forall_mem_cons.mpr ⟨⟨zg3 182 (by decide +kernel) (by decide +kernel), zg3 183 (by decide +kernel) (by decide +kernel), zg3 184 (by decide +kernel) (by decide +kernel)⟩, ?_⟩
  refine List.forall_mem_cons.mpr ⟨⟨zg2 39 (by decide +kernel) (by decide +kernel), zg2 41 (by decide +kernel) (by decide +kernel), zsel_of (q := (zY 50, 10)) (by decide +kernel) (by decide +kernel)⟩, ?_⟩
  refine List.forall_mem_cons.mpr ⟨⟨zg2 91 (by decide +kernel) (by decide +kernel), zg2 93 (by decide +kernel) (by decide +kernel), zsel_of (q := (zY 39, 10)) (by decide +kernel) (by decide +kernel)⟩, ?_⟩
  refine List.forall_mem_cons.mpr ⟨⟨zg2 95 (by decide +kernel) (by decide +kernel), zg2 97 (by decide +kernel) (by decide +kernel), zsel_of (q := (zY 47, 10)) (by decide +kernel) (by decide +kernel)⟩, ?_⟩
  refine List.forall_mem_cons.mpr ⟨⟨zg2 107 (by decide +kernel) (by decide +kernel), zg2 109 (by decide +kernel) (by decide +kernel), zsel_of (q := (zY 40, 10)) (by decide +kernel) (by decide +kernel)⟩, ?_⟩
  refine List.forall_mem_cons.mpr ⟨⟨zg2 111 (by decide +kernel) (by decide +kernel), zg2 113 (by decide +kernel) (by decide +kernel), zsel_of (q := (zY 41, 10)) (by decide +kernel) (by decide +kernel)⟩, ?_⟩
  refine List.forall_mem_cons.mpr ⟨⟨zg2 99 (by decide +kernel) (by decide +kernel), zg2 101 (by decide +kernel) (by decide +kernel), zsel_of (q := (zY 49, 10)) (by decide +kernel) (by decide +kernel)⟩, ?_⟩
  refine List.forall_mem_cons.mpr ⟨⟨zg2 123 (by decide +kernel) (by decide +kernel), zg2 124 (by decide +kernel) (by decide +kernel), zg2 125 (by decide +kernel) (by decide +kernel)⟩, ?_⟩
  refine List.forall_mem_cons.mpr ⟨⟨zg2 115 (by decide +kernel) (by decide +kernel), zg2 117 (by decide +kernel) (by decide +kernel), zsel_of (q := (zY 42, 10)) (by decide +kernel) (by decide +kernel)⟩, ?_⟩
  refine List.forall_mem_cons.mpr ⟨⟨zg2 119 (by decide +kernel) (by decide +kernel), zg2 121 (by decide +kernel) (by decide +kernel), zsel_of (q := (zY 46, 10)) (by decide +kernel) (by decide +kernel)⟩, ?_⟩
  refine List.forall_mem_cons.mpr ⟨⟨zg2 127 (by decide +kernel) (by decide +kernel), zg2 129 (by decide +kernel) (by decide +kernel), zsel_of (q := (zY 43, 10)) (by decide +kernel) (by decide +kernel)⟩, ?_⟩
  refine List.forall_mem_cons.mpr ⟨⟨zg2 131 (by decide +kernel) (by decide +kernel), zg2 133 (by decide +kernel) (by decide +kernel), zsel_of (q := (zY 44, 10)) (by decide +kernel) (by decide +kernel)⟩, ?_⟩
  refine List.forall_mem_cons.mpr ⟨⟨zg2 135 (by decide +kernel) (by decide +kernel), zg2 137 (by decide +kernel) (by decide +kernel), zsel_of (q := (zY 45, 10)) (by decide +kernel) (by decide +kernel)⟩, ?_⟩
  refine List.forall_mem_cons.mpr ⟨⟨zg2 103 (by decide +kernel) (by decide +kernel), zg2 105 (by decide +kernel) (by decide +kernel), zsel_of (q := (zY 48, 10)) (by decide +kernel) (by decide +kernel)⟩, ?_⟩
  refine List.forall_mem_cons.mpr ⟨⟨zg2 43 (by decide +kernel) (by decide +kernel), zg2 45 (by decide +kernel) (by decide +kernel), zsel_of (q := (zY 52, 10)) (by decide +kernel) (by decide +kernel)⟩, ?_⟩
  refine List.forall_mem_cons.mpr ⟨⟨zg2 77 (by decide +kernel) (by decide +kernel), zg2 79 (by decide +kernel) (by decide +kernel), zsel_of (q := (zY 51, 10)) (by decide +kernel) (by decide +kernel)⟩, ?_⟩
  refine List.forall_mem_cons.mpr ⟨⟨zg2 47 (by decide +kernel) (by decide +kernel), zg2 49 (by decide +kernel) (by decide +kernel), zsel_of (q := (zY 53, 10)) (by decide +kernel) (by decide +kernel)⟩, ?_⟩
  refine List.forall_mem_cons.mpr ⟨⟨zg2 81 (by decide +kernel) (by decide +kernel), zg2 83 (by decide +kernel) (by decide +kernel), zsel_of (q := (zY 54, 10)) (by decide +kernel) (by decide +kernel)⟩, ?_⟩
  refine List.forall_mem_cons.mpr ⟨⟨zg2 51 (by decide +kernel) (by decide +kernel), zg2 53 (by decide +kernel) (by decide +kernel), zsel_of (q := (zY 56, 10)) (by decide +kernel) (by decide +kernel)⟩, ?_⟩
  refine List.forall_mem_cons.mpr ⟨⟨zg2 67 (by decide +kernel) (by decide +kernel), zg2 69 (by decide +kernel) (by decide +kernel), zsel_of (q := (zY 57, 10)) (by decide +kernel) (by decide +kernel)⟩, ?_⟩
  refine List.forall_mem_cons.mpr ⟨⟨zg2 56 (by decide +kernel) (by decide +kernel), zg2 58 (by decide +kernel) (by decide +kernel), zsel_of (q := (zY 58, 10)) (by decide +kernel) (by decide +kernel)⟩, ?_⟩
  refine List.forall_mem_cons.mpr ⟨⟨zg2 31 (by decide +kernel) (by decide +kernel), zg2 32 (by decide +kernel) (by decide +kernel), zg2 33 (by decide +kernel) (by decide +kernel)⟩, ?_⟩
  refine List.forall_mem_cons.mpr ⟨⟨zg2 35 (by decide +kernel) (by decide +kernel), zg2 36 (by decide +kernel) (by decide +kernel), zg2 37 (by decide +kernel) (by decide +kernel)⟩, ?_⟩
  refine List.forall_mem_cons.mpr ⟨⟨zg2 184 (by decide +kernel) (by decide +kernel), zg2 185 (by decide +kernel) (by decide +kernel), zg2 186 (by decide +kernel) (by decide +kernel)⟩, ?_⟩
  refine List.forall_mem_cons.mpr ⟨⟨zg2 191 (by decide +kernel) (by decide +kernel), zg2 192 (by decide +kernel) (by decide +kernel), zg2 193 (by decide +kernel) (by decide +kernel)⟩, ?_⟩
  refine List.forall_mem_cons.mpr ⟨⟨zg2 195 (by decide +kernel) (by decide +kernel), zg2 196 (by decide +kernel) (by decide +kernel), zg2 197 (by decide +kernel) (by decide +kernel)⟩, ?_⟩
  refine List.forall_mem_cons.mpr ⟨⟨zg2 218 (by decide +kernel) (by decide +kernel), zg2 220 (by decide +kernel) (by decide +kernel), zsel_of (q := (zY 94, 13)) (by decide +kernel) (by decide +kernel)⟩, ?_⟩
  refine List.forall_mem_cons.mpr ⟨⟨zg2 226 (by decide +kernel) (by decide +kernel), zg2 228 (by decide +kernel) (by decide +kernel), zsel_of (q := (zY 93, 13)) (by decide +kernel) (by decide +kernel)⟩, ?_⟩
  refine List.forall_mem_cons.mpr ⟨⟨zg3 72 (by decide +kernel) (by decide +kernel), zg3 74 (by decide +kernel) (by decide +kernel), zsel_of (q := (zY 95, 13)) (by decide +kernel) (by decide +kernel)⟩, ?_⟩
  refine List.forall_mem_cons.mpr ⟨⟨zg3 99 (by decide +kernel) (by decide +kernel), zg3 101 (by decide +kernel) (by decide +kernel), zsel_of (q := (zY 96, 13)) (by decide +kernel) (by decide +kernel)⟩, ?_⟩
  refine List.forall_mem_cons.mpr ⟨⟨zg3 141 (by decide +kernel) (by decide +kernel), zg3 142 (by decide +kernel) (by decide +kernel), zg3 143 (by decide +kernel) (by decide +kernel)⟩, ?_⟩
  refine List.forall_mem_cons.mpr ⟨⟨zg3 145 (by decide +kernel) (by decide +kernel), zg3 147 (by decide +kernel) (by decide +kernel), zsel_of (q := (zY 98, 13)) (by decide +kernel) (by decide +kernel)⟩, ?_⟩
  refine List.forall_mem_cons.mpr ⟨⟨zg3 157 (by decide +kernel) (by decide +kernel), zg3 159 (by decide +kernel) (by decide +kernel), zsel_of (q := (zY 99, 13)) (by decide +kernel) (by decide +kernel)⟩, ?_⟩
  refine List.forall_mem_cons.mpr ⟨⟨zg3 174 (by decide +kernel) (by decide +kernel), zg3 176 (by decide +kernel) (by decide +kernel), zsel_of (q := (zY 91, 13)) (by decide +kernel) (by decide +kernel)⟩, ?_⟩
  refine List.forall_mem_cons.mpr ⟨⟨zg3 178 (by decide +kernel) (by decide +kernel), zg3 179 (by decide +kernel) (by decide +kernel), zg3 180 (by decide +kernel) (by decide +kernel)⟩, ?_⟩
  refine List.forall_mem_cons.mpr ⟨⟨zg2 222 (by decide +kernel) (by decide +kernel), zg2 224 (by decide +kernel) (by decide +kernel), zsel_of (q := (zY 92, 13)) (by decide +kernel) (by decide +kernel)⟩, ?_⟩
  refine List.forall_mem_cons.mpr ⟨⟨zg2 230 (by decide +kernel) (by decide +kernel), zg2 232 (by decide +kernel) (by decide +kernel), zsel_of (q := (zY 87, 13)) (by decide +kernel) (by decide +kernel)⟩, ?_⟩
  refine List.forall_mem_cons.mpr ⟨⟨zg2 234 (by decide +kernel) (by decide +kernel), zg2 235 (by decide +kernel) (by decide +kernel), zg2 236 (by decide +kernel) (by decide +kernel)⟩, ?_⟩
  refine List.forall_mem_cons.mpr ⟨⟨zg3 20 (by decide +kernel) (by decide +kernel), zg3 21 (by decide +kernel) (by decide +kernel), zg3 22 (by decide +kernel) (by decide +kernel)⟩, ?_⟩
  refine List.forall_mem_cons.mpr ⟨⟨zg3 43 (by decide +kernel) (by decide +kernel), zg3 44 (by decide +kernel) (by decide +kernel), zg3 45 (by decide +kernel) (by decide +kernel)⟩, ?_⟩
  refine List.forall_mem_cons.mpr ⟨⟨zg3 76 (by decide +kernel) (by decide +kernel), zg3 77 (by decide +kernel) (by decide +kernel), zg3 78 (by decide +kernel) (by decide +kernel)⟩, ?_⟩
  refine List.forall_mem_cons.mpr ⟨⟨zg3 103 (by decide +kernel) (by decide +kernel), zg3 104 (by decide +kernel) (by decide +kernel), zg3 105 (by decide +kernel) (by decide +kernel)⟩, ?_⟩
  refine List.forall_mem_cons.mpr ⟨⟨zg3 161 (by decide +kernel) (by decide +kernel), zg3 162 (by decide +kernel) (by decide +kernel), zg3 163 (by decide +kernel) (by decide +kernel)⟩, ?_⟩
  refine List.forall_mem_cons.mpr ⟨⟨zg3 165 (by decide +kernel) (by decide +kernel), zg3 167 (by decide +kernel) (by decide +kernel), zsel_of (q := (zY 100, 13)) (by decide +kernel) (by decide +kernel)⟩, ?_⟩
  refine List.forall_mem_cons.mpr ⟨⟨zg3 190 (by decide +kernel) (by decide +kernel), zg3 192 (by decide +kernel) (by decide +kernel), zsel_of (q := (zY 97, 13)) (by decide +kernel) (by decide +kernel)⟩, ?_⟩
  refine List.forall_mem_cons.mpr ⟨⟨zg3 198 (by decide +kernel) (by decide +kernel), zg3 200 (by decide +kernel) (by decide +kernel), zsel_of (q := (zY 106, 13)) (by decide +kernel) (by decide +kernel)⟩, ?_⟩
  refine List.forall_mem_cons.mpr ⟨⟨zg3 206 (by decide +kernel) (by decide +kernel), zg3 208 (by decide +kernel) (by decide +kernel), zsel_of (q := (zY 108, 13)) (by decide +kernel) (by decide +kernel)⟩, ?_⟩
  refine List.forall_mem_cons.mpr ⟨⟨zg3 229 (by decide +kernel) (by decide +kernel), zg3 231 (by decide +kernel) (by decide +kernel), zsel_of (q := (zY 116, 13)) (by decide +kernel) (by decide +kernel)⟩, ?_⟩
  refine List.forall_mem_cons.mpr ⟨⟨zg3 233 (by decide +kernel) (by decide +kernel), zg3 235 (by decide +kernel) (by decide +kernel), zsel_of (q := (zY 114, 13)) (by decide +kernel) (by decide +kernel)⟩, ?_⟩
  refine List.forall_mem_cons.mpr ⟨⟨zg3 237 (by decide +kernel) (by decide +kernel), zg3 239 (by decide +kernel) (by decide +kernel), zsel_of (q := (zY 115, 13)) (by decide +kernel) (by decide +kernel)⟩, ?_⟩
  refine List.forall_mem_cons.mpr ⟨⟨zg4 5 (by decide +kernel) (by decide +kernel), zg4 6 (by decide +kernel) (by decide +kernel), zg4 7 (by decide +kernel) (by decide +kernel)⟩, ?_⟩
  refine List.forall_mem_cons.mpr ⟨⟨zg4 10 (by decide +kernel) (by decide +kernel), zg4 11 (by decide +kernel) (by decide +kernel), zg4 12 (by decide +kernel) (by decide +kernel)⟩, ?_⟩
  refine List.forall_mem_cons.mpr ⟨⟨zg4 18 (by decide +kernel) (by decide +kernel), zg4 20 (by decide +kernel) (by decide +kernel), zsel_of (q := (zY 120, 13)) (by decide +kernel) (by decide +kernel)⟩, ?_⟩
  refine List.forall_mem_cons.mpr ⟨⟨zg4 47 (by decide +kernel) (by decide +kernel), zg4 48 (by decide +kernel) (by decide +kernel), zg4 49 (by decide +kernel) (by decide +kernel)⟩, ?_⟩
  refine List.forall_mem_cons.mpr ⟨⟨zg4 62 (by decide +kernel) (by decide +kernel), zg2 200 (by decide +kernel) (by decide +kernel), zg2 201 (by decide +kernel) (by decide +kernel)⟩, ?_⟩
  refine List.forall_mem_cons.mpr ⟨⟨zg4 67 (by decide +kernel) (by decide +kernel), zg4 68 (by decide +kernel) (by decide +kernel), zg4 69 (by decide +kernel) (by decide +kernel)⟩, ?_⟩
  refine List.forall_mem_cons.mpr ⟨⟨zg4 98 (by decide +kernel) (by decide +kernel), zg4 100 (by decide +kernel) (by decide +kernel), zsel_of (q := (zY 133, 45)) (by decide +kernel) (by decide +kernel)⟩, ?_⟩
  refine List.forall_mem_cons.mpr ⟨⟨zg5 10 (by decide +kernel) (by decide +kernel), zg5 12 (by decide +kernel) (by decide +kernel), zsel_of (q := (zY 134, 45)) (by decide +kernel) (by decide +kernel)⟩, ?_⟩
  refine List.forall_mem_cons.mpr ⟨⟨zg5 6 (by decide +kernel) (by decide +kernel), zg5 8 (by decide +kernel) (by decide +kernel), zsel_of (q := (zY 135, 45)) (by decide +kernel) (by decide +kernel)⟩, ?_⟩
  refine List.forall_mem_cons.mpr ⟨⟨zg5 17 (by decide +kernel) (by decide +kernel), zg5 18 (by decide +kernel) (by decide +kernel), zg5 19 (by decide +kernel) (by decide +kernel)⟩, ?_⟩
  refine List.forall_mem_cons.mpr ⟨⟨zg5 22 (by decide +kernel) (by decide +kernel), zg5 24 (by decide +kernel) (by decide +kernel), zsel_of (q := (zY 138, 45)) (by decide +kernel) (by decide +kernel)⟩, ?_⟩
  refine List.forall_mem_cons.mpr ⟨⟨zg5 56 (by decide +kernel) (by decide +kernel), zg5 58 (by decide +kernel) (by decide +kernel), zsel_of (q := (zY 143, 45)) (by decide +kernel) (by decide +kernel)⟩, ?_⟩
  refine List.forall_mem_cons.mpr ⟨⟨zg5 69 (by decide +kernel) (by decide +kernel), zg5 71 (by decide +kernel) (by decide +kernel), zsel_of (q := (zY 146, 45)) (by decide +kernel) (by decide +kernel)⟩, ?_⟩
  refine List.forall_mem_cons.mpr ⟨⟨zg5 77 (by decide +kernel) (by decide +kernel), zg5 79 (by decide +kernel) (by decide +kernel), zsel_of (q := (zY 145, 45)) (by decide +kernel) (by decide +kernel)⟩, ?_⟩
  refine List.forall_mem_cons.mpr ⟨⟨zg5 52 (by decide +kernel) (by decide +kernel), zg5 54 (by decide +kernel) (by decide +kernel), zsel_of (q := (zY 144, 45)) (by decide +kernel) (by decide +kernel)⟩, ?_⟩
  refine List.forall_mem_cons.mpr ⟨⟨zg5 65 (by decide +kernel) (by decide +kernel), zg5 67 (by decide +kernel) (by decide +kernel), zsel_of (q := (zY 147, 45)) (by decide +kernel) (by decide +kernel)⟩, ?_⟩
  refine List.forall_mem_cons.mpr ⟨⟨zg5 109 (by decide +kernel) (by decide +kernel), zg5 111 (by decide +kernel) (by decide +kernel), zsel_of (q := (zY 148, 45)) (by decide +kernel) (by decide +kernel)⟩, ?_⟩
  refine List.forall_mem_cons.mpr ⟨⟨zg5 93 (by decide +kernel) (by decide +kernel), zg5 95 (by decide +kernel) (by decide +kernel), zsel_of (q := (zY 149, 45)) (by decide +kernel) (by decide +kernel)⟩, ?_⟩
  refine List.forall_mem_cons.mpr ⟨⟨zg5 105 (by decide +kernel) (by decide +kernel), zg5 107 (by decide +kernel) (by decide +kernel), zsel_of (q := (zY 151, 45)) (by decide +kernel) (by decide +kernel)⟩, ?_⟩
  refine List.forall_mem_cons.mpr ⟨⟨zg5 81 (by decide +kernel) (by decide +kernel), zg5 83 (by decide +kernel) (by decide +kernel), zsel_of (q := (zY 156, 45)) (by decide +kernel) (by decide +kernel)⟩, ?_⟩
  refine List.forall_mem_cons.mpr ⟨⟨zg5 113 (by decide +kernel) (by decide +kernel), zg5 115 (by decide +kernel) (by decide +kernel), zsel_of (q := (zY 150, 45)) (by decide +kernel) (by decide +kernel)⟩, ?_⟩
  refine List.forall_mem_cons.mpr ⟨⟨zg5 101 (by decide +kernel) (by decide +kernel), zg5 103 (by decide +kernel) (by decide +kernel), zsel_of (q := (zY 152, 45)) (by decide +kernel) (by decide +kernel)⟩, ?_⟩
  refine List.forall_mem_cons.mpr ⟨⟨zg5 89 (by decide +kernel) (by decide +kernel), zg5 91 (by decide +kernel) (by decide +kernel), zsel_of (q := (zY 154, 45)) (by decide +kernel) (by decide +kernel)⟩, ?_⟩
  refine List.forall_mem_cons.mpr ⟨⟨zg5 97 (by decide +kernel) (by decide +kernel), zg5 99 (by decide +kernel) (by decide +kernel), zsel_of (q := (zY 153, 45)) (by decide +kernel) (by decide +kernel)⟩, ?_⟩
  refine List.forall_mem_cons.mpr ⟨⟨zg5 85 (by decide +kernel) (by decide +kernel), zg5 87 (by decide +kernel) (by decide +kernel), zsel_of (q := (zY 155, 45)) (by decide +kernel) (by decide +kernel)⟩, ?_⟩
  refine List.forall_mem_cons.mpr ⟨⟨zg5 73 (by decide +kernel) (by decide +kernel), zg5 75 (by decide +kernel) (by decide +kernel), zsel_of (q := (zY 157, 45)) (by decide +kernel) (by decide +kernel)⟩, ?_⟩
  refine List.forall_mem_cons.mpr ⟨⟨zg5 48 (by decide +kernel) (by decide +kernel), zg5 50 (by decide +kernel) (by decide +kernel), zsel_of (q := (zY 158, 45)) (by decide +kernel) (by decide +kernel)⟩, ?_⟩
  refine List.forall_mem_cons.mpr ⟨⟨zg5 132 (by decide +kernel) (by decide +kernel), zg5 134 (by decide +kernel) (by decide +kernel), zsel_of (q := (zY 162, 45)) (by decide +kernel) (by decide +kernel)⟩, ?_⟩
  refine List.forall_mem_cons.mpr ⟨⟨zg5 140 (by decide +kernel) (by decide +kernel), zg5 142 (by decide +kernel) (by decide +kernel), zsel_of (q := (zY 163, 45)) (by decide +kernel) (by decide +kernel)⟩, ?_⟩
  refine List.forall_mem_cons.mpr ⟨⟨zg5 136 (by decide +kernel) (by decide +kernel), zg5 138 (by decide +kernel) (by decide +kernel), zsel_of (q := (zY 164, 45)) (by decide +kernel) (by decide +kernel)⟩, ?_⟩
  refine List.forall_mem_cons.mpr ⟨⟨zg5 128 (by decide +kernel) (by decide +kernel), zg5 130 (by decide +kernel) (by decide +kernel), zsel_of (q := (zY 165, 45)) (by decide +kernel) (by decide +kernel)⟩, ?_⟩
  refine List.forall_mem_cons.mpr ⟨⟨zg5 150 (by decide +kernel) (by decide +kernel), zg5 152 (by decide +kernel) (by decide +kernel), zsel_of (q := (zY 166, 45)) (by decide +kernel) (by decide +kernel)⟩, ?_⟩
  refine List.forall_mem_cons.mpr ⟨⟨zg5 154 (by decide +kernel) (by decide +kernel), zg5 156 (by decide +kernel) (by decide +kernel), zsel_of (q := (zY 167, 45)) (by decide +kernel) (by decide +kernel)⟩, ?_⟩
  refine List.forall_mem_cons.mpr ⟨⟨zg5 176 (by decide +kernel) (by decide +kernel), zg5 178 (by decide +kernel) (by decide +kernel), zsel_of (q := (zY 172, 45)) (by decide +kernel) (by decide +kernel)⟩, ?_⟩
  refine List.forall_mem_cons.mpr ⟨⟨zg5 172 (by decide +kernel) (by decide +kernel), zg5 174 (by decide +kernel) (by decide +kernel), zsel_of (q := (zY 173, 45)) (by decide +kernel) (by decide +kernel)⟩, ?_⟩
  refine List.forall_mem_cons.mpr ⟨⟨zg5 187 (by decide +kernel) (by decide +kernel), zg5 189 (by decide +kernel) (by decide +kernel), zsel_of (q := (zY 175, 45)) (by decide +kernel) (by decide +kernel)⟩, ?_⟩
  refine List.forall_mem_cons.mpr ⟨⟨zg5 191 (by decide +kernel) (by decide +kernel), zg5 193 (by decide +kernel) (by decide +kernel), zsel_of (q := (zY 176, 45)) (by decide +kernel) (by decide +kernel)⟩, ?_⟩
  refine List.forall_mem_cons.mpr ⟨⟨zg5 199 (by decide +kernel) (by decide +kernel), zg5 201 (by decide +kernel) (by decide +kernel), zsel_of (q := (zY 169, 45)) (by decide +kernel) (by decide +kernel)⟩, ?_⟩
  refine List.forall_mem_cons.mpr ⟨⟨zg5 207 (by decide +kernel) (by decide +kernel), zg5 209 (by decide +kernel) (by decide +kernel), zsel_of (q := (zY 179, 45)) (by decide +kernel) (by decide +kernel)⟩, ?_⟩
  refine List.forall_mem_cons.mpr ⟨⟨zg5 231 (by decide +kernel) (by decide +kernel), zg5 233 (by decide +kernel) (by decide +kernel), zsel_of (q := (zY 185, 45)) (by decide +kernel) (by decide +kernel)⟩, ?_⟩
  refine List.forall_mem_cons.mpr ⟨⟨zg5 235 (by decide +kernel) (by decide +kernel), zg5 237 (by decide +kernel) (by decide +kernel), zsel_of (q := (zY 186, 45)) (by decide +kernel) (by decide +kernel)⟩, ?_⟩
  refine List.forall_mem_cons.mpr ⟨⟨zg6 3 (by decide +kernel) (by decide +kernel), zg6 4 (by decide +kernel) (by decide +kernel), zg6 5 (by decide +kernel) (by decide +kernel)⟩, ?_⟩
  refine List.forall_mem_cons.mpr ⟨⟨zg6 14 (by decide +kernel) (by decide +kernel), zg6 16 (by decide +kernel) (by decide +kernel), zsel_of (q := (zY 189, 45)) (by decide +kernel) (by decide +kernel)⟩, ?_⟩
  refine List.forall_mem_cons.mpr ⟨⟨zg6 48 (by decide +kernel) (by decide +kernel), zg5 27 (by decide +kernel) (by decide +kernel), zg5 28 (by decide +kernel) (by decide +kernel)⟩, ?_⟩
  refine List.forall_mem_cons.mpr ⟨⟨zg2 180 (by decide +kernel) (by decide +kernel), zg2 181 (by decide +kernel) (by decide +kernel), zg2 182 (by decide +kernel) (by decide +kernel)⟩, ?_⟩
  refine List.forall_mem_cons.mpr ⟨⟨zg4 238 (by decide +kernel) (by decide +kernel), zg4 239 (by decide +kernel) (by decide +kernel), zg5 0 (by decide +kernel) (by decide +kernel)⟩, ?_⟩
  refine List.forall_mem_cons.mpr ⟨⟨zg2 199 (by decide +kernel) (by decide +kernel), zg2 200 (by decide +kernel) (by decide +kernel), zg2 201 (by decide +kernel) (by decide +kernel)⟩, ?_⟩
  refine List.forall_mem_cons.mpr ⟨⟨zg5 26 (by decide +kernel) (by decide +kernel), zg5 27 (by decide +kernel) (by decide +kernel), zg5 28 (by decide +kernel) (by decide +kernel)⟩, ?_⟩
  refine List.forall_mem_cons.mpr ⟨⟨zg2 206 (by decide +kernel) (by decide +kernel), zg2 207 (by decide +kernel) (by decide +kernel), zg2 208 (by decide +kernel) (by decide +kernel)⟩, ?_⟩
  refine List.forall_mem_cons.mpr ⟨⟨zg5 34 (by decide +kernel) (by decide +kernel), zg5 18 (by decide +kernel) (by decide +kernel), zg5 19 (by decide +kernel) (by decide +kernel)⟩, ?_⟩
  refine List.forall_mem_cons.mpr ⟨⟨zg2 210 (by decide +kernel) (by decide +kernel), zg2 211 (by decide +kernel) (by decide +kernel), zg2 212 (by decide +kernel) (by decide +kernel)⟩, ?_⟩
  refine List.forall_mem_cons.mpr ⟨⟨zg5 35 (by decide +kernel) (by decide +kernel), zg5 36 (by decide +kernel) (by decide +kernel), zg5 37 (by decide +kernel) (by decide +kernel)⟩, ?_⟩
  refine List.forall_mem_cons.mpr ⟨⟨zg2 214 (by decide +kernel) (by decide +kernel), zg2 215 (by decide +kernel) (by decide +kernel), zg2 216 (by decide +kernel) (by decide +kernel)⟩, ?_⟩
  refine List.forall_mem_cons.mpr ⟨⟨zg5 123 (by decide +kernel) (by decide +kernel), zg5 124 (by decide +kernel) (by decide +kernel), zg5 125 (by decide +kernel) (by decide +kernel)⟩, ?_⟩
  refine List.forall_mem_cons.mpr ⟨⟨zg3 122 (by decide +kernel) (by decide +kernel), zg3 123 (by decide +kernel) (by decide +kernel), zg3 124 (by decide +kernel) (by decide +kernel)⟩, ?_⟩
  refine List.forall_mem_cons.mpr ⟨⟨zg5 39 (by decide +kernel) (by decide +kernel), zg5 40 (by decide +kernel) (by decide +kernel), zg5 41 (by decide +kernel) (by decide +kernel)⟩, ?_⟩
  refine List.forall_mem_cons.mpr ⟨⟨zg3 126 (by decide +kernel) (by decide +kernel), zg3 127 (by decide +kernel) (by decide +kernel), zg3 128 (by decide +kernel) (by decide +kernel)⟩, ?_⟩
  refine List.forall_mem_cons.mpr ⟨⟨zg5 44 (by decide +kernel) (by decide +kernel), zg5 45 (by decide +kernel) (by decide +kernel), zg5 46 (by decide +kernel) (by decide +kernel)⟩, ?_⟩
  refine List.forall_mem_cons.mpr ⟨⟨zg3 130 (by decide +kernel) (by decide +kernel), zg3 131 (by decide +kernel) (by decide +kernel), zg3 132 (by decide +kernel) (by decide +kernel)⟩, ?_⟩
  refine List.forall_mem_cons.mpr ⟨⟨zg5 119 (by decide +kernel) (by decide +kernel), zg5 120 (by decide +kernel) (by decide +kernel), zg5 121 (by decide +kernel) (by decide +kernel)⟩, ?_⟩
  refine List.forall_mem_cons.mpr ⟨⟨zg3 134 (by decide +kernel) (by decide +kernel), zg3 135 (by decide +kernel) (by decide +kernel), zg3 136 (by decide +kernel) (by decide +kernel)⟩, ?_⟩
  refine List.forall_mem_cons.mpr ⟨⟨zg5 158 (by decide +kernel) (by decide +kernel), zg5 159 (by decide +kernel) (by decide +kernel), zg5 160 (by decide +kernel) (by decide +kernel)⟩, ?_⟩
  refine List.forall_mem_cons.mpr ⟨⟨zg3 153 (by decide +kernel) (by decide +kernel), zg3 154 (by decide +kernel) (by decide +kernel), zg3 155 (by decide +kernel) (by decide +kernel)⟩, ?_⟩
  refine List.forall_mem_cons.mpr ⟨⟨zg5 168 (by decide +kernel) (by decide +kernel), zg5 169 (by decide +kernel) (by decide +kernel), zg5 170 (by decide +kernel) (by decide +kernel)⟩, ?_⟩
  refine List.forall_mem_cons.mpr ⟨⟨zg3 170 (by decide +kernel) (by decide +kernel), zg3 171 (by decide +kernel) (by decide +kernel), zg3 172 (by decide +kernel) (by decide +kernel)⟩, ?_⟩
  refine List.forall_mem_cons.mpr ⟨⟨zg5 180 (by decide +kernel) (by decide +kernel), zg5 181 (by decide +kernel) (by decide +kernel), zg5 182 (by decide +kernel) (by decide +kernel)⟩, ?_⟩
  refine List.forall_mem_cons.mpr ⟨⟨zg3 186 (by decide +kernel) (by decide +kernel), zg3 187 (by decide +kernel) (by decide +kernel), zg3 188 (by decide +kernel) (by decide +kernel)⟩, ?_⟩
  refine List.forall_mem_cons.mpr ⟨⟨zg5 195 (by decide +kernel) (by decide +kernel), zg5 196 (by decide +kernel) (by decide +kernel), zg5 197 (by decide +kernel) (by decide +kernel)⟩, ?_⟩
  refine List.forall_mem_cons.mpr ⟨⟨zg3 194 (by decide +kernel) (by decide +kernel), zg3 195 (by decide +kernel) (by decide +kernel), zg3 196 (by decide +kernel) (by decide +kernel)⟩, ?_⟩
  refine List.forall_mem_cons.mpr ⟨⟨zg5 203 (by decide +kernel) (by decide +kernel), zg5 204 (by decide +kernel) (by decide +kernel), zg5 205 (by decide +kernel) (by decide +kernel)⟩, ?_⟩
  refine List.forall_mem_cons.mpr ⟨⟨zg3 202 (by decide +kernel) (by decide +kernel), zg3 203 (by decide +kernel) (by decide +kernel), zg3 204 (by decide +kernel) (by decide +kernel)⟩, ?_⟩
  refine List.forall_mem_cons.mpr ⟨⟨zg5 211 (by decide +kernel) (by decide +kernel), zg5 212 (by decide +kernel) (by decide +kernel), zg5 213 (by decide +kernel) (by decide +kernel)⟩, ?_⟩
  refine List.forall_mem_cons.mpr ⟨⟨zg3 210 (by decide +kernel) (by decide +kernel), zg3 211 (by decide +kernel) (by decide +kernel), zg3 212 (by decide +kernel) (by decide +kernel)⟩, ?_⟩
  refine List.forall_mem_cons.mpr ⟨⟨zg5 215 (by decide +kernel) (by decide +kernel), zg5 216 (by decide +kernel) (by decide +kernel), zg5 217 (by decide +kernel) (by decide +kernel)⟩, ?_⟩
  refine List.forall_mem_cons.mpr ⟨⟨zg3 214 (by decide +kernel) (by decide +kernel), zg3 215 (by decide +kernel) (by decide +kernel), zg3 216 (by decide +kernel) (by decide +kernel)⟩, ?_⟩
  refine List.forall_mem_cons.mpr ⟨⟨zg5 219 (by decide +kernel) (by decide +kernel), zg5 220 (by decide +kernel) (by decide +kernel), zg5 221 (by decide +kernel) (by decide +kernel)⟩, ?_⟩
  refine List.forall_mem_cons.mpr ⟨⟨zg3 225 (by decide +kernel) (by decide +kernel), zg3 226 (by decide +kernel) (by decide +kernel), zg3 227 (by decide +kernel) (by decide +kernel)⟩, ?_⟩
  refine List.forall_mem_cons.mpr ⟨⟨zg5 227 (by decide +kernel) (by decide +kernel), zg5 228 (by decide +kernel) (by decide +kernel), zg5 229 (by decide +kernel) (by decide +kernel)⟩, ?_⟩
  refine List.forall_mem_cons.mpr ⟨⟨zg4 1 (by decide +kernel) (by decide +kernel), zg4 2 (by decide +kernel) (by decide +kernel), zg4 3 (by decide +kernel) (by decide +kernel)⟩, ?_⟩
  refine List.forall_mem_cons.mpr ⟨⟨zg5 239 (by decide +kernel) (by decide +kernel), zg6 0 (by decide +kernel) (by decide +kernel), zg6 1 (by decide +kernel) (by decide +kernel)⟩, ?_⟩
  refine List.forall_mem_cons.mpr ⟨⟨zg4 14 (by decide +kernel) (by decide +kernel), zg4 15 (by decide +kernel) (by decide +kernel), zg4 16 (by decide +kernel) (by decide +kernel)⟩, ?_⟩
  refine List.forall_mem_cons.mpr ⟨⟨zg6 9 (by decide +kernel) (by decide +kernel), zg6 10 (by decide +kernel) (by decide +kernel), zg6 11 (by decide +kernel) (by decide +kernel)⟩, ?_⟩
  refine List.forall_mem_cons.mpr ⟨⟨zg4 23 (by decide +kernel) (by decide +kernel), zg4 24 (by decide +kernel) (by decide +kernel), zg4 25 (by decide +kernel) (by decide +kernel)⟩, ?_⟩
  refine List.forall_mem_cons.mpr ⟨⟨zg6 19 (by decide +kernel) (by decide +kernel), zg6 20 (by decide +kernel) (by decide +kernel), zg6 21 (by decide +kernel) (by decide +kernel)⟩, ?_⟩
  refine List.forall_mem_cons.mpr ⟨⟨zg4 27 (by decide +kernel) (by decide +kernel), zg4 28 (by decide +kernel) (by decide +kernel), zg4 29 (by decide +kernel) (by decide +kernel)⟩, ?_⟩
  refine List.forall_mem_cons.mpr ⟨⟨zg6 23 (by decide +kernel) (by decide +kernel), zg6 24 (by decide +kernel) (by decide +kernel), zg6 25 (by decide +kernel) (by decide +kernel)⟩, ?_⟩
  refine List.forall_mem_cons.mpr ⟨⟨zg4 31 (by decide +kernel) (by decide +kernel), zg4 32 (by decide +kernel) (by decide +kernel), zg4 33 (by decide +kernel) (by decide +kernel)⟩, ?_⟩
  refine List.forall_mem_cons.mpr ⟨⟨zg6 27 (by decide +kernel) (by decide +kernel), zg6 28 (by decide +kernel) (by decide +kernel), zg6 29 (by decide +kernel) (by decide +kernel)⟩, ?_⟩
  refine List.forall_mem_cons.mpr ⟨⟨zg4 35 (by decide +kernel) (by decide +kernel), zg4 36 (by decide +kernel) (by decide +kernel), zg4 37 (by decide +kernel) (by decide +kernel)⟩, ?_⟩
  refine List.forall_mem_cons.mpr ⟨⟨zg6 31 (by decide +kernel) (by decide +kernel), zg6 32 (by decide +kernel) (by decide +kernel), zg6 33 (by decide +kernel) (by decide +kernel)⟩, ?_⟩
  refine List.forall_mem_cons.mpr ⟨⟨zg4 39 (by decide +kernel) (by decide +kernel), zg4 40 (by decide +kernel) (by decide +kernel), zg4 41 (by decide +kernel) (by decide +kernel)⟩, ?_⟩
  refine List.forall_mem_cons.mpr ⟨⟨zg6 35 (by decide +kernel) (by decide +kernel), zg6 4 (by decide +kernel) (by decide +kernel), zg6 5 (by decide +kernel) (by decide +kernel)⟩, ?_⟩
  refine List.forall_mem_cons.mpr ⟨⟨zg4 43 (by decide +kernel) (by decide +kernel), zg4 44 (by decide +kernel) (by decide +kernel), zg4 45 (by decide +kernel) (by decide +kernel)⟩, ?_⟩
  refine List.forall_mem_cons.mpr ⟨⟨zg6 36 (by decide +kernel) (by decide +kernel), zg6 37 (by decide +kernel) (by decide +kernel), zg6 38 (by decide +kernel) (by decide +kernel)⟩, ?_⟩
  refine List.forall_mem_cons.mpr ⟨⟨zg4 51 (by decide +kernel) (by decide +kernel), zg4 52 (by decide +kernel) (by decide +kernel), zg4 53 (by decide +kernel) (by decide +kernel)⟩, ?_⟩
  refine List.forall_mem_cons.mpr ⟨⟨zg6 40 (by decide +kernel) (by decide +kernel), zg6 41 (by decide +kernel) (by decide +kernel), zg6 42 (by decide +kernel) (by decide +kernel)⟩, ?_⟩
  refine List.forall_mem_cons.mpr ⟨⟨zg4 58 (by decide +kernel) (by decide +kernel), zg4 59 (by decide +kernel) (by decide +kernel), zg4 60 (by decide +kernel) (by decide +kernel)⟩, ?_⟩
  refine List.forall_mem_cons.mpr ⟨⟨zg6 44 (by decide +kernel) (by decide +kernel), zg6 45 (by decide +kernel) (by decide +kernel), zg6 46 (by decide +kernel) (by decide +kernel)⟩, ?_⟩
  refine List.forall_mem_cons.mpr ⟨⟨zg4 63 (by decide +kernel) (by decide +kernel), zg4 64 (by decide +kernel) (by decide +kernel), zg4 65 (by decide +kernel) (by decide +kernel)⟩, ?_⟩
  refine List.forall_mem_cons.mpr ⟨⟨zg6 49 (by decide +kernel) (by decide +kernel), zg6 50 (by decide +kernel) (by decide +kernel), zg6 51 (by decide +kernel) (by decide +kernel)⟩, ?_⟩
  exact List.forall_mem_nil _
theorem zWT_ok : ∀ q ∈ zWT, Cond.methodLink (zR q.1) q.2.1 (zY q.2.2.2.2.2) ∈ zGL ∧ Cond.sameMethod (zY q.2.2.2.2.2).cls (zY q.2.2.2.2.2).cls (zY q.2.2.2.2.2).name (zY q.2.2.2.2.2).desc ∈ zGL ∧ Cond.instanceMethod (zY q.2.2.2.2.2) ∈ zGL ∧ Cond.selects (zR q.2.2.1) (zY q.2.2.2.2.2) (zY q.2.2.2.1) ∈ zGL ∧ Cond.instanceMethod (zY q.2.2.2.1) ∈ zGL := by
  unfold zWT
  refine List.forall_mem_cons.mpr ⟨⟨zg3 20 (by decide +kernel) (by decide +kernel), zg3 23 (by decide +kernel) (by decide +kernel), zg3 21 (by decide +kernel) (by decide +kernel), zg3 24 (by decide +kernel) (by decide +kernel), zg3 25 (by decide +kernel) (by decide +kernel)⟩, ?_⟩
  refine List.forall_mem_cons.mpr ⟨⟨zg3 20 (by decide +kernel) (by decide +kernel), zg3 23 (by decide +kernel) (by decide +kernel), zg3 21 (by decide +kernel) (by decide +kernel), zg3 28 (by decide +kernel) (by decide +kernel), zg3 29 (by decide +kernel) (by decide +kernel)⟩, ?_⟩
  refine List.forall_mem_cons.mpr ⟨⟨zg3 20 (by decide +kernel) (by decide +kernel), zg3 23 (by decide +kernel) (by decide +kernel), zg3 21 (by decide +kernel) (by decide +kernel), zg3 32 (by decide +kernel) (by decide +kernel), zg3 29 (by decide +kernel) (by decide +kernel)⟩, ?_⟩
  refine List.forall_mem_cons.mpr ⟨⟨zg3 20 (by decide +kernel) (by decide +kernel), zg3 23 (by decide +kernel) (by decide +kernel), zg3 21 (by decide +kernel) (by decide +kernel), zg3 33 (by decide +kernel) (by decide +kernel), zg3 34 (by decide +kernel) (by decide +kernel)⟩, ?_⟩
  refine List.forall_mem_cons.mpr ⟨⟨zg3 20 (by decide +kernel) (by decide +kernel), zg3 23 (by decide +kernel) (by decide +kernel), zg3 21 (by decide +kernel) (by decide +kernel), zg3 37 (by decide +kernel) (by decide +kernel), zg3 38 (by decide +kernel) (by decide +kernel)⟩, ?_⟩
  refine List.forall_mem_cons.mpr ⟨⟨zg3 43 (by decide +kernel) (by decide +kernel), zg3 46 (by decide +kernel) (by decide +kernel), zg3 44 (by decide +kernel) (by decide +kernel), zg3 47 (by decide +kernel) (by decide +kernel), zg3 48 (by decide +kernel) (by decide +kernel)⟩, ?_⟩
  refine List.forall_mem_cons.mpr ⟨⟨zg3 43 (by decide +kernel) (by decide +kernel), zg3 46 (by decide +kernel) (by decide +kernel), zg3 44 (by decide +kernel) (by decide +kernel), zg3 51 (by decide +kernel) (by decide +kernel), zg3 52 (by decide +kernel) (by decide +kernel)⟩, ?_⟩
  refine List.forall_mem_cons.mpr ⟨⟨zg3 43 (by decide +kernel) (by decide +kernel), zg3 46 (by decide +kernel) (by decide +kernel), zg3 44 (by decide +kernel) (by decide +kernel), zg3 55 (by decide +kernel) (by decide +kernel), zg3 56 (by decide +kernel) (by decide +kernel)⟩, ?_⟩
  refine List.forall_mem_cons.mpr ⟨⟨zg3 43 (by decide +kernel) (by decide +kernel), zg3 46 (by decide +kernel) (by decide +kernel), zg3 44 (by decide +kernel) (by decide +kernel), zg3 59 (by decide +kernel) (by decide +kernel), zg3 60 (by decide +kernel) (by decide +kernel)⟩, ?_⟩
  refine List.forall_mem_cons.mpr ⟨⟨zg3 43 (by decide +kernel) (by decide +kernel), zg3 46 (by decide +kernel) (by decide +kernel), zg3 44 (by decide +kernel) (by decide +kernel), zg3 66 (by decide +kernel) (by decide +kernel), zg3 67 (by decide +kernel) (by decide +kernel)⟩, ?_⟩
  refine List.forall_mem_cons.mpr ⟨⟨zg3 76 (by decide +kernel) (by decide +kernel), zg3 79 (by decide +kernel) (by decide +kernel), zg3 77 (by decide +kernel) (by decide +kernel), zg3 80 (by decide +kernel) (by decide +kernel), zg3 81 (by decide +kernel) (by decide +kernel)⟩, ?_⟩
  refine List.forall_mem_cons.mpr ⟨⟨zg3 76 (by decide +kernel) (by decide +kernel), zg3 79 (by decide +kernel) (by decide +kernel), zg3 77 (by decide +kernel) (by decide +kernel), zg3 84 (by decide +kernel) (by decide +kernel), zg3 85 (by decide +kernel) (by decide +kernel)⟩, ?_⟩
  refine List.forall_mem_cons.mpr ⟨⟨zg3 76 (by decide +kernel) (by decide +kernel), zg3 79 (by decide +kernel) (by decide +kernel), zg3 77 (by decide +kernel) (by decide +kernel), zg3 87 (by decide +kernel) (by decide +kernel), zg3 88 (by decide +kernel) (by decide +kernel)⟩, ?_⟩
  refine List.forall_mem_cons.mpr ⟨⟨zg3 76 (by decide +kernel) (by decide +kernel), zg3 79 (by decide +kernel) (by decide +kernel), zg3 77 (by decide +kernel) (by decide +kernel), zg3 90 (by decide +kernel) (by decide +kernel), zg3 91 (by decide +kernel) (by decide +kernel)⟩, ?_⟩
  refine List.forall_mem_cons.mpr ⟨⟨zg3 76 (by decide +kernel) (by decide +kernel), zg3 79 (by decide +kernel) (by decide +kernel), zg3 77 (by decide +kernel) (by decide +kernel), zg3 94 (by decide +kernel) (by decide +kernel), zg3 95 (by decide +kernel) (by decide +kernel)⟩, ?_⟩
  refine List.forall_mem_cons.mpr ⟨⟨zg3 103 (by decide +kernel) (by decide +kernel), zg3 106 (by decide +kernel) (by decide +kernel), zg3 104 (by decide +kernel) (by decide +kernel), zg3 107 (by decide +kernel) (by decide +kernel), zg3 108 (by decide +kernel) (by decide +kernel)⟩, ?_⟩
  refine List.forall_mem_cons.mpr ⟨⟨zg3 103 (by decide +kernel) (by decide +kernel), zg3 106 (by decide +kernel) (by decide +kernel), zg3 104 (by decide +kernel) (by decide +kernel), zg3 111 (by decide +kernel) (by decide +kernel), zg3 112 (by decide +kernel) (by decide +kernel)⟩, ?_⟩
  refine List.forall_mem_cons.mpr ⟨⟨zg3 103 (by decide +kernel) (by decide +kernel), zg3 106 (by decide +kernel) (by decide +kernel), zg3 104 (by decide +kernel) (by decide +kernel), zg3 114 (by decide +kernel) (by decide +kernel), zg3 115 (by decide +kernel) (by decide +kernel)⟩, ?_⟩
  refine List.forall_mem_cons.mpr ⟨⟨zg3 103 (by decide +kernel) (by decide +kernel), zg3 106 (by decide +kernel) (by decide +kernel), zg3 104 (by decide +kernel) (by decide +kernel), zg3 117 (by decide +kernel) (by decide +kernel), zg3 108 (by decide +kernel) (by decide +kernel)⟩, ?_⟩
  refine List.forall_mem_cons.mpr ⟨⟨zg3 103 (by decide +kernel) (by decide +kernel), zg3 106 (by decide +kernel) (by decide +kernel), zg3 104 (by decide +kernel) (by decide +kernel), zg3 118 (by decide +kernel) (by decide +kernel), zg3 119 (by decide +kernel) (by decide +kernel)⟩, ?_⟩
  refine List.forall_mem_cons.mpr ⟨⟨zg4 67 (by decide +kernel) (by decide +kernel), zg4 70 (by decide +kernel) (by decide +kernel), zg4 68 (by decide +kernel) (by decide +kernel), zg4 71 (by decide +kernel) (by decide +kernel), zg4 72 (by decide +kernel) (by decide +kernel)⟩, ?_⟩
  refine List.forall_mem_cons.mpr ⟨⟨zg4 67 (by decide +kernel) (by decide +kernel), zg4 70 (by decide +kernel) (by decide +kernel), zg4 68 (by decide +kernel) (by decide +kernel), zg4 75 (by decide +kernel) (by decide +kernel), zg4 76 (by decide +kernel) (by decide +kernel)⟩, ?_⟩
  refine List.forall_mem_cons.mpr ⟨⟨zg4 67 (by decide +kernel) (by decide +kernel), zg4 70 (by decide +kernel) (by decide +kernel), zg4 68 (by decide +kernel) (by decide +kernel), zg4 79 (by decide +kernel) (by decide +kernel), zg4 80 (by decide +kernel) (by decide +kernel)⟩, ?_⟩
  refine List.forall_mem_cons.mpr ⟨⟨zg4 67 (by decide +kernel) (by decide +kernel), zg4 70 (by decide +kernel) (by decide +kernel), zg4 68 (by decide +kernel) (by decide +kernel), zg4 83 (by decide +kernel) (by decide +kernel), zg4 84 (by decide +kernel) (by decide +kernel)⟩, ?_⟩
  refine List.forall_mem_cons.mpr ⟨⟨zg4 67 (by decide +kernel) (by decide +kernel), zg4 70 (by decide +kernel) (by decide +kernel), zg4 68 (by decide +kernel) (by decide +kernel), zg4 87 (by decide +kernel) (by decide +kernel), zg4 88 (by decide +kernel) (by decide +kernel)⟩, ?_⟩
  exact List.forall_mem_nil _
theorem zCT_ok : ∀ q ∈ zCT, Cond.classLink (zR q.1) q.2.1 (zR q.2.2) ∈ zGL ∧ Cond.instantiable (zR q.2.2) (zNF q.2.2) ∈ zGL ∧ Cond.initialized (zR q.2.2) ∈ zGL := by
  unfold zCT
  refine List.forall_mem_cons.mpr ⟨⟨zg1 37 (by decide +kernel) (by decide +kernel), zg1 39 (by decide +kernel) (by decide +kernel), zg1 3 (by decide +kernel) (by decide +kernel)⟩, ?_⟩
  refine List.forall_mem_cons.mpr ⟨⟨zg1 31 (by decide +kernel) (by decide +kernel), zg1 32 (by decide +kernel) (by decide +kernel), zg1 2 (by decide +kernel) (by decide +kernel)⟩, ?_⟩
  refine List.forall_mem_cons.mpr ⟨⟨zg1 29 (by decide +kernel) (by decide +kernel), zg1 108 (by decide +kernel) (by decide +kernel), zg1 4 (by decide +kernel) (by decide +kernel)⟩, ?_⟩
  refine List.forall_mem_cons.mpr ⟨⟨zg1 114 (by decide +kernel) (by decide +kernel), zg1 115 (by decide +kernel) (by decide +kernel), zg1 5 (by decide +kernel) (by decide +kernel)⟩, ?_⟩
  refine List.forall_mem_cons.mpr ⟨⟨zg1 121 (by decide +kernel) (by decide +kernel), zg1 122 (by decide +kernel) (by decide +kernel), zg1 6 (by decide +kernel) (by decide +kernel)⟩, ?_⟩
  refine List.forall_mem_cons.mpr ⟨⟨zg1 128 (by decide +kernel) (by decide +kernel), zg1 129 (by decide +kernel) (by decide +kernel), zg1 7 (by decide +kernel) (by decide +kernel)⟩, ?_⟩
  refine List.forall_mem_cons.mpr ⟨⟨zg1 135 (by decide +kernel) (by decide +kernel), zg1 136 (by decide +kernel) (by decide +kernel), zg1 8 (by decide +kernel) (by decide +kernel)⟩, ?_⟩
  refine List.forall_mem_cons.mpr ⟨⟨zg1 142 (by decide +kernel) (by decide +kernel), zg1 143 (by decide +kernel) (by decide +kernel), zg1 9 (by decide +kernel) (by decide +kernel)⟩, ?_⟩
  refine List.forall_mem_cons.mpr ⟨⟨zg1 106 (by decide +kernel) (by decide +kernel), zg1 149 (by decide +kernel) (by decide +kernel), zg1 10 (by decide +kernel) (by decide +kernel)⟩, ?_⟩
  refine List.forall_mem_cons.mpr ⟨⟨zg1 104 (by decide +kernel) (by decide +kernel), zg1 167 (by decide +kernel) (by decide +kernel), zg1 11 (by decide +kernel) (by decide +kernel)⟩, ?_⟩
  refine List.forall_mem_cons.mpr ⟨⟨zg1 184 (by decide +kernel) (by decide +kernel), zg1 185 (by decide +kernel) (by decide +kernel), zg1 12 (by decide +kernel) (by decide +kernel)⟩, ?_⟩
  refine List.forall_mem_cons.mpr ⟨⟨zg1 21 (by decide +kernel) (by decide +kernel), zg1 22 (by decide +kernel) (by decide +kernel), zg1 1 (by decide +kernel) (by decide +kernel)⟩, ?_⟩
  refine List.forall_mem_cons.mpr ⟨⟨zg4 92 (by decide +kernel) (by decide +kernel), zg4 93 (by decide +kernel) (by decide +kernel), zg1 18 (by decide +kernel) (by decide +kernel)⟩, ?_⟩
  exact List.forall_mem_nil _
def zAc (t : Nat) : Nat := zgt 0 [0, 0, 5, 8, 9, 10] t
theorem zAT_ok : ∀ q ∈ zAT, Cond.classLink (zR q.1) q.2.1 (zR (zAc q.2.2)) ∈ zGL := by
  unfold zAT
  refine List.forall_mem_cons.mpr ⟨zg1 37 (by decide +kernel) (by decide +kernel), ?_⟩
  refine List.forall_mem_cons.mpr ⟨zg1 29 (by decide +kernel) (by decide +kernel), ?_⟩
  refine List.forall_mem_cons.mpr ⟨zg1 104 (by decide +kernel) (by decide +kernel), ?_⟩
  refine List.forall_mem_cons.mpr ⟨zg1 106 (by decide +kernel) (by decide +kernel), ?_⟩
  exact List.forall_mem_nil _
theorem zAO_ok : ∀ c ∈ [5, 8, 9, 10], Cond.arrayOver (.object (zR c)) ∈ lw_tbl := by
  refine List.forall_mem_cons.mpr ⟨zt1 38 (by decide +kernel), ?_⟩
  refine List.forall_mem_cons.mpr ⟨zt1 107 (by decide +kernel), ?_⟩
  refine List.forall_mem_cons.mpr ⟨zt1 30 (by decide +kernel), ?_⟩
  refine List.forall_mem_cons.mpr ⟨zt1 105 (by decide +kernel), ?_⟩
  exact List.forall_mem_nil _
theorem zCA_ok : ∀ c ∈ [1, 2, 3, 4, 6], Cond.castable (zR c) RX9 ∈ lw_tbl := by
  refine List.forall_mem_cons.mpr ⟨zt6 63 (by decide +kernel), ?_⟩
  refine List.forall_mem_cons.mpr ⟨zt6 62 (by decide +kernel), ?_⟩
  refine List.forall_mem_cons.mpr ⟨zt6 64 (by decide +kernel), ?_⟩
  refine List.forall_mem_cons.mpr ⟨zt6 65 (by decide +kernel), ?_⟩
  refine List.forall_mem_cons.mpr ⟨zt6 66 (by decide +kernel), ?_⟩
  exact List.forall_mem_nil _
theorem zAI_ok : Cond.arrayClass .int ∈ zGL ∧ Cond.arrayClass .boolean ∈ zGL := ⟨zg1 74 (by decide +kernel) (by decide +kernel), zg4 237 (by decide +kernel) (by decide +kernel)⟩
def zSK : List (Nat × Nat) := [(11, 74), (7, 121), (7, 127), (7, 129), (7, 131), (7, 133), (7, 135), (7, 137), (7, 139), (7, 141), (7, 143), (7, 145), (7, 147)]
def zSX : List String := ["keeps memory ; tires 0 ; learns 0 ;", "words", "memory", "number", "day", "parts", "said", "keeps", "tires", "learns", "or", "and", "not"]
theorem zSR_ok : ∀ i, i < 13 → Cond.stringRef (zR (zgt (0, 0) zSK i).1) (zgt (0, 0) zSK i).2 (zgt "" zSX i) ∈ lw_tbl := by
  intro i hi
  match i, hi with
  | 0, _ => exact zt1 222 (by decide +kernel)
  | 1, _ => exact zt2 55 (by decide +kernel)
  | 2, _ => exact zt2 62 (by decide +kernel)
  | 3, _ => exact zt2 63 (by decide +kernel)
  | 4, _ => exact zt2 64 (by decide +kernel)
  | 5, _ => exact zt2 65 (by decide +kernel)
  | 6, _ => exact zt2 66 (by decide +kernel)
  | 7, _ => exact zt2 71 (by decide +kernel)
  | 8, _ => exact zt2 72 (by decide +kernel)
  | 9, _ => exact zt2 73 (by decide +kernel)
  | 10, _ => exact zt2 74 (by decide +kernel)
  | 11, _ => exact zt2 75 (by decide +kernel)
  | 12, _ => exact zt2 76 (by decide +kernel)
  | i + 13, h => exact absurd h (by omega)
theorem zGTs : ∀ q ∈ zGT, q.2.2 < 13 ∧ (q.1, q.2.1) = zgt (0, 0) zSK q.2.2 := by decide +kernel
theorem zKT_ok : ∀ q ∈ zKT, Cond.constant (zR q.1) q.2.1 (Int32.ofInt q.2.2) ∈ zGL := by
  unfold zKT
  refine List.forall_mem_cons.mpr ⟨zg4 22 (by decide +kernel) (by decide +kernel), ?_⟩
  refine List.forall_mem_cons.mpr ⟨zg6 18 (by decide +kernel) (by decide +kernel), ?_⟩
  refine List.forall_mem_cons.mpr ⟨zg3 4 (by decide +kernel) (by decide +kernel), ?_⟩
  refine List.forall_mem_cons.mpr ⟨zg3 5 (by decide +kernel) (by decide +kernel), ?_⟩
  refine List.forall_mem_cons.mpr ⟨zg3 6 (by decide +kernel) (by decide +kernel), ?_⟩
  exact List.forall_mem_nil _
theorem zLT_ok : ∀ q ∈ zLT, Cond.constantLong (zR q.1) q.2.1 (Int64.ofInt q.2.2) ∈ zGL := by
  unfold zLT
  refine List.forall_mem_cons.mpr ⟨zg3 218 (by decide +kernel) (by decide +kernel), ?_⟩
  refine List.forall_mem_cons.mpr ⟨zg5 2 (by decide +kernel) (by decide +kernel), ?_⟩
  refine List.forall_mem_cons.mpr ⟨zg5 30 (by decide +kernel) (by decide +kernel), ?_⟩
  refine List.forall_mem_cons.mpr ⟨zg5 31 (by decide +kernel) (by decide +kernel), ?_⟩
  refine List.forall_mem_cons.mpr ⟨zg5 32 (by decide +kernel) (by decide +kernel), ?_⟩
  refine List.forall_mem_cons.mpr ⟨zg5 33 (by decide +kernel) (by decide +kernel), ?_⟩
  refine List.forall_mem_cons.mpr ⟨zg5 21 (by decide +kernel) (by decide +kernel), ?_⟩
  refine List.forall_mem_cons.mpr ⟨zg5 43 (by decide +kernel) (by decide +kernel), ?_⟩
  refine List.forall_mem_cons.mpr ⟨zg5 60 (by decide +kernel) (by decide +kernel), ?_⟩
  refine List.forall_mem_cons.mpr ⟨zg5 61 (by decide +kernel) (by decide +kernel), ?_⟩
  refine List.forall_mem_cons.mpr ⟨zg5 62 (by decide +kernel) (by decide +kernel), ?_⟩
  refine List.forall_mem_cons.mpr ⟨zg5 63 (by decide +kernel) (by decide +kernel), ?_⟩
  refine List.forall_mem_cons.mpr ⟨zg5 64 (by decide +kernel) (by decide +kernel), ?_⟩
  refine List.forall_mem_cons.mpr ⟨zg5 117 (by decide +kernel) (by decide +kernel), ?_⟩
  refine List.forall_mem_cons.mpr ⟨zg5 118 (by decide +kernel) (by decide +kernel), ?_⟩
  refine List.forall_mem_cons.mpr ⟨zg5 127 (by decide +kernel) (by decide +kernel), ?_⟩
  refine List.forall_mem_cons.mpr ⟨zg5 184 (by decide +kernel) (by decide +kernel), ?_⟩
  refine List.forall_mem_cons.mpr ⟨zg5 185 (by decide +kernel) (by decide +kernel), ?_⟩
  refine List.forall_mem_cons.mpr ⟨zg5 186 (by decide +kernel) (by decide +kernel), ?_⟩
  refine List.forall_mem_cons.mpr ⟨zg5 223 (by decide +kernel) (by decide +kernel), ?_⟩
  refine List.forall_mem_cons.mpr ⟨zg6 13 (by decide +kernel) (by decide +kernel), ?_⟩
  refine List.forall_mem_cons.mpr ⟨zg6 7 (by decide +kernel) (by decide +kernel), ?_⟩
  refine List.forall_mem_cons.mpr ⟨zg6 8 (by decide +kernel) (by decide +kernel), ?_⟩
  exact List.forall_mem_nil _
theorem zKTr : ∀ q ∈ zKT, -2147483648 ≤ q.2.2 ∧ q.2.2 ≤ 2147483647 := by decide +kernel
theorem zLTr : ∀ q ∈ zLT, -9223372036854775808 ≤ q.2.2 ∧ q.2.2 ≤ 9223372036854775807 := by decide +kernel
theorem zYT_ok : ∀ q ∈ zYT, Cond.methodLink (zR q.1) q.2 arraycopyName ∈ zGL := by
  unfold zYT
  refine List.forall_mem_cons.mpr ⟨zg4 55 (by decide +kernel) (by decide +kernel), ?_⟩
  exact List.forall_mem_nil _
theorem zAY_ok : Cond.native arraycopyName ∈ zGL ∧ Cond.static arraycopyName ∈ zGL ∧ Cond.initialized "java/lang/System" ∈ zGL := ⟨zg4 57 (by decide +kernel) (by decide +kernel), zg4 56 (by decide +kernel) (by decide +kernel), zg1 20 (by decide +kernel) (by decide +kernel)⟩
theorem zMT_ok : ∀ k, k < 205 → Cond.code (zY k) (zB k) (zL k) (zTr k) ∈ zGL ∧ Cond.initialized (zY k).cls ∈ zGL := by
  intro k hk
  match k, hk with
  | 0, _ => exact ⟨zg1 35 (by decide +kernel) (by decide +kernel), zg1 2 (by decide +kernel) (by decide +kernel)⟩
  | 1, _ => exact ⟨zg2 187 (by decide +kernel) (by decide +kernel), zg1 2 (by decide +kernel) (by decide +kernel)⟩
  | 2, _ => exact ⟨zg3 164 (by decide +kernel) (by decide +kernel), zg1 2 (by decide +kernel) (by decide +kernel)⟩
  | 3, _ => exact ⟨zg3 181 (by decide +kernel) (by decide +kernel), zg1 2 (by decide +kernel) (by decide +kernel)⟩
  | 4, _ => exact ⟨zg1 125 (by decide +kernel) (by decide +kernel), zg1 6 (by decide +kernel) (by decide +kernel)⟩
  | 5, _ => exact ⟨zg4 73 (by decide +kernel) (by decide +kernel), zg1 6 (by decide +kernel) (by decide +kernel)⟩
  | 6, _ => exact ⟨zg3 26 (by decide +kernel) (by decide +kernel), zg1 6 (by decide +kernel) (by decide +kernel)⟩
  | 7, _ => exact ⟨zg3 49 (by decide +kernel) (by decide +kernel), zg1 6 (by decide +kernel) (by decide +kernel)⟩
  | 8, _ => exact ⟨zg3 82 (by decide +kernel) (by decide +kernel), zg1 6 (by decide +kernel) (by decide +kernel)⟩
  | 9, _ => exact ⟨zg3 109 (by decide +kernel) (by decide +kernel), zg1 6 (by decide +kernel) (by decide +kernel)⟩
  | 10, _ => exact ⟨zg1 118 (by decide +kernel) (by decide +kernel), zg1 5 (by decide +kernel) (by decide +kernel)⟩
  | 11, _ => exact ⟨zg4 77 (by decide +kernel) (by decide +kernel), zg1 5 (by decide +kernel) (by decide +kernel)⟩
  | 12, _ => exact ⟨zg3 30 (by decide +kernel) (by decide +kernel), zg1 5 (by decide +kernel) (by decide +kernel)⟩
  | 13, _ => exact ⟨zg3 53 (by decide +kernel) (by decide +kernel), zg1 5 (by decide +kernel) (by decide +kernel)⟩
  | 14, _ => exact ⟨zg3 86 (by decide +kernel) (by decide +kernel), zg1 5 (by decide +kernel) (by decide +kernel)⟩
  | 15, _ => exact ⟨zg3 113 (by decide +kernel) (by decide +kernel), zg1 5 (by decide +kernel) (by decide +kernel)⟩
  | 16, _ => exact ⟨zg1 132 (by decide +kernel) (by decide +kernel), zg1 7 (by decide +kernel) (by decide +kernel)⟩
  | 17, _ => exact ⟨zg4 81 (by decide +kernel) (by decide +kernel), zg1 7 (by decide +kernel) (by decide +kernel)⟩
  | 18, _ => exact ⟨zg3 57 (by decide +kernel) (by decide +kernel), zg1 7 (by decide +kernel) (by decide +kernel)⟩
  | 19, _ => exact ⟨zg3 89 (by decide +kernel) (by decide +kernel), zg1 7 (by decide +kernel) (by decide +kernel)⟩
  | 20, _ => exact ⟨zg3 116 (by decide +kernel) (by decide +kernel), zg1 7 (by decide +kernel) (by decide +kernel)⟩
  | 21, _ => exact ⟨zg1 139 (by decide +kernel) (by decide +kernel), zg1 8 (by decide +kernel) (by decide +kernel)⟩
  | 22, _ => exact ⟨zg4 85 (by decide +kernel) (by decide +kernel), zg1 8 (by decide +kernel) (by decide +kernel)⟩
  | 23, _ => exact ⟨zg3 35 (by decide +kernel) (by decide +kernel), zg1 8 (by decide +kernel) (by decide +kernel)⟩
  | 24, _ => exact ⟨zg3 61 (by decide +kernel) (by decide +kernel), zg1 8 (by decide +kernel) (by decide +kernel)⟩
  | 25, _ => exact ⟨zg3 92 (by decide +kernel) (by decide +kernel), zg1 8 (by decide +kernel) (by decide +kernel)⟩
  | 26, _ => exact ⟨zg1 42 (by decide +kernel) (by decide +kernel), zg1 3 (by decide +kernel) (by decide +kernel)⟩
  | 27, _ => exact ⟨zg2 194 (by decide +kernel) (by decide +kernel), zg1 3 (by decide +kernel) (by decide +kernel)⟩
  | 28, _ => exact ⟨zg2 198 (by decide +kernel) (by decide +kernel), zg1 3 (by decide +kernel) (by decide +kernel)⟩
  | 29, _ => exact ⟨zg3 185 (by decide +kernel) (by decide +kernel), zg1 3 (by decide +kernel) (by decide +kernel)⟩
  | 30, _ => exact ⟨zg1 146 (by decide +kernel) (by decide +kernel), zg1 9 (by decide +kernel) (by decide +kernel)⟩
  | 31, _ => exact ⟨zg4 89 (by decide +kernel) (by decide +kernel), zg1 9 (by decide +kernel) (by decide +kernel)⟩
  | 32, _ => exact ⟨zg3 39 (by decide +kernel) (by decide +kernel), zg1 9 (by decide +kernel) (by decide +kernel)⟩
  | 33, _ => exact ⟨zg3 68 (by decide +kernel) (by decide +kernel), zg1 9 (by decide +kernel) (by decide +kernel)⟩
  | 34, _ => exact ⟨zg3 96 (by decide +kernel) (by decide +kernel), zg1 9 (by decide +kernel) (by decide +kernel)⟩
  | 35, _ => exact ⟨zg3 120 (by decide +kernel) (by decide +kernel), zg1 9 (by decide +kernel) (by decide +kernel)⟩
  | 36, _ => exact ⟨zg1 188 (by decide +kernel) (by decide +kernel), zg1 12 (by decide +kernel) (by decide +kernel)⟩
  | 37, _ => exact ⟨zg2 34 (by decide +kernel) (by decide +kernel), zg1 12 (by decide +kernel) (by decide +kernel)⟩
  | 38, _ => exact ⟨zg2 38 (by decide +kernel) (by decide +kernel), zg1 12 (by decide +kernel) (by decide +kernel)⟩
  | 39, _ => exact ⟨zg2 94 (by decide +kernel) (by decide +kernel), zg1 12 (by decide +kernel) (by decide +kernel)⟩
  | 40, _ => exact ⟨zg2 110 (by decide +kernel) (by decide +kernel), zg1 12 (by decide +kernel) (by decide +kernel)⟩
  | 41, _ => exact ⟨zg2 114 (by decide +kernel) (by decide +kernel), zg1 12 (by decide +kernel) (by decide +kernel)⟩
  | 42, _ => exact ⟨zg2 118 (by decide +kernel) (by decide +kernel), zg1 12 (by decide +kernel) (by decide +kernel)⟩
  | 43, _ => exact ⟨zg2 130 (by decide +kernel) (by decide +kernel), zg1 12 (by decide +kernel) (by decide +kernel)⟩
  | 44, _ => exact ⟨zg2 134 (by decide +kernel) (by decide +kernel), zg1 12 (by decide +kernel) (by decide +kernel)⟩
  | 45, _ => exact ⟨zg2 138 (by decide +kernel) (by decide +kernel), zg1 12 (by decide +kernel) (by decide +kernel)⟩
  | 46, _ => exact ⟨zg2 122 (by decide +kernel) (by decide +kernel), zg1 12 (by decide +kernel) (by decide +kernel)⟩
  | 47, _ => exact ⟨zg2 98 (by decide +kernel) (by decide +kernel), zg1 12 (by decide +kernel) (by decide +kernel)⟩
  | 48, _ => exact ⟨zg2 106 (by decide +kernel) (by decide +kernel), zg1 12 (by decide +kernel) (by decide +kernel)⟩
  | 49, _ => exact ⟨zg2 102 (by decide +kernel) (by decide +kernel), zg1 12 (by decide +kernel) (by decide +kernel)⟩
  | 50, _ => exact ⟨zg2 42 (by decide +kernel) (by decide +kernel), zg1 12 (by decide +kernel) (by decide +kernel)⟩
  | 51, _ => exact ⟨zg2 80 (by decide +kernel) (by decide +kernel), zg1 12 (by decide +kernel) (by decide +kernel)⟩
  | 52, _ => exact ⟨zg2 46 (by decide +kernel) (by decide +kernel), zg1 12 (by decide +kernel) (by decide +kernel)⟩
  | 53, _ => exact ⟨zg2 50 (by decide +kernel) (by decide +kernel), zg1 12 (by decide +kernel) (by decide +kernel)⟩
  | 54, _ => exact ⟨zg2 84 (by decide +kernel) (by decide +kernel), zg1 12 (by decide +kernel) (by decide +kernel)⟩
  | 55, _ => exact ⟨zg2 87 (by decide +kernel) (by decide +kernel), zg1 12 (by decide +kernel) (by decide +kernel)⟩
  | 56, _ => exact ⟨zg2 54 (by decide +kernel) (by decide +kernel), zg1 12 (by decide +kernel) (by decide +kernel)⟩
  | 57, _ => exact ⟨zg2 70 (by decide +kernel) (by decide +kernel), zg1 12 (by decide +kernel) (by decide +kernel)⟩
  | 58, _ => exact ⟨zg2 59 (by decide +kernel) (by decide +kernel), zg1 12 (by decide +kernel) (by decide +kernel)⟩
  | 59, _ => exact ⟨zg1 152 (by decide +kernel) (by decide +kernel), zg1 10 (by decide +kernel) (by decide +kernel)⟩
  | 60, _ => exact ⟨zg3 144 (by decide +kernel) (by decide +kernel), zg1 10 (by decide +kernel) (by decide +kernel)⟩
  | 61, _ => exact ⟨zg4 50 (by decide +kernel) (by decide +kernel), zg1 10 (by decide +kernel) (by decide +kernel)⟩
  | 62, _ => exact ⟨zg4 8 (by decide +kernel) (by decide +kernel), zg1 10 (by decide +kernel) (by decide +kernel)⟩
  | 63, _ => exact ⟨zg4 13 (by decide +kernel) (by decide +kernel), zg1 10 (by decide +kernel) (by decide +kernel)⟩
  | 64, _ => exact ⟨zg1 111 (by decide +kernel) (by decide +kernel), zg1 4 (by decide +kernel) (by decide +kernel)⟩
  | 65, _ => exact ⟨zg4 91 (by decide +kernel) (by decide +kernel), zg1 4 (by decide +kernel) (by decide +kernel)⟩
  | 66, _ => exact ⟨zg3 41 (by decide +kernel) (by decide +kernel), zg1 4 (by decide +kernel) (by decide +kernel)⟩
  | 67, _ => exact ⟨zg3 70 (by decide +kernel) (by decide +kernel), zg1 4 (by decide +kernel) (by decide +kernel)⟩
  | 68, _ => exact ⟨zg3 98 (by decide +kernel) (by decide +kernel), zg1 4 (by decide +kernel) (by decide +kernel)⟩
  | 69, _ => exact ⟨zg3 121 (by decide +kernel) (by decide +kernel), zg1 4 (by decide +kernel) (by decide +kernel)⟩
  | 70, _ => exact ⟨zg1 170 (by decide +kernel) (by decide +kernel), zg1 11 (by decide +kernel) (by decide +kernel)⟩
  | 71, _ => exact ⟨zg2 126 (by decide +kernel) (by decide +kernel), zg1 11 (by decide +kernel) (by decide +kernel)⟩
  | 72, _ => exact ⟨zg2 237 (by decide +kernel) (by decide +kernel), zg1 11 (by decide +kernel) (by decide +kernel)⟩
  | 73, _ => exact ⟨zg3 0 (by decide +kernel) (by decide +kernel), zg1 11 (by decide +kernel) (by decide +kernel)⟩
  | 74, _ => exact ⟨zg3 9 (by decide +kernel) (by decide +kernel), zg1 11 (by decide +kernel) (by decide +kernel)⟩
  | 75, _ => exact ⟨zg3 12 (by decide +kernel) (by decide +kernel), zg1 11 (by decide +kernel) (by decide +kernel)⟩
  | 76, _ => exact ⟨zg1 25 (by decide +kernel) (by decide +kernel), zg1 1 (by decide +kernel) (by decide +kernel)⟩
  | 77, _ => exact ⟨zg2 183 (by decide +kernel) (by decide +kernel), zg1 1 (by decide +kernel) (by decide +kernel)⟩
  | 78, _ => exact ⟨zg2 202 (by decide +kernel) (by decide +kernel), zg1 1 (by decide +kernel) (by decide +kernel)⟩
  | 79, _ => exact ⟨zg2 209 (by decide +kernel) (by decide +kernel), zg1 1 (by decide +kernel) (by decide +kernel)⟩
  | 80, _ => exact ⟨zg2 213 (by decide +kernel) (by decide +kernel), zg1 1 (by decide +kernel) (by decide +kernel)⟩
  | 81, _ => exact ⟨zg2 217 (by decide +kernel) (by decide +kernel), zg1 1 (by decide +kernel) (by decide +kernel)⟩
  | 82, _ => exact ⟨zg2 190 (by decide +kernel) (by decide +kernel), zg1 1 (by decide +kernel) (by decide +kernel)⟩
  | 83, _ => exact ⟨zg2 205 (by decide +kernel) (by decide +kernel), zg1 1 (by decide +kernel) (by decide +kernel)⟩
  | 84, _ => exact ⟨zg3 125 (by decide +kernel) (by decide +kernel), zg1 1 (by decide +kernel) (by decide +kernel)⟩
  | 85, _ => exact ⟨zg3 129 (by decide +kernel) (by decide +kernel), zg1 1 (by decide +kernel) (by decide +kernel)⟩
  | 86, _ => exact ⟨zg3 133 (by decide +kernel) (by decide +kernel), zg1 1 (by decide +kernel) (by decide +kernel)⟩
  | 87, _ => exact ⟨zg2 233 (by decide +kernel) (by decide +kernel), zg1 1 (by decide +kernel) (by decide +kernel)⟩
  | 88, _ => exact ⟨zg3 137 (by decide +kernel) (by decide +kernel), zg1 1 (by decide +kernel) (by decide +kernel)⟩
  | 89, _ => exact ⟨zg3 156 (by decide +kernel) (by decide +kernel), zg1 1 (by decide +kernel) (by decide +kernel)⟩
  | 90, _ => exact ⟨zg3 173 (by decide +kernel) (by decide +kernel), zg1 1 (by decide +kernel) (by decide +kernel)⟩
  | 91, _ => exact ⟨zg3 177 (by decide +kernel) (by decide +kernel), zg1 1 (by decide +kernel) (by decide +kernel)⟩
  | 92, _ => exact ⟨zg2 225 (by decide +kernel) (by decide +kernel), zg1 1 (by decide +kernel) (by decide +kernel)⟩
  | 93, _ => exact ⟨zg2 229 (by decide +kernel) (by decide +kernel), zg1 1 (by decide +kernel) (by decide +kernel)⟩
  | 94, _ => exact ⟨zg2 221 (by decide +kernel) (by decide +kernel), zg1 1 (by decide +kernel) (by decide +kernel)⟩
  | 95, _ => exact ⟨zg3 75 (by decide +kernel) (by decide +kernel), zg1 1 (by decide +kernel) (by decide +kernel)⟩
  | 96, _ => exact ⟨zg3 102 (by decide +kernel) (by decide +kernel), zg1 1 (by decide +kernel) (by decide +kernel)⟩
  | 97, _ => exact ⟨zg3 193 (by decide +kernel) (by decide +kernel), zg1 1 (by decide +kernel) (by decide +kernel)⟩
  | 98, _ => exact ⟨zg3 148 (by decide +kernel) (by decide +kernel), zg1 1 (by decide +kernel) (by decide +kernel)⟩
  | 99, _ => exact ⟨zg3 160 (by decide +kernel) (by decide +kernel), zg1 1 (by decide +kernel) (by decide +kernel)⟩
  | 100, _ => exact ⟨zg3 168 (by decide +kernel) (by decide +kernel), zg1 1 (by decide +kernel) (by decide +kernel)⟩
  | 101, _ => exact ⟨zg3 151 (by decide +kernel) (by decide +kernel), zg1 1 (by decide +kernel) (by decide +kernel)⟩
  | 102, _ => exact ⟨zg3 65 (by decide +kernel) (by decide +kernel), zg1 1 (by decide +kernel) (by decide +kernel)⟩
  | 103, _ => exact ⟨zg3 15 (by decide +kernel) (by decide +kernel), zg1 1 (by decide +kernel) (by decide +kernel)⟩
  | 104, _ => exact ⟨zg3 189 (by decide +kernel) (by decide +kernel), zg1 1 (by decide +kernel) (by decide +kernel)⟩
  | 105, _ => exact ⟨zg3 197 (by decide +kernel) (by decide +kernel), zg1 1 (by decide +kernel) (by decide +kernel)⟩
  | 106, _ => exact ⟨zg3 201 (by decide +kernel) (by decide +kernel), zg1 1 (by decide +kernel) (by decide +kernel)⟩
  | 107, _ => exact ⟨zg3 205 (by decide +kernel) (by decide +kernel), zg1 1 (by decide +kernel) (by decide +kernel)⟩
  | 108, _ => exact ⟨zg3 209 (by decide +kernel) (by decide +kernel), zg1 1 (by decide +kernel) (by decide +kernel)⟩
  | 109, _ => exact ⟨zg3 213 (by decide +kernel) (by decide +kernel), zg1 1 (by decide +kernel) (by decide +kernel)⟩
  | 110, _ => exact ⟨zg3 217 (by decide +kernel) (by decide +kernel), zg1 1 (by decide +kernel) (by decide +kernel)⟩
  | 111, _ => exact ⟨zg3 221 (by decide +kernel) (by decide +kernel), zg1 1 (by decide +kernel) (by decide +kernel)⟩
  | 112, _ => exact ⟨zg3 224 (by decide +kernel) (by decide +kernel), zg1 1 (by decide +kernel) (by decide +kernel)⟩
  | 113, _ => exact ⟨zg3 228 (by decide +kernel) (by decide +kernel), zg1 1 (by decide +kernel) (by decide +kernel)⟩
  | 114, _ => exact ⟨zg3 236 (by decide +kernel) (by decide +kernel), zg1 1 (by decide +kernel) (by decide +kernel)⟩
  | 115, _ => exact ⟨zg4 0 (by decide +kernel) (by decide +kernel), zg1 1 (by decide +kernel) (by decide +kernel)⟩
  | 116, _ => exact ⟨zg3 232 (by decide +kernel) (by decide +kernel), zg1 1 (by decide +kernel) (by decide +kernel)⟩
  | 117, _ => exact ⟨zg4 4 (by decide +kernel) (by decide +kernel), zg1 1 (by decide +kernel) (by decide +kernel)⟩
  | 118, _ => exact ⟨zg4 17 (by decide +kernel) (by decide +kernel), zg1 1 (by decide +kernel) (by decide +kernel)⟩
  | 119, _ => exact ⟨zg4 26 (by decide +kernel) (by decide +kernel), zg1 1 (by decide +kernel) (by decide +kernel)⟩
  | 120, _ => exact ⟨zg4 21 (by decide +kernel) (by decide +kernel), zg1 1 (by decide +kernel) (by decide +kernel)⟩
  | 121, _ => exact ⟨zg4 30 (by decide +kernel) (by decide +kernel), zg1 1 (by decide +kernel) (by decide +kernel)⟩
  | 122, _ => exact ⟨zg4 34 (by decide +kernel) (by decide +kernel), zg1 1 (by decide +kernel) (by decide +kernel)⟩
  | 123, _ => exact ⟨zg4 38 (by decide +kernel) (by decide +kernel), zg1 1 (by decide +kernel) (by decide +kernel)⟩
  | 124, _ => exact ⟨zg4 42 (by decide +kernel) (by decide +kernel), zg1 1 (by decide +kernel) (by decide +kernel)⟩
  | 125, _ => exact ⟨zg4 46 (by decide +kernel) (by decide +kernel), zg1 1 (by decide +kernel) (by decide +kernel)⟩
  | 126, _ => exact ⟨zg4 54 (by decide +kernel) (by decide +kernel), zg1 1 (by decide +kernel) (by decide +kernel)⟩
  | 127, _ => exact ⟨zg4 61 (by decide +kernel) (by decide +kernel), zg1 1 (by decide +kernel) (by decide +kernel)⟩
  | 128, _ => exact ⟨zg4 66 (by decide +kernel) (by decide +kernel), zg1 1 (by decide +kernel) (by decide +kernel)⟩
  | 129, _ => exact ⟨zg3 140 (by decide +kernel) (by decide +kernel), zg1 1 (by decide +kernel) (by decide +kernel)⟩
  | 130, _ => exact ⟨zg5 5 (by decide +kernel) (by decide +kernel), zg1 18 (by decide +kernel) (by decide +kernel)⟩
  | 131, _ => exact ⟨zg5 149 (by decide +kernel) (by decide +kernel), zg1 18 (by decide +kernel) (by decide +kernel)⟩
  | 132, _ => exact ⟨zg4 96 (by decide +kernel) (by decide +kernel), zg1 18 (by decide +kernel) (by decide +kernel)⟩
  | 133, _ => exact ⟨zg4 101 (by decide +kernel) (by decide +kernel), zg1 18 (by decide +kernel) (by decide +kernel)⟩
  | 134, _ => exact ⟨zg5 13 (by decide +kernel) (by decide +kernel), zg1 18 (by decide +kernel) (by decide +kernel)⟩
  | 135, _ => exact ⟨zg5 9 (by decide +kernel) (by decide +kernel), zg1 18 (by decide +kernel) (by decide +kernel)⟩
  | 136, _ => exact ⟨zg5 16 (by decide +kernel) (by decide +kernel), zg1 18 (by decide +kernel) (by decide +kernel)⟩
  | 137, _ => exact ⟨zg5 1 (by decide +kernel) (by decide +kernel), zg1 18 (by decide +kernel) (by decide +kernel)⟩
  | 138, _ => exact ⟨zg5 25 (by decide +kernel) (by decide +kernel), zg1 18 (by decide +kernel) (by decide +kernel)⟩
  | 139, _ => exact ⟨zg5 29 (by decide +kernel) (by decide +kernel), zg1 18 (by decide +kernel) (by decide +kernel)⟩
  | 140, _ => exact ⟨zg5 20 (by decide +kernel) (by decide +kernel), zg1 18 (by decide +kernel) (by decide +kernel)⟩
  | 141, _ => exact ⟨zg5 38 (by decide +kernel) (by decide +kernel), zg1 18 (by decide +kernel) (by decide +kernel)⟩
  | 142, _ => exact ⟨zg5 42 (by decide +kernel) (by decide +kernel), zg1 18 (by decide +kernel) (by decide +kernel)⟩
  | 143, _ => exact ⟨zg5 59 (by decide +kernel) (by decide +kernel), zg1 18 (by decide +kernel) (by decide +kernel)⟩
  | 144, _ => exact ⟨zg5 55 (by decide +kernel) (by decide +kernel), zg1 18 (by decide +kernel) (by decide +kernel)⟩
  | 145, _ => exact ⟨zg5 80 (by decide +kernel) (by decide +kernel), zg1 18 (by decide +kernel) (by decide +kernel)⟩
  | 146, _ => exact ⟨zg5 72 (by decide +kernel) (by decide +kernel), zg1 18 (by decide +kernel) (by decide +kernel)⟩
  | 147, _ => exact ⟨zg5 68 (by decide +kernel) (by decide +kernel), zg1 18 (by decide +kernel) (by decide +kernel)⟩
  | 148, _ => exact ⟨zg5 112 (by decide +kernel) (by decide +kernel), zg1 18 (by decide +kernel) (by decide +kernel)⟩
  | 149, _ => exact ⟨zg5 96 (by decide +kernel) (by decide +kernel), zg1 18 (by decide +kernel) (by decide +kernel)⟩
  | 150, _ => exact ⟨zg5 116 (by decide +kernel) (by decide +kernel), zg1 18 (by decide +kernel) (by decide +kernel)⟩
  | 151, _ => exact ⟨zg5 108 (by decide +kernel) (by decide +kernel), zg1 18 (by decide +kernel) (by decide +kernel)⟩
  | 152, _ => exact ⟨zg5 104 (by decide +kernel) (by decide +kernel), zg1 18 (by decide +kernel) (by decide +kernel)⟩
  | 153, _ => exact ⟨zg5 100 (by decide +kernel) (by decide +kernel), zg1 18 (by decide +kernel) (by decide +kernel)⟩
  | 154, _ => exact ⟨zg5 92 (by decide +kernel) (by decide +kernel), zg1 18 (by decide +kernel) (by decide +kernel)⟩
  | 155, _ => exact ⟨zg5 88 (by decide +kernel) (by decide +kernel), zg1 18 (by decide +kernel) (by decide +kernel)⟩
  | 156, _ => exact ⟨zg5 84 (by decide +kernel) (by decide +kernel), zg1 18 (by decide +kernel) (by decide +kernel)⟩
  | 157, _ => exact ⟨zg5 76 (by decide +kernel) (by decide +kernel), zg1 18 (by decide +kernel) (by decide +kernel)⟩
  | 158, _ => exact ⟨zg5 51 (by decide +kernel) (by decide +kernel), zg1 18 (by decide +kernel) (by decide +kernel)⟩
  | 159, _ => exact ⟨zg5 47 (by decide +kernel) (by decide +kernel), zg1 18 (by decide +kernel) (by decide +kernel)⟩
  | 160, _ => exact ⟨zg5 122 (by decide +kernel) (by decide +kernel), zg1 18 (by decide +kernel) (by decide +kernel)⟩
  | 161, _ => exact ⟨zg5 146 (by decide +kernel) (by decide +kernel), zg1 18 (by decide +kernel) (by decide +kernel)⟩
  | 162, _ => exact ⟨zg5 135 (by decide +kernel) (by decide +kernel), zg1 18 (by decide +kernel) (by decide +kernel)⟩
  | 163, _ => exact ⟨zg5 143 (by decide +kernel) (by decide +kernel), zg1 18 (by decide +kernel) (by decide +kernel)⟩
  | 164, _ => exact ⟨zg5 139 (by decide +kernel) (by decide +kernel), zg1 18 (by decide +kernel) (by decide +kernel)⟩
  | 165, _ => exact ⟨zg5 131 (by decide +kernel) (by decide +kernel), zg1 18 (by decide +kernel) (by decide +kernel)⟩
  | 166, _ => exact ⟨zg5 153 (by decide +kernel) (by decide +kernel), zg1 18 (by decide +kernel) (by decide +kernel)⟩
  | 167, _ => exact ⟨zg5 157 (by decide +kernel) (by decide +kernel), zg1 18 (by decide +kernel) (by decide +kernel)⟩
  | 168, _ => exact ⟨zg5 126 (by decide +kernel) (by decide +kernel), zg1 18 (by decide +kernel) (by decide +kernel)⟩
  | 169, _ => exact ⟨zg5 202 (by decide +kernel) (by decide +kernel), zg1 18 (by decide +kernel) (by decide +kernel)⟩
  | 170, _ => exact ⟨zg5 167 (by decide +kernel) (by decide +kernel), zg1 18 (by decide +kernel) (by decide +kernel)⟩
  | 171, _ => exact ⟨zg5 161 (by decide +kernel) (by decide +kernel), zg1 18 (by decide +kernel) (by decide +kernel)⟩
  | 172, _ => exact ⟨zg5 179 (by decide +kernel) (by decide +kernel), zg1 18 (by decide +kernel) (by decide +kernel)⟩
  | 173, _ => exact ⟨zg5 175 (by decide +kernel) (by decide +kernel), zg1 18 (by decide +kernel) (by decide +kernel)⟩
  | 174, _ => exact ⟨zg5 171 (by decide +kernel) (by decide +kernel), zg1 18 (by decide +kernel) (by decide +kernel)⟩
  | 175, _ => exact ⟨zg5 190 (by decide +kernel) (by decide +kernel), zg1 18 (by decide +kernel) (by decide +kernel)⟩
  | 176, _ => exact ⟨zg5 194 (by decide +kernel) (by decide +kernel), zg1 18 (by decide +kernel) (by decide +kernel)⟩
  | 177, _ => exact ⟨zg5 183 (by decide +kernel) (by decide +kernel), zg1 18 (by decide +kernel) (by decide +kernel)⟩
  | 178, _ => exact ⟨zg5 198 (by decide +kernel) (by decide +kernel), zg1 18 (by decide +kernel) (by decide +kernel)⟩
  | 179, _ => exact ⟨zg5 210 (by decide +kernel) (by decide +kernel), zg1 18 (by decide +kernel) (by decide +kernel)⟩
  | 180, _ => exact ⟨zg5 206 (by decide +kernel) (by decide +kernel), zg1 18 (by decide +kernel) (by decide +kernel)⟩
  | 181, _ => exact ⟨zg5 214 (by decide +kernel) (by decide +kernel), zg1 18 (by decide +kernel) (by decide +kernel)⟩
  | 182, _ => exact ⟨zg5 218 (by decide +kernel) (by decide +kernel), zg1 18 (by decide +kernel) (by decide +kernel)⟩
  | 183, _ => exact ⟨zg5 226 (by decide +kernel) (by decide +kernel), zg1 18 (by decide +kernel) (by decide +kernel)⟩
  | 184, _ => exact ⟨zg5 222 (by decide +kernel) (by decide +kernel), zg1 18 (by decide +kernel) (by decide +kernel)⟩
  | 185, _ => exact ⟨zg5 234 (by decide +kernel) (by decide +kernel), zg1 18 (by decide +kernel) (by decide +kernel)⟩
  | 186, _ => exact ⟨zg5 238 (by decide +kernel) (by decide +kernel), zg1 18 (by decide +kernel) (by decide +kernel)⟩
  | 187, _ => exact ⟨zg5 230 (by decide +kernel) (by decide +kernel), zg1 18 (by decide +kernel) (by decide +kernel)⟩
  | 188, _ => exact ⟨zg6 2 (by decide +kernel) (by decide +kernel), zg1 18 (by decide +kernel) (by decide +kernel)⟩
  | 189, _ => exact ⟨zg6 17 (by decide +kernel) (by decide +kernel), zg1 18 (by decide +kernel) (by decide +kernel)⟩
  | 190, _ => exact ⟨zg6 12 (by decide +kernel) (by decide +kernel), zg1 18 (by decide +kernel) (by decide +kernel)⟩
  | 191, _ => exact ⟨zg6 22 (by decide +kernel) (by decide +kernel), zg1 18 (by decide +kernel) (by decide +kernel)⟩
  | 192, _ => exact ⟨zg6 26 (by decide +kernel) (by decide +kernel), zg1 18 (by decide +kernel) (by decide +kernel)⟩
  | 193, _ => exact ⟨zg6 30 (by decide +kernel) (by decide +kernel), zg1 18 (by decide +kernel) (by decide +kernel)⟩
  | 194, _ => exact ⟨zg6 34 (by decide +kernel) (by decide +kernel), zg1 18 (by decide +kernel) (by decide +kernel)⟩
  | 195, _ => exact ⟨zg5 164 (by decide +kernel) (by decide +kernel), zg1 18 (by decide +kernel) (by decide +kernel)⟩
  | 196, _ => exact ⟨zg6 6 (by decide +kernel) (by decide +kernel), zg1 18 (by decide +kernel) (by decide +kernel)⟩
  | 197, _ => exact ⟨zg6 39 (by decide +kernel) (by decide +kernel), zg1 18 (by decide +kernel) (by decide +kernel)⟩
  | 198, _ => exact ⟨zg6 43 (by decide +kernel) (by decide +kernel), zg1 18 (by decide +kernel) (by decide +kernel)⟩
  | 199, _ => exact ⟨zg6 47 (by decide +kernel) (by decide +kernel), zg1 18 (by decide +kernel) (by decide +kernel)⟩
  | 200, _ => exact ⟨zg6 55 (by decide +kernel) (by decide +kernel), zg1 18 (by decide +kernel) (by decide +kernel)⟩
  | 201, _ => exact ⟨zg6 52 (by decide +kernel) (by decide +kernel), zg1 18 (by decide +kernel) (by decide +kernel)⟩
  | 202, _ => exact ⟨zg3 3 (by decide +kernel) (by decide +kernel), zg1 19 (by decide +kernel) (by decide +kernel)⟩
  | 203, _ => exact ⟨zg2 90 (by decide +kernel) (by decide +kernel), zg1 17 (by decide +kernel) (by decide +kernel)⟩
  | 204, _ => exact ⟨zg3 18 (by decide +kernel) (by decide +kernel), zg1 17 (by decide +kernel) (by decide +kernel)⟩
  | k + 205, h => exact absurd h (by omega)
end
