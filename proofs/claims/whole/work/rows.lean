section
-- ===== PART A: goes FIRST, ahead of the names: the tables' words, and 'selects' of the private methods out of them =====
/-- a private method of a class that the tables say can be made, by its rows of tables_1 -/
def lw_okq (q : MethodName × Nat) : Prop := (q.1.cls ≠ "java/lang/invoke/MethodHandle" ∧ q.1.cls ≠ "java/lang/invoke/VarHandle") ∧ Cond.instantiable q.1.cls q.2 ∈ tables_1 ∧ Cond.privateMethod q.1 ∈ tables_1 ∧ Cond.instanceMethod q.1 ∈ tables_1
theorem lw_p0 : lw_okq (⟨"FerriedInWords$Reader", "split", "()V"⟩, 10) := ⟨⟨by decide +kernel, by decide +kernel⟩, List.mem_of_getElem? (i := 185) (by decide +kernel), List.mem_of_getElem? (i := 280) (by decide +kernel), List.mem_of_getElem? (i := 281) (by decide +kernel)⟩
theorem lw_p1 : lw_okq (⟨"FerriedInWords$Reader", "splitOff", "(I)I"⟩, 10) := ⟨⟨by decide +kernel, by decide +kernel⟩, List.mem_of_getElem? (i := 185) (by decide +kernel), List.mem_of_getElem? (i := 284) (by decide +kernel), List.mem_of_getElem? (i := 285) (by decide +kernel)⟩
theorem lw_p2 : lw_okq (⟨"FerriedInWords$Reader", "splitWord", "(I)I"⟩, 10) := ⟨⟨by decide +kernel, by decide +kernel⟩, List.mem_of_getElem? (i := 185) (by decide +kernel), List.mem_of_getElem? (i := 288) (by decide +kernel), List.mem_of_getElem? (i := 289) (by decide +kernel)⟩
theorem lw_p3 : lw_okq (⟨"FerriedInWords$Reader", "nameCode", "(II)I"⟩, 10) := ⟨⟨by decide +kernel, by decide +kernel⟩, List.mem_of_getElem? (i := 185) (by decide +kernel), List.mem_of_getElem? (i := 292) (by decide +kernel), List.mem_of_getElem? (i := 293) (by decide +kernel)⟩
theorem lw_p4 : lw_okq (⟨"FerriedInWords$Reader", "isWord", "(Ljava/lang/String;II)Z"⟩, 10) := ⟨⟨by decide +kernel, by decide +kernel⟩, List.mem_of_getElem? (i := 185) (by decide +kernel), List.mem_of_getElem? (i := 297) (by decide +kernel), List.mem_of_getElem? (i := 298) (by decide +kernel)⟩
theorem lw_p5 : lw_okq (⟨"FerriedInWords$Reader", "keyToken", "(II)I"⟩, 10) := ⟨⟨by decide +kernel, by decide +kernel⟩, List.mem_of_getElem? (i := 185) (by decide +kernel), List.mem_of_getElem? (i := 308) (by decide +kernel), List.mem_of_getElem? (i := 309) (by decide +kernel)⟩
theorem lw_p6 : lw_okq (⟨"FerriedInWords$Reader", "addToken", "(III)V"⟩, 10) := ⟨⟨by decide +kernel, by decide +kernel⟩, List.mem_of_getElem? (i := 185) (by decide +kernel), List.mem_of_getElem? (i := 318) (by decide +kernel), List.mem_of_getElem? (i := 319) (by decide +kernel)⟩
theorem lw_p7 : lw_okq (⟨"FerriedInWords$Reader", "splitNumber", "(I)I"⟩, 10) := ⟨⟨by decide +kernel, by decide +kernel⟩, List.mem_of_getElem? (i := 185) (by decide +kernel), List.mem_of_getElem? (i := 322) (by decide +kernel), List.mem_of_getElem? (i := 323) (by decide +kernel)⟩
theorem lw_p8 : lw_okq (⟨"FerriedInWords$Reader", "readPart", "(II)V"⟩, 10) := ⟨⟨by decide +kernel, by decide +kernel⟩, List.mem_of_getElem? (i := 185) (by decide +kernel), List.mem_of_getElem? (i := 332) (by decide +kernel), List.mem_of_getElem? (i := 333) (by decide +kernel)⟩
theorem lw_p9 : lw_okq (⟨"FerriedInWords$Reader", "expect", "(I)V"⟩, 10) := ⟨⟨by decide +kernel, by decide +kernel⟩, List.mem_of_getElem? (i := 185) (by decide +kernel), List.mem_of_getElem? (i := 336) (by decide +kernel), List.mem_of_getElem? (i := 337) (by decide +kernel)⟩
theorem lw_p10 : lw_okq (⟨"FerriedInWords$Reader", "advance", "()V"⟩, 10) := ⟨⟨by decide +kernel, by decide +kernel⟩, List.mem_of_getElem? (i := 185) (by decide +kernel), List.mem_of_getElem? (i := 340) (by decide +kernel), List.mem_of_getElem? (i := 341) (by decide +kernel)⟩
theorem lw_p11 : lw_okq (⟨"FerriedInWords$Reader", "fail", "()V"⟩, 10) := ⟨⟨by decide +kernel, by decide +kernel⟩, List.mem_of_getElem? (i := 185) (by decide +kernel), List.mem_of_getElem? (i := 344) (by decide +kernel), List.mem_of_getElem? (i := 345) (by decide +kernel)⟩
theorem lw_p12 : lw_okq (⟨"FerriedInWords$Reader", "readOrs", "(I)V"⟩, 10) := ⟨⟨by decide +kernel, by decide +kernel⟩, List.mem_of_getElem? (i := 185) (by decide +kernel), List.mem_of_getElem? (i := 348) (by decide +kernel), List.mem_of_getElem? (i := 349) (by decide +kernel)⟩
theorem lw_p13 : lw_okq (⟨"FerriedInWords$Reader", "readAnds", "(I)V"⟩, 10) := ⟨⟨by decide +kernel, by decide +kernel⟩, List.mem_of_getElem? (i := 185) (by decide +kernel), List.mem_of_getElem? (i := 352) (by decide +kernel), List.mem_of_getElem? (i := 353) (by decide +kernel)⟩
theorem lw_p14 : lw_okq (⟨"FerriedInWords$Reader", "readNot", "(I)V"⟩, 10) := ⟨⟨by decide +kernel, by decide +kernel⟩, List.mem_of_getElem? (i := 185) (by decide +kernel), List.mem_of_getElem? (i := 356) (by decide +kernel), List.mem_of_getElem? (i := 357) (by decide +kernel)⟩
theorem lw_p15 : lw_okq (⟨"FerriedInWords$Reader", "opens", "(I)Z"⟩, 10) := ⟨⟨by decide +kernel, by decide +kernel⟩, List.mem_of_getElem? (i := 185) (by decide +kernel), List.mem_of_getElem? (i := 360) (by decide +kernel), List.mem_of_getElem? (i := 361) (by decide +kernel)⟩
def lw_privs_1 : List (MethodName × Nat) := [(⟨"FerriedInWords$Reader", "split", "()V"⟩, 10), (⟨"FerriedInWords$Reader", "splitOff", "(I)I"⟩, 10), (⟨"FerriedInWords$Reader", "splitWord", "(I)I"⟩, 10), (⟨"FerriedInWords$Reader", "nameCode", "(II)I"⟩, 10), (⟨"FerriedInWords$Reader", "isWord", "(Ljava/lang/String;II)Z"⟩, 10), (⟨"FerriedInWords$Reader", "keyToken", "(II)I"⟩, 10), (⟨"FerriedInWords$Reader", "addToken", "(III)V"⟩, 10), (⟨"FerriedInWords$Reader", "splitNumber", "(I)I"⟩, 10), (⟨"FerriedInWords$Reader", "readPart", "(II)V"⟩, 10), (⟨"FerriedInWords$Reader", "expect", "(I)V"⟩, 10), (⟨"FerriedInWords$Reader", "advance", "()V"⟩, 10), (⟨"FerriedInWords$Reader", "fail", "()V"⟩, 10), (⟨"FerriedInWords$Reader", "readOrs", "(I)V"⟩, 10), (⟨"FerriedInWords$Reader", "readAnds", "(I)V"⟩, 10), (⟨"FerriedInWords$Reader", "readNot", "(I)V"⟩, 10), (⟨"FerriedInWords$Reader", "opens", "(I)Z"⟩, 10)]
theorem lw_r1 : ∀ q ∈ lw_privs_1, lw_okq q := List.forall_mem_cons.mpr ⟨lw_p0, List.forall_mem_cons.mpr ⟨lw_p1, List.forall_mem_cons.mpr ⟨lw_p2, List.forall_mem_cons.mpr ⟨lw_p3, List.forall_mem_cons.mpr ⟨lw_p4, List.forall_mem_cons.mpr ⟨lw_p5, List.forall_mem_cons.mpr ⟨lw_p6, List.forall_mem_cons.mpr ⟨lw_p7, List.forall_mem_cons.mpr ⟨lw_p8, List.forall_mem_cons.mpr ⟨lw_p9, List.forall_mem_cons.mpr ⟨lw_p10, List.forall_mem_cons.mpr ⟨lw_p11, List.forall_mem_cons.mpr ⟨lw_p12, List.forall_mem_cons.mpr ⟨lw_p13, List.forall_mem_cons.mpr ⟨lw_p14, List.forall_mem_cons.mpr ⟨lw_p15, fun _ h => absurd h List.not_mem_nil⟩⟩⟩⟩⟩⟩⟩⟩⟩⟩⟩⟩⟩⟩⟩⟩
theorem lw_p16 : lw_okq (⟨"FerriedInWords$Reader", "readSum", "(I)V"⟩, 10) := ⟨⟨by decide +kernel, by decide +kernel⟩, List.mem_of_getElem? (i := 185) (by decide +kernel), List.mem_of_getElem? (i := 368) (by decide +kernel), List.mem_of_getElem? (i := 369) (by decide +kernel)⟩
theorem lw_p17 : lw_okq (⟨"FerriedInWords$Reader", "readTerm", "(I)V"⟩, 10) := ⟨⟨by decide +kernel, by decide +kernel⟩, List.mem_of_getElem? (i := 185) (by decide +kernel), List.mem_of_getElem? (i := 372) (by decide +kernel), List.mem_of_getElem? (i := 373) (by decide +kernel)⟩
theorem lw_p18 : lw_okq (⟨"FerriedInWords$Reader", "readOne", "(I)V"⟩, 10) := ⟨⟨by decide +kernel, by decide +kernel⟩, List.mem_of_getElem? (i := 185) (by decide +kernel), List.mem_of_getElem? (i := 376) (by decide +kernel), List.mem_of_getElem? (i := 377) (by decide +kernel)⟩
theorem lw_p19 : lw_okq (⟨"FerriedInWords", "telling", "(LFerriedInWords$Crossing;LFerriedInWords$One;I)I"⟩, 13) := ⟨⟨by decide +kernel, by decide +kernel⟩, List.mem_of_getElem? (i := 22) (by decide +kernel), List.mem_of_getElem? (i := 459) (by decide +kernel), List.mem_of_getElem? (i := 460) (by decide +kernel)⟩
theorem lw_p20 : lw_okq (⟨"FerriedInWords", "kindOf", "(LFerriedInWords$One;)LFerriedInWords$Teller;"⟩, 13) := ⟨⟨by decide +kernel, by decide +kernel⟩, List.mem_of_getElem? (i := 22) (by decide +kernel), List.mem_of_getElem? (i := 463) (by decide +kernel), List.mem_of_getElem? (i := 464) (by decide +kernel)⟩
theorem lw_p21 : lw_okq (⟨"FerriedInWords", "keeping", "(LFerriedInWords$Crossing;LFerriedInWords$One;I)I"⟩, 13) := ⟨⟨by decide +kernel, by decide +kernel⟩, List.mem_of_getElem? (i := 22) (by decide +kernel), List.mem_of_getElem? (i := 467) (by decide +kernel), List.mem_of_getElem? (i := 468) (by decide +kernel)⟩
theorem lw_p22 : lw_okq (⟨"FerriedInWords", "ruleOf", "(LFerriedInWords$Crossing;)LFerriedInWords$Text;"⟩, 13) := ⟨⟨by decide +kernel, by decide +kernel⟩, List.mem_of_getElem? (i := 22) (by decide +kernel), List.mem_of_getElem? (i := 471) (by decide +kernel), List.mem_of_getElem? (i := 472) (by decide +kernel)⟩
theorem lw_p23 : lw_okq (⟨"FerriedInWords", "tiring", "(LFerriedInWords$Crossing;LFerriedInWords$One;I)I"⟩, 13) := ⟨⟨by decide +kernel, by decide +kernel⟩, List.mem_of_getElem? (i := 22) (by decide +kernel), List.mem_of_getElem? (i := 553) (by decide +kernel), List.mem_of_getElem? (i := 554) (by decide +kernel)⟩
theorem lw_p24 : lw_okq (⟨"FerriedInWords", "learning", "(LFerriedInWords$Crossing;LFerriedInWords$One;I)Z"⟩, 13) := ⟨⟨by decide +kernel, by decide +kernel⟩, List.mem_of_getElem? (i := 22) (by decide +kernel), List.mem_of_getElem? (i := 580) (by decide +kernel), List.mem_of_getElem? (i := 581) (by decide +kernel)⟩
theorem lw_p25 : lw_okq (⟨"FerriedInWords", "toldByRow", "(LFerriedInWords$Sheet;I)I"⟩, 13) := ⟨⟨by decide +kernel, by decide +kernel⟩, List.mem_of_getElem? (i := 22) (by decide +kernel), List.mem_of_getElem? (i := 626) (by decide +kernel), List.mem_of_getElem? (i := 627) (by decide +kernel)⟩
theorem lw_p26 : lw_okq (⟨"FerriedInWords", "passDay", "(LFerriedInWords$Crossing;)I"⟩, 13) := ⟨⟨by decide +kernel, by decide +kernel⟩, List.mem_of_getElem? (i := 22) (by decide +kernel), List.mem_of_getElem? (i := 638) (by decide +kernel), List.mem_of_getElem? (i := 639) (by decide +kernel)⟩
theorem lw_p27 : lw_okq (⟨"FerriedInWords", "tellTruly", "(LFerriedInWords$Crossing;LFerriedInWords$One;I)I"⟩, 13) := ⟨⟨by decide +kernel, by decide +kernel⟩, List.mem_of_getElem? (i := 22) (by decide +kernel), List.mem_of_getElem? (i := 646) (by decide +kernel), List.mem_of_getElem? (i := 647) (by decide +kernel)⟩
theorem lw_p28 : lw_okq (⟨"FerriedInWords", "isAskedOfRun", "(I)Z"⟩, 13) := ⟨⟨by decide +kernel, by decide +kernel⟩, List.mem_of_getElem? (i := 22) (by decide +kernel), List.mem_of_getElem? (i := 655) (by decide +kernel), List.mem_of_getElem? (i := 656) (by decide +kernel)⟩
theorem lw_p29 : lw_okq (⟨"FerriedInWords", "toldByAll", "(LFerriedInWords$Crossing;I)I"⟩, 13) := ⟨⟨by decide +kernel, by decide +kernel⟩, List.mem_of_getElem? (i := 22) (by decide +kernel), List.mem_of_getElem? (i := 671) (by decide +kernel), List.mem_of_getElem? (i := 672) (by decide +kernel)⟩
theorem lw_p30 : lw_okq (⟨"FerriedInWords", "tryRows", "(IIIII)V"⟩, 13) := ⟨⟨by decide +kernel, by decide +kernel⟩, List.mem_of_getElem? (i := 22) (by decide +kernel), List.mem_of_getElem? (i := 679) (by decide +kernel), List.mem_of_getElem? (i := 680) (by decide +kernel)⟩
theorem lw_p31 : lw_okq (⟨"FerriedInWords", "toldWithMore", "(II)I"⟩, 13) := ⟨⟨by decide +kernel, by decide +kernel⟩, List.mem_of_getElem? (i := 22) (by decide +kernel), List.mem_of_getElem? (i := 687) (by decide +kernel), List.mem_of_getElem? (i := 688) (by decide +kernel)⟩
def lw_privs_2 : List (MethodName × Nat) := [(⟨"FerriedInWords$Reader", "readSum", "(I)V"⟩, 10), (⟨"FerriedInWords$Reader", "readTerm", "(I)V"⟩, 10), (⟨"FerriedInWords$Reader", "readOne", "(I)V"⟩, 10), (⟨"FerriedInWords", "telling", "(LFerriedInWords$Crossing;LFerriedInWords$One;I)I"⟩, 13), (⟨"FerriedInWords", "kindOf", "(LFerriedInWords$One;)LFerriedInWords$Teller;"⟩, 13), (⟨"FerriedInWords", "keeping", "(LFerriedInWords$Crossing;LFerriedInWords$One;I)I"⟩, 13), (⟨"FerriedInWords", "ruleOf", "(LFerriedInWords$Crossing;)LFerriedInWords$Text;"⟩, 13), (⟨"FerriedInWords", "tiring", "(LFerriedInWords$Crossing;LFerriedInWords$One;I)I"⟩, 13), (⟨"FerriedInWords", "learning", "(LFerriedInWords$Crossing;LFerriedInWords$One;I)Z"⟩, 13), (⟨"FerriedInWords", "toldByRow", "(LFerriedInWords$Sheet;I)I"⟩, 13), (⟨"FerriedInWords", "passDay", "(LFerriedInWords$Crossing;)I"⟩, 13), (⟨"FerriedInWords", "tellTruly", "(LFerriedInWords$Crossing;LFerriedInWords$One;I)I"⟩, 13), (⟨"FerriedInWords", "isAskedOfRun", "(I)Z"⟩, 13), (⟨"FerriedInWords", "toldByAll", "(LFerriedInWords$Crossing;I)I"⟩, 13), (⟨"FerriedInWords", "tryRows", "(IIIII)V"⟩, 13), (⟨"FerriedInWords", "toldWithMore", "(II)I"⟩, 13)]
theorem lw_r2 : ∀ q ∈ lw_privs_2, lw_okq q := List.forall_mem_cons.mpr ⟨lw_p16, List.forall_mem_cons.mpr ⟨lw_p17, List.forall_mem_cons.mpr ⟨lw_p18, List.forall_mem_cons.mpr ⟨lw_p19, List.forall_mem_cons.mpr ⟨lw_p20, List.forall_mem_cons.mpr ⟨lw_p21, List.forall_mem_cons.mpr ⟨lw_p22, List.forall_mem_cons.mpr ⟨lw_p23, List.forall_mem_cons.mpr ⟨lw_p24, List.forall_mem_cons.mpr ⟨lw_p25, List.forall_mem_cons.mpr ⟨lw_p26, List.forall_mem_cons.mpr ⟨lw_p27, List.forall_mem_cons.mpr ⟨lw_p28, List.forall_mem_cons.mpr ⟨lw_p29, List.forall_mem_cons.mpr ⟨lw_p30, List.forall_mem_cons.mpr ⟨lw_p31, fun _ h => absurd h List.not_mem_nil⟩⟩⟩⟩⟩⟩⟩⟩⟩⟩⟩⟩⟩⟩⟩⟩
theorem lw_p32 : lw_okq (⟨"FerriedInWords", "firstOtherwise", "(LFerriedInWords$Sheet;I)I"⟩, 13) := ⟨⟨by decide +kernel, by decide +kernel⟩, List.mem_of_getElem? (i := 22) (by decide +kernel), List.mem_of_getElem? (i := 710) (by decide +kernel), List.mem_of_getElem? (i := 711) (by decide +kernel)⟩
theorem lw_p33 : lw_okq (⟨"FerriedInWords", "suiting", "(LFerriedInWords$Sheet;IIII)I"⟩, 13) := ⟨⟨by decide +kernel, by decide +kernel⟩, List.mem_of_getElem? (i := 22) (by decide +kernel), List.mem_of_getElem? (i := 714) (by decide +kernel), List.mem_of_getElem? (i := 715) (by decide +kernel)⟩
theorem lw_p34 : lw_okq (⟨"FerriedInWords", "vary", "(III)V"⟩, 13) := ⟨⟨by decide +kernel, by decide +kernel⟩, List.mem_of_getElem? (i := 22) (by decide +kernel), List.mem_of_getElem? (i := 718) (by decide +kernel), List.mem_of_getElem? (i := 719) (by decide +kernel)⟩
theorem lw_p35 : lw_okq (⟨"FerriedInWords", "offOfDrawn", "(II)I"⟩, 13) := ⟨⟨by decide +kernel, by decide +kernel⟩, List.mem_of_getElem? (i := 22) (by decide +kernel), List.mem_of_getElem? (i := 739) (by decide +kernel), List.mem_of_getElem? (i := 740) (by decide +kernel)⟩
theorem lw_p36 : lw_okq (⟨"FerriedInWordsModel", "spell", "(IIIIIIIII)V"⟩, 45) := ⟨⟨by decide +kernel, by decide +kernel⟩, List.mem_of_getElem? (i := 813) (by decide +kernel), List.mem_of_getElem? (i := 819) (by decide +kernel), List.mem_of_getElem? (i := 820) (by decide +kernel)⟩
theorem lw_p37 : lw_okq (⟨"FerriedInWordsModel", "isOf", "(II)Z"⟩, 45) := ⟨⟨by decide +kernel, by decide +kernel⟩, List.mem_of_getElem? (i := 813) (by decide +kernel), List.mem_of_getElem? (i := 967) (by decide +kernel), List.mem_of_getElem? (i := 968) (by decide +kernel)⟩
theorem lw_p38 : lw_okq (⟨"FerriedInWordsModel", "isOne", "(I)Z"⟩, 45) := ⟨⟨by decide +kernel, by decide +kernel⟩, List.mem_of_getElem? (i := 813) (by decide +kernel), List.mem_of_getElem? (i := 971) (by decide +kernel), List.mem_of_getElem? (i := 972) (by decide +kernel)⟩
theorem lw_p39 : lw_okq (⟨"FerriedInWordsModel", "lays", "(III)V"⟩, 45) := ⟨⟨by decide +kernel, by decide +kernel⟩, List.mem_of_getElem? (i := 813) (by decide +kernel), List.mem_of_getElem? (i := 983) (by decide +kernel), List.mem_of_getElem? (i := 984) (by decide +kernel)⟩
theorem lw_p40 : lw_okq (⟨"FerriedInWordsModel", "read", "(II)I"⟩, 45) := ⟨⟨by decide +kernel, by decide +kernel⟩, List.mem_of_getElem? (i := 813) (by decide +kernel), List.mem_of_getElem? (i := 1009) (by decide +kernel), List.mem_of_getElem? (i := 1010) (by decide +kernel)⟩
theorem lw_p41 : lw_okq (⟨"FerriedInWordsModel", "next", "()V"⟩, 45) := ⟨⟨by decide +kernel, by decide +kernel⟩, List.mem_of_getElem? (i := 813) (by decide +kernel), List.mem_of_getElem? (i := 1013) (by decide +kernel), List.mem_of_getElem? (i := 1014) (by decide +kernel)⟩
theorem lw_p42 : lw_okq (⟨"FerriedInWordsModel", "byteAt", "(I)I"⟩, 45) := ⟨⟨by decide +kernel, by decide +kernel⟩, List.mem_of_getElem? (i := 813) (by decide +kernel), List.mem_of_getElem? (i := 1017) (by decide +kernel), List.mem_of_getElem? (i := 1018) (by decide +kernel)⟩
theorem lw_p43 : lw_okq (⟨"FerriedInWordsModel", "isWord", "(IIIIIIII)Z"⟩, 45) := ⟨⟨by decide +kernel, by decide +kernel⟩, List.mem_of_getElem? (i := 813) (by decide +kernel), List.mem_of_getElem? (i := 1026) (by decide +kernel), List.mem_of_getElem? (i := 1027) (by decide +kernel)⟩
theorem lw_p44 : lw_okq (⟨"FerriedInWordsModel", "isLetter", "(II)Z"⟩, 45) := ⟨⟨by decide +kernel, by decide +kernel⟩, List.mem_of_getElem? (i := 813) (by decide +kernel), List.mem_of_getElem? (i := 1030) (by decide +kernel), List.mem_of_getElem? (i := 1031) (by decide +kernel)⟩
theorem lw_p45 : lw_okq (⟨"FerriedInWordsModel", "part", "(Z)I"⟩, 45) := ⟨⟨by decide +kernel, by decide +kernel⟩, List.mem_of_getElem? (i := 813) (by decide +kernel), List.mem_of_getElem? (i := 1034) (by decide +kernel), List.mem_of_getElem? (i := 1035) (by decide +kernel)⟩
theorem lw_p46 : lw_okq (⟨"FerriedInWordsModel", "fail", "()V"⟩, 45) := ⟨⟨by decide +kernel, by decide +kernel⟩, List.mem_of_getElem? (i := 813) (by decide +kernel), List.mem_of_getElem? (i := 1038) (by decide +kernel), List.mem_of_getElem? (i := 1039) (by decide +kernel)⟩
theorem lw_p47 : lw_okq (⟨"FerriedInWordsModel", "either", "()I"⟩, 45) := ⟨⟨by decide +kernel, by decide +kernel⟩, List.mem_of_getElem? (i := 813) (by decide +kernel), List.mem_of_getElem? (i := 1042) (by decide +kernel), List.mem_of_getElem? (i := 1043) (by decide +kernel)⟩
def lw_privs_3 : List (MethodName × Nat) := [(⟨"FerriedInWords", "firstOtherwise", "(LFerriedInWords$Sheet;I)I"⟩, 13), (⟨"FerriedInWords", "suiting", "(LFerriedInWords$Sheet;IIII)I"⟩, 13), (⟨"FerriedInWords", "vary", "(III)V"⟩, 13), (⟨"FerriedInWords", "offOfDrawn", "(II)I"⟩, 13), (⟨"FerriedInWordsModel", "spell", "(IIIIIIIII)V"⟩, 45), (⟨"FerriedInWordsModel", "isOf", "(II)Z"⟩, 45), (⟨"FerriedInWordsModel", "isOne", "(I)Z"⟩, 45), (⟨"FerriedInWordsModel", "lays", "(III)V"⟩, 45), (⟨"FerriedInWordsModel", "read", "(II)I"⟩, 45), (⟨"FerriedInWordsModel", "next", "()V"⟩, 45), (⟨"FerriedInWordsModel", "byteAt", "(I)I"⟩, 45), (⟨"FerriedInWordsModel", "isWord", "(IIIIIIII)Z"⟩, 45), (⟨"FerriedInWordsModel", "isLetter", "(II)Z"⟩, 45), (⟨"FerriedInWordsModel", "part", "(Z)I"⟩, 45), (⟨"FerriedInWordsModel", "fail", "()V"⟩, 45), (⟨"FerriedInWordsModel", "either", "()I"⟩, 45)]
theorem lw_r3 : ∀ q ∈ lw_privs_3, lw_okq q := List.forall_mem_cons.mpr ⟨lw_p32, List.forall_mem_cons.mpr ⟨lw_p33, List.forall_mem_cons.mpr ⟨lw_p34, List.forall_mem_cons.mpr ⟨lw_p35, List.forall_mem_cons.mpr ⟨lw_p36, List.forall_mem_cons.mpr ⟨lw_p37, List.forall_mem_cons.mpr ⟨lw_p38, List.forall_mem_cons.mpr ⟨lw_p39, List.forall_mem_cons.mpr ⟨lw_p40, List.forall_mem_cons.mpr ⟨lw_p41, List.forall_mem_cons.mpr ⟨lw_p42, List.forall_mem_cons.mpr ⟨lw_p43, List.forall_mem_cons.mpr ⟨lw_p44, List.forall_mem_cons.mpr ⟨lw_p45, List.forall_mem_cons.mpr ⟨lw_p46, List.forall_mem_cons.mpr ⟨lw_p47, fun _ h => absurd h List.not_mem_nil⟩⟩⟩⟩⟩⟩⟩⟩⟩⟩⟩⟩⟩⟩⟩⟩
theorem lw_p48 : lw_okq (⟨"FerriedInWordsModel", "both", "()I"⟩, 45) := ⟨⟨by decide +kernel, by decide +kernel⟩, List.mem_of_getElem? (i := 813) (by decide +kernel), List.mem_of_getElem? (i := 1046) (by decide +kernel), List.mem_of_getElem? (i := 1047) (by decide +kernel)⟩
theorem lw_p49 : lw_okq (⟨"FerriedInWordsModel", "not", "()I"⟩, 45) := ⟨⟨by decide +kernel, by decide +kernel⟩, List.mem_of_getElem? (i := 813) (by decide +kernel), List.mem_of_getElem? (i := 1050) (by decide +kernel), List.mem_of_getElem? (i := 1051) (by decide +kernel)⟩
theorem lw_p50 : lw_okq (⟨"FerriedInWordsModel", "opens", "()Z"⟩, 45) := ⟨⟨by decide +kernel, by decide +kernel⟩, List.mem_of_getElem? (i := 813) (by decide +kernel), List.mem_of_getElem? (i := 1054) (by decide +kernel), List.mem_of_getElem? (i := 1055) (by decide +kernel)⟩
theorem lw_p51 : lw_okq (⟨"FerriedInWordsModel", "added", "()I"⟩, 45) := ⟨⟨by decide +kernel, by decide +kernel⟩, List.mem_of_getElem? (i := 813) (by decide +kernel), List.mem_of_getElem? (i := 1058) (by decide +kernel), List.mem_of_getElem? (i := 1059) (by decide +kernel)⟩
theorem lw_p52 : lw_okq (⟨"FerriedInWordsModel", "term", "()I"⟩, 45) := ⟨⟨by decide +kernel, by decide +kernel⟩, List.mem_of_getElem? (i := 813) (by decide +kernel), List.mem_of_getElem? (i := 1062) (by decide +kernel), List.mem_of_getElem? (i := 1063) (by decide +kernel)⟩
theorem lw_p53 : lw_okq (⟨"FerriedInWordsModel", "atom", "()I"⟩, 45) := ⟨⟨by decide +kernel, by decide +kernel⟩, List.mem_of_getElem? (i := 813) (by decide +kernel), List.mem_of_getElem? (i := 1066) (by decide +kernel), List.mem_of_getElem? (i := 1067) (by decide +kernel)⟩
theorem lw_p54 : lw_okq (⟨"FerriedInWordsModel", "isSign", "(I)Z"⟩, 45) := ⟨⟨by decide +kernel, by decide +kernel⟩, List.mem_of_getElem? (i := 813) (by decide +kernel), List.mem_of_getElem? (i := 1070) (by decide +kernel), List.mem_of_getElem? (i := 1071) (by decide +kernel)⟩
theorem lw_p55 : lw_okq (⟨"FerriedInWordsModel", "name", "()I"⟩, 45) := ⟨⟨by decide +kernel, by decide +kernel⟩, List.mem_of_getElem? (i := 813) (by decide +kernel), List.mem_of_getElem? (i := 1074) (by decide +kernel), List.mem_of_getElem? (i := 1075) (by decide +kernel)⟩
theorem lw_p56 : lw_okq (⟨"FerriedInWordsModel", "tellsOf", "(II)I"⟩, 45) := ⟨⟨by decide +kernel, by decide +kernel⟩, List.mem_of_getElem? (i := 813) (by decide +kernel), List.mem_of_getElem? (i := 1089) (by decide +kernel), List.mem_of_getElem? (i := 1090) (by decide +kernel)⟩
theorem lw_p57 : lw_okq (⟨"FerriedInWordsModel", "wordsOf", "(I)I"⟩, 45) := ⟨⟨by decide +kernel, by decide +kernel⟩, List.mem_of_getElem? (i := 813) (by decide +kernel), List.mem_of_getElem? (i := 1093) (by decide +kernel), List.mem_of_getElem? (i := 1094) (by decide +kernel)⟩
theorem lw_p58 : lw_okq (⟨"FerriedInWordsModel", "keepsOf", "(II)I"⟩, 45) := ⟨⟨by decide +kernel, by decide +kernel⟩, List.mem_of_getElem? (i := 813) (by decide +kernel), List.mem_of_getElem? (i := 1097) (by decide +kernel), List.mem_of_getElem? (i := 1098) (by decide +kernel)⟩
theorem lw_p59 : lw_okq (⟨"FerriedInWordsModel", "says", "(III)I"⟩, 45) := ⟨⟨by decide +kernel, by decide +kernel⟩, List.mem_of_getElem? (i := 813) (by decide +kernel), List.mem_of_getElem? (i := 1101) (by decide +kernel), List.mem_of_getElem? (i := 1102) (by decide +kernel)⟩
theorem lw_p60 : lw_okq (⟨"FerriedInWordsModel", "tiresOf", "(II)I"⟩, 45) := ⟨⟨by decide +kernel, by decide +kernel⟩, List.mem_of_getElem? (i := 813) (by decide +kernel), List.mem_of_getElem? (i := 1111) (by decide +kernel), List.mem_of_getElem? (i := 1112) (by decide +kernel)⟩
theorem lw_p61 : lw_okq (⟨"FerriedInWordsModel", "learns", "(II)Z"⟩, 45) := ⟨⟨by decide +kernel, by decide +kernel⟩, List.mem_of_getElem? (i := 813) (by decide +kernel), List.mem_of_getElem? (i := 1115) (by decide +kernel), List.mem_of_getElem? (i := 1116) (by decide +kernel)⟩
theorem lw_p62 : lw_okq (⟨"FerriedInWordsModel", "passes", "()I"⟩, 45) := ⟨⟨by decide +kernel, by decide +kernel⟩, List.mem_of_getElem? (i := 813) (by decide +kernel), List.mem_of_getElem? (i := 1133) (by decide +kernel), List.mem_of_getElem? (i := 1134) (by decide +kernel)⟩
theorem lw_p63 : lw_okq (⟨"FerriedInWordsModel", "tellsTruly", "(II)I"⟩, 45) := ⟨⟨by decide +kernel, by decide +kernel⟩, List.mem_of_getElem? (i := 813) (by decide +kernel), List.mem_of_getElem? (i := 1137) (by decide +kernel), List.mem_of_getElem? (i := 1138) (by decide +kernel)⟩
def lw_privs_4 : List (MethodName × Nat) := [(⟨"FerriedInWordsModel", "both", "()I"⟩, 45), (⟨"FerriedInWordsModel", "not", "()I"⟩, 45), (⟨"FerriedInWordsModel", "opens", "()Z"⟩, 45), (⟨"FerriedInWordsModel", "added", "()I"⟩, 45), (⟨"FerriedInWordsModel", "term", "()I"⟩, 45), (⟨"FerriedInWordsModel", "atom", "()I"⟩, 45), (⟨"FerriedInWordsModel", "isSign", "(I)Z"⟩, 45), (⟨"FerriedInWordsModel", "name", "()I"⟩, 45), (⟨"FerriedInWordsModel", "tellsOf", "(II)I"⟩, 45), (⟨"FerriedInWordsModel", "wordsOf", "(I)I"⟩, 45), (⟨"FerriedInWordsModel", "keepsOf", "(II)I"⟩, 45), (⟨"FerriedInWordsModel", "says", "(III)I"⟩, 45), (⟨"FerriedInWordsModel", "tiresOf", "(II)I"⟩, 45), (⟨"FerriedInWordsModel", "learns", "(II)Z"⟩, 45), (⟨"FerriedInWordsModel", "passes", "()I"⟩, 45), (⟨"FerriedInWordsModel", "tellsTruly", "(II)I"⟩, 45)]
theorem lw_r4 : ∀ q ∈ lw_privs_4, lw_okq q := List.forall_mem_cons.mpr ⟨lw_p48, List.forall_mem_cons.mpr ⟨lw_p49, List.forall_mem_cons.mpr ⟨lw_p50, List.forall_mem_cons.mpr ⟨lw_p51, List.forall_mem_cons.mpr ⟨lw_p52, List.forall_mem_cons.mpr ⟨lw_p53, List.forall_mem_cons.mpr ⟨lw_p54, List.forall_mem_cons.mpr ⟨lw_p55, List.forall_mem_cons.mpr ⟨lw_p56, List.forall_mem_cons.mpr ⟨lw_p57, List.forall_mem_cons.mpr ⟨lw_p58, List.forall_mem_cons.mpr ⟨lw_p59, List.forall_mem_cons.mpr ⟨lw_p60, List.forall_mem_cons.mpr ⟨lw_p61, List.forall_mem_cons.mpr ⟨lw_p62, List.forall_mem_cons.mpr ⟨lw_p63, fun _ h => absurd h List.not_mem_nil⟩⟩⟩⟩⟩⟩⟩⟩⟩⟩⟩⟩⟩⟩⟩⟩
theorem lw_p64 : lw_okq (⟨"FerriedInWordsModel", "laysAside", "()V"⟩, 45) := ⟨⟨by decide +kernel, by decide +kernel⟩, List.mem_of_getElem? (i := 813) (by decide +kernel), List.mem_of_getElem? (i := 1148) (by decide +kernel), List.mem_of_getElem? (i := 1149) (by decide +kernel)⟩
theorem lw_p65 : lw_okq (⟨"FerriedInWordsModel", "laysBack", "()V"⟩, 45) := ⟨⟨by decide +kernel, by decide +kernel⟩, List.mem_of_getElem? (i := 813) (by decide +kernel), List.mem_of_getElem? (i := 1152) (by decide +kernel), List.mem_of_getElem? (i := 1153) (by decide +kernel)⟩
theorem lw_p66 : lw_okq (⟨"FerriedInWordsModel", "byAll", "(I)I"⟩, 45) := ⟨⟨by decide +kernel, by decide +kernel⟩, List.mem_of_getElem? (i := 813) (by decide +kernel), List.mem_of_getElem? (i := 1160) (by decide +kernel), List.mem_of_getElem? (i := 1161) (by decide +kernel)⟩
theorem lw_p67 : lw_okq (⟨"FerriedInWordsModel", "rowsFrom", "(IIIIII)V"⟩, 45) := ⟨⟨by decide +kernel, by decide +kernel⟩, List.mem_of_getElem? (i := 813) (by decide +kernel), List.mem_of_getElem? (i := 1168) (by decide +kernel), List.mem_of_getElem? (i := 1169) (by decide +kernel)⟩
theorem lw_p68 : lw_okq (⟨"FerriedInWordsModel", "firstOther", "(II)I"⟩, 45) := ⟨⟨by decide +kernel, by decide +kernel⟩, List.mem_of_getElem? (i := 813) (by decide +kernel), List.mem_of_getElem? (i := 1192) (by decide +kernel), List.mem_of_getElem? (i := 1193) (by decide +kernel)⟩
theorem lw_p69 : lw_okq (⟨"FerriedInWordsModel", "likeSet", "(I)I"⟩, 45) := ⟨⟨by decide +kernel, by decide +kernel⟩, List.mem_of_getElem? (i := 813) (by decide +kernel), List.mem_of_getElem? (i := 1196) (by decide +kernel), List.mem_of_getElem? (i := 1197) (by decide +kernel)⟩
theorem lw_p70 : lw_okq (⟨"FerriedInWordsModel", "offDrawn", "(II)I"⟩, 45) := ⟨⟨by decide +kernel, by decide +kernel⟩, List.mem_of_getElem? (i := 813) (by decide +kernel), List.mem_of_getElem? (i := 1215) (by decide +kernel), List.mem_of_getElem? (i := 1216) (by decide +kernel)⟩
def lw_privs_5 : List (MethodName × Nat) := [(⟨"FerriedInWordsModel", "laysAside", "()V"⟩, 45), (⟨"FerriedInWordsModel", "laysBack", "()V"⟩, 45), (⟨"FerriedInWordsModel", "byAll", "(I)I"⟩, 45), (⟨"FerriedInWordsModel", "rowsFrom", "(IIIIII)V"⟩, 45), (⟨"FerriedInWordsModel", "firstOther", "(II)I"⟩, 45), (⟨"FerriedInWordsModel", "likeSet", "(I)I"⟩, 45), (⟨"FerriedInWordsModel", "offDrawn", "(II)I"⟩, 45)]
theorem lw_r5 : ∀ q ∈ lw_privs_5, lw_okq q := List.forall_mem_cons.mpr ⟨lw_p64, List.forall_mem_cons.mpr ⟨lw_p65, List.forall_mem_cons.mpr ⟨lw_p66, List.forall_mem_cons.mpr ⟨lw_p67, List.forall_mem_cons.mpr ⟨lw_p68, List.forall_mem_cons.mpr ⟨lw_p69, List.forall_mem_cons.mpr ⟨lw_p70, fun _ h => absurd h List.not_mem_nil⟩⟩⟩⟩⟩⟩⟩
def lw_privs : List (MethodName × Nat) := lw_privs_1 ++ (lw_privs_2 ++ (lw_privs_3 ++ (lw_privs_4 ++ (lw_privs_5))))
def lw_tbl : List Cond := k2_sels lw_privs ++ tables_1
theorem lw_privs_ok : ∀ q ∈ lw_privs, lw_okq q := by
  show ∀ q ∈ lw_privs_1 ++ (lw_privs_2 ++ (lw_privs_3 ++ (lw_privs_4 ++ (lw_privs_5)))), lw_okq q
  exact List.forall_mem_append.mpr ⟨lw_r1, List.forall_mem_append.mpr ⟨lw_r2, List.forall_mem_append.mpr ⟨lw_r3, List.forall_mem_append.mpr ⟨lw_r4, lw_r5⟩⟩⟩⟩
-- ===== end of PART A; then your names; then what follows =====
def RX0 : String := "FerriedInWords$Crossing"
def TX0 : u_T := fun k => match k with
  | 0 => ("FerriedInWords$Crossing", "people", "[LFerriedInWords$One;", true)
  | 1 => ("FerriedInWords$Crossing", "jetty", "[I", true)
  | 2 => ("FerriedInWords$Crossing", "there", "I", false)
  | 3 => ("FerriedInWords$Crossing", "things", "I", false)
  | 4 => ("FerriedInWords$Crossing", "day", "I", false)
  | 5 => ("FerriedInWords$Crossing", "come", "I", false)
  | _ => ("FerriedInWords$Crossing", "rule", "I", false)
def tyX0 : Nat → FieldType := fun k => match k with
  | 0 => .array (.object "FerriedInWords$One")
  | 1 => .array .int
  | 2 => .int
  | 3 => .int
  | 4 => .int
  | 5 => .int
  | _ => .int
abbrev wsX00 : List Cond := u_ws RX0 TX0 7
theorem nmX0 : ∀ a, a < 7 → ∀ b, b < 7 → a ≠ b → (TX0 a).2.1 ≠ (TX0 b).2.1 := by decide +kernel
theorem tyX0_ok : ∀ k, k < 7 → parseFieldDescriptor (TX0 k).2.2.1 = some (tyX0 k) := by decide +kernel
abbrev cX0_init : ByteArray := prog_2_method_1_code
def yX0_init : MethodName := ⟨RX0, "<init>", "()V"⟩
abbrev cX0_isThere : ByteArray := prog_2_method_2_code
def yX0_isThere : MethodName := ⟨RX0, "isThere", "(I)Z"⟩
abbrev cX0_takeFirst : ByteArray := prog_2_method_3_code
def yX0_takeFirst : MethodName := ⟨RX0, "takeFirst", "()I"⟩
abbrev cX0_become : ByteArray := prog_2_method_4_code
def yX0_become : MethodName := ⟨RX0, "become", "(LFerriedInWords$Crossing;)V"⟩
def RX1 : String := "FerriedInWords$Engineer"
def TX1 : u_T := fun k => match k with
  | _ => ("", "", "", false)
def tyX1 : Nat → FieldType := fun k => match k with
  | _ => .int
abbrev wsX10 : List Cond := u_ws RX1 TX1 0
theorem nmX1 : ∀ a, a < 0 → ∀ b, b < 0 → a ≠ b → (TX1 a).2.1 ≠ (TX1 b).2.1 := by decide +kernel
theorem tyX1_ok : ∀ k, k < 0 → parseFieldDescriptor (TX1 k).2.2.1 = some (tyX1 k) := by decide +kernel
abbrev cX1_init : ByteArray := prog_3_method_1_code
def yX1_init : MethodName := ⟨RX1, "<init>", "()V"⟩
abbrev cX1_isUnder : ByteArray := prog_3_method_2_code
def yX1_isUnder : MethodName := ⟨RX1, "isUnder", "(I)Z"⟩
abbrev cX1_keptOf : ByteArray := prog_3_method_3_code
def yX1_keptOf : MethodName := ⟨RX1, "keptOf", "(II)I"⟩
abbrev cX1_wordsFor : ByteArray := prog_3_method_4_code
def yX1_wordsFor : MethodName := ⟨RX1, "wordsFor", "(LFerriedInWords$One;II)I"⟩
abbrev cX1_wearies : ByteArray := prog_3_method_5_code
def yX1_wearies : MethodName := ⟨RX1, "wearies", "(ILFerriedInWords$One;)I"⟩
abbrev cX1_takesIn : ByteArray := prog_3_method_6_code
def yX1_takesIn : MethodName := ⟨RX1, "takesIn", "(ZI)Z"⟩
def RX2 : String := "FerriedInWords$Father"
def TX2 : u_T := fun k => match k with
  | _ => ("", "", "", false)
def tyX2 : Nat → FieldType := fun k => match k with
  | _ => .int
abbrev wsX20 : List Cond := u_ws RX2 TX2 0
theorem nmX2 : ∀ a, a < 0 → ∀ b, b < 0 → a ≠ b → (TX2 a).2.1 ≠ (TX2 b).2.1 := by decide +kernel
theorem tyX2_ok : ∀ k, k < 0 → parseFieldDescriptor (TX2 k).2.2.1 = some (tyX2 k) := by decide +kernel
abbrev cX2_init : ByteArray := prog_4_method_1_code
def yX2_init : MethodName := ⟨RX2, "<init>", "()V"⟩
abbrev cX2_isUnder : ByteArray := prog_4_method_2_code
def yX2_isUnder : MethodName := ⟨RX2, "isUnder", "(I)Z"⟩
abbrev cX2_keptOf : ByteArray := prog_4_method_3_code
def yX2_keptOf : MethodName := ⟨RX2, "keptOf", "(II)I"⟩
abbrev cX2_wordsFor : ByteArray := prog_4_method_4_code
def yX2_wordsFor : MethodName := ⟨RX2, "wordsFor", "(LFerriedInWords$One;II)I"⟩
abbrev cX2_wearies : ByteArray := prog_4_method_5_code
def yX2_wearies : MethodName := ⟨RX2, "wearies", "(ILFerriedInWords$One;)I"⟩
abbrev cX2_takesIn : ByteArray := prog_4_method_6_code
def yX2_takesIn : MethodName := ⟨RX2, "takesIn", "(ZI)Z"⟩
def RX3 : String := "FerriedInWords$Liar"
def TX3 : u_T := fun k => match k with
  | _ => ("", "", "", false)
def tyX3 : Nat → FieldType := fun k => match k with
  | _ => .int
abbrev wsX30 : List Cond := u_ws RX3 TX3 0
theorem nmX3 : ∀ a, a < 0 → ∀ b, b < 0 → a ≠ b → (TX3 a).2.1 ≠ (TX3 b).2.1 := by decide +kernel
theorem tyX3_ok : ∀ k, k < 0 → parseFieldDescriptor (TX3 k).2.2.1 = some (tyX3 k) := by decide +kernel
abbrev cX3_init : ByteArray := prog_5_method_1_code
def yX3_init : MethodName := ⟨RX3, "<init>", "()V"⟩
abbrev cX3_isUnder : ByteArray := prog_5_method_2_code
def yX3_isUnder : MethodName := ⟨RX3, "isUnder", "(I)Z"⟩
abbrev cX3_wordsFor : ByteArray := prog_5_method_3_code
def yX3_wordsFor : MethodName := ⟨RX3, "wordsFor", "(LFerriedInWords$One;II)I"⟩
abbrev cX3_wearies : ByteArray := prog_5_method_4_code
def yX3_wearies : MethodName := ⟨RX3, "wearies", "(ILFerriedInWords$One;)I"⟩
abbrev cX3_takesIn : ByteArray := prog_5_method_5_code
def yX3_takesIn : MethodName := ⟨RX3, "takesIn", "(ZI)Z"⟩
def RX4 : String := "FerriedInWords$Lover"
def TX4 : u_T := fun k => match k with
  | _ => ("", "", "", false)
def tyX4 : Nat → FieldType := fun k => match k with
  | _ => .int
abbrev wsX40 : List Cond := u_ws RX4 TX4 0
theorem nmX4 : ∀ a, a < 0 → ∀ b, b < 0 → a ≠ b → (TX4 a).2.1 ≠ (TX4 b).2.1 := by decide +kernel
theorem tyX4_ok : ∀ k, k < 0 → parseFieldDescriptor (TX4 k).2.2.1 = some (tyX4 k) := by decide +kernel
abbrev cX4_init : ByteArray := prog_6_method_1_code
def yX4_init : MethodName := ⟨RX4, "<init>", "()V"⟩
abbrev cX4_isUnder : ByteArray := prog_6_method_2_code
def yX4_isUnder : MethodName := ⟨RX4, "isUnder", "(I)Z"⟩
abbrev cX4_keptOf : ByteArray := prog_6_method_3_code
def yX4_keptOf : MethodName := ⟨RX4, "keptOf", "(II)I"⟩
abbrev cX4_wordsFor : ByteArray := prog_6_method_4_code
def yX4_wordsFor : MethodName := ⟨RX4, "wordsFor", "(LFerriedInWords$One;II)I"⟩
abbrev cX4_wearies : ByteArray := prog_6_method_5_code
def yX4_wearies : MethodName := ⟨RX4, "wearies", "(ILFerriedInWords$One;)I"⟩
def RX5 : String := "FerriedInWords$One"
def TX5 : u_T := fun k => match k with
  | 0 => ("FerriedInWords$One", "kind", "I", false)
  | 1 => ("FerriedInWords$One", "number", "I", false)
  | 2 => ("FerriedInWords$One", "words", "I", false)
  | 3 => ("FerriedInWords$One", "memory", "I", false)
  | _ => ("FerriedInWords$One", "said", "I", false)
def tyX5 : Nat → FieldType := fun k => match k with
  | 0 => .int
  | 1 => .int
  | 2 => .int
  | 3 => .int
  | _ => .int
abbrev wsX50 : List Cond := u_ws RX5 TX5 5
theorem nmX5 : ∀ a, a < 5 → ∀ b, b < 5 → a ≠ b → (TX5 a).2.1 ≠ (TX5 b).2.1 := by decide +kernel
theorem tyX5_ok : ∀ k, k < 5 → parseFieldDescriptor (TX5 k).2.2.1 = some (tyX5 k) := by decide +kernel
abbrev cX5_init : ByteArray := prog_7_method_1_code
def yX5_init : MethodName := ⟨RX5, "<init>", "()V"⟩
abbrev cX5_worth : ByteArray := prog_7_method_2_code
def yX5_worth : MethodName := ⟨RX5, "worth", "(I)I"⟩
abbrev cX5_become : ByteArray := prog_7_method_3_code
def yX5_become : MethodName := ⟨RX5, "become", "(II)V"⟩
abbrev cX5_become_ : ByteArray := prog_7_method_4_code
def yX5_become_ : MethodName := ⟨RX5, "become", "(LFerriedInWords$One;)V"⟩
def RX6 : String := "FerriedInWords$Plain"
def TX6 : u_T := fun k => match k with
  | _ => ("", "", "", false)
def tyX6 : Nat → FieldType := fun k => match k with
  | _ => .int
abbrev wsX60 : List Cond := u_ws RX6 TX6 0
theorem nmX6 : ∀ a, a < 0 → ∀ b, b < 0 → a ≠ b → (TX6 a).2.1 ≠ (TX6 b).2.1 := by decide +kernel
theorem tyX6_ok : ∀ k, k < 0 → parseFieldDescriptor (TX6 k).2.2.1 = some (tyX6 k) := by decide +kernel
abbrev cX6_init : ByteArray := prog_8_method_1_code
def yX6_init : MethodName := ⟨RX6, "<init>", "()V"⟩
abbrev cX6_isUnder : ByteArray := prog_8_method_2_code
def yX6_isUnder : MethodName := ⟨RX6, "isUnder", "(I)Z"⟩
abbrev cX6_keptOf : ByteArray := prog_8_method_3_code
def yX6_keptOf : MethodName := ⟨RX6, "keptOf", "(II)I"⟩
abbrev cX6_wordsFor : ByteArray := prog_8_method_4_code
def yX6_wordsFor : MethodName := ⟨RX6, "wordsFor", "(LFerriedInWords$One;II)I"⟩
abbrev cX6_wearies : ByteArray := prog_8_method_5_code
def yX6_wearies : MethodName := ⟨RX6, "wearies", "(ILFerriedInWords$One;)I"⟩
abbrev cX6_takesIn : ByteArray := prog_8_method_6_code
def yX6_takesIn : MethodName := ⟨RX6, "takesIn", "(ZI)Z"⟩
def RX7 : String := "FerriedInWords$Reader"
def TX7 : u_T := fun k => match k with
  | 0 => ("FerriedInWords$Reader", "tape", "[I", true)
  | 1 => ("FerriedInWords$Reader", "size", "I", false)
  | 2 => ("FerriedInWords$Reader", "tokens", "[I", true)
  | 3 => ("FerriedInWords$Reader", "values", "[I", true)
  | 4 => ("FerriedInWords$Reader", "places", "[I", true)
  | 5 => ("FerriedInWords$Reader", "many", "I", false)
  | 6 => ("FerriedInWords$Reader", "at", "I", false)
  | 7 => ("FerriedInWords$Reader", "token", "I", false)
  | 8 => ("FerriedInWords$Reader", "fault", "I", false)
  | _ => ("FerriedInWords$Reader", "goal", "LFerriedInWords$Text;", false)
def tyX7 : Nat → FieldType := fun k => match k with
  | 0 => .array .int
  | 1 => .int
  | 2 => .array .int
  | 3 => .array .int
  | 4 => .array .int
  | 5 => .int
  | 6 => .int
  | 7 => .int
  | 8 => .int
  | _ => .object "FerriedInWords$Text"
abbrev wsX70 : List Cond := u_ws RX7 TX7 10
theorem nmX7 : ∀ a, a < 10 → ∀ b, b < 10 → a ≠ b → (TX7 a).2.1 ≠ (TX7 b).2.1 := by decide +kernel
theorem tyX7_ok : ∀ k, k < 10 → parseFieldDescriptor (TX7 k).2.2.1 = some (tyX7 k) := by decide +kernel
abbrev cX7_init : ByteArray := prog_9_method_1_code
def yX7_init : MethodName := ⟨RX7, "<init>", "(LFerriedInWords$Text;)V"⟩
abbrev cX7_put : ByteArray := prog_9_method_2_code
def yX7_put : MethodName := ⟨RX7, "put", "(I)Z"⟩
abbrev cX7_readInto : ByteArray := prog_9_method_3_code
def yX7_readInto : MethodName := ⟨RX7, "readInto", "(LFerriedInWords$Text;)I"⟩
abbrev cX7_readPart : ByteArray := prog_9_method_4_code
def yX7_readPart : MethodName := ⟨RX7, "readPart", "(II)V"⟩
abbrev cX7_readOrs : ByteArray := prog_9_method_5_code
def yX7_readOrs : MethodName := ⟨RX7, "readOrs", "(I)V"⟩
abbrev cX7_readAnds : ByteArray := prog_9_method_6_code
def yX7_readAnds : MethodName := ⟨RX7, "readAnds", "(I)V"⟩
abbrev cX7_readNot : ByteArray := prog_9_method_7_code
def yX7_readNot : MethodName := ⟨RX7, "readNot", "(I)V"⟩
abbrev cX7_readSum : ByteArray := prog_9_method_8_code
def yX7_readSum : MethodName := ⟨RX7, "readSum", "(I)V"⟩
abbrev cX7_readTerm : ByteArray := prog_9_method_9_code
def yX7_readTerm : MethodName := ⟨RX7, "readTerm", "(I)V"⟩
abbrev cX7_readOne : ByteArray := prog_9_method_10_code
def yX7_readOne : MethodName := ⟨RX7, "readOne", "(I)V"⟩
abbrev cX7_opens : ByteArray := prog_9_method_11_code
def yX7_opens : MethodName := ⟨RX7, "opens", "(I)Z"⟩
abbrev cX7_expect : ByteArray := prog_9_method_12_code
def yX7_expect : MethodName := ⟨RX7, "expect", "(I)V"⟩
abbrev cX7_fail : ByteArray := prog_9_method_13_code
def yX7_fail : MethodName := ⟨RX7, "fail", "()V"⟩
abbrev cX7_advance : ByteArray := prog_9_method_14_code
def yX7_advance : MethodName := ⟨RX7, "advance", "()V"⟩
abbrev cX7_split : ByteArray := prog_9_method_15_code
def yX7_split : MethodName := ⟨RX7, "split", "()V"⟩
abbrev cX7_addToken : ByteArray := prog_9_method_16_code
def yX7_addToken : MethodName := ⟨RX7, "addToken", "(III)V"⟩
abbrev cX7_splitOff : ByteArray := prog_9_method_17_code
def yX7_splitOff : MethodName := ⟨RX7, "splitOff", "(I)I"⟩
abbrev cX7_splitWord : ByteArray := prog_9_method_18_code
def yX7_splitWord : MethodName := ⟨RX7, "splitWord", "(I)I"⟩
abbrev cX7_splitNumber : ByteArray := prog_9_method_19_code
def yX7_splitNumber : MethodName := ⟨RX7, "splitNumber", "(I)I"⟩
abbrev cX7_isSign : ByteArray := prog_9_method_20_code
def yX7_isSign : MethodName := ⟨RX7, "isSign", "(I)Z"⟩
abbrev cX7_nameCode : ByteArray := prog_9_method_21_code
def yX7_nameCode : MethodName := ⟨RX7, "nameCode", "(II)I"⟩
abbrev cX7_keyToken : ByteArray := prog_9_method_22_code
def yX7_keyToken : MethodName := ⟨RX7, "keyToken", "(II)I"⟩
abbrev cX7_isWord : ByteArray := prog_9_method_23_code
def yX7_isWord : MethodName := ⟨RX7, "isWord", "(Ljava/lang/String;II)Z"⟩
def RX8 : String := "FerriedInWords$Sheet"
def TX8 : u_T := fun k => match k with
  | 0 => ("FerriedInWords$Sheet", "cells", "[I", true)
  | 1 => ("FerriedInWords$Sheet", "sort", "I", false)
  | _ => ("FerriedInWords$Sheet", "size", "I", false)
def tyX8 : Nat → FieldType := fun k => match k with
  | 0 => .array .int
  | 1 => .int
  | _ => .int
abbrev wsX80 : List Cond := u_ws RX8 TX8 3
theorem nmX8 : ∀ a, a < 3 → ∀ b, b < 3 → a ≠ b → (TX8 a).2.1 ≠ (TX8 b).2.1 := by decide +kernel
theorem tyX8_ok : ∀ k, k < 3 → parseFieldDescriptor (TX8 k).2.2.1 = some (tyX8 k) := by decide +kernel
abbrev cX8_init : ByteArray := prog_10_method_1_code
def yX8_init : MethodName := ⟨RX8, "<init>", "()V"⟩
abbrev cX8_isMissing : ByteArray := prog_10_method_2_code
def yX8_isMissing : MethodName := ⟨RX8, "isMissing", "()Z"⟩
abbrev cX8_has : ByteArray := prog_10_method_3_code
def yX8_has : MethodName := ⟨RX8, "has", "(II)Z"⟩
abbrev cX8_become : ByteArray := prog_10_method_4_code
def yX8_become : MethodName := ⟨RX8, "become", "(II)V"⟩
abbrev cX8_put : ByteArray := prog_10_method_5_code
def yX8_put : MethodName := ⟨RX8, "put", "(II)V"⟩
def RX9 : String := "FerriedInWords$Teller"
def TX9 : u_T := fun k => match k with
  | _ => ("", "", "", false)
def tyX9 : Nat → FieldType := fun k => match k with
  | _ => .int
abbrev wsX90 : List Cond := u_ws RX9 TX9 0
theorem nmX9 : ∀ a, a < 0 → ∀ b, b < 0 → a ≠ b → (TX9 a).2.1 ≠ (TX9 b).2.1 := by decide +kernel
theorem tyX9_ok : ∀ k, k < 0 → parseFieldDescriptor (TX9 k).2.2.1 = some (tyX9 k) := by decide +kernel
abbrev cX9_init : ByteArray := prog_11_method_1_code
def yX9_init : MethodName := ⟨RX9, "<init>", "()V"⟩
abbrev cX9_isUnder : ByteArray := prog_11_method_2_code
def yX9_isUnder : MethodName := ⟨RX9, "isUnder", "(I)Z"⟩
abbrev cX9_keptOf : ByteArray := prog_11_method_3_code
def yX9_keptOf : MethodName := ⟨RX9, "keptOf", "(II)I"⟩
abbrev cX9_wordsFor : ByteArray := prog_11_method_4_code
def yX9_wordsFor : MethodName := ⟨RX9, "wordsFor", "(LFerriedInWords$One;II)I"⟩
abbrev cX9_wearies : ByteArray := prog_11_method_5_code
def yX9_wearies : MethodName := ⟨RX9, "wearies", "(ILFerriedInWords$One;)I"⟩
abbrev cX9_takesIn : ByteArray := prog_11_method_6_code
def yX9_takesIn : MethodName := ⟨RX9, "takesIn", "(ZI)Z"⟩
def RX10 : String := "FerriedInWords$Text"
def TX10 : u_T := fun k => match k with
  | 0 => ("FerriedInWords$Text", "codes", "[I", true)
  | 1 => ("FerriedInWords$Text", "ends", "[I", true)
  | _ => ("FerriedInWords$Text", "size", "I", false)
def tyX10 : Nat → FieldType := fun k => match k with
  | 0 => .array .int
  | 1 => .array .int
  | _ => .int
abbrev wsX100 : List Cond := u_ws RX10 TX10 3
theorem nmX10 : ∀ a, a < 3 → ∀ b, b < 3 → a ≠ b → (TX10 a).2.1 ≠ (TX10 b).2.1 := by decide +kernel
theorem tyX10_ok : ∀ k, k < 3 → parseFieldDescriptor (TX10 k).2.2.1 = some (tyX10 k) := by decide +kernel
abbrev cX10_init : ByteArray := prog_12_method_1_code
def yX10_init : MethodName := ⟨RX10, "<init>", "()V"⟩
abbrev cX10_add : ByteArray := prog_12_method_2_code
def yX10_add : MethodName := ⟨RX10, "add", "(I)V"⟩
abbrev cX10_worth : ByteArray := prog_12_method_3_code
def yX10_worth : MethodName := ⟨RX10, "worth", "(ILFerriedInWords$One;II[I)I"⟩
abbrev cX10_named : ByteArray := prog_12_method_4_code
def yX10_named : MethodName := ⟨RX10, "named", "(ILFerriedInWords$One;II)I"⟩
abbrev cX10_ofOne : ByteArray := prog_12_method_5_code
def yX10_ofOne : MethodName := ⟨RX10, "ofOne", "(II)I"⟩
abbrev cX10_ofTwo : ByteArray := prog_12_method_6_code
def yX10_ofTwo : MethodName := ⟨RX10, "ofTwo", "(III)I"⟩
def RX11 : String := "FerriedInWords"
def TX11 : u_T := fun k => match k with
  | 0 => ("FerriedInWords", "kinds", "[LFerriedInWords$Teller;", true)
  | 1 => ("FerriedInWords", "now", "LFerriedInWords$Crossing;", true)
  | 2 => ("FerriedInWords", "kept", "LFerriedInWords$Crossing;", true)
  | 3 => ("FerriedInWords", "thought", "LFerriedInWords$Crossing;", true)
  | 4 => ("FerriedInWords", "hasImage", "Z", false)
  | 5 => ("FerriedInWords", "texts", "[LFerriedInWords$Text;", true)
  | 6 => ("FerriedInWords", "reader", "LFerriedInWords$Reader;", true)
  | 7 => ("FerriedInWords", "textsThere", "I", false)
  | 8 => ("FerriedInWords", "stack", "[I", true)
  | 9 => ("FerriedInWords", "sheets", "[LFerriedInWords$Sheet;", true)
  | 10 => ("FerriedInWords", "trail", "[I", true)
  | 11 => ("FerriedInWords", "bestRow", "I", false)
  | _ => ("FerriedInWords", "bestOff", "I", false)
def tyX11 : Nat → FieldType := fun k => match k with
  | 0 => .array (.object "FerriedInWords$Teller")
  | 1 => .object "FerriedInWords$Crossing"
  | 2 => .object "FerriedInWords$Crossing"
  | 3 => .object "FerriedInWords$Crossing"
  | 4 => .boolean
  | 5 => .array (.object "FerriedInWords$Text")
  | 6 => .object "FerriedInWords$Reader"
  | 7 => .int
  | 8 => .array .int
  | 9 => .array (.object "FerriedInWords$Sheet")
  | 10 => .array .int
  | 11 => .int
  | _ => .int
abbrev wsX110 : List Cond := u_ws RX11 TX11 13
theorem nmX11 : ∀ a, a < 13 → ∀ b, b < 13 → a ≠ b → (TX11 a).2.1 ≠ (TX11 b).2.1 := by decide +kernel
theorem tyX11_ok : ∀ k, k < 13 → parseFieldDescriptor (TX11 k).2.2.1 = some (tyX11 k) := by decide +kernel
abbrev cX11_init : ByteArray := prog_1_method_1_code
def yX11_init : MethodName := ⟨RX11, "<init>", "()V"⟩
abbrev cX11_set : ByteArray := prog_1_method_2_code
def yX11_set : MethodName := ⟨RX11, "set", "(III)I"⟩
abbrev cX11_person : ByteArray := prog_1_method_3_code
def yX11_person : MethodName := ⟨RX11, "person", "(IIII)I"⟩
abbrev cX11_told : ByteArray := prog_1_method_4_code
def yX11_told : MethodName := ⟨RX11, "told", "(II)I"⟩
abbrev cX11_brings : ByteArray := prog_1_method_5_code
def yX11_brings : MethodName := ⟨RX11, "brings", "(I)I"⟩
abbrev cX11_asks : ByteArray := prog_1_method_6_code
def yX11_asks : MethodName := ⟨RX11, "asks", "(III)I"⟩
abbrev cX11_most : ByteArray := prog_1_method_7_code
def yX11_most : MethodName := ⟨RX11, "most", "(I)I"⟩
abbrev cX11_isSet : ByteArray := prog_1_method_8_code
def yX11_isSet : MethodName := ⟨RX11, "isSet", "(I)Z"⟩
abbrev cX11_feed : ByteArray := prog_1_method_9_code
def yX11_feed : MethodName := ⟨RX11, "feed", "(I)I"⟩
abbrev cX11_text : ByteArray := prog_1_method_10_code
def yX11_text : MethodName := ⟨RX11, "text", "()I"⟩
abbrev cX11_force : ByteArray := prog_1_method_11_code
def yX11_force : MethodName := ⟨RX11, "force", "(I)I"⟩
abbrev cX11_ruleOf : ByteArray := prog_1_method_12_code
def yX11_ruleOf : MethodName := ⟨RX11, "ruleOf", "(LFerriedInWords$Crossing;)LFerriedInWords$Text;"⟩
abbrev cX11_over : ByteArray := prog_1_method_13_code
def yX11_over : MethodName := ⟨RX11, "over", "(III)I"⟩
abbrev cX11_day : ByteArray := prog_1_method_14_code
def yX11_day : MethodName := ⟨RX11, "day", "()I"⟩
abbrev cX11_run : ByteArray := prog_1_method_15_code
def yX11_run : MethodName := ⟨RX11, "run", "(II)I"⟩
abbrev cX11_isAskedOfRun : ByteArray := prog_1_method_16_code
def yX11_isAskedOfRun : MethodName := ⟨RX11, "isAskedOfRun", "(I)Z"⟩
abbrev cX11_kindOf : ByteArray := prog_1_method_17_code
def yX11_kindOf : MethodName := ⟨RX11, "kindOf", "(LFerriedInWords$One;)LFerriedInWords$Teller;"⟩
abbrev cX11_keeping : ByteArray := prog_1_method_18_code
def yX11_keeping : MethodName := ⟨RX11, "keeping", "(LFerriedInWords$Crossing;LFerriedInWords$One;I)I"⟩
abbrev cX11_telling : ByteArray := prog_1_method_19_code
def yX11_telling : MethodName := ⟨RX11, "telling", "(LFerriedInWords$Crossing;LFerriedInWords$One;I)I"⟩
abbrev cX11_tiring : ByteArray := prog_1_method_20_code
def yX11_tiring : MethodName := ⟨RX11, "tiring", "(LFerriedInWords$Crossing;LFerriedInWords$One;I)I"⟩
abbrev cX11_learning : ByteArray := prog_1_method_21_code
def yX11_learning : MethodName := ⟨RX11, "learning", "(LFerriedInWords$Crossing;LFerriedInWords$One;I)Z"⟩
abbrev cX11_toldByAll : ByteArray := prog_1_method_22_code
def yX11_toldByAll : MethodName := ⟨RX11, "toldByAll", "(LFerriedInWords$Crossing;I)I"⟩
abbrev cX11_toldByRow : ByteArray := prog_1_method_23_code
def yX11_toldByRow : MethodName := ⟨RX11, "toldByRow", "(LFerriedInWords$Sheet;I)I"⟩
abbrev cX11_passDay : ByteArray := prog_1_method_24_code
def yX11_passDay : MethodName := ⟨RX11, "passDay", "(LFerriedInWords$Crossing;)I"⟩
abbrev cX11_tellTruly : ByteArray := prog_1_method_25_code
def yX11_tellTruly : MethodName := ⟨RX11, "tellTruly", "(LFerriedInWords$Crossing;LFerriedInWords$One;I)I"⟩
abbrev cX11_off : ByteArray := prog_1_method_26_code
def yX11_off : MethodName := ⟨RX11, "off", "(II)I"⟩
abbrev cX11_lowest : ByteArray := prog_1_method_27_code
def yX11_lowest : MethodName := ⟨RX11, "lowest", "(I)I"⟩
abbrev cX11_within : ByteArray := prog_1_method_28_code
def yX11_within : MethodName := ⟨RX11, "within", "(II)I"⟩
abbrev cX11_fro : ByteArray := prog_1_method_29_code
def yX11_fro : MethodName := ⟨RX11, "fro", "(II)I"⟩
abbrev cX11_row : ByteArray := prog_1_method_30_code
def yX11_row : MethodName := ⟨RX11, "row", "(III)I"⟩
abbrev cX11_tryRows : ByteArray := prog_1_method_31_code
def yX11_tryRows : MethodName := ⟨RX11, "tryRows", "(IIIII)V"⟩
abbrev cX11_learn : ByteArray := prog_1_method_32_code
def yX11_learn : MethodName := ⟨RX11, "learn", "(II)I"⟩
abbrev cX11_toldWithMore : ByteArray := prog_1_method_33_code
def yX11_toldWithMore : MethodName := ⟨RX11, "toldWithMore", "(II)I"⟩
abbrev cX11_from : ByteArray := prog_1_method_34_code
def yX11_from : MethodName := ⟨RX11, "from", "(II)I"⟩
abbrev cX11_mean : ByteArray := prog_1_method_35_code
def yX11_mean : MethodName := ⟨RX11, "mean", "(I)J"⟩
abbrev cX11_inLowestTerms : ByteArray := prog_1_method_36_code
def yX11_inLowestTerms : MethodName := ⟨RX11, "inLowestTerms", "(III)J"⟩
abbrev cX11_commonDivisor : ByteArray := prog_1_method_37_code
def yX11_commonDivisor : MethodName := ⟨RX11, "commonDivisor", "(II)I"⟩
abbrev cX11_tells : ByteArray := prog_1_method_38_code
def yX11_tells : MethodName := ⟨RX11, "tells", "(III)I"⟩
abbrev cX11_suiting : ByteArray := prog_1_method_39_code
def yX11_suiting : MethodName := ⟨RX11, "suiting", "(LFerriedInWords$Sheet;IIII)I"⟩
abbrev cX11_vary : ByteArray := prog_1_method_40_code
def yX11_vary : MethodName := ⟨RX11, "vary", "(III)V"⟩
abbrev cX11_firstOtherwise : ByteArray := prog_1_method_41_code
def yX11_firstOtherwise : MethodName := ⟨RX11, "firstOtherwise", "(LFerriedInWords$Sheet;I)I"⟩
abbrev cX11_film : ByteArray := prog_1_method_42_code
def yX11_film : MethodName := ⟨RX11, "film", "(II)I"⟩
abbrev cX11_drawn : ByteArray := prog_1_method_43_code
def yX11_drawn : MethodName := ⟨RX11, "drawn", "(II)I"⟩
abbrev cX11_chance : ByteArray := prog_1_method_44_code
def yX11_chance : MethodName := ⟨RX11, "chance", "(IIII)J"⟩
abbrev cX11_offOfDrawn : ByteArray := prog_1_method_45_code
def yX11_offOfDrawn : MethodName := ⟨RX11, "offOfDrawn", "(II)I"⟩
abbrev cX11_image : ByteArray := prog_1_method_46_code
def yX11_image : MethodName := ⟨RX11, "image", "()I"⟩
abbrev cX11_back : ByteArray := prog_1_method_47_code
def yX11_back : MethodName := ⟨RX11, "back", "()I"⟩
abbrev cX11_count : ByteArray := prog_1_method_48_code
def yX11_count : MethodName := ⟨RX11, "count", "(I)I"⟩
abbrev cX11_sheet : ByteArray := prog_1_method_49_code
def yX11_sheet : MethodName := ⟨RX11, "sheet", "(III)I"⟩
abbrev cX11_cell : ByteArray := prog_1_method_50_code
def yX11_cell : MethodName := ⟨RX11, "cell", "(III)I"⟩
abbrev cX11_copy : ByteArray := prog_1_method_51_code
def yX11_copy : MethodName := ⟨RX11, "copy", "(IIIII)I"⟩
abbrev cX11_crew : ByteArray := prog_1_method_52_code
def yX11_crew : MethodName := ⟨RX11, "crew", "(IIII)I"⟩
abbrev cX11_taken : ByteArray := prog_1_method_53_code
def yX11_taken : MethodName := ⟨RX11, "taken", "(II)I"⟩
abbrev cX11_isSheet : ByteArray := prog_1_method_54_code
def yX11_isSheet : MethodName := ⟨RX11, "isSheet", "(I)Z"⟩
def RX12 : String := "FerriedInWordsModel"
def TX12 : u_T := fun k => match k with
  | 0 => ("FerriedInWordsModel", "thrown", "I", false)
  | 1 => ("FerriedInWordsModel", "texts", "[I", true)
  | 2 => ("FerriedInWordsModel", "textSize", "[I", true)
  | 3 => ("FerriedInWordsModel", "textCount", "I", false)
  | 4 => ("FerriedInWordsModel", "rule", "I", false)
  | 5 => ("FerriedInWordsModel", "tape", "[I", true)
  | 6 => ("FerriedInWordsModel", "taped", "I", false)
  | 7 => ("FerriedInWordsModel", "dayNow", "I", false)
  | 8 => ("FerriedInWordsModel", "rows", "[I", true)
  | 9 => ("FerriedInWordsModel", "many", "I", false)
  | 10 => ("FerriedInWordsModel", "jetty", "[I", true)
  | 11 => ("FerriedInWordsModel", "jettySize", "I", false)
  | 12 => ("FerriedInWordsModel", "comeOver", "I", false)
  | 13 => ("FerriedInWordsModel", "learnt", "I", false)
  | 14 => ("FerriedInWordsModel", "ofWords", "I", false)
  | 15 => ("FerriedInWordsModel", "ofMemory", "I", false)
  | 16 => ("FerriedInWordsModel", "ofNumber", "I", false)
  | 17 => ("FerriedInWordsModel", "ofDay", "I", false)
  | 18 => ("FerriedInWordsModel", "ofParts", "I", false)
  | 19 => ("FerriedInWordsModel", "ofSaid", "I", false)
  | 20 => ("FerriedInWordsModel", "textFrom", "I", false)
  | 21 => ("FerriedInWordsModel", "size", "I", false)
  | 22 => ("FerriedInWordsModel", "here", "I", false)
  | 23 => ("FerriedInWordsModel", "token", "I", false)
  | 24 => ("FerriedInWordsModel", "tokenAt", "I", false)
  | 25 => ("FerriedInWordsModel", "tokenWorth", "J", false)
  | 26 => ("FerriedInWordsModel", "open", "I", false)
  | 27 => ("FerriedInWordsModel", "bad", "Z", false)
  | 28 => ("FerriedInWordsModel", "fault", "I", false)
  | 29 => ("FerriedInWordsModel", "was", "[I", true)
  | 30 => ("FerriedInWordsModel", "trail", "[I", true)
  | 31 => ("FerriedInWordsModel", "bestRow", "I", false)
  | 32 => ("FerriedInWordsModel", "bestOff", "I", false)
  | 33 => ("FerriedInWordsModel", "bestSize", "I", false)
  | 34 => ("FerriedInWordsModel", "rowsKept", "[I", true)
  | 35 => ("FerriedInWordsModel", "jettyKept", "[I", true)
  | 36 => ("FerriedInWordsModel", "manyKept", "I", false)
  | 37 => ("FerriedInWordsModel", "jettySizeKept", "I", false)
  | 38 => ("FerriedInWordsModel", "comeKept", "I", false)
  | 39 => ("FerriedInWordsModel", "dayKept", "I", false)
  | 40 => ("FerriedInWordsModel", "ruleKept", "I", false)
  | 41 => ("FerriedInWordsModel", "isThere", "[Z", true)
  | 42 => ("FerriedInWordsModel", "sorts", "[I", true)
  | 43 => ("FerriedInWordsModel", "sheetSize", "[I", true)
  | _ => ("FerriedInWordsModel", "items", "[I", true)
def tyX12 : Nat → FieldType := fun k => match k with
  | 0 => .int
  | 1 => .array .int
  | 2 => .array .int
  | 3 => .int
  | 4 => .int
  | 5 => .array .int
  | 6 => .int
  | 7 => .int
  | 8 => .array .int
  | 9 => .int
  | 10 => .array .int
  | 11 => .int
  | 12 => .int
  | 13 => .int
  | 14 => .int
  | 15 => .int
  | 16 => .int
  | 17 => .int
  | 18 => .int
  | 19 => .int
  | 20 => .int
  | 21 => .int
  | 22 => .int
  | 23 => .int
  | 24 => .int
  | 25 => .long
  | 26 => .int
  | 27 => .boolean
  | 28 => .int
  | 29 => .array .int
  | 30 => .array .int
  | 31 => .int
  | 32 => .int
  | 33 => .int
  | 34 => .array .int
  | 35 => .array .int
  | 36 => .int
  | 37 => .int
  | 38 => .int
  | 39 => .int
  | 40 => .int
  | 41 => .array .boolean
  | 42 => .array .int
  | 43 => .array .int
  | _ => .array .int
abbrev wsX120 : List Cond := u_ws RX12 TX12 45
theorem nmX12 : ∀ a, a < 45 → ∀ b, b < 45 → a ≠ b → (TX12 a).2.1 ≠ (TX12 b).2.1 := by decide +kernel
theorem tyX12_ok : ∀ k, k < 45 → parseFieldDescriptor (TX12 k).2.2.1 = some (tyX12 k) := by decide +kernel
abbrev cX12_in : ByteArray := prog_14_method_2_code
def yX12_in : MethodName := ⟨RX12, "in", "(JJJ)Z"⟩
abbrev cX12_within : ByteArray := prog_14_method_3_code
def yX12_within : MethodName := ⟨RX12, "within", "(III)I"⟩
abbrev cX12_init : ByteArray := prog_14_method_4_code
def yX12_init : MethodName := ⟨RX12, "<init>", "()V"⟩
abbrev cX12_spell : ByteArray := prog_14_method_5_code
def yX12_spell : MethodName := ⟨RX12, "spell", "(IIIIIIIII)V"⟩
abbrev cX12_isOne : ByteArray := prog_14_method_6_code
def yX12_isOne : MethodName := ⟨RX12, "isOne", "(I)Z"⟩
abbrev cX12_isOf : ByteArray := prog_14_method_7_code
def yX12_isOf : MethodName := ⟨RX12, "isOf", "(II)Z"⟩
abbrev cX12_mostOf : ByteArray := prog_14_method_8_code
def yX12_mostOf : MethodName := ⟨RX12, "mostOf", "(I)I"⟩
abbrev cX12_set : ByteArray := prog_14_method_9_code
def yX12_set : MethodName := ⟨RX12, "set", "(III)I"⟩
abbrev cX12_lays : ByteArray := prog_14_method_10_code
def yX12_lays : MethodName := ⟨RX12, "lays", "(III)V"⟩
abbrev cX12_person : ByteArray := prog_14_method_11_code
def yX12_person : MethodName := ⟨RX12, "person", "(IIII)I"⟩
abbrev cX12_told : ByteArray := prog_14_method_12_code
def yX12_told : MethodName := ⟨RX12, "told", "(II)I"⟩
abbrev cX12_brings : ByteArray := prog_14_method_13_code
def yX12_brings : MethodName := ⟨RX12, "brings", "(I)I"⟩
abbrev cX12_feed : ByteArray := prog_14_method_14_code
def yX12_feed : MethodName := ⟨RX12, "feed", "(I)I"⟩
abbrev cX12_byteAt : ByteArray := prog_14_method_15_code
def yX12_byteAt : MethodName := ⟨RX12, "byteAt", "(I)I"⟩
abbrev cX12_next : ByteArray := prog_14_method_16_code
def yX12_next : MethodName := ⟨RX12, "next", "()V"⟩
abbrev cX12_fail : ByteArray := prog_14_method_17_code
def yX12_fail : MethodName := ⟨RX12, "fail", "()V"⟩
abbrev cX12_isLetter : ByteArray := prog_14_method_18_code
def yX12_isLetter : MethodName := ⟨RX12, "isLetter", "(II)Z"⟩
abbrev cX12_isWord : ByteArray := prog_14_method_19_code
def yX12_isWord : MethodName := ⟨RX12, "isWord", "(IIIIIIII)Z"⟩
abbrev cX12_isSign : ByteArray := prog_14_method_20_code
def yX12_isSign : MethodName := ⟨RX12, "isSign", "(I)Z"⟩
abbrev cX12_opens : ByteArray := prog_14_method_21_code
def yX12_opens : MethodName := ⟨RX12, "opens", "()Z"⟩
abbrev cX12_name : ByteArray := prog_14_method_22_code
def yX12_name : MethodName := ⟨RX12, "name", "()I"⟩
abbrev cX12_atom : ByteArray := prog_14_method_23_code
def yX12_atom : MethodName := ⟨RX12, "atom", "()I"⟩
abbrev cX12_term : ByteArray := prog_14_method_24_code
def yX12_term : MethodName := ⟨RX12, "term", "()I"⟩
abbrev cX12_added : ByteArray := prog_14_method_25_code
def yX12_added : MethodName := ⟨RX12, "added", "()I"⟩
abbrev cX12_not : ByteArray := prog_14_method_26_code
def yX12_not : MethodName := ⟨RX12, "not", "()I"⟩
abbrev cX12_both : ByteArray := prog_14_method_27_code
def yX12_both : MethodName := ⟨RX12, "both", "()I"⟩
abbrev cX12_either : ByteArray := prog_14_method_28_code
def yX12_either : MethodName := ⟨RX12, "either", "()I"⟩
abbrev cX12_part : ByteArray := prog_14_method_29_code
def yX12_part : MethodName := ⟨RX12, "part", "(Z)I"⟩
abbrev cX12_read : ByteArray := prog_14_method_30_code
def yX12_read : MethodName := ⟨RX12, "read", "(II)I"⟩
abbrev cX12_text : ByteArray := prog_14_method_31_code
def yX12_text : MethodName := ⟨RX12, "text", "()I"⟩
abbrev cX12_force : ByteArray := prog_14_method_32_code
def yX12_force : MethodName := ⟨RX12, "force", "(I)I"⟩
abbrev cX12_bitsOf : ByteArray := prog_14_method_33_code
def yX12_bitsOf : MethodName := ⟨RX12, "bitsOf", "(I)I"⟩
abbrev cX12_wordsOf : ByteArray := prog_14_method_34_code
def yX12_wordsOf : MethodName := ⟨RX12, "wordsOf", "(I)I"⟩
abbrev cX12_says : ByteArray := prog_14_method_35_code
def yX12_says : MethodName := ⟨RX12, "says", "(III)I"⟩
abbrev cX12_keepsOf : ByteArray := prog_14_method_36_code
def yX12_keepsOf : MethodName := ⟨RX12, "keepsOf", "(II)I"⟩
abbrev cX12_tellsOf : ByteArray := prog_14_method_37_code
def yX12_tellsOf : MethodName := ⟨RX12, "tellsOf", "(II)I"⟩
abbrev cX12_tiresOf : ByteArray := prog_14_method_38_code
def yX12_tiresOf : MethodName := ⟨RX12, "tiresOf", "(II)I"⟩
abbrev cX12_learns : ByteArray := prog_14_method_39_code
def yX12_learns : MethodName := ⟨RX12, "learns", "(II)Z"⟩
abbrev cX12_asks : ByteArray := prog_14_method_40_code
def yX12_asks : MethodName := ⟨RX12, "asks", "(III)I"⟩
abbrev cX12_byAll : ByteArray := prog_14_method_41_code
def yX12_byAll : MethodName := ⟨RX12, "byAll", "(I)I"⟩
abbrev cX12_off : ByteArray := prog_14_method_42_code
def yX12_off : MethodName := ⟨RX12, "off", "(II)I"⟩
abbrev cX12_over : ByteArray := prog_14_method_43_code
def yX12_over : MethodName := ⟨RX12, "over", "(III)I"⟩
abbrev cX12_tellsTruly : ByteArray := prog_14_method_44_code
def yX12_tellsTruly : MethodName := ⟨RX12, "tellsTruly", "(II)I"⟩
abbrev cX12_passes : ByteArray := prog_14_method_45_code
def yX12_passes : MethodName := ⟨RX12, "passes", "()I"⟩
abbrev cX12_day : ByteArray := prog_14_method_46_code
def yX12_day : MethodName := ⟨RX12, "day", "()I"⟩
abbrev cX12_laysAside : ByteArray := prog_14_method_47_code
def yX12_laysAside : MethodName := ⟨RX12, "laysAside", "()V"⟩
abbrev cX12_laysBack : ByteArray := prog_14_method_48_code
def yX12_laysBack : MethodName := ⟨RX12, "laysBack", "()V"⟩
abbrev cX12_run : ByteArray := prog_14_method_49_code
def yX12_run : MethodName := ⟨RX12, "run", "(II)I"⟩
abbrev cX12_fro : ByteArray := prog_14_method_50_code
def yX12_fro : MethodName := ⟨RX12, "fro", "(II)I"⟩
abbrev cX12_rowsFrom : ByteArray := prog_14_method_51_code
def yX12_rowsFrom : MethodName := ⟨RX12, "rowsFrom", "(IIIIII)V"⟩
abbrev cX12_row : ByteArray := prog_14_method_52_code
def yX12_row : MethodName := ⟨RX12, "row", "(III)I"⟩
abbrev cX12_learn : ByteArray := prog_14_method_53_code
def yX12_learn : MethodName := ⟨RX12, "learn", "(II)I"⟩
abbrev cX12_from : ByteArray := prog_14_method_54_code
def yX12_from : MethodName := ⟨RX12, "from", "(II)I"⟩
abbrev cX12_lowest : ByteArray := prog_14_method_55_code
def yX12_lowest : MethodName := ⟨RX12, "lowest", "(JJI)J"⟩
abbrev cX12_mean : ByteArray := prog_14_method_56_code
def yX12_mean : MethodName := ⟨RX12, "mean", "(I)J"⟩
abbrev cX12_firstOther : ByteArray := prog_14_method_57_code
def yX12_firstOther : MethodName := ⟨RX12, "firstOther", "(II)I"⟩
abbrev cX12_likeSet : ByteArray := prog_14_method_58_code
def yX12_likeSet : MethodName := ⟨RX12, "likeSet", "(I)I"⟩
abbrev cX12_tells : ByteArray := prog_14_method_59_code
def yX12_tells : MethodName := ⟨RX12, "tells", "(III)I"⟩
abbrev cX12_film : ByteArray := prog_14_method_60_code
def yX12_film : MethodName := ⟨RX12, "film", "(II)I"⟩
abbrev cX12_offDrawn : ByteArray := prog_14_method_61_code
def yX12_offDrawn : MethodName := ⟨RX12, "offDrawn", "(II)I"⟩
abbrev cX12_drawn : ByteArray := prog_14_method_62_code
def yX12_drawn : MethodName := ⟨RX12, "drawn", "(II)I"⟩
abbrev cX12_chance : ByteArray := prog_14_method_63_code
def yX12_chance : MethodName := ⟨RX12, "chance", "(IIII)J"⟩
abbrev cX12_image : ByteArray := prog_14_method_64_code
def yX12_image : MethodName := ⟨RX12, "image", "()I"⟩
abbrev cX12_back : ByteArray := prog_14_method_65_code
def yX12_back : MethodName := ⟨RX12, "back", "()I"⟩
abbrev cX12_count : ByteArray := prog_14_method_66_code
def yX12_count : MethodName := ⟨RX12, "count", "(I)I"⟩
abbrev cX12_isSheet : ByteArray := prog_14_method_67_code
def yX12_isSheet : MethodName := ⟨RX12, "isSheet", "(I)Z"⟩
abbrev cX12_sheet : ByteArray := prog_14_method_68_code
def yX12_sheet : MethodName := ⟨RX12, "sheet", "(III)I"⟩
abbrev cX12_cell : ByteArray := prog_14_method_69_code
def yX12_cell : MethodName := ⟨RX12, "cell", "(III)I"⟩
abbrev cX12_copy : ByteArray := prog_14_method_70_code
def yX12_copy : MethodName := ⟨RX12, "copy", "(IIIII)I"⟩
abbrev cX12_crew : ByteArray := prog_14_method_71_code
def yX12_crew : MethodName := ⟨RX12, "crew", "(IIII)I"⟩
abbrev cX12_above : ByteArray := prog_14_method_72_code
def yX12_above : MethodName := ⟨RX12, "above", "(I)I"⟩
abbrev cX12_taken : ByteArray := prog_14_method_73_code
def yX12_taken : MethodName := ⟨RX12, "taken", "(II)I"⟩
def RJ6 : String := "java/lang/Integer"
def TJ6 : u_T := fun k => match k with
  | _ => ("", "", "", false)
def tyJ6 : Nat → FieldType := fun k => match k with
  | _ => .int
abbrev wsJ60 : List Cond := u_ws RJ6 TJ6 0
theorem nmJ6 : ∀ a, a < 0 → ∀ b, b < 0 → a ≠ b → (TJ6 a).2.1 ≠ (TJ6 b).2.1 := by decide +kernel
theorem tyJ6_ok : ∀ k, k < 0 → parseFieldDescriptor (TJ6 k).2.2.1 = some (tyJ6 k) := by decide +kernel
abbrev cJ6_bitCount_0f7a4 : ByteArray := prog_15_method_49_code
def yJ6_bitCount_0f7a4 : MethodName := ⟨RJ6, "bitCount", "(I)I"⟩
def RJ9 : String := "java/lang/Math"
def TJ9 : u_T := fun k => match k with
  | _ => ("", "", "", false)
def tyJ9 : Nat → FieldType := fun k => match k with
  | _ => .int
abbrev wsJ90 : List Cond := u_ws RJ9 TJ9 0
theorem nmJ9 : ∀ a, a < 0 → ∀ b, b < 0 → a ≠ b → (TJ9 a).2.1 ≠ (TJ9 b).2.1 := by decide +kernel
theorem tyJ9_ok : ∀ k, k < 0 → parseFieldDescriptor (TJ9 k).2.2.1 = some (tyJ9 k) := by decide +kernel
abbrev cJ9_max_7cf53 : ByteArray := prog_16_method_65_code
def yJ9_max_7cf53 : MethodName := ⟨RJ9, "max", "(II)I"⟩
abbrev cJ9_min_7cf53 : ByteArray := prog_16_method_69_code
def yJ9_min_7cf53 : MethodName := ⟨RJ9, "min", "(II)I"⟩
def RJ0 : String := "java/lang/String"
def TJ0 : u_T := fun k => match k with
  | _ => ("", "", "", false)
def tyJ0 : Nat → FieldType := fun k => match k with
  | _ => .int
abbrev wsJ00 : List Cond := u_ws RJ0 TJ0 0
theorem nmJ0 : ∀ a, a < 0 → ∀ b, b < 0 → a ≠ b → (TJ0 a).2.1 ≠ (TJ0 b).2.1 := by decide +kernel
theorem tyJ0_ok : ∀ k, k < 0 → parseFieldDescriptor (TJ0 k).2.2.1 = some (tyJ0 k) := by decide +kernel
abbrev cJ0_length_8abf5 : ByteArray := prog_17_method_54_code
def yJ0_length_8abf5 : MethodName := ⟨RJ0, "length", "()I"⟩
abbrev cJ0_charAt_5068e : ByteArray := prog_17_method_56_code
def yJ0_charAt_5068e : MethodName := ⟨RJ0, "charAt", "(I)C"⟩
abbrev cJ0_coder_7d493 : ByteArray := prog_17_method_152_code
def yJ0_coder_7d493 : MethodName := ⟨RJ0, "coder", "()B"⟩
abbrev cJ0_isLatin1_aae02 : ByteArray := prog_17_method_154_code
def yJ0_isLatin1_aae02 : MethodName := ⟨RJ0, "isLatin1", "()Z"⟩
abbrev cJ0_checkIndex_df160 : ByteArray := prog_17_method_155_code
def yJ0_checkIndex_df160 : MethodName := ⟨RJ0, "checkIndex", "(II)V"⟩
def RJ1 : String := "java/lang/StringLatin1"
def TJ1 : u_T := fun k => match k with
  | _ => ("", "", "", false)
def tyJ1 : Nat → FieldType := fun k => match k with
  | _ => .int
abbrev wsJ10 : List Cond := u_ws RJ1 TJ1 0
theorem nmJ1 : ∀ a, a < 0 → ∀ b, b < 0 → a ≠ b → (TJ1 a).2.1 ≠ (TJ1 b).2.1 := by decide +kernel
theorem tyJ1_ok : ∀ k, k < 0 → parseFieldDescriptor (TJ1 k).2.2.1 = some (tyJ1 k) := by decide +kernel
abbrev cJ1_charAt_3b067 : ByteArray := prog_18_method_2_code
def yJ1_charAt_3b067 : MethodName := ⟨RJ1, "charAt", "([BI)C"⟩
def RJ2 : String := "java/lang/StringUTF16"
def TJ2 : u_T := fun k => match k with
  | _ => ("", "", "", false)
def tyJ2 : Nat → FieldType := fun k => match k with
  | _ => .int
abbrev wsJ20 : List Cond := u_ws RJ2 TJ2 0
theorem nmJ2 : ∀ a, a < 0 → ∀ b, b < 0 → a ≠ b → (TJ2 a).2.1 ≠ (TJ2 b).2.1 := by decide +kernel
theorem tyJ2_ok : ∀ k, k < 0 → parseFieldDescriptor (TJ2 k).2.2.1 = some (tyJ2 k) := by decide +kernel
abbrev cJ2_getChar_3b067 : ByteArray := prog_19_method_5_code
def yJ2_getChar_3b067 : MethodName := ⟨RJ2, "getChar", "([BI)C"⟩
abbrev cJ2_length_9d52b : ByteArray := prog_19_method_6_code
def yJ2_length_9d52b : MethodName := ⟨RJ2, "length", "([B)I"⟩
abbrev cJ2_charAt_3b067 : ByteArray := prog_19_method_83_code
def yJ2_charAt_3b067 : MethodName := ⟨RJ2, "charAt", "([BI)C"⟩
abbrev cJ2_checkIndex_2214a : ByteArray := prog_19_method_91_code
def yJ2_checkIndex_2214a : MethodName := ⟨RJ2, "checkIndex", "(I[B)V"⟩
def RJ10 : String := "java/lang/System"
def TJ10 : u_T := fun k => match k with
  | _ => ("", "", "", false)
def tyJ10 : Nat → FieldType := fun k => match k with
  | _ => .int
abbrev wsJ100 : List Cond := u_ws RJ10 TJ10 0
theorem nmJ10 : ∀ a, a < 0 → ∀ b, b < 0 → a ≠ b → (TJ10 a).2.1 ≠ (TJ10 b).2.1 := by decide +kernel
theorem tyJ10_ok : ∀ k, k < 0 → parseFieldDescriptor (TJ10 k).2.2.1 = some (tyJ10 k) := by decide +kernel
def RJ3 : String := "jdk/internal/util/Preconditions"
def TJ3 : u_T := fun k => match k with
  | _ => ("", "", "", false)
def tyJ3 : Nat → FieldType := fun k => match k with
  | _ => .int
abbrev wsJ30 : List Cond := u_ws RJ3 TJ3 0
theorem nmJ3 : ∀ a, a < 0 → ∀ b, b < 0 → a ≠ b → (TJ3 a).2.1 ≠ (TJ3 b).2.1 := by decide +kernel
theorem tyJ3_ok : ∀ k, k < 0 → parseFieldDescriptor (TJ3 k).2.2.1 = some (tyJ3 k) := by decide +kernel
abbrev cJ3_checkIndex_8e157 : ByteArray := prog_21_method_11_code
def yJ3_checkIndex_8e157 : MethodName := ⟨RJ3, "checkIndex", "(IILjava/util/function/BiFunction;)I"⟩
def RL : String := "FerriedInWordsLaw"
abbrev cL_law : ByteArray := code
def yL_law : MethodName := ⟨RL, "law", "([I)Z"⟩
abbrev vwCl : List vw_C := [(RX0, TX0, 7), (RX1, TX1, 0), (RX2, TX2, 0), (RX3, TX3, 0), (RX4, TX4, 0), (RX5, TX5, 5), (RX6, TX6, 0), (RX7, TX7, 10), (RX8, TX8, 3), (RX9, TX9, 0), (RX10, TX10, 3), (RX11, TX11, 13), (RX12, TX12, 45)]
end
section
/-! tables: the words of the tables that travel (zGL), methods, resolved code in chunks of 16 bytes, links; written by wip/whole/gen3.py -/
def zGL : List Cond := lw_tbl.filter goodWord
theorem zgl_tbl : ∀ w ∈ zGL, w ∈ lw_tbl := fun _ h => (List.mem_filter.mp h).1
theorem zgl_good : ∀ w ∈ zGL, goodWord w = true := fun _ h => (List.mem_filter.mp h).2
theorem zgl_of {w : Cond} (h : w ∈ tables_1) (g : goodWord w = true) : w ∈ zGL := List.mem_filter.mpr ⟨List.mem_append_right _ h, g⟩
theorem ztb1 {w : Cond} (h : w ∈ tables_1_1) : w ∈ tables_1 := List.mem_append_left _ h
theorem zg1 {w : Cond} (i : Nat) (h : tables_1_1[i]? = some w) (g : goodWord w = true) : w ∈ zGL := zgl_of (ztb1 (List.mem_of_getElem? h)) g
theorem zt1 {w : Cond} (i : Nat) (h : tables_1_1[i]? = some w) : w ∈ lw_tbl := List.mem_append_right _ (ztb1 (List.mem_of_getElem? h))
theorem ztb2 {w : Cond} (h : w ∈ tables_1_2) : w ∈ tables_1 := List.mem_append_right _ (List.mem_append_left _ h)
theorem zg2 {w : Cond} (i : Nat) (h : tables_1_2[i]? = some w) (g : goodWord w = true) : w ∈ zGL := zgl_of (ztb2 (List.mem_of_getElem? h)) g
theorem zt2 {w : Cond} (i : Nat) (h : tables_1_2[i]? = some w) : w ∈ lw_tbl := List.mem_append_right _ (ztb2 (List.mem_of_getElem? h))
theorem ztb3 {w : Cond} (h : w ∈ tables_1_3) : w ∈ tables_1 := List.mem_append_right _ (List.mem_append_right _ (List.mem_append_left _ h))
theorem zg3 {w : Cond} (i : Nat) (h : tables_1_3[i]? = some w) (g : goodWord w = true) : w ∈ zGL := zgl_of (ztb3 (List.mem_of_getElem? h)) g
theorem zt3 {w : Cond} (i : Nat) (h : tables_1_3[i]? = some w) : w ∈ lw_tbl := List.mem_append_right _ (ztb3 (List.mem_of_getElem? h))
theorem ztb4 {w : Cond} (h : w ∈ tables_1_4) : w ∈ tables_1 := List.mem_append_right _ (List.mem_append_right _ (List.mem_append_right _ (List.mem_append_left _ h)))
theorem zg4 {w : Cond} (i : Nat) (h : tables_1_4[i]? = some w) (g : goodWord w = true) : w ∈ zGL := zgl_of (ztb4 (List.mem_of_getElem? h)) g
theorem zt4 {w : Cond} (i : Nat) (h : tables_1_4[i]? = some w) : w ∈ lw_tbl := List.mem_append_right _ (ztb4 (List.mem_of_getElem? h))
theorem ztb5 {w : Cond} (h : w ∈ tables_1_5) : w ∈ tables_1 := List.mem_append_right _ (List.mem_append_right _ (List.mem_append_right _ (List.mem_append_right _ (List.mem_append_left _ h))))
theorem zg5 {w : Cond} (i : Nat) (h : tables_1_5[i]? = some w) (g : goodWord w = true) : w ∈ zGL := zgl_of (ztb5 (List.mem_of_getElem? h)) g
theorem zt5 {w : Cond} (i : Nat) (h : tables_1_5[i]? = some w) : w ∈ lw_tbl := List.mem_append_right _ (ztb5 (List.mem_of_getElem? h))
theorem ztb6 {w : Cond} (h : w ∈ tables_1_6) : w ∈ tables_1 := List.mem_append_right _ (List.mem_append_right _ (List.mem_append_right _ (List.mem_append_right _ (List.mem_append_right _ (h)))))
theorem zg6 {w : Cond} (i : Nat) (h : tables_1_6[i]? = some w) (g : goodWord w = true) : w ∈ zGL := zgl_of (ztb6 (List.mem_of_getElem? h)) g
theorem zt6 {w : Cond} (i : Nat) (h : tables_1_6[i]? = some w) : w ∈ lw_tbl := List.mem_append_right _ (ztb6 (List.mem_of_getElem? h))
abbrev zE : Type := Instr × Nat × Nat × List (Int × Nat)
def zgt {α : Type} (d : α) : List α → Nat → α | [], _ => d | a :: _, 0 => a | _ :: l, n + 1 => zgt d l n
def zC : List String := [RX0, RX1, RX2, RX3, RX4, RX5, RX6, RX7, RX8, RX9, RX10, RX11, RX12, RJ6, RJ9, RL]
def zR (o : Nat) : String := zgt "" zC o
def zNF (c : Nat) : Nat := zgt 0 [7, 0, 0, 0, 0, 5, 0, 10, 3, 0, 3, 13, 45] c
def zT (c : Nat) : u_T := zgt TX1 [TX0, TX1, TX2, TX3, TX4, TX5, TX6, TX7, TX8, TX9, TX10, TX11, TX12] c
def zTy (c : Nat) : Nat → FieldType := zgt tyX1 [tyX0, tyX1, tyX2, tyX3, tyX4, tyX5, tyX6, tyX7, tyX8, tyX9, tyX10, tyX11, tyX12] c
/-- the kind of a field: 0 int, 1 long, 2 reference, 3 boolean -/
def zKd (c j : Nat) : Nat := zgt 0 (zgt [] [[2, 2, 0, 0, 0, 0, 0], [], [], [], [], [0, 0, 0, 0, 0], [], [2, 0, 2, 2, 2, 0, 0, 0, 0, 2], [2, 0, 0], [], [2, 2, 0], [2, 2, 2, 2, 3, 2, 2, 0, 2, 2, 2, 0, 0], [0, 2, 2, 0, 0, 2, 0, 0, 2, 0, 2, 0, 0, 0, 0, 0, 0, 0, 0, 0, 0, 0, 0, 0, 0, 1, 0, 3, 0, 2, 2, 0, 0, 0, 2, 2, 0, 0, 0, 0, 0, 2, 2, 2, 2]] c) j
def zTyL : List FieldType := [.int, .boolean, .object RX5, .object RX8, .object RX9, .object RX10]
def zYs : List MethodName := [yX0_init, yX0_isThere, yX0_takeFirst, yX0_become, yX1_init, yX1_isUnder, yX1_keptOf, yX1_wordsFor, yX1_wearies, yX1_takesIn, yX2_init, yX2_isUnder, yX2_keptOf, yX2_wordsFor, yX2_wearies, yX2_takesIn, yX3_init, yX3_isUnder, yX3_wordsFor, yX3_wearies, yX3_takesIn, yX4_init, yX4_isUnder, yX4_keptOf, yX4_wordsFor, yX4_wearies, yX5_init, yX5_worth, yX5_become, yX5_become_, yX6_init, yX6_isUnder, yX6_keptOf, yX6_wordsFor, yX6_wearies, yX6_takesIn, yX7_init, yX7_put, yX7_readInto, yX7_readPart, yX7_readOrs, yX7_readAnds, yX7_readNot, yX7_readSum, yX7_readTerm, yX7_readOne, yX7_opens, yX7_expect, yX7_fail, yX7_advance, yX7_split, yX7_addToken, yX7_splitOff, yX7_splitWord, yX7_splitNumber, yX7_isSign, yX7_nameCode, yX7_keyToken, yX7_isWord, yX8_init, yX8_isMissing, yX8_has, yX8_become, yX8_put, yX9_init, yX9_isUnder, yX9_keptOf, yX9_wordsFor, yX9_wearies, yX9_takesIn, yX10_init, yX10_add, yX10_worth, yX10_named, yX10_ofOne, yX10_ofTwo, yX11_init, yX11_set, yX11_person, yX11_told, yX11_brings, yX11_asks, yX11_most, yX11_isSet, yX11_feed, yX11_text, yX11_force, yX11_ruleOf, yX11_over, yX11_day, yX11_run, yX11_isAskedOfRun, yX11_kindOf, yX11_keeping, yX11_telling, yX11_tiring, yX11_learning, yX11_toldByAll, yX11_toldByRow, yX11_passDay, yX11_tellTruly, yX11_off, yX11_lowest, yX11_within, yX11_fro, yX11_row, yX11_tryRows, yX11_learn, yX11_toldWithMore, yX11_from, yX11_mean, yX11_inLowestTerms, yX11_commonDivisor, yX11_tells, yX11_suiting, yX11_vary, yX11_firstOtherwise, yX11_film, yX11_drawn, yX11_chance, yX11_offOfDrawn, yX11_image, yX11_back, yX11_count, yX11_sheet, yX11_cell, yX11_copy, yX11_crew, yX11_taken, yX11_isSheet, yX12_in, yX12_within, yX12_init, yX12_spell, yX12_isOne, yX12_isOf, yX12_mostOf, yX12_set, yX12_lays, yX12_person, yX12_told, yX12_brings, yX12_feed, yX12_byteAt, yX12_next, yX12_fail, yX12_isLetter, yX12_isWord, yX12_isSign, yX12_opens, yX12_name, yX12_atom, yX12_term, yX12_added, yX12_not, yX12_both, yX12_either, yX12_part, yX12_read, yX12_text, yX12_force, yX12_bitsOf, yX12_wordsOf, yX12_says, yX12_keepsOf, yX12_tellsOf, yX12_tiresOf, yX12_learns, yX12_asks, yX12_byAll, yX12_off, yX12_over, yX12_tellsTruly, yX12_passes, yX12_day, yX12_laysAside, yX12_laysBack, yX12_run, yX12_fro, yX12_rowsFrom, yX12_row, yX12_learn, yX12_from, yX12_lowest, yX12_mean, yX12_firstOther, yX12_likeSet, yX12_tells, yX12_film, yX12_offDrawn, yX12_drawn, yX12_chance, yX12_image, yX12_back, yX12_count, yX12_isSheet, yX12_sheet, yX12_cell, yX12_copy, yX12_crew, yX12_above, yX12_taken, yJ6_bitCount_0f7a4, yJ9_max_7cf53, yJ9_min_7cf53, yL_law]
def zY (k : Nat) : MethodName := zgt yL_law zYs k
def zBs : List ByteArray := [prog_2_method_1_code, prog_2_method_2_code, prog_2_method_3_code, prog_2_method_4_code, prog_3_method_1_code, prog_3_method_2_code, prog_3_method_3_code, prog_3_method_4_code, prog_3_method_5_code, prog_3_method_6_code, prog_4_method_1_code, prog_4_method_2_code, prog_4_method_3_code, prog_4_method_4_code, prog_4_method_5_code, prog_4_method_6_code, prog_5_method_1_code, prog_5_method_2_code, prog_5_method_3_code, prog_5_method_4_code, prog_5_method_5_code, prog_6_method_1_code, prog_6_method_2_code, prog_6_method_3_code, prog_6_method_4_code, prog_6_method_5_code, prog_7_method_1_code, prog_7_method_2_code, prog_7_method_3_code, prog_7_method_4_code, prog_8_method_1_code, prog_8_method_2_code, prog_8_method_3_code, prog_8_method_4_code, prog_8_method_5_code, prog_8_method_6_code, prog_9_method_1_code, prog_9_method_2_code, prog_9_method_3_code, prog_9_method_4_code, prog_9_method_5_code, prog_9_method_6_code, prog_9_method_7_code, prog_9_method_8_code, prog_9_method_9_code, prog_9_method_10_code, prog_9_method_11_code, prog_9_method_12_code, prog_9_method_13_code, prog_9_method_14_code, prog_9_method_15_code, prog_9_method_16_code, prog_9_method_17_code, prog_9_method_18_code, prog_9_method_19_code, prog_9_method_20_code, prog_9_method_21_code, prog_9_method_22_code, prog_9_method_23_code, prog_10_method_1_code, prog_10_method_2_code, prog_10_method_3_code, prog_10_method_4_code, prog_10_method_5_code, prog_11_method_1_code, prog_11_method_2_code, prog_11_method_3_code, prog_11_method_4_code, prog_11_method_5_code, prog_11_method_6_code, prog_12_method_1_code, prog_12_method_2_code, prog_12_method_3_code, prog_12_method_4_code, prog_12_method_5_code, prog_12_method_6_code, prog_1_method_1_code, prog_1_method_2_code, prog_1_method_3_code, prog_1_method_4_code, prog_1_method_5_code, prog_1_method_6_code, prog_1_method_7_code, prog_1_method_8_code, prog_1_method_9_code, prog_1_method_10_code, prog_1_method_11_code, prog_1_method_12_code, prog_1_method_13_code, prog_1_method_14_code, prog_1_method_15_code, prog_1_method_16_code, prog_1_method_17_code, prog_1_method_18_code, prog_1_method_19_code, prog_1_method_20_code, prog_1_method_21_code, prog_1_method_22_code, prog_1_method_23_code, prog_1_method_24_code, prog_1_method_25_code, prog_1_method_26_code, prog_1_method_27_code, prog_1_method_28_code, prog_1_method_29_code, prog_1_method_30_code, prog_1_method_31_code, prog_1_method_32_code, prog_1_method_33_code, prog_1_method_34_code, prog_1_method_35_code, prog_1_method_36_code, prog_1_method_37_code, prog_1_method_38_code, prog_1_method_39_code, prog_1_method_40_code, prog_1_method_41_code, prog_1_method_42_code, prog_1_method_43_code, prog_1_method_44_code, prog_1_method_45_code, prog_1_method_46_code, prog_1_method_47_code, prog_1_method_48_code, prog_1_method_49_code, prog_1_method_50_code, prog_1_method_51_code, prog_1_method_52_code, prog_1_method_53_code, prog_1_method_54_code, prog_14_method_2_code, prog_14_method_3_code, prog_14_method_4_code, prog_14_method_5_code, prog_14_method_6_code, prog_14_method_7_code, prog_14_method_8_code, prog_14_method_9_code, prog_14_method_10_code, prog_14_method_11_code, prog_14_method_12_code, prog_14_method_13_code, prog_14_method_14_code, prog_14_method_15_code, prog_14_method_16_code, prog_14_method_17_code, prog_14_method_18_code, prog_14_method_19_code, prog_14_method_20_code, prog_14_method_21_code, prog_14_method_22_code, prog_14_method_23_code, prog_14_method_24_code, prog_14_method_25_code, prog_14_method_26_code, prog_14_method_27_code, prog_14_method_28_code, prog_14_method_29_code, prog_14_method_30_code, prog_14_method_31_code, prog_14_method_32_code, prog_14_method_33_code, prog_14_method_34_code, prog_14_method_35_code, prog_14_method_36_code, prog_14_method_37_code, prog_14_method_38_code, prog_14_method_39_code, prog_14_method_40_code, prog_14_method_41_code, prog_14_method_42_code, prog_14_method_43_code, prog_14_method_44_code, prog_14_method_45_code, prog_14_method_46_code, prog_14_method_47_code, prog_14_method_48_code, prog_14_method_49_code, prog_14_method_50_code, prog_14_method_51_code, prog_14_method_52_code, prog_14_method_53_code, prog_14_method_54_code, prog_14_method_55_code, prog_14_method_56_code, prog_14_method_57_code, prog_14_method_58_code, prog_14_method_59_code, prog_14_method_60_code, prog_14_method_61_code, prog_14_method_62_code, prog_14_method_63_code, prog_14_method_64_code, prog_14_method_65_code, prog_14_method_66_code, prog_14_method_67_code, prog_14_method_68_code, prog_14_method_69_code, prog_14_method_70_code, prog_14_method_71_code, prog_14_method_72_code, prog_14_method_73_code, prog_15_method_49_code, prog_16_method_65_code, prog_16_method_69_code, code]
def zB (k : Nat) : ByteArray := zgt code zBs k
def zLs_ : List Nat := [2, 2, 3, 3, 1, 2, 3, 5, 3, 3, 1, 2, 3, 4, 3, 3, 1, 2, 4, 3, 3, 1, 2, 3, 5, 3, 1, 2, 3, 2, 1, 2, 3, 4, 3, 3, 2, 2, 2, 3, 3, 3, 3, 4, 3, 2, 2, 2, 1, 1, 3, 4, 3, 4, 4, 1, 3, 3, 5, 1, 1, 3, 4, 3, 1, 2, 3, 8, 3, 3, 1, 2, 9, 4, 2, 3, 2, 6, 6, 3, 2, 5, 1, 1, 2, 2, 3, 2, 6, 1, 7, 2, 2, 4, 4, 4, 4, 5, 6, 4, 7, 2, 1, 2, 5, 5, 7, 7, 4, 6, 4, 4, 6, 5, 11, 4, 4, 7, 3, 7, 7, 1, 1, 2, 4, 4, 8, 10, 4, 1, 6, 3, 1, 10, 2, 3, 1, 5, 4, 6, 3, 2, 2, 2, 3, 1, 3, 9, 2, 1, 1, 2, 2, 4, 4, 3, 3, 3, 6, 2, 3, 3, 2, 4, 5, 8, 5, 4, 4, 4, 2, 6, 7, 3, 1, 2, 2, 8, 5, 9, 4, 5, 6, 11, 4, 4, 4, 11, 6, 7, 3, 8, 2, 2, 2, 1, 5, 4, 9, 8, 1, 4, 1, 2, 2, 4]
def zL (k : Nat) : Nat := zgt 0 zLs_ k
def zTrs : List (Option FieldType) := [none, (some .boolean), (some .int), none, none, (some .boolean), (some .int), (some .int), (some .int), (some .boolean), none, (some .boolean), (some .int), (some .int), (some .int), (some .boolean), none, (some .boolean), (some .int), (some .int), (some .boolean), none, (some .boolean), (some .int), (some .int), (some .int), none, (some .int), none, none, none, (some .boolean), (some .int), (some .int), (some .int), (some .boolean), none, (some .boolean), (some .int), none, none, none, none, none, none, none, (some .boolean), none, none, none, none, none, (some .int), (some .int), (some .int), (some .boolean), (some .int), (some .int), (some .boolean), none, (some .boolean), (some .boolean), none, none, none, (some .boolean), (some .int), (some .int), (some .int), (some .boolean), none, none, (some .int), (some .int), (some .int), (some .int), none, (some .int), (some .int), (some .int), (some .int), (some .int), (some .int), (some .boolean), (some .int), (some .int), (some .int), (some (.object "FerriedInWords$Text")), (some .int), (some .int), (some .int), (some .boolean), (some (.object "FerriedInWords$Teller")), (some .int), (some .int), (some .int), (some .boolean), (some .int), (some .int), (some .int), (some .int), (some .int), (some .int), (some .int), (some .int), (some .int), none, (some .int), (some .int), (some .int), (some .long), (some .long), (some .int), (some .int), (some .int), none, (some .int), (some .int), (some .int), (some .long), (some .int), (some .int), (some .int), (some .int), (some .int), (some .int), (some .int), (some .int), (some .int), (some .boolean), (some .boolean), (some .int), none, none, (some .boolean), (some .boolean), (some .int), (some .int), none, (some .int), (some .int), (some .int), (some .int), (some .int), none, none, (some .boolean), (some .boolean), (some .boolean), (some .boolean), (some .int), (some .int), (some .int), (some .int), (some .int), (some .int), (some .int), (some .int), (some .int), (some .int), (some .int), (some .int), (some .int), (some .int), (some .int), (some .int), (some .int), (some .boolean), (some .int), (some .int), (some .int), (some .int), (some .int), (some .int), (some .int), none, none, (some .int), (some .int), none, (some .int), (some .int), (some .int), (some .long), (some .long), (some .int), (some .int), (some .int), (some .int), (some .int), (some .int), (some .long), (some .int), (some .int), (some .int), (some .boolean), (some .int), (some .int), (some .int), (some .int), (some .int), (some .int), (some .int), (some .int), (some .int), some .boolean]
def zTr (k : Nat) : Option FieldType := zgt none zTrs k
def zOs : List Nat := [0, 0, 0, 0, 1, 1, 1, 1, 1, 1, 2, 2, 2, 2, 2, 2, 3, 3, 3, 3, 3, 4, 4, 4, 4, 4, 5, 5, 5, 5, 6, 6, 6, 6, 6, 6, 7, 7, 7, 7, 7, 7, 7, 7, 7, 7, 7, 7, 7, 7, 7, 7, 7, 7, 7, 7, 7, 7, 7, 8, 8, 8, 8, 8, 9, 9, 9, 9, 9, 9, 10, 10, 10, 10, 10, 10, 11, 11, 11, 11, 11, 11, 11, 11, 11, 11, 11, 11, 11, 11, 11, 11, 11, 11, 11, 11, 11, 11, 11, 11, 11, 11, 11, 11, 11, 11, 11, 11, 11, 11, 11, 11, 11, 11, 11, 11, 11, 11, 11, 11, 11, 11, 11, 11, 11, 11, 11, 11, 11, 11, 12, 12, 12, 12, 12, 12, 12, 12, 12, 12, 12, 12, 12, 12, 12, 12, 12, 12, 12, 12, 12, 12, 12, 12, 12, 12, 12, 12, 12, 12, 12, 12, 12, 12, 12, 12, 12, 12, 12, 12, 12, 12, 12, 12, 12, 12, 12, 12, 12, 12, 12, 12, 12, 12, 12, 12, 12, 12, 12, 12, 12, 12, 12, 12, 12, 12, 12, 12, 12, 12, 12, 12, 13, 14, 14, 15]
def zO (k : Nat) : Nat := zgt 0 zOs k
def zN : zE := (.nop, 0, 0, [])
def zhd (l : List (Int × Nat)) : Int := match l with
  | (x, _) :: _ => x
  | [] => 0
def zcX0_init : List (List zE) := [[(.aload_n 0, 0, 0, []), (.invokespecial 3, 1003, 0, [(6, 0)]), zN, zN, (.aload_n 0, 0, 0, []), (.iconst 5, 0, 0, []), (.anewarray 9, 2, 0, []), zN, zN, (.putfield 11, 0, 0, []), zN, zN, (.aload_n 0, 0, 0, []), (.bipush 8, 0, 0, []), zN, (.newarray .int, 0, 0, [])], [zN, (.putfield 17, 0, 1, []), zN, zN, (.iconst 0, 0, 0, []), (.istore_n 1, 1, 0, []), (.iload_n 1, 1, 0, []), (.iconst 5, 0, 0, []), (.if_icmp .ge 22, 46, 0, []), zN, zN, (.aload_n 0, 0, 0, []), (.getfield 11, 0, 0, []), zN, zN, (.iload_n 1, 1, 0, [])], [(.new 9, 5, 0, []), zN, zN, (.dup, 0, 0, []), (.invokespecial 21, 26, 0, [(3, 0)]), zN, zN, (.aastore, 0, 0, []), (.iinc 1 1, 1, 0, []), zN, zN, (.goto (-21), 22, 0, []), zN, zN, (.return_, 0, 0, [])]]
def zcX0_isThere : List (List zE) := [[(.iload_n 1, 1, 0, []), (.ifCond .lt 15, 16, 0, []), zN, zN, (.iload_n 1, 1, 0, []), (.aload_n 0, 0, 0, []), (.getfield 22, 0, 2, []), zN, zN, (.if_icmp .ge 7, 16, 0, []), zN, zN, (.iconst 1, 0, 0, []), (.goto 4, 17, 0, []), zN, zN], [(.iconst 0, 0, 0, []), (.ireturn, 1, 0, [])]]
def zcX0_takeFirst : List (List zE) := [[(.aload_n 0, 0, 0, []), (.getfield 17, 0, 1, []), zN, zN, (.iconst 0, 0, 0, []), (.iaload, 0, 0, []), (.istore_n 1, 1, 0, []), (.iconst 1, 0, 0, []), (.istore_n 2, 2, 0, []), (.iload_n 2, 2, 0, []), (.aload_n 0, 0, 0, []), (.getfield 26, 0, 3, []), zN, zN, (.if_icmp .ge 23, 37, 0, []), zN], [zN, (.aload_n 0, 0, 0, []), (.getfield 17, 0, 1, []), zN, zN, (.iload_n 2, 2, 0, []), (.iconst 1, 0, 0, []), (.isub, 0, 0, []), (.aload_n 0, 0, 0, []), (.getfield 17, 0, 1, []), zN, zN, (.iload_n 2, 2, 0, []), (.iaload, 0, 0, []), (.iastore, 0, 0, []), (.iinc 2 1, 2, 0, [])], [zN, zN, (.goto (-25), 9, 0, []), zN, zN, (.aload_n 0, 0, 0, []), (.dup, 0, 0, []), (.getfield 26, 0, 3, []), zN, zN, (.iconst 1, 0, 0, []), (.isub, 0, 0, []), (.putfield 26, 0, 3, []), zN, zN, (.iload_n 1, 1, 0, [])], [(.ireturn, 0, 0, [])]]
def zcX0_become : List (List zE) := [[(.aload_n 0, 0, 0, []), (.aload_n 1, 1, 0, []), (.getfield 22, 0, 2, []), zN, zN, (.putfield 22, 0, 2, []), zN, zN, (.aload_n 0, 0, 0, []), (.aload_n 1, 1, 0, []), (.getfield 26, 0, 3, []), zN, zN, (.putfield 26, 0, 3, []), zN, zN], [(.aload_n 0, 0, 0, []), (.aload_n 1, 1, 0, []), (.getfield 29, 0, 4, []), zN, zN, (.putfield 29, 0, 4, []), zN, zN, (.aload_n 0, 0, 0, []), (.aload_n 1, 1, 0, []), (.getfield 32, 0, 5, []), zN, zN, (.putfield 32, 0, 5, []), zN, zN], [(.aload_n 0, 0, 0, []), (.aload_n 1, 1, 0, []), (.getfield 35, 0, 6, []), zN, zN, (.putfield 35, 0, 6, []), zN, zN, (.iconst 0, 0, 0, []), (.istore_n 2, 2, 0, []), (.iload_n 2, 2, 0, []), (.aload_n 0, 0, 0, []), (.getfield 22, 0, 2, []), zN, zN, (.if_icmp .ge 24, 71, 0, [])], [zN, zN, (.aload_n 0, 0, 0, []), (.getfield 11, 0, 0, []), zN, zN, (.iload_n 2, 2, 0, []), (.aaload, 0, 0, []), (.aload_n 1, 1, 0, []), (.getfield 11, 0, 0, []), zN, zN, (.iload_n 2, 2, 0, []), (.aaload, 0, 0, []), (.invokevirtual 38, 1000, 1, [(5, 29)]), zN], [zN, (.iinc 2 1, 2, 0, []), zN, zN, (.goto (-26), 42, 0, []), zN, zN, (.iconst 0, 0, 0, []), (.istore_n 2, 2, 0, []), (.iload_n 2, 2, 0, []), (.aload_n 0, 0, 0, []), (.getfield 26, 0, 3, []), zN, zN, (.if_icmp .ge 21, 99, 0, []), zN], [zN, (.aload_n 0, 0, 0, []), (.getfield 17, 0, 1, []), zN, zN, (.iload_n 2, 2, 0, []), (.aload_n 1, 1, 0, []), (.getfield 17, 0, 1, []), zN, zN, (.iload_n 2, 2, 0, []), (.iaload, 0, 0, []), (.iastore, 0, 0, []), (.iinc 2 1, 2, 0, []), zN, zN], [(.goto (-23), 73, 0, []), zN, zN, (.return_, 0, 0, [])]]
def zcX1_init : List (List zE) := [[(.aload_n 0, 0, 0, []), (.invokespecial 3, 64, 0, [(3, 0)]), zN, zN, (.return_, 0, 0, [])]]
def zcX1_isUnder : List (List zE) := [[(.iload_n 1, 1, 0, []), (.iconst 2, 0, 0, []), (.if_icmp .eq 11, 13, 0, []), zN, zN, (.aload_n 0, 0, 0, []), (.iload_n 1, 1, 0, []), (.invokespecial 9, 65, 1, [(5, 0)]), zN, zN, (.ifCond .eq 7, 17, 0, []), zN, zN, (.iconst 1, 0, 0, []), (.goto 4, 18, 0, []), zN], [zN, (.iconst 0, 0, 0, []), (.ireturn, 1, 0, [])]]
def zcX1_keptOf : List (List zE) := [[(.aload_n 0, 0, 0, []), (.iload_n 1, 1, 0, []), (.iload_n 2, 2, 0, []), (.invokespecial 13, 66, 2, [(5, 0)]), zN, zN, (.iconst 2, 0, 0, []), (.imul, 0, 0, []), (.ireturn, 0, 0, [])]]
def zcX1_wordsFor : List (List zE) := [[(.aload_n 0, 0, 0, []), (.aload_n 1, 1, 0, []), (.iload_n 2, 2, 0, []), (.iload_n 3, 3, 0, []), (.invokespecial 17, 67, 3, [(5, 0)]), zN, zN, (.istore 4, 4, 0, []), zN, (.iload 4, 4, 0, []), zN, (.iload 4, 4, 0, []), zN, (.iconst 1, 0, 0, []), (.ishl, 0, 0, []), (.iload_n 2, 2, 0, [])], [(.iand, 0, 0, []), (.ior, 0, 0, []), (.ireturn, 0, 0, [])]]
def zcX1_wearies : List (List zE) := [[(.aload_n 0, 0, 0, []), (.iload_n 1, 1, 0, []), (.aload_n 2, 2, 0, []), (.invokespecial 21, 68, 2, [(5, 0)]), zN, zN, (.iconst 1, 0, 0, []), (.iadd, 0, 0, []), (.ireturn, 0, 0, [])]]
def zcX1_takesIn : List (List zE) := [[(.iload_n 1, 1, 0, []), (.ifCond .ne 11, 12, 0, []), zN, zN, (.iload_n 2, 2, 0, []), (.invokestatic 25, 202, 1, [(0, 0)]), zN, zN, (.iconst 1, 0, 0, []), (.if_icmp .ne 7, 16, 0, []), zN, zN, (.iconst 1, 0, 0, []), (.goto 4, 17, 0, []), zN, zN], [(.iconst 0, 0, 0, []), (.ireturn, 1, 0, [])]]
def zcX2_init : List (List zE) := [[(.aload_n 0, 0, 0, []), (.invokespecial 3, 64, 0, [(3, 0)]), zN, zN, (.return_, 0, 0, [])]]
def zcX2_isUnder : List (List zE) := [[(.iload_n 1, 1, 0, []), (.iconst 1, 0, 0, []), (.if_icmp .eq 11, 13, 0, []), zN, zN, (.aload_n 0, 0, 0, []), (.iload_n 1, 1, 0, []), (.invokespecial 9, 65, 1, [(5, 0)]), zN, zN, (.ifCond .eq 7, 17, 0, []), zN, zN, (.iconst 1, 0, 0, []), (.goto 4, 18, 0, []), zN], [zN, (.iconst 0, 0, 0, []), (.ireturn, 1, 0, [])]]
def zcX2_keptOf : List (List zE) := [[(.aload_n 0, 0, 0, []), (.iload_n 1, 1, 0, []), (.iload_n 2, 2, 0, []), (.invokespecial 13, 66, 2, [(5, 0)]), zN, zN, (.iconst 1, 0, 0, []), (.iadd, 0, 0, []), (.ireturn, 0, 0, [])]]
def zcX2_wordsFor : List (List zE) := [[(.aload_n 0, 0, 0, []), (.aload_n 1, 1, 0, []), (.iload_n 2, 2, 0, []), (.iload_n 3, 3, 0, []), (.invokespecial 17, 67, 3, [(5, 0)]), zN, zN, (.iconst 1, 0, 0, []), (.aload_n 1, 1, 0, []), (.getfield 21, 5, 1, []), zN, zN, (.ishl, 0, 0, []), (.ior, 0, 0, []), (.ireturn, 0, 0, [])]]
def zcX2_wearies : List (List zE) := [[(.iconst 0, 0, 0, []), (.ireturn, 0, 0, [])]]
def zcX2_takesIn : List (List zE) := [[(.iconst 0, 0, 0, []), (.ireturn, 1, 0, [])]]
def zcX3_init : List (List zE) := [[(.aload_n 0, 0, 0, []), (.invokespecial 3, 10, 0, [(3, 0)]), zN, zN, (.return_, 0, 0, [])]]
def zcX3_isUnder : List (List zE) := [[(.iload_n 1, 1, 0, []), (.iconst 3, 0, 0, []), (.if_icmp .eq 11, 13, 0, []), zN, zN, (.aload_n 0, 0, 0, []), (.iload_n 1, 1, 0, []), (.invokespecial 9, 11, 1, [(5, 0)]), zN, zN, (.ifCond .eq 7, 17, 0, []), zN, zN, (.iconst 1, 0, 0, []), (.goto 4, 18, 0, []), zN], [zN, (.iconst 0, 0, 0, []), (.ireturn, 1, 0, [])]]
def zcX3_wordsFor : List (List zE) := [[(.aload_n 0, 0, 0, []), (.aload_n 1, 1, 0, []), (.iload_n 2, 2, 0, []), (.iload_n 3, 3, 0, []), (.invokespecial 13, 13, 3, [(5, 0)]), zN, zN, (.iconst 1, 0, 0, []), (.bipush 9, 0, 0, []), zN, (.aload_n 1, 1, 0, []), (.getfield 17, 5, 1, []), zN, zN, (.isub, 0, 0, []), (.ishl, 0, 0, [])], [(.ixor, 0, 0, []), (.ireturn, 0, 0, [])]]
def zcX3_wearies : List (List zE) := [[(.aload_n 2, 2, 0, []), (.getfield 17, 5, 1, []), zN, zN, (.ireturn, 0, 0, [])]]
def zcX3_takesIn : List (List zE) := [[(.iload_n 1, 1, 0, []), (.ireturn, 1, 0, [])]]
def zcX4_init : List (List zE) := [[(.aload_n 0, 0, 0, []), (.invokespecial 3, 4, 0, [(3, 0)]), zN, zN, (.return_, 0, 0, [])]]
def zcX4_isUnder : List (List zE) := [[(.iload_n 1, 1, 0, []), (.iconst 4, 0, 0, []), (.if_icmp .eq 11, 13, 0, []), zN, zN, (.aload_n 0, 0, 0, []), (.iload_n 1, 1, 0, []), (.invokespecial 9, 5, 1, [(5, 0)]), zN, zN, (.ifCond .eq 7, 17, 0, []), zN, zN, (.iconst 1, 0, 0, []), (.goto 4, 18, 0, []), zN], [zN, (.iconst 0, 0, 0, []), (.ireturn, 1, 0, [])]]
def zcX4_keptOf : List (List zE) := [[(.iload_n 2, 2, 0, []), (.iconst 4, 0, 0, []), (.irem, 0, 0, []), (.ifCond .ne 8, 11, 0, []), zN, zN, (.bipush 10, 0, 0, []), zN, (.goto 9, 17, 0, []), zN, zN, (.aload_n 0, 0, 0, []), (.iload_n 1, 1, 0, []), (.iload_n 2, 2, 0, []), (.invokespecial 13, 6, 2, [(5, 0)]), zN], [zN, (.ireturn, 0, 0, [])]]
def zcX4_wordsFor : List (List zE) := [[(.aload_n 0, 0, 0, []), (.aload_n 1, 1, 0, []), (.iload_n 2, 2, 0, []), (.iload_n 3, 3, 0, []), (.invokespecial 17, 7, 3, [(5, 0)]), zN, zN, (.istore 4, 4, 0, []), zN, (.iload 4, 4, 0, []), zN, (.ifCond .ne 7, 18, 0, []), zN, zN, (.iconst 0, 0, 0, []), (.goto 18, 33, 0, [])], [zN, zN, (.iload 4, 4, 0, []), zN, (.aload_n 1, 1, 0, []), (.getfield 21, 5, 2, []), zN, zN, (.iload 4, 4, 0, []), zN, (.invokestatic 27, 102, 1, [(1, 0)]), zN, zN, (.iconst 1, 0, 0, []), (.isub, 0, 0, []), (.iand, 0, 0, [])], [(.ior, 0, 0, []), (.ireturn, 0, 0, [])]]
def zcX4_wearies : List (List zE) := [[(.aload_n 0, 0, 0, []), (.iload_n 1, 1, 0, []), (.aload_n 2, 2, 0, []), (.invokespecial 31, 8, 2, [(5, 0)]), zN, zN, (.iconst 2, 0, 0, []), (.idiv, 0, 0, []), (.ireturn, 0, 0, [])]]
def zcX5_init : List (List zE) := [[(.aload_n 0, 0, 0, []), (.invokespecial 3, 1003, 0, [(6, 0)]), zN, zN, (.return_, 0, 0, [])]]
def zcX5_worth : List (List zE) := [[(.iload_n 1, 1, 0, []), (.tableswitch 51 1 4 #[31, 36, 41, 46], 52, 0, [(1, 32), (2, 37), (3, 42), (4, 47)]), zN, zN, zN, zN, zN, zN, zN, zN, zN, zN, zN, zN, zN, zN], [zN, zN, zN, zN, zN, zN, zN, zN, zN, zN, zN, zN, zN, zN, zN, zN], [(.aload_n 0, 0, 0, []), (.getfield 9, 5, 1, []), zN, zN, (.ireturn, 0, 0, []), (.aload_n 0, 0, 0, []), (.getfield 15, 5, 2, []), zN, zN, (.ireturn, 0, 0, []), (.aload_n 0, 0, 0, []), (.getfield 18, 5, 3, []), zN, zN, (.ireturn, 0, 0, []), (.aload_n 0, 0, 0, [])], [(.getfield 21, 5, 4, []), zN, zN, (.ireturn, 0, 0, []), (.aload_n 0, 0, 0, []), (.getfield 24, 5, 0, []), zN, zN, (.ireturn, 0, 0, [])]]
def zcX5_become : List (List zE) := [[(.iload_n 1, 1, 0, []), (.tableswitch 63 1 4 #[31, 39, 47, 55], 64, 0, [(1, 32), (2, 40), (3, 48), (4, 56)]), zN, zN, zN, zN, zN, zN, zN, zN, zN, zN, zN, zN, zN, zN], [zN, zN, zN, zN, zN, zN, zN, zN, zN, zN, zN, zN, zN, zN, zN, zN], [(.aload_n 0, 0, 0, []), (.iload_n 2, 2, 0, []), (.putfield 9, 5, 1, []), zN, zN, (.goto 32, 69, 0, []), zN, zN, (.aload_n 0, 0, 0, []), (.iload_n 2, 2, 0, []), (.putfield 15, 5, 2, []), zN, zN, (.goto 24, 69, 0, []), zN, zN], [(.aload_n 0, 0, 0, []), (.iload_n 2, 2, 0, []), (.putfield 18, 5, 3, []), zN, zN, (.goto 16, 69, 0, []), zN, zN, (.aload_n 0, 0, 0, []), (.iload_n 2, 2, 0, []), (.putfield 21, 5, 4, []), zN, zN, (.goto 8, 69, 0, []), zN, zN], [(.aload_n 0, 0, 0, []), (.iload_n 2, 2, 0, []), (.putfield 24, 5, 0, []), zN, zN, (.return_, 0, 0, [])]]
def zcX5_become_ : List (List zE) := [[(.aload_n 0, 0, 0, []), (.aload_n 1, 1, 0, []), (.getfield 24, 5, 0, []), zN, zN, (.putfield 24, 5, 0, []), zN, zN, (.aload_n 0, 0, 0, []), (.aload_n 1, 1, 0, []), (.getfield 9, 5, 1, []), zN, zN, (.putfield 9, 5, 1, []), zN, zN], [(.aload_n 0, 0, 0, []), (.aload_n 1, 1, 0, []), (.getfield 15, 5, 2, []), zN, zN, (.putfield 15, 5, 2, []), zN, zN, (.aload_n 0, 0, 0, []), (.aload_n 1, 1, 0, []), (.getfield 18, 5, 3, []), zN, zN, (.putfield 18, 5, 3, []), zN, zN], [(.aload_n 0, 0, 0, []), (.aload_n 1, 1, 0, []), (.getfield 21, 5, 4, []), zN, zN, (.putfield 21, 5, 4, []), zN, zN, (.return_, 0, 0, [])]]
def zcX6_init : List (List zE) := [[(.aload_n 0, 0, 0, []), (.invokespecial 3, 64, 0, [(3, 0)]), zN, zN, (.return_, 0, 0, [])]]
def zcX6_isUnder : List (List zE) := [[(.iload_n 1, 1, 0, []), (.iconst 5, 0, 0, []), (.if_icmp .eq 11, 13, 0, []), zN, zN, (.aload_n 0, 0, 0, []), (.iload_n 1, 1, 0, []), (.invokespecial 9, 65, 1, [(5, 0)]), zN, zN, (.ifCond .eq 7, 17, 0, []), zN, zN, (.iconst 1, 0, 0, []), (.goto 4, 18, 0, []), zN], [zN, (.iconst 0, 0, 0, []), (.ireturn, 1, 0, [])]]
def zcX6_keptOf : List (List zE) := [[(.aload_n 0, 0, 0, []), (.iload_n 1, 1, 0, []), (.iload_n 2, 2, 0, []), (.invokespecial 13, 66, 2, [(5, 0)]), zN, zN, (.iconst 2, 0, 0, []), (.idiv, 0, 0, []), (.ireturn, 0, 0, [])]]
def zcX6_wordsFor : List (List zE) := [[(.aload_n 0, 0, 0, []), (.aload_n 1, 1, 0, []), (.iload_n 2, 2, 0, []), (.iload_n 3, 3, 0, []), (.invokespecial 17, 67, 3, [(5, 0)]), zN, zN, (.bipush 31, 0, 0, []), zN, (.iand, 0, 0, []), (.ireturn, 0, 0, [])]]
def zcX6_wearies : List (List zE) := [[(.aload_n 2, 2, 0, []), (.getfield 23, 5, 4, []), zN, zN, (.iconst 2, 0, 0, []), (.irem, 0, 0, []), (.ifCond .ne 12, 18, 0, []), zN, zN, (.aload_n 0, 0, 0, []), (.iload_n 1, 1, 0, []), (.aload_n 2, 2, 0, []), (.invokespecial 29, 68, 2, [(5, 0)]), zN, zN, (.goto 4, 19, 0, [])], [zN, zN, (.iconst 0, 0, 0, []), (.ireturn, 0, 0, [])]]
def zcX6_takesIn : List (List zE) := [[(.iconst 0, 0, 0, []), (.ireturn, 1, 0, [])]]
def zcX7_init : List (List zE) := [[(.aload_n 0, 0, 0, []), (.invokespecial 3, 1003, 0, [(6, 0)]), zN, zN, (.aload_n 0, 0, 0, []), (.sipush 160, 0, 0, []), zN, zN, (.newarray .int, 0, 0, []), zN, (.putfield 9, 7, 0, []), zN, zN, (.aload_n 0, 0, 0, []), (.sipush 161, 0, 0, []), zN], [zN, (.newarray .int, 0, 0, []), zN, (.putfield 15, 7, 2, []), zN, zN, (.aload_n 0, 0, 0, []), (.sipush 161, 0, 0, []), zN, zN, (.newarray .int, 0, 0, []), zN, (.putfield 18, 7, 3, []), zN, zN, (.aload_n 0, 0, 0, [])], [(.sipush 161, 0, 0, []), zN, zN, (.newarray .int, 0, 0, []), zN, (.putfield 21, 7, 4, []), zN, zN, (.aload_n 0, 0, 0, []), (.aload_n 1, 1, 0, []), (.putfield 24, 7, 9, []), zN, zN, (.return_, 0, 0, [])]]
def zcX7_put : List (List zE) := [[(.aload_n 0, 0, 0, []), (.getfield 28, 7, 1, []), zN, zN, (.sipush 160, 0, 0, []), zN, zN, (.if_icmp .lt 5, 12, 0, []), zN, zN, (.iconst 0, 0, 0, []), (.ireturn, 1, 0, []), (.aload_n 0, 0, 0, []), (.getfield 9, 7, 0, []), zN, zN], [(.aload_n 0, 0, 0, []), (.getfield 28, 7, 1, []), zN, zN, (.iload_n 1, 1, 0, []), (.iastore, 0, 0, []), (.aload_n 0, 0, 0, []), (.dup, 0, 0, []), (.getfield 28, 7, 1, []), zN, zN, (.iconst 1, 0, 0, []), (.iadd, 0, 0, []), (.putfield 28, 7, 1, []), zN, zN], [(.iconst 1, 0, 0, []), (.ireturn, 1, 0, [])]]
def zcX7_readInto : List (List zE) := [[(.aload_n 0, 0, 0, []), (.aload_n 1, 1, 0, []), (.putfield 24, 7, 9, []), zN, zN, (.aload_n 0, 0, 0, []), (.getfield 24, 7, 9, []), zN, zN, (.iconst 0, 0, 0, []), (.putfield 32, 10, 2, []), zN, zN, (.aload_n 0, 0, 0, []), (.invokevirtual 35, 1000, 0, [(7, 50)]), zN], [zN, (.aload_n 0, 0, 0, []), (.iconst (-1), 0, 0, []), (.putfield 38, 7, 8, []), zN, zN, (.aload_n 0, 0, 0, []), (.iconst 0, 0, 0, []), (.putfield 41, 7, 6, []), zN, zN, (.aload_n 0, 0, 0, []), (.aload_n 0, 0, 0, []), (.getfield 15, 7, 2, []), zN, zN], [(.iconst 0, 0, 0, []), (.iaload, 0, 0, []), (.putfield 44, 7, 7, []), zN, zN, (.aload_n 0, 0, 0, []), (.bipush (-5), 0, 0, []), zN, (.iconst 0, 0, 0, []), (.invokevirtual 47, 1000, 2, [(7, 39)]), zN, zN, (.aload_n 0, 0, 0, []), (.bipush (-6), 0, 0, []), zN, (.iconst 1, 0, 0, [])], [(.invokevirtual 47, 1000, 2, [(7, 39)]), zN, zN, (.aload_n 0, 0, 0, []), (.bipush (-7), 0, 0, []), zN, (.iconst 2, 0, 0, []), (.invokevirtual 47, 1000, 2, [(7, 39)]), zN, zN, (.aload_n 0, 0, 0, []), (.iconst (-1), 0, 0, []), (.invokevirtual 51, 1000, 1, [(7, 47)]), zN, zN, (.aload_n 0, 0, 0, [])], [(.iconst 0, 0, 0, []), (.putfield 28, 7, 1, []), zN, zN, (.aload_n 0, 0, 0, []), (.getfield 38, 7, 8, []), zN, zN, (.ireturn, 0, 0, [])]]
def zcX7_readPart : List (List zE) := [[(.aload_n 0, 0, 0, []), (.iload_n 1, 1, 0, []), (.invokevirtual 51, 1000, 1, [(7, 47)]), zN, zN, (.aload_n 0, 0, 0, []), (.iconst 0, 0, 0, []), (.invokevirtual 55, 1000, 1, [(7, 40)]), zN, zN, (.aload_n 0, 0, 0, []), (.bipush 59, 0, 0, []), zN, (.invokevirtual 51, 1000, 1, [(7, 47)]), zN, zN], [(.iload_n 2, 2, 0, []), (.ifCond .lt 24, 41, 0, []), zN, zN, (.iload_n 2, 2, 0, []), (.iconst 3, 0, 0, []), (.if_icmp .ge 19, 41, 0, []), zN, zN, (.aload_n 0, 0, 0, []), (.getfield 24, 7, 9, []), zN, zN, (.getfield 58, 10, 1, []), zN, zN], [(.iload_n 2, 2, 0, []), (.aload_n 0, 0, 0, []), (.getfield 24, 7, 9, []), zN, zN, (.getfield 32, 10, 2, []), zN, zN, (.iastore, 0, 0, []), (.return_, 0, 0, [])]]
def zcX7_readOrs : List (List zE) := [[(.aload_n 0, 0, 0, []), (.iload_n 1, 1, 0, []), (.invokevirtual 61, 1000, 1, [(7, 41)]), zN, zN, (.iconst 0, 0, 0, []), (.istore_n 2, 2, 0, []), (.iload_n 2, 2, 0, []), (.sipush 160, 0, 0, []), zN, zN, (.if_icmp .ge 36, 47, 0, []), zN, zN, (.aload_n 0, 0, 0, []), (.getfield 44, 7, 7, [])], [zN, zN, (.bipush (-8), 0, 0, []), zN, (.if_icmp .ne 27, 47, 0, []), zN, zN, (.aload_n 0, 0, 0, []), (.invokevirtual 64, 1000, 0, [(7, 49)]), zN, zN, (.aload_n 0, 0, 0, []), (.iload_n 1, 1, 0, []), (.invokevirtual 61, 1000, 1, [(7, 41)]), zN, zN], [(.aload_n 0, 0, 0, []), (.getfield 24, 7, 9, []), zN, zN, (.bipush (-21), 0, 0, []), zN, (.invokevirtual 67, 1000, 1, [(10, 71)]), zN, zN, (.iinc 2 1, 2, 0, []), zN, zN, (.goto (-37), 7, 0, []), zN, zN, (.return_, 0, 0, [])]]
def zcX7_readAnds : List (List zE) := [[(.aload_n 0, 0, 0, []), (.iload_n 1, 1, 0, []), (.invokevirtual 70, 1000, 1, [(7, 42)]), zN, zN, (.iconst 0, 0, 0, []), (.istore_n 2, 2, 0, []), (.iload_n 2, 2, 0, []), (.sipush 160, 0, 0, []), zN, zN, (.if_icmp .ge 36, 47, 0, []), zN, zN, (.aload_n 0, 0, 0, []), (.getfield 44, 7, 7, [])], [zN, zN, (.bipush (-9), 0, 0, []), zN, (.if_icmp .ne 27, 47, 0, []), zN, zN, (.aload_n 0, 0, 0, []), (.invokevirtual 64, 1000, 0, [(7, 49)]), zN, zN, (.aload_n 0, 0, 0, []), (.iload_n 1, 1, 0, []), (.invokevirtual 70, 1000, 1, [(7, 42)]), zN, zN], [(.aload_n 0, 0, 0, []), (.getfield 24, 7, 9, []), zN, zN, (.bipush (-22), 0, 0, []), zN, (.invokevirtual 67, 1000, 1, [(10, 71)]), zN, zN, (.iinc 2 1, 2, 0, []), zN, zN, (.goto (-37), 7, 0, []), zN, zN, (.return_, 0, 0, [])]]
def zcX7_readNot : List (List zE) := [[(.aload_n 0, 0, 0, []), (.getfield 44, 7, 7, []), zN, zN, (.bipush (-10), 0, 0, []), zN, (.if_icmp .ne 29, 35, 0, []), zN, zN, (.aload_n 0, 0, 0, []), (.iload_n 1, 1, 0, []), (.invokevirtual 73, 1000, 1, [(7, 46)]), zN, zN, (.ifCond .ne 4, 18, 0, []), zN], [zN, (.return_, 0, 0, []), (.aload_n 0, 0, 0, []), (.iload_n 1, 1, 0, []), (.iconst 1, 0, 0, []), (.iadd, 0, 0, []), (.invokevirtual 70, 1000, 1, [(7, 42)]), zN, zN, (.aload_n 0, 0, 0, []), (.getfield 24, 7, 9, []), zN, zN, (.bipush (-11), 0, 0, []), zN, (.invokevirtual 67, 1000, 1, [(10, 71)])], [zN, zN, (.return_, 0, 0, []), (.aload_n 0, 0, 0, []), (.iload_n 1, 1, 0, []), (.invokevirtual 77, 1000, 1, [(7, 43)]), zN, zN, (.aload_n 0, 0, 0, []), (.getfield 44, 7, 7, []), zN, zN, (.bipush 60, 0, 0, []), zN, (.if_icmp .eq 12, 58, 0, []), zN], [zN, (.aload_n 0, 0, 0, []), (.getfield 44, 7, 7, []), zN, zN, (.bipush 61, 0, 0, []), zN, (.if_icmp .ne 37, 92, 0, []), zN, zN, (.aload_n 0, 0, 0, []), (.getfield 44, 7, 7, []), zN, zN, (.bipush 60, 0, 0, []), zN], [(.if_icmp .ne 8, 72, 0, []), zN, zN, (.bipush (-23), 0, 0, []), zN, (.goto 5, 74, 0, []), zN, zN, (.bipush (-24), 0, 0, []), zN, (.istore_n 2, 2, 0, []), (.aload_n 0, 0, 0, []), (.invokevirtual 64, 1000, 0, [(7, 49)]), zN, zN, (.aload_n 0, 0, 0, [])], [(.iload_n 1, 1, 0, []), (.invokevirtual 77, 1000, 1, [(7, 43)]), zN, zN, (.aload_n 0, 0, 0, []), (.getfield 24, 7, 9, []), zN, zN, (.iload_n 2, 2, 0, []), (.invokevirtual 67, 1000, 1, [(10, 71)]), zN, zN, (.return_, 0, 0, [])]]
def zcX7_readSum : List (List zE) := [[(.aload_n 0, 0, 0, []), (.iload_n 1, 1, 0, []), (.invokevirtual 80, 1000, 1, [(7, 44)]), zN, zN, (.iconst 0, 0, 0, []), (.istore_n 2, 2, 0, []), (.iload_n 2, 2, 0, []), (.sipush 160, 0, 0, []), zN, zN, (.if_icmp .ge 61, 72, 0, []), zN, zN, (.aload_n 0, 0, 0, []), (.getfield 44, 7, 7, [])], [zN, zN, (.bipush 43, 0, 0, []), zN, (.if_icmp .eq 12, 32, 0, []), zN, zN, (.aload_n 0, 0, 0, []), (.getfield 44, 7, 7, []), zN, zN, (.bipush 45, 0, 0, []), zN, (.if_icmp .ne 43, 72, 0, []), zN, zN], [(.aload_n 0, 0, 0, []), (.getfield 44, 7, 7, []), zN, zN, (.bipush 43, 0, 0, []), zN, (.if_icmp .ne 8, 46, 0, []), zN, zN, (.bipush (-25), 0, 0, []), zN, (.goto 5, 48, 0, []), zN, zN, (.bipush (-26), 0, 0, []), zN], [(.istore_n 3, 3, 0, []), (.aload_n 0, 0, 0, []), (.invokevirtual 64, 1000, 0, [(7, 49)]), zN, zN, (.aload_n 0, 0, 0, []), (.iload_n 1, 1, 0, []), (.invokevirtual 80, 1000, 1, [(7, 44)]), zN, zN, (.aload_n 0, 0, 0, []), (.getfield 24, 7, 9, []), zN, zN, (.iload_n 3, 3, 0, []), (.invokevirtual 67, 1000, 1, [(10, 71)])], [zN, zN, (.iinc 2 1, 2, 0, []), zN, zN, (.goto (-62), 7, 0, []), zN, zN, (.return_, 0, 0, [])]]
def zcX7_readTerm : List (List zE) := [[(.aload_n 0, 0, 0, []), (.iload_n 1, 1, 0, []), (.invokevirtual 83, 1000, 1, [(7, 45)]), zN, zN, (.iconst 0, 0, 0, []), (.istore_n 2, 2, 0, []), (.iload_n 2, 2, 0, []), (.sipush 160, 0, 0, []), zN, zN, (.if_icmp .ge 36, 47, 0, []), zN, zN, (.aload_n 0, 0, 0, []), (.getfield 44, 7, 7, [])], [zN, zN, (.bipush 42, 0, 0, []), zN, (.if_icmp .ne 27, 47, 0, []), zN, zN, (.aload_n 0, 0, 0, []), (.invokevirtual 64, 1000, 0, [(7, 49)]), zN, zN, (.aload_n 0, 0, 0, []), (.iload_n 1, 1, 0, []), (.invokevirtual 83, 1000, 1, [(7, 45)]), zN, zN], [(.aload_n 0, 0, 0, []), (.getfield 24, 7, 9, []), zN, zN, (.bipush (-27), 0, 0, []), zN, (.invokevirtual 67, 1000, 1, [(10, 71)]), zN, zN, (.iinc 2 1, 2, 0, []), zN, zN, (.goto (-37), 7, 0, []), zN, zN, (.return_, 0, 0, [])]]
def zcX7_readOne : List (List zE) := [[(.aload_n 0, 0, 0, []), (.getfield 44, 7, 7, []), zN, zN, (.bipush (-3), 0, 0, []), zN, (.if_icmp .eq 12, 18, 0, []), zN, zN, (.aload_n 0, 0, 0, []), (.getfield 44, 7, 7, []), zN, zN, (.bipush (-4), 0, 0, []), zN, (.if_icmp .ne 26, 41, 0, [])], [zN, zN, (.aload_n 0, 0, 0, []), (.getfield 24, 7, 9, []), zN, zN, (.aload_n 0, 0, 0, []), (.getfield 18, 7, 3, []), zN, zN, (.aload_n 0, 0, 0, []), (.getfield 41, 7, 6, []), zN, zN, (.iaload, 0, 0, []), (.invokevirtual 67, 1000, 1, [(10, 71)])], [zN, zN, (.aload_n 0, 0, 0, []), (.invokevirtual 64, 1000, 0, [(7, 49)]), zN, zN, (.goto 78, 116, 0, []), zN, zN, (.aload_n 0, 0, 0, []), (.getfield 44, 7, 7, []), zN, zN, (.bipush 45, 0, 0, []), zN, (.if_icmp .ne 31, 78, 0, [])], [zN, zN, (.aload_n 0, 0, 0, []), (.iload_n 1, 1, 0, []), (.invokevirtual 73, 1000, 1, [(7, 46)]), zN, zN, (.ifCond .ne 4, 59, 0, []), zN, zN, (.return_, 0, 0, []), (.aload_n 0, 0, 0, []), (.iload_n 1, 1, 0, []), (.iconst 1, 0, 0, []), (.iadd, 0, 0, []), (.invokevirtual 83, 1000, 1, [(7, 45)])], [zN, zN, (.aload_n 0, 0, 0, []), (.getfield 24, 7, 9, []), zN, zN, (.bipush (-12), 0, 0, []), zN, (.invokevirtual 67, 1000, 1, [(10, 71)]), zN, zN, (.goto 41, 116, 0, []), zN, zN, (.aload_n 0, 0, 0, []), (.getfield 44, 7, 7, [])], [zN, zN, (.bipush 40, 0, 0, []), zN, (.if_icmp .ne 28, 112, 0, []), zN, zN, (.aload_n 0, 0, 0, []), (.iload_n 1, 1, 0, []), (.invokevirtual 73, 1000, 1, [(7, 46)]), zN, zN, (.ifCond .ne 4, 96, 0, []), zN, zN, (.return_, 0, 0, [])], [(.aload_n 0, 0, 0, []), (.iload_n 1, 1, 0, []), (.iconst 1, 0, 0, []), (.iadd, 0, 0, []), (.invokevirtual 55, 1000, 1, [(7, 40)]), zN, zN, (.aload_n 0, 0, 0, []), (.bipush 41, 0, 0, []), zN, (.invokevirtual 51, 1000, 1, [(7, 47)]), zN, zN, (.goto 7, 116, 0, []), zN, zN], [(.aload_n 0, 0, 0, []), (.invokevirtual 86, 1000, 0, [(7, 48)]), zN, zN, (.return_, 0, 0, [])]]
def zcX7_opens : List (List zE) := [[(.iload_n 1, 1, 0, []), (.iconst 5, 0, 0, []), (.if_icmp .lt 9, 11, 0, []), zN, zN, (.aload_n 0, 0, 0, []), (.invokevirtual 86, 1000, 0, [(7, 48)]), zN, zN, (.iconst 0, 0, 0, []), (.ireturn, 1, 0, []), (.aload_n 0, 0, 0, []), (.invokevirtual 64, 1000, 0, [(7, 49)]), zN, zN, (.iconst 1, 0, 0, [])], [(.ireturn, 1, 0, [])]]
def zcX7_expect : List (List zE) := [[(.aload_n 0, 0, 0, []), (.getfield 44, 7, 7, []), zN, zN, (.iload_n 1, 1, 0, []), (.if_icmp .ne 10, 15, 0, []), zN, zN, (.aload_n 0, 0, 0, []), (.invokevirtual 64, 1000, 0, [(7, 49)]), zN, zN, (.goto 7, 19, 0, []), zN, zN, (.aload_n 0, 0, 0, [])], [(.invokevirtual 86, 1000, 0, [(7, 48)]), zN, zN, (.return_, 0, 0, [])]]
def zcX7_fail : List (List zE) := [[(.aload_n 0, 0, 0, []), (.getfield 38, 7, 8, []), zN, zN, (.iconst (-1), 0, 0, []), (.if_icmp .ne 16, 21, 0, []), zN, zN, (.aload_n 0, 0, 0, []), (.aload_n 0, 0, 0, []), (.getfield 21, 7, 4, []), zN, zN, (.aload_n 0, 0, 0, []), (.getfield 41, 7, 6, []), zN], [zN, (.iaload, 0, 0, []), (.putfield 38, 7, 8, []), zN, zN, (.aload_n 0, 0, 0, []), (.bipush (-2), 0, 0, []), zN, (.putfield 44, 7, 7, []), zN, zN, (.return_, 0, 0, [])]]
def zcX7_advance : List (List zE) := [[(.aload_n 0, 0, 0, []), (.getfield 38, 7, 8, []), zN, zN, (.iconst (-1), 0, 0, []), (.if_icmp .ne 16, 21, 0, []), zN, zN, (.aload_n 0, 0, 0, []), (.getfield 41, 7, 6, []), zN, zN, (.iconst 1, 0, 0, []), (.iadd, 0, 0, []), (.aload_n 0, 0, 0, []), (.getfield 89, 7, 5, [])], [zN, zN, (.if_icmp .lt 4, 22, 0, []), zN, zN, (.return_, 0, 0, []), (.aload_n 0, 0, 0, []), (.dup, 0, 0, []), (.getfield 41, 7, 6, []), zN, zN, (.iconst 1, 0, 0, []), (.iadd, 0, 0, []), (.putfield 41, 7, 6, []), zN, zN], [(.aload_n 0, 0, 0, []), (.aload_n 0, 0, 0, []), (.getfield 15, 7, 2, []), zN, zN, (.aload_n 0, 0, 0, []), (.getfield 41, 7, 6, []), zN, zN, (.iaload, 0, 0, []), (.putfield 44, 7, 7, []), zN, zN, (.return_, 0, 0, [])]]
def zcX7_split : List (List zE) := [[(.aload_n 0, 0, 0, []), (.iconst 0, 0, 0, []), (.putfield 89, 7, 5, []), zN, zN, (.iconst 0, 0, 0, []), (.istore_n 1, 1, 0, []), (.iload_n 1, 1, 0, []), (.aload_n 0, 0, 0, []), (.getfield 28, 7, 1, []), zN, zN, (.if_icmp .ge 56, 68, 0, []), zN, zN, (.aload_n 0, 0, 0, [])], [(.getfield 9, 7, 0, []), zN, zN, (.iload_n 1, 1, 0, []), (.iaload, 0, 0, []), (.bipush 32, 0, 0, []), zN, (.if_icmp .eq 14, 37, 0, []), zN, zN, (.aload_n 0, 0, 0, []), (.getfield 9, 7, 0, []), zN, zN, (.iload_n 1, 1, 0, []), (.iaload, 0, 0, [])], [(.bipush 10, 0, 0, []), zN, (.if_icmp .ne 7, 41, 0, []), zN, zN, (.iconst 1, 0, 0, []), (.goto 4, 42, 0, []), zN, zN, (.iconst 0, 0, 0, []), (.istore_n 2, 2, 0, []), (.iload_n 2, 2, 0, []), (.ifCond .eq 9, 53, 0, []), zN, zN, (.iload_n 1, 1, 0, [])], [(.iconst 1, 0, 0, []), (.iadd, 0, 0, []), (.goto 14, 64, 0, []), zN, zN, (.iload_n 1, 1, 0, []), (.iconst 1, 0, 0, []), (.iadd, 0, 0, []), (.aload_n 0, 0, 0, []), (.iload_n 1, 1, 0, []), (.invokevirtual 92, 1000, 1, [(7, 52)]), zN, zN, (.invokestatic 96, 1004, 2, [(7, 0)]), zN, zN], [(.istore_n 1, 1, 0, []), (.goto (-58), 7, 0, []), zN, zN, (.aload_n 0, 0, 0, []), (.iconst (-1), 0, 0, []), (.iconst 0, 0, 0, []), (.aload_n 0, 0, 0, []), (.getfield 28, 7, 1, []), zN, zN, (.invokevirtual 102, 1000, 3, [(7, 51)]), zN, zN, (.return_, 0, 0, [])]]
def zcX7_addToken : List (List zE) := [[(.aload_n 0, 0, 0, []), (.getfield 89, 7, 5, []), zN, zN, (.aload_n 0, 0, 0, []), (.getfield 15, 7, 2, []), zN, zN, (.arraylength, 0, 0, []), (.if_icmp .lt 4, 13, 0, []), zN, zN, (.return_, 0, 0, []), (.aload_n 0, 0, 0, []), (.getfield 15, 7, 2, []), zN], [zN, (.aload_n 0, 0, 0, []), (.getfield 89, 7, 5, []), zN, zN, (.iload_n 1, 1, 0, []), (.iastore, 0, 0, []), (.aload_n 0, 0, 0, []), (.getfield 18, 7, 3, []), zN, zN, (.aload_n 0, 0, 0, []), (.getfield 89, 7, 5, []), zN, zN, (.iload_n 2, 2, 0, [])], [(.iastore, 0, 0, []), (.aload_n 0, 0, 0, []), (.getfield 21, 7, 4, []), zN, zN, (.aload_n 0, 0, 0, []), (.getfield 89, 7, 5, []), zN, zN, (.iload_n 3, 3, 0, []), (.iastore, 0, 0, []), (.aload_n 0, 0, 0, []), (.dup, 0, 0, []), (.getfield 89, 7, 5, []), zN, zN], [(.iconst 1, 0, 0, []), (.iadd, 0, 0, []), (.putfield 89, 7, 5, []), zN, zN, (.return_, 0, 0, [])]]
def zcX7_splitOff : List (List zE) := [[(.aload_n 0, 0, 0, []), (.getfield 9, 7, 0, []), zN, zN, (.iload_n 1, 1, 0, []), (.iaload, 0, 0, []), (.istore_n 2, 2, 0, []), (.iload_n 2, 2, 0, []), (.bipush 97, 0, 0, []), zN, (.if_icmp .lt 15, 25, 0, []), zN, zN, (.iload_n 2, 2, 0, []), (.bipush 122, 0, 0, []), zN], [(.if_icmp .gt 9, 25, 0, []), zN, zN, (.aload_n 0, 0, 0, []), (.iload_n 1, 1, 0, []), (.invokevirtual 106, 1000, 1, [(7, 53)]), zN, zN, (.ireturn, 0, 0, []), (.iload_n 2, 2, 0, []), (.bipush 48, 0, 0, []), zN, (.if_icmp .lt 15, 43, 0, []), zN, zN, (.iload_n 2, 2, 0, [])], [(.bipush 57, 0, 0, []), zN, (.if_icmp .gt 9, 43, 0, []), zN, zN, (.aload_n 0, 0, 0, []), (.iload_n 1, 1, 0, []), (.invokevirtual 109, 1000, 1, [(7, 54)]), zN, zN, (.ireturn, 0, 0, []), (.aload_n 0, 0, 0, []), (.iload_n 2, 2, 0, []), (.invokestatic 112, 55, 1, [(0, 0)]), zN, zN], [(.ifCond .eq 7, 55, 0, []), zN, zN, (.iload_n 2, 2, 0, []), (.goto 5, 57, 0, []), zN, zN, (.bipush (-2), 0, 0, []), zN, (.iconst 0, 0, 0, []), (.iload_n 1, 1, 0, []), (.invokevirtual 102, 1000, 3, [(7, 51)]), zN, zN, (.iload_n 1, 1, 0, []), (.iconst 1, 0, 0, [])], [(.iadd, 0, 0, []), (.ireturn, 0, 0, [])]]
def zcX7_splitWord : List (List zE) := [[(.iload_n 1, 1, 0, []), (.istore_n 2, 2, 0, []), (.iload_n 2, 2, 0, []), (.aload_n 0, 0, 0, []), (.getfield 28, 7, 1, []), zN, zN, (.if_icmp .ge 31, 38, 0, []), zN, zN, (.aload_n 0, 0, 0, []), (.getfield 9, 7, 0, []), zN, zN, (.iload_n 2, 2, 0, []), (.iaload, 0, 0, [])], [(.bipush 97, 0, 0, []), zN, (.if_icmp .lt 20, 38, 0, []), zN, zN, (.aload_n 0, 0, 0, []), (.getfield 9, 7, 0, []), zN, zN, (.iload_n 2, 2, 0, []), (.iaload, 0, 0, []), (.bipush 122, 0, 0, []), zN, (.if_icmp .gt 9, 38, 0, []), zN, zN], [(.iinc 2 1, 2, 0, []), zN, zN, (.goto (-33), 2, 0, []), zN, zN, (.aload_n 0, 0, 0, []), (.iload_n 1, 1, 0, []), (.iload_n 2, 2, 0, []), (.invokevirtual 115, 1000, 2, [(7, 56)]), zN, zN, (.istore_n 3, 3, 0, []), (.aload_n 0, 0, 0, []), (.iload_n 3, 3, 0, []), (.ifCond .eq 8, 55, 0, [])], [zN, zN, (.bipush (-4), 0, 0, []), zN, (.goto 9, 61, 0, []), zN, zN, (.aload_n 0, 0, 0, []), (.iload_n 1, 1, 0, []), (.iload_n 2, 2, 0, []), (.invokevirtual 118, 1000, 2, [(7, 57)]), zN, zN, (.iload_n 3, 3, 0, []), (.iload_n 1, 1, 0, []), (.invokevirtual 102, 1000, 3, [(7, 51)])], [zN, zN, (.iload_n 2, 2, 0, []), (.ireturn, 0, 0, [])]]
def zcX7_splitNumber : List (List zE) := [[(.iload_n 1, 1, 0, []), (.istore_n 2, 2, 0, []), (.iconst 0, 0, 0, []), (.istore_n 3, 3, 0, []), (.iload_n 2, 2, 0, []), (.aload_n 0, 0, 0, []), (.getfield 28, 7, 1, []), zN, zN, (.if_icmp .ge 46, 55, 0, []), zN, zN, (.aload_n 0, 0, 0, []), (.getfield 9, 7, 0, []), zN, zN], [(.iload_n 2, 2, 0, []), (.iaload, 0, 0, []), (.bipush 48, 0, 0, []), zN, (.if_icmp .lt 35, 55, 0, []), zN, zN, (.aload_n 0, 0, 0, []), (.getfield 9, 7, 0, []), zN, zN, (.iload_n 2, 2, 0, []), (.iaload, 0, 0, []), (.bipush 57, 0, 0, []), zN, (.if_icmp .gt 24, 55, 0, [])], [zN, zN, (.iload_n 3, 3, 0, []), (.bipush 10, 0, 0, []), zN, (.imul, 0, 0, []), (.aload_n 0, 0, 0, []), (.getfield 9, 7, 0, []), zN, zN, (.iload_n 2, 2, 0, []), (.iaload, 0, 0, []), (.iadd, 0, 0, []), (.bipush 48, 0, 0, []), zN, (.isub, 0, 0, [])], [(.istore_n 3, 3, 0, []), (.iinc 2 1, 2, 0, []), zN, zN, (.goto (-48), 4, 0, []), zN, zN, (.aload_n 0, 0, 0, []), (.iload_n 2, 2, 0, []), (.iload_n 1, 1, 0, []), (.isub, 0, 0, []), (.iconst 4, 0, 0, []), (.if_icmp .gt 8, 68, 0, []), zN, zN, (.bipush (-3), 0, 0, [])], [zN, (.goto 5, 70, 0, []), zN, zN, (.bipush (-2), 0, 0, []), zN, (.iload_n 3, 3, 0, []), (.iload_n 1, 1, 0, []), (.invokevirtual 102, 1000, 3, [(7, 51)]), zN, zN, (.iload_n 2, 2, 0, []), (.ireturn, 0, 0, [])]]
def zcX7_isSign : List (List zE) := [[(.iload_n 0, 0, 0, []), (.tableswitch 105 40 61 #[103, 103, 103, 103, 105, 103, 105, 105, 105, 105, 105, 105, 105, 105, 105, 105, 105, 105, 105, 103, 103, 103], 106, 0, [(40, 104), (41, 104), (42, 104), (43, 104), (44, 106), (45, 104), (46, 106), (47, 106), (48, 106), (49, 106), (50, 106), (51, 106), (52, 106), (53, 106), (54, 106), (55, 106), (56, 106), (57, 106), (58, 106), (59, 104), (60, 104), (61, 104)]), zN, zN, zN, zN, zN, zN, zN, zN, zN, zN, zN, zN, zN, zN], [zN, zN, zN, zN, zN, zN, zN, zN, zN, zN, zN, zN, zN, zN, zN, zN], [zN, zN, zN, zN, zN, zN, zN, zN, zN, zN, zN, zN, zN, zN, zN, zN], [zN, zN, zN, zN, zN, zN, zN, zN, zN, zN, zN, zN, zN, zN, zN, zN], [zN, zN, zN, zN, zN, zN, zN, zN, zN, zN, zN, zN, zN, zN, zN, zN], [zN, zN, zN, zN, zN, zN, zN, zN, zN, zN, zN, zN, zN, zN, zN, zN], [zN, zN, zN, zN, zN, zN, zN, zN, (.iconst 1, 0, 0, []), (.ireturn, 1, 0, []), (.iconst 0, 0, 0, []), (.ireturn, 1, 0, [])]]
def zcX7_nameCode : List (List zE) := [[(.aload_n 0, 0, 0, []), (.ldc 121, 1, 1, []), zN, (.iload_n 1, 1, 0, []), (.iload_n 2, 2, 0, []), (.invokevirtual 123, 1000, 3, [(7, 58)]), zN, zN, (.ifCond .eq 5, 13, 0, []), zN, zN, (.iconst (-1), 0, 0, []), (.ireturn, 0, 0, []), (.aload_n 0, 0, 0, []), (.ldc 127, 1, 2, []), zN], [(.iload_n 1, 1, 0, []), (.iload_n 2, 2, 0, []), (.invokevirtual 123, 1000, 3, [(7, 58)]), zN, zN, (.ifCond .eq 6, 27, 0, []), zN, zN, (.bipush (-2), 0, 0, []), zN, (.ireturn, 0, 0, []), (.aload_n 0, 0, 0, []), (.ldc 129, 1, 3, []), zN, (.iload_n 1, 1, 0, []), (.iload_n 2, 2, 0, [])], [(.invokevirtual 123, 1000, 3, [(7, 58)]), zN, zN, (.ifCond .eq 6, 41, 0, []), zN, zN, (.bipush (-3), 0, 0, []), zN, (.ireturn, 0, 0, []), (.aload_n 0, 0, 0, []), (.ldc 131, 1, 4, []), zN, (.iload_n 1, 1, 0, []), (.iload_n 2, 2, 0, []), (.invokevirtual 123, 1000, 3, [(7, 58)]), zN], [zN, (.ifCond .eq 6, 55, 0, []), zN, zN, (.bipush (-4), 0, 0, []), zN, (.ireturn, 0, 0, []), (.aload_n 0, 0, 0, []), (.ldc 133, 1, 5, []), zN, (.iload_n 1, 1, 0, []), (.iload_n 2, 2, 0, []), (.invokevirtual 123, 1000, 3, [(7, 58)]), zN, zN, (.ifCond .eq 6, 69, 0, [])], [zN, zN, (.bipush (-5), 0, 0, []), zN, (.ireturn, 0, 0, []), (.aload_n 0, 0, 0, []), (.ldc 135, 1, 6, []), zN, (.iload_n 1, 1, 0, []), (.iload_n 2, 2, 0, []), (.invokevirtual 123, 1000, 3, [(7, 58)]), zN, zN, (.ifCond .eq 6, 83, 0, []), zN, zN], [(.bipush (-6), 0, 0, []), zN, (.ireturn, 0, 0, []), (.iconst 0, 0, 0, []), (.ireturn, 0, 0, [])]]
def zcX7_keyToken : List (List zE) := [[(.aload_n 0, 0, 0, []), (.ldc 137, 1, 7, []), zN, (.iload_n 1, 1, 0, []), (.iload_n 2, 2, 0, []), (.invokevirtual 123, 1000, 3, [(7, 58)]), zN, zN, (.ifCond .eq 6, 14, 0, []), zN, zN, (.bipush (-5), 0, 0, []), zN, (.ireturn, 0, 0, []), (.aload_n 0, 0, 0, []), (.ldc 139, 1, 8, [])], [zN, (.iload_n 1, 1, 0, []), (.iload_n 2, 2, 0, []), (.invokevirtual 123, 1000, 3, [(7, 58)]), zN, zN, (.ifCond .eq 6, 28, 0, []), zN, zN, (.bipush (-6), 0, 0, []), zN, (.ireturn, 0, 0, []), (.aload_n 0, 0, 0, []), (.ldc 141, 1, 9, []), zN, (.iload_n 1, 1, 0, [])], [(.iload_n 2, 2, 0, []), (.invokevirtual 123, 1000, 3, [(7, 58)]), zN, zN, (.ifCond .eq 6, 42, 0, []), zN, zN, (.bipush (-7), 0, 0, []), zN, (.ireturn, 0, 0, []), (.aload_n 0, 0, 0, []), (.ldc 143, 1, 10, []), zN, (.iload_n 1, 1, 0, []), (.iload_n 2, 2, 0, []), (.invokevirtual 123, 1000, 3, [(7, 58)])], [zN, zN, (.ifCond .eq 6, 56, 0, []), zN, zN, (.bipush (-8), 0, 0, []), zN, (.ireturn, 0, 0, []), (.aload_n 0, 0, 0, []), (.ldc 145, 1, 11, []), zN, (.iload_n 1, 1, 0, []), (.iload_n 2, 2, 0, []), (.invokevirtual 123, 1000, 3, [(7, 58)]), zN, zN], [(.ifCond .eq 6, 70, 0, []), zN, zN, (.bipush (-9), 0, 0, []), zN, (.ireturn, 0, 0, []), (.aload_n 0, 0, 0, []), (.ldc 147, 1, 12, []), zN, (.iload_n 1, 1, 0, []), (.iload_n 2, 2, 0, []), (.invokevirtual 123, 1000, 3, [(7, 58)]), zN, zN, (.ifCond .eq 6, 84, 0, []), zN], [zN, (.bipush (-10), 0, 0, []), zN, (.ireturn, 0, 0, []), (.bipush (-2), 0, 0, []), zN, (.ireturn, 0, 0, [])]]
def zcX7_isWord : List (List zE) := [[(.iload_n 2, 2, 0, []), (.ifCond .lt 21, 22, 0, []), zN, zN, (.iload_n 3, 3, 0, []), (.aload_n 0, 0, 0, []), (.getfield 28, 7, 1, []), zN, zN, (.if_icmp .gt 13, 22, 0, []), zN, zN, (.iload_n 3, 3, 0, []), (.iload_n 2, 2, 0, []), (.isub, 0, 0, []), (.aload_n 1, 1, 0, [])], [(.invokevirtual 149, 1001, 0, []), zN, zN, (.if_icmp .eq 5, 24, 0, []), zN, zN, (.iconst 0, 0, 0, []), (.ireturn, 1, 0, []), (.iconst 0, 0, 0, []), (.istore 4, 4, 0, []), zN, (.iload 4, 4, 0, []), zN, (.aload_n 1, 1, 0, []), (.invokevirtual 149, 1001, 0, []), zN], [zN, (.if_icmp .ge 29, 62, 0, []), zN, zN, (.aload_n 0, 0, 0, []), (.getfield 9, 7, 0, []), zN, zN, (.iload_n 2, 2, 0, []), (.iload 4, 4, 0, []), zN, (.iadd, 0, 0, []), (.iaload, 0, 0, []), (.aload_n 1, 1, 0, []), (.iload 4, 4, 0, []), zN], [(.invokevirtual 155, 1002, 1, []), zN, zN, (.if_icmp .eq 5, 56, 0, []), zN, zN, (.iconst 0, 0, 0, []), (.ireturn, 1, 0, []), (.iinc 4 1, 4, 0, []), zN, zN, (.goto (-32), 27, 0, []), zN, zN, (.iconst 1, 0, 0, []), (.ireturn, 1, 0, [])]]
def zcX8_init : List (List zE) := [[(.aload_n 0, 0, 0, []), (.invokespecial 3, 1003, 0, [(6, 0)]), zN, zN, (.aload_n 0, 0, 0, []), (.bipush 40, 0, 0, []), zN, (.newarray .int, 0, 0, []), zN, (.putfield 9, 8, 0, []), zN, zN, (.aload_n 0, 0, 0, []), (.iconst (-1), 0, 0, []), (.putfield 15, 8, 1, []), zN], [zN, (.return_, 0, 0, [])]]
def zcX8_isMissing : List (List zE) := [[(.aload_n 0, 0, 0, []), (.getfield 15, 8, 1, []), zN, zN, (.iconst (-1), 0, 0, []), (.if_icmp .ne 7, 12, 0, []), zN, zN, (.iconst 1, 0, 0, []), (.goto 4, 13, 0, []), zN, zN, (.iconst 0, 0, 0, []), (.ireturn, 1, 0, [])]]
def zcX8_has : List (List zE) := [[(.iload_n 1, 1, 0, []), (.ifCond .lt 29, 30, 0, []), zN, zN, (.iload_n 2, 2, 0, []), (.ifCond .lt 25, 30, 0, []), zN, zN, (.iload_n 1, 1, 0, []), (.aload_n 0, 0, 0, []), (.getfield 19, 8, 2, []), zN, zN, (.if_icmp .gt 17, 30, 0, []), zN, zN], [(.iload_n 2, 2, 0, []), (.aload_n 0, 0, 0, []), (.getfield 19, 8, 2, []), zN, zN, (.iload_n 1, 1, 0, []), (.isub, 0, 0, []), (.if_icmp .gt 7, 30, 0, []), zN, zN, (.iconst 1, 0, 0, []), (.goto 4, 31, 0, []), zN, zN, (.iconst 0, 0, 0, []), (.ireturn, 1, 0, [])]]
def zcX8_become : List (List zE) := [[(.aload_n 0, 0, 0, []), (.iload_n 1, 1, 0, []), (.putfield 15, 8, 1, []), zN, zN, (.aload_n 0, 0, 0, []), (.iload_n 2, 2, 0, []), (.bipush 40, 0, 0, []), zN, (.invokestatic 22, 103, 2, [(1, 0)]), zN, zN, (.putfield 19, 8, 2, []), zN, zN, (.iconst 0, 0, 0, [])], [(.istore_n 3, 3, 0, []), (.iload_n 3, 3, 0, []), (.aload_n 0, 0, 0, []), (.getfield 19, 8, 2, []), zN, zN, (.if_icmp .ge 16, 38, 0, []), zN, zN, (.aload_n 0, 0, 0, []), (.getfield 9, 8, 0, []), zN, zN, (.iload_n 3, 3, 0, []), (.iconst 0, 0, 0, []), (.iastore, 0, 0, [])], [(.iinc 3 1, 3, 0, []), zN, zN, (.goto (-18), 17, 0, []), zN, zN, (.return_, 0, 0, [])]]
def zcX8_put : List (List zE) := [[(.aload_n 0, 0, 0, []), (.getfield 15, 8, 1, []), zN, zN, (.lookupswitch 50 #[(0, 28), (1, 39)], 54, 0, [(0, 32), (1, 43)]), zN, zN, zN, zN, zN, zN, zN, zN, zN, zN, zN], [zN, zN, zN, zN, zN, zN, zN, zN, zN, zN, zN, zN, zN, zN, zN, zN], [(.aload_n 0, 0, 0, []), (.getfield 9, 8, 0, []), zN, zN, (.iload_n 1, 1, 0, []), (.iload_n 2, 2, 0, []), (.i2b, 0, 0, []), (.iastore, 0, 0, []), (.goto 21, 61, 0, []), zN, zN, (.aload_n 0, 0, 0, []), (.getfield 9, 8, 0, []), zN, zN, (.iload_n 1, 1, 0, [])], [(.iload_n 2, 2, 0, []), (.i2s, 0, 0, []), (.iastore, 0, 0, []), (.goto 10, 61, 0, []), zN, zN, (.aload_n 0, 0, 0, []), (.getfield 9, 8, 0, []), zN, zN, (.iload_n 1, 1, 0, []), (.iload_n 2, 2, 0, []), (.iastore, 0, 0, []), (.return_, 0, 0, [])]]
def zcX9_init : List (List zE) := [[(.aload_n 0, 0, 0, []), (.invokespecial 3, 1003, 0, [(6, 0)]), zN, zN, (.return_, 0, 0, [])]]
def zcX9_isUnder : List (List zE) := [[(.iload_n 1, 1, 0, []), (.ifCond .ne 7, 8, 0, []), zN, zN, (.iconst 1, 0, 0, []), (.goto 4, 9, 0, []), zN, zN, (.iconst 0, 0, 0, []), (.ireturn, 1, 0, [])]]
def zcX9_keptOf : List (List zE) := [[(.iload_n 1, 1, 0, []), (.ireturn, 0, 0, [])]]
def zcX9_wordsFor : List (List zE) := [[(.iload_n 2, 2, 0, []), (.aload_n 1, 1, 0, []), (.getfield 9, 5, 2, []), zN, zN, (.iand, 0, 0, []), (.istore 4, 4, 0, []), zN, (.iconst 0, 0, 0, []), (.istore 5, 5, 0, []), zN, (.iconst 0, 0, 0, []), (.istore 6, 6, 0, []), zN, (.iload 6, 6, 0, []), zN], [(.iload_n 3, 3, 0, []), (.if_icmp .ge 37, 54, 0, []), zN, zN, (.iload 4, 4, 0, []), zN, (.ifCond .eq 32, 54, 0, []), zN, zN, (.iload 4, 4, 0, []), zN, (.invokestatic 15, 102, 1, [(1, 0)]), zN, zN, (.istore 7, 7, 0, []), zN], [(.iload 5, 5, 0, []), zN, (.iload 7, 7, 0, []), zN, (.ior, 0, 0, []), (.istore 5, 5, 0, []), zN, (.iload 4, 4, 0, []), zN, (.iload 7, 7, 0, []), zN, (.iconst (-1), 0, 0, []), (.ixor, 0, 0, []), (.iand, 0, 0, []), (.istore 4, 4, 0, []), zN], [(.iinc 6 1, 6, 0, []), zN, zN, (.goto (-37), 14, 0, []), zN, zN, (.iload 5, 5, 0, []), zN, (.ireturn, 0, 0, [])]]
def zcX9_wearies : List (List zE) := [[(.iload_n 1, 1, 0, []), (.ireturn, 0, 0, [])]]
def zcX9_takesIn : List (List zE) := [[(.iload_n 1, 1, 0, []), (.ireturn, 1, 0, [])]]
def zcX10_init : List (List zE) := [[(.aload_n 0, 0, 0, []), (.invokespecial 3, 1003, 0, [(6, 0)]), zN, zN, (.aload_n 0, 0, 0, []), (.sipush 160, 0, 0, []), zN, zN, (.newarray .int, 0, 0, []), zN, (.putfield 9, 10, 0, []), zN, zN, (.aload_n 0, 0, 0, []), (.iconst 3, 0, 0, []), (.newarray .int, 0, 0, [])], [zN, (.putfield 15, 10, 1, []), zN, zN, (.return_, 0, 0, [])]]
def zcX10_add : List (List zE) := [[(.aload_n 0, 0, 0, []), (.getfield 18, 10, 2, []), zN, zN, (.sipush 160, 0, 0, []), zN, zN, (.if_icmp .ge 23, 30, 0, []), zN, zN, (.aload_n 0, 0, 0, []), (.getfield 9, 10, 0, []), zN, zN, (.aload_n 0, 0, 0, []), (.getfield 18, 10, 2, [])], [zN, zN, (.iload_n 1, 1, 0, []), (.iastore, 0, 0, []), (.aload_n 0, 0, 0, []), (.dup, 0, 0, []), (.getfield 18, 10, 2, []), zN, zN, (.iconst 1, 0, 0, []), (.iadd, 0, 0, []), (.putfield 18, 10, 2, []), zN, zN, (.return_, 0, 0, [])]]
def zcX10_worth : List (List zE) := [[(.iload_n 1, 1, 0, []), (.ifCond .lt 8, 9, 0, []), zN, zN, (.iload_n 1, 1, 0, []), (.iconst 3, 0, 0, []), (.if_icmp .lt 5, 11, 0, []), zN, zN, (.iconst 0, 0, 0, []), (.ireturn, 0, 0, []), (.iconst 0, 0, 0, []), (.istore 6, 6, 0, []), zN, (.iload_n 1, 1, 0, []), (.ifCond .ne 7, 22, 0, [])], [zN, zN, (.iconst 0, 0, 0, []), (.goto 11, 30, 0, []), zN, zN, (.aload_n 0, 0, 0, []), (.getfield 15, 10, 1, []), zN, zN, (.iload_n 1, 1, 0, []), (.iconst 1, 0, 0, []), (.isub, 0, 0, []), (.iaload, 0, 0, []), (.istore 7, 7, 0, []), zN], [(.iload 7, 7, 0, []), zN, (.aload_n 0, 0, 0, []), (.getfield 15, 10, 1, []), zN, zN, (.iload_n 1, 1, 0, []), (.iaload, 0, 0, []), (.if_icmp .ge 137, 177, 0, []), zN, zN, (.aload_n 0, 0, 0, []), (.getfield 9, 10, 0, []), zN, zN, (.iload 7, 7, 0, [])], [zN, (.iaload, 0, 0, []), (.istore 8, 8, 0, []), zN, (.iload 8, 8, 0, []), zN, (.bipush (-6), 0, 0, []), zN, (.if_icmp .lt 43, 99, 0, []), zN, zN, (.iload 6, 6, 0, []), zN, (.aload 5, 5, 0, []), zN, (.arraylength, 0, 0, [])], [(.if_icmp .lt 5, 69, 0, []), zN, zN, (.iconst 0, 0, 0, []), (.ireturn, 0, 0, []), (.aload 5, 5, 0, []), zN, (.iload 6, 6, 0, []), zN, (.iload 8, 8, 0, []), zN, (.ifCond .lt 8, 83, 0, []), zN, zN, (.iload 8, 8, 0, []), zN], [(.goto 12, 92, 0, []), zN, zN, (.iload 8, 8, 0, []), zN, (.aload_n 2, 2, 0, []), (.iload_n 3, 3, 0, []), (.iload 4, 4, 0, []), zN, (.invokestatic 22, 73, 4, [(0, 0)]), zN, zN, (.iastore, 0, 0, []), (.iinc 6 1, 6, 0, []), zN, zN], [(.goto 75, 171, 0, []), zN, zN, (.iload 8, 8, 0, []), zN, (.bipush (-12), 0, 0, []), zN, (.if_icmp .lt 33, 136, 0, []), zN, zN, (.iload 6, 6, 0, []), zN, (.iconst 1, 0, 0, []), (.if_icmp .ge 5, 114, 0, []), zN, zN], [(.iconst 0, 0, 0, []), (.ireturn, 0, 0, []), (.aload 5, 5, 0, []), zN, (.iload 6, 6, 0, []), zN, (.iconst 1, 0, 0, []), (.isub, 0, 0, []), (.iload 8, 8, 0, []), zN, (.aload 5, 5, 0, []), zN, (.iload 6, 6, 0, []), zN, (.iconst 1, 0, 0, []), (.isub, 0, 0, [])], [(.iaload, 0, 0, []), (.invokestatic 26, 74, 2, [(0, 0)]), zN, zN, (.iastore, 0, 0, []), (.goto 38, 171, 0, []), zN, zN, (.iload 6, 6, 0, []), zN, (.iconst 2, 0, 0, []), (.if_icmp .ge 5, 144, 0, []), zN, zN, (.iconst 0, 0, 0, []), (.ireturn, 0, 0, [])], [(.iinc 6 (-1), 6, 0, []), zN, zN, (.aload 5, 5, 0, []), zN, (.iload 6, 6, 0, []), zN, (.iconst 1, 0, 0, []), (.isub, 0, 0, []), (.iload 8, 8, 0, []), zN, (.aload 5, 5, 0, []), zN, (.iload 6, 6, 0, []), zN, (.iconst 1, 0, 0, [])], [(.isub, 0, 0, []), (.iaload, 0, 0, []), (.aload 5, 5, 0, []), zN, (.iload 6, 6, 0, []), zN, (.iaload, 0, 0, []), (.invokestatic 30, 75, 3, [(0, 0)]), zN, zN, (.iastore, 0, 0, []), (.iinc 7 1, 7, 0, []), zN, zN, (.goto (-142), 32, 0, []), zN], [zN, (.iload 6, 6, 0, []), zN, (.ifCond .le 18, 197, 0, []), zN, zN, (.aload 5, 5, 0, []), zN, (.iload 6, 6, 0, []), zN, (.iconst 1, 0, 0, []), (.isub, 0, 0, []), (.iaload, 0, 0, []), (.bipush 99, 0, 0, []), zN, (.invokestatic 34, 103, 2, [(1, 0)])], [zN, zN, (.goto 4, 198, 0, []), zN, zN, (.iconst 0, 0, 0, []), (.ireturn, 0, 0, [])]]
def zcX10_named : List (List zE) := [[(.iload_n 0, 0, 0, []), (.tableswitch 60 (-5) (-1) #[55, 53, 48, 43, 35], 61, 0, [((-5), 56), ((-4), 54), ((-3), 49), ((-2), 44), ((-1), 36)]), zN, zN, zN, zN, zN, zN, zN, zN, zN, zN, zN, zN, zN, zN], [zN, zN, zN, zN, zN, zN, zN, zN, zN, zN, zN, zN, zN, zN, zN, zN], [zN, zN, zN, zN, (.aload_n 1, 1, 0, []), (.getfield 37, 5, 2, []), zN, zN, (.invokestatic 42, 202, 1, [(0, 0)]), zN, zN, (.ireturn, 0, 0, []), (.aload_n 1, 1, 0, []), (.getfield 48, 5, 3, []), zN, zN], [(.ireturn, 0, 0, []), (.aload_n 1, 1, 0, []), (.getfield 51, 5, 1, []), zN, zN, (.ireturn, 0, 0, []), (.iload_n 3, 3, 0, []), (.ireturn, 0, 0, []), (.iload_n 2, 2, 0, []), (.invokestatic 42, 202, 1, [(0, 0)]), zN, zN, (.ireturn, 0, 0, []), (.aload_n 1, 1, 0, []), (.getfield 54, 5, 4, []), zN], [zN, (.ireturn, 0, 0, [])]]
def zcX10_ofOne : List (List zE) := [[(.iload_n 0, 0, 0, []), (.bipush (-11), 0, 0, []), zN, (.if_icmp .ne 13, 16, 0, []), zN, zN, (.iload_n 1, 1, 0, []), (.ifCond .ne 7, 14, 0, []), zN, zN, (.iconst 1, 0, 0, []), (.goto 4, 15, 0, []), zN, zN, (.iconst 0, 0, 0, []), (.ireturn, 0, 0, [])], [(.iload_n 1, 1, 0, []), (.ineg, 0, 0, []), (.ireturn, 0, 0, [])]]
def zcX10_ofTwo : List (List zE) := [[(.iload_n 0, 0, 0, []), (.tableswitch 97 (-26) (-21) #[93, 89, 78, 67, 53, 39], 98, 0, [((-26), 94), ((-25), 90), ((-24), 79), ((-23), 68), ((-22), 54), ((-21), 40)]), zN, zN, zN, zN, zN, zN, zN, zN, zN, zN, zN, zN, zN, zN], [zN, zN, zN, zN, zN, zN, zN, zN, zN, zN, zN, zN, zN, zN, zN, zN], [zN, zN, zN, zN, zN, zN, zN, zN, (.iload_n 1, 1, 0, []), (.ifCond .ne 7, 48, 0, []), zN, zN, (.iload_n 2, 2, 0, []), (.ifCond .eq 7, 52, 0, []), zN, zN], [(.iconst 1, 0, 0, []), (.goto 4, 53, 0, []), zN, zN, (.iconst 0, 0, 0, []), (.ireturn, 0, 0, []), (.iload_n 1, 1, 0, []), (.ifCond .eq 11, 66, 0, []), zN, zN, (.iload_n 2, 2, 0, []), (.ifCond .eq 7, 66, 0, []), zN, zN, (.iconst 1, 0, 0, []), (.goto 4, 67, 0, [])], [zN, zN, (.iconst 0, 0, 0, []), (.ireturn, 0, 0, []), (.iload_n 1, 1, 0, []), (.iload_n 2, 2, 0, []), (.if_icmp .ge 7, 77, 0, []), zN, zN, (.iconst 1, 0, 0, []), (.goto 4, 78, 0, []), zN, zN, (.iconst 0, 0, 0, []), (.ireturn, 0, 0, []), (.iload_n 1, 1, 0, [])], [(.iload_n 2, 2, 0, []), (.if_icmp .ne 7, 88, 0, []), zN, zN, (.iconst 1, 0, 0, []), (.goto 4, 89, 0, []), zN, zN, (.iconst 0, 0, 0, []), (.ireturn, 0, 0, []), (.iload_n 1, 1, 0, []), (.iload_n 2, 2, 0, []), (.iadd, 0, 0, []), (.ireturn, 0, 0, []), (.iload_n 1, 1, 0, []), (.iload_n 2, 2, 0, [])], [(.isub, 0, 0, []), (.ireturn, 0, 0, []), (.iload_n 1, 1, 0, []), (.iload_n 2, 2, 0, []), (.imul, 0, 0, []), (.ireturn, 0, 0, [])]]
def zcX11_init : List (List zE) := [[(.aload_n 0, 0, 0, []), (.invokespecial 1, 1003, 0, [(6, 0)]), zN, zN, (.aload_n 0, 0, 0, []), (.bipush 6, 0, 0, []), zN, (.anewarray 9, 4, 0, []), zN, zN, (.putfield 11, 11, 0, []), zN, zN, (.aload_n 0, 0, 0, []), (.new 15, 0, 0, []), zN], [zN, (.dup, 0, 0, []), (.invokespecial 17, 0, 0, [(2, 0)]), zN, zN, (.putfield 18, 11, 1, []), zN, zN, (.aload_n 0, 0, 0, []), (.new 15, 0, 0, []), zN, zN, (.dup, 0, 0, []), (.invokespecial 17, 0, 0, [(2, 0)]), zN, zN], [(.putfield 22, 11, 2, []), zN, zN, (.aload_n 0, 0, 0, []), (.new 15, 0, 0, []), zN, zN, (.dup, 0, 0, []), (.invokespecial 17, 0, 0, [(2, 0)]), zN, zN, (.putfield 25, 11, 3, []), zN, zN, (.aload_n 0, 0, 0, []), (.bipush 6, 0, 0, [])], [zN, (.anewarray 28, 5, 0, []), zN, zN, (.putfield 30, 11, 5, []), zN, zN, (.aload_n 0, 0, 0, []), (.sipush 160, 0, 0, []), zN, zN, (.newarray .int, 0, 0, []), zN, (.putfield 34, 11, 8, []), zN, zN], [(.aload_n 0, 0, 0, []), (.iconst 4, 0, 0, []), (.anewarray 38, 3, 0, []), zN, zN, (.putfield 40, 11, 9, []), zN, zN, (.aload_n 0, 0, 0, []), (.bipush 61, 0, 0, []), zN, (.newarray .int, 0, 0, []), zN, (.putfield 44, 11, 10, []), zN, zN], [(.aload_n 0, 0, 0, []), (.getfield 11, 11, 0, []), zN, zN, (.iconst 0, 0, 0, []), (.new 9, 9, 0, []), zN, zN, (.dup, 0, 0, []), (.invokespecial 47, 64, 0, [(3, 0)]), zN, zN, (.aastore, 0, 0, []), (.aload_n 0, 0, 0, []), (.getfield 11, 11, 0, []), zN], [zN, (.iconst 1, 0, 0, []), (.new 48, 2, 0, []), zN, zN, (.dup, 0, 0, []), (.invokespecial 50, 10, 0, [(3, 0)]), zN, zN, (.aastore, 0, 0, []), (.aload_n 0, 0, 0, []), (.getfield 11, 11, 0, []), zN, zN, (.iconst 2, 0, 0, []), (.new 51, 1, 0, [])], [zN, zN, (.dup, 0, 0, []), (.invokespecial 53, 4, 0, [(3, 0)]), zN, zN, (.aastore, 0, 0, []), (.aload_n 0, 0, 0, []), (.getfield 11, 11, 0, []), zN, zN, (.iconst 3, 0, 0, []), (.new 54, 3, 0, []), zN, zN, (.dup, 0, 0, [])], [(.invokespecial 56, 16, 0, [(3, 0)]), zN, zN, (.aastore, 0, 0, []), (.aload_n 0, 0, 0, []), (.getfield 11, 11, 0, []), zN, zN, (.iconst 4, 0, 0, []), (.new 57, 4, 0, []), zN, zN, (.dup, 0, 0, []), (.invokespecial 59, 21, 0, [(3, 0)]), zN, zN], [(.aastore, 0, 0, []), (.aload_n 0, 0, 0, []), (.getfield 11, 11, 0, []), zN, zN, (.iconst 5, 0, 0, []), (.new 60, 6, 0, []), zN, zN, (.dup, 0, 0, []), (.invokespecial 62, 30, 0, [(3, 0)]), zN, zN, (.aastore, 0, 0, []), (.iconst 0, 0, 0, []), (.istore_n 1, 1, 0, [])], [(.iload_n 1, 1, 0, []), (.iconst 4, 0, 0, []), (.if_icmp .ge 22, 184, 0, []), zN, zN, (.aload_n 0, 0, 0, []), (.getfield 40, 11, 9, []), zN, zN, (.iload_n 1, 1, 0, []), (.new 38, 8, 0, []), zN, zN, (.dup, 0, 0, []), (.invokespecial 63, 59, 0, [(3, 0)]), zN], [zN, (.aastore, 0, 0, []), (.iinc 1 1, 1, 0, []), zN, zN, (.goto (-21), 160, 0, []), zN, zN, (.iconst 0, 0, 0, []), (.istore_n 1, 1, 0, []), (.iload_n 1, 1, 0, []), (.bipush 6, 0, 0, []), zN, (.if_icmp .ge 22, 211, 0, []), zN, zN], [(.aload_n 0, 0, 0, []), (.getfield 30, 11, 5, []), zN, zN, (.iload_n 1, 1, 0, []), (.new 28, 10, 0, []), zN, zN, (.dup, 0, 0, []), (.invokespecial 64, 70, 0, [(3, 0)]), zN, zN, (.aastore, 0, 0, []), (.iinc 1 1, 1, 0, []), zN, zN], [(.goto (-22), 186, 0, []), zN, zN, (.aload_n 0, 0, 0, []), (.new 65, 7, 0, []), zN, zN, (.dup, 0, 0, []), (.aload_n 0, 0, 0, []), (.getfield 30, 11, 5, []), zN, zN, (.iconst 0, 0, 0, []), (.aaload, 0, 0, []), (.invokespecial 67, 36, 1, [(2, 0)]), zN], [zN, (.putfield 70, 11, 6, []), zN, zN, (.iconst 0, 0, 0, []), (.istore_n 1, 1, 0, []), (.iload_n 1, 1, 0, []), (.ldc 74, 1, 0, []), zN, (.invokevirtual 76, 1001, 0, []), zN, zN, (.if_icmp .ge 23, 259, 0, []), zN, zN, (.aload_n 0, 0, 0, [])], [(.getfield 70, 11, 6, []), zN, zN, (.ldc 74, 1, 0, []), zN, (.iload_n 1, 1, 0, []), (.invokevirtual 82, 1002, 1, []), zN, zN, (.invokevirtual 86, 1000, 1, [(7, 37)]), zN, zN, (.pop, 0, 0, []), (.iinc 1 1, 1, 0, []), zN, zN], [(.goto (-26), 230, 0, []), zN, zN, (.aload_n 0, 0, 0, []), (.getfield 70, 11, 6, []), zN, zN, (.aload_n 0, 0, 0, []), (.getfield 30, 11, 5, []), zN, zN, (.iconst 0, 0, 0, []), (.aaload, 0, 0, []), (.invokevirtual 90, 1000, 1, [(7, 38)]), zN, zN], [(.pop, 0, 0, []), (.aload_n 0, 0, 0, []), (.iconst 1, 0, 0, []), (.putfield 94, 11, 7, []), zN, zN, (.return_, 0, 0, [])]]
def zcX11_set : List (List zE) := [[(.iload_n 1, 1, 0, []), (.ifCond .lt 8, 9, 0, []), zN, zN, (.iload_n 1, 1, 0, []), (.iconst 4, 0, 0, []), (.if_icmp .le 6, 12, 0, []), zN, zN, (.bipush (-2), 0, 0, []), zN, (.ireturn, 0, 0, []), (.iload_n 1, 1, 0, []), (.ifCond .eq 17, 30, 0, []), zN, zN], [(.aload_n 0, 0, 0, []), (.getfield 18, 11, 1, []), zN, zN, (.iload_n 2, 2, 0, []), (.invokevirtual 98, 1000, 1, [(0, 1)]), zN, zN, (.ifCond .ne 6, 30, 0, []), zN, zN, (.bipush (-2), 0, 0, []), zN, (.ireturn, 0, 0, []), (.iload_n 3, 3, 0, []), (.ifCond .lt 11, 42, 0, [])], [zN, zN, (.iload_n 3, 3, 0, []), (.iload_n 1, 1, 0, []), (.invokestatic 101, 82, 1, [(0, 0)]), zN, zN, (.if_icmp .le 6, 45, 0, []), zN, zN, (.bipush (-2), 0, 0, []), zN, (.ireturn, 0, 0, []), (.iload_n 1, 1, 0, []), (.ifCond .ne 23, 69, 0, []), zN], [zN, (.aload_n 0, 0, 0, []), (.getfield 18, 11, 1, []), zN, zN, (.getfield 105, 0, 4, []), zN, zN, (.istore 4, 4, 0, []), zN, (.aload_n 0, 0, 0, []), (.getfield 18, 11, 1, []), zN, zN, (.iload_n 3, 3, 0, []), (.putfield 105, 0, 4, [])], [zN, zN, (.iload 4, 4, 0, []), zN, (.ireturn, 0, 0, []), (.aload_n 0, 0, 0, []), (.getfield 18, 11, 1, []), zN, zN, (.getfield 108, 0, 0, []), zN, zN, (.iload_n 2, 2, 0, []), (.aaload, 0, 0, []), (.astore 4, 4, 0, []), zN], [(.aload 4, 4, 0, []), zN, (.iload_n 1, 1, 0, []), (.invokevirtual 112, 1000, 1, [(5, 27)]), zN, zN, (.istore 5, 5, 0, []), zN, (.aload 4, 4, 0, []), zN, (.iload_n 1, 1, 0, []), (.iload_n 3, 3, 0, []), (.invokevirtual 117, 1000, 2, [(5, 28)]), zN, zN, (.iload 5, 5, 0, [])], [zN, (.ireturn, 0, 0, [])]]
def zcX11_person : List (List zE) := [[(.iload_n 1, 1, 0, []), (.ifCond .lt 19, 20, 0, []), zN, zN, (.iload_n 1, 1, 0, []), (.bipush 6, 0, 0, []), zN, (.if_icmp .ge 13, 20, 0, []), zN, zN, (.iload_n 2, 2, 0, []), (.ifCond .lt 9, 20, 0, []), zN, zN, (.iload_n 2, 2, 0, []), (.bipush 9, 0, 0, [])], [zN, (.if_icmp .le 6, 23, 0, []), zN, zN, (.bipush (-2), 0, 0, []), zN, (.ireturn, 0, 0, []), (.iload_n 3, 3, 0, []), (.invokestatic 121, 83, 1, [(0, 0)]), zN, zN, (.ifCond .eq 15, 42, 0, []), zN, zN, (.iload 4, 4, 0, []), zN], [(.ifCond .lt 10, 42, 0, []), zN, zN, (.iload 4, 4, 0, []), zN, (.bipush 99, 0, 0, []), zN, (.if_icmp .le 6, 45, 0, []), zN, zN, (.bipush (-2), 0, 0, []), zN, (.ireturn, 0, 0, []), (.aload_n 0, 0, 0, []), (.getfield 18, 11, 1, []), zN], [zN, (.getfield 124, 0, 2, []), zN, zN, (.iconst 5, 0, 0, []), (.if_icmp .lt 6, 59, 0, []), zN, zN, (.bipush (-4), 0, 0, []), zN, (.ireturn, 0, 0, []), (.aload_n 0, 0, 0, []), (.getfield 18, 11, 1, []), zN, zN, (.getfield 108, 0, 0, [])], [zN, zN, (.aload_n 0, 0, 0, []), (.getfield 18, 11, 1, []), zN, zN, (.getfield 124, 0, 2, []), zN, zN, (.aaload, 0, 0, []), (.astore 5, 5, 0, []), zN, (.aload 5, 5, 0, []), zN, (.iload_n 1, 1, 0, []), (.putfield 127, 5, 0, [])], [zN, zN, (.aload 5, 5, 0, []), zN, (.iload_n 2, 2, 0, []), (.putfield 130, 5, 1, []), zN, zN, (.aload 5, 5, 0, []), zN, (.iload_n 3, 3, 0, []), (.putfield 133, 5, 2, []), zN, zN, (.aload 5, 5, 0, []), zN], [(.iload 4, 4, 0, []), zN, (.putfield 136, 5, 3, []), zN, zN, (.aload 5, 5, 0, []), zN, (.iconst 0, 0, 0, []), (.putfield 139, 5, 4, []), zN, zN, (.aload_n 0, 0, 0, []), (.getfield 18, 11, 1, []), zN, zN, (.dup, 0, 0, [])], [(.getfield 124, 0, 2, []), zN, zN, (.iconst 1, 0, 0, []), (.iadd, 0, 0, []), (.putfield 124, 0, 2, []), zN, zN, (.aload_n 0, 0, 0, []), (.getfield 18, 11, 1, []), zN, zN, (.getfield 124, 0, 2, []), zN, zN, (.iconst 1, 0, 0, [])], [(.isub, 0, 0, []), (.ireturn, 0, 0, [])]]
def zcX11_told : List (List zE) := [[(.iload_n 2, 2, 0, []), (.tableswitch 137 0 8 #[51, 59, 59, 59, 59, 59, 90, 121, 129], 138, 0, [(0, 52), (1, 60), (2, 60), (3, 60), (4, 60), (5, 60), (6, 91), (7, 122), (8, 130)]), zN, zN, zN, zN, zN, zN, zN, zN, zN, zN, zN, zN, zN, zN], [zN, zN, zN, zN, zN, zN, zN, zN, zN, zN, zN, zN, zN, zN, zN, zN], [zN, zN, zN, zN, zN, zN, zN, zN, zN, zN, zN, zN, zN, zN, zN, zN], [zN, zN, zN, zN, (.aload_n 0, 0, 0, []), (.getfield 18, 11, 1, []), zN, zN, (.getfield 105, 0, 4, []), zN, zN, (.ireturn, 0, 0, []), (.aload_n 0, 0, 0, []), (.getfield 18, 11, 1, []), zN, zN], [(.iload_n 1, 1, 0, []), (.invokevirtual 98, 1000, 1, [(0, 1)]), zN, zN, (.ifCond .eq 19, 87, 0, []), zN, zN, (.aload_n 0, 0, 0, []), (.getfield 18, 11, 1, []), zN, zN, (.getfield 108, 0, 0, []), zN, zN, (.iload_n 1, 1, 0, []), (.aaload, 0, 0, [])], [(.iload_n 2, 2, 0, []), (.invokevirtual 112, 1000, 1, [(5, 27)]), zN, zN, (.goto 6, 90, 0, []), zN, zN, (.sipush (-1000), 0, 0, []), zN, zN, (.ireturn, 0, 0, []), (.iload_n 1, 1, 0, []), (.ifCond .lt 26, 118, 0, []), zN, zN, (.iload_n 1, 1, 0, [])], [(.aload_n 0, 0, 0, []), (.getfield 18, 11, 1, []), zN, zN, (.getfield 142, 0, 3, []), zN, zN, (.if_icmp .ge 15, 118, 0, []), zN, zN, (.aload_n 0, 0, 0, []), (.getfield 18, 11, 1, []), zN, zN, (.getfield 145, 0, 1, []), zN], [zN, (.iload_n 1, 1, 0, []), (.iaload, 0, 0, []), (.goto 6, 121, 0, []), zN, zN, (.sipush (-1000), 0, 0, []), zN, zN, (.ireturn, 0, 0, []), (.aload_n 0, 0, 0, []), (.getfield 18, 11, 1, []), zN, zN, (.getfield 142, 0, 3, []), zN], [zN, (.ireturn, 0, 0, []), (.aload_n 0, 0, 0, []), (.getfield 18, 11, 1, []), zN, zN, (.getfield 148, 0, 5, []), zN, zN, (.ireturn, 0, 0, []), (.sipush (-1000), 0, 0, []), zN, zN, (.ireturn, 0, 0, [])]]
def zcX11_brings : List (List zE) := [[(.iload_n 1, 1, 0, []), (.iconst 1, 0, 0, []), (.if_icmp .lt 10, 12, 0, []), zN, zN, (.iload_n 1, 1, 0, []), (.sipush 1024, 0, 0, []), zN, zN, (.if_icmp .lt 6, 15, 0, []), zN, zN, (.bipush (-2), 0, 0, []), zN, (.ireturn, 0, 0, []), (.aload_n 0, 0, 0, [])], [(.getfield 18, 11, 1, []), zN, zN, (.getfield 142, 0, 3, []), zN, zN, (.bipush 8, 0, 0, []), zN, (.if_icmp .lt 6, 30, 0, []), zN, zN, (.bipush (-4), 0, 0, []), zN, (.ireturn, 0, 0, []), (.aload_n 0, 0, 0, []), (.getfield 18, 11, 1, [])], [zN, zN, (.getfield 145, 0, 1, []), zN, zN, (.aload_n 0, 0, 0, []), (.getfield 18, 11, 1, []), zN, zN, (.getfield 142, 0, 3, []), zN, zN, (.iload_n 1, 1, 0, []), (.iastore, 0, 0, []), (.aload_n 0, 0, 0, []), (.getfield 18, 11, 1, [])], [zN, zN, (.dup, 0, 0, []), (.getfield 142, 0, 3, []), zN, zN, (.iconst 1, 0, 0, []), (.iadd, 0, 0, []), (.putfield 142, 0, 3, []), zN, zN, (.aload_n 0, 0, 0, []), (.getfield 18, 11, 1, []), zN, zN, (.getfield 142, 0, 3, [])], [zN, zN, (.ireturn, 0, 0, [])]]
def zcX11_asks : List (List zE) := [[(.aload_n 0, 0, 0, []), (.getfield 18, 11, 1, []), zN, zN, (.iload_n 1, 1, 0, []), (.invokevirtual 98, 1000, 1, [(0, 1)]), zN, zN, (.ifCond .eq 10, 18, 0, []), zN, zN, (.iload_n 2, 2, 0, []), (.invokestatic 121, 83, 1, [(0, 0)]), zN, zN, (.ifCond .ne 6, 21, 0, [])], [zN, zN, (.bipush (-2), 0, 0, []), zN, (.ireturn, 0, 0, []), (.aload_n 0, 0, 0, []), (.getfield 18, 11, 1, []), zN, zN, (.getfield 108, 0, 0, []), zN, zN, (.iload_n 1, 1, 0, []), (.aaload, 0, 0, []), (.astore 4, 4, 0, []), zN], [(.iload_n 3, 3, 0, []), (.tableswitch 87 0 3 #[31, 43, 55, 67], 120, 0, [(0, 64), (1, 76), (2, 88), (3, 100)]), zN, zN, zN, zN, zN, zN, zN, zN, zN, zN, zN, zN, zN, zN], [zN, zN, zN, zN, zN, zN, zN, zN, zN, zN, zN, zN, zN, zN, zN, zN], [(.aload_n 0, 0, 0, []), (.aload_n 0, 0, 0, []), (.getfield 18, 11, 1, []), zN, zN, (.aload 4, 4, 0, []), zN, (.iload_n 2, 2, 0, []), (.invokevirtual 151, 1000, 3, [(11, 94)]), zN, zN, (.ireturn, 0, 0, []), (.aload_n 0, 0, 0, []), (.aload_n 0, 0, 0, []), (.getfield 18, 11, 1, []), zN], [zN, (.aload 4, 4, 0, []), zN, (.iload_n 2, 2, 0, []), (.invokevirtual 155, 1000, 3, [(11, 93)]), zN, zN, (.ireturn, 0, 0, []), (.aload_n 0, 0, 0, []), (.aload_n 0, 0, 0, []), (.getfield 18, 11, 1, []), zN, zN, (.aload 4, 4, 0, []), zN, (.iload_n 2, 2, 0, [])], [(.invokevirtual 158, 1000, 3, [(11, 95)]), zN, zN, (.ireturn, 0, 0, []), (.aload_n 0, 0, 0, []), (.aload_n 0, 0, 0, []), (.getfield 18, 11, 1, []), zN, zN, (.aload 4, 4, 0, []), zN, (.iload_n 2, 2, 0, []), (.invokevirtual 161, 1000, 3, [(11, 96)]), zN, zN, (.ifCond .eq 7, 118, 0, [])], [zN, zN, (.iconst 1, 0, 0, []), (.goto 4, 119, 0, []), zN, zN, (.iconst 0, 0, 0, []), (.ireturn, 0, 0, []), (.bipush (-2), 0, 0, []), zN, (.ireturn, 0, 0, [])]]
def zcX11_most : List (List zE) := [[(.iload_n 0, 0, 0, []), (.tableswitch 45 0 3 #[31, 35, 38, 42], 46, 0, [(0, 32), (1, 36), (2, 39), (3, 43)]), zN, zN, zN, zN, zN, zN, zN, zN, zN, zN, zN, zN, zN, zN], [zN, zN, zN, zN, zN, zN, zN, zN, zN, zN, zN, zN, zN, zN, zN, zN], [(.sipush 999, 0, 0, []), zN, zN, (.ireturn, 0, 0, []), (.bipush 9, 0, 0, []), zN, (.ireturn, 0, 0, []), (.sipush 1023, 0, 0, []), zN, zN, (.ireturn, 0, 0, []), (.bipush 99, 0, 0, []), zN, (.ireturn, 0, 0, []), (.bipush 99, 0, 0, []), zN], [(.ireturn, 0, 0, [])]]
def zcX11_isSet : List (List zE) := [[(.iload_n 0, 0, 0, []), (.ifCond .lt 14, 15, 0, []), zN, zN, (.iload_n 0, 0, 0, []), (.sipush 1024, 0, 0, []), zN, zN, (.if_icmp .ge 7, 15, 0, []), zN, zN, (.iconst 1, 0, 0, []), (.goto 4, 16, 0, []), zN, zN, (.iconst 0, 0, 0, [])], [(.ireturn, 1, 0, [])]]
def zcX11_feed : List (List zE) := [[(.iload_n 1, 1, 0, []), (.ifCond .lt 10, 11, 0, []), zN, zN, (.iload_n 1, 1, 0, []), (.sipush 255, 0, 0, []), zN, zN, (.if_icmp .le 6, 14, 0, []), zN, zN, (.bipush (-2), 0, 0, []), zN, (.ireturn, 0, 0, []), (.aload_n 0, 0, 0, []), (.getfield 70, 11, 6, [])], [zN, zN, (.iload_n 1, 1, 0, []), (.invokevirtual 86, 1000, 1, [(7, 37)]), zN, zN, (.ifCond .eq 13, 35, 0, []), zN, zN, (.aload_n 0, 0, 0, []), (.getfield 70, 11, 6, []), zN, zN, (.getfield 165, 7, 1, []), zN, zN], [(.goto 5, 37, 0, []), zN, zN, (.bipush (-4), 0, 0, []), zN, (.ireturn, 0, 0, [])]]
def zcX11_text : List (List zE) := [[(.aload_n 0, 0, 0, []), (.getfield 94, 11, 7, []), zN, zN, (.bipush 6, 0, 0, []), zN, (.if_icmp .lt 6, 12, 0, []), zN, zN, (.bipush (-4), 0, 0, []), zN, (.ireturn, 0, 0, []), (.aload_n 0, 0, 0, []), (.getfield 70, 11, 6, []), zN, zN], [(.aload_n 0, 0, 0, []), (.getfield 30, 11, 5, []), zN, zN, (.aload_n 0, 0, 0, []), (.getfield 94, 11, 7, []), zN, zN, (.aaload, 0, 0, []), (.invokevirtual 90, 1000, 1, [(7, 38)]), zN, zN, (.istore_n 1, 1, 0, []), (.iload_n 1, 1, 0, []), (.iconst (-1), 0, 0, []), (.if_icmp .eq 8, 39, 0, [])], [zN, zN, (.bipush (-100), 0, 0, []), zN, (.iload_n 1, 1, 0, []), (.isub, 0, 0, []), (.ireturn, 0, 0, []), (.aload_n 0, 0, 0, []), (.dup, 0, 0, []), (.getfield 94, 11, 7, []), zN, zN, (.iconst 1, 0, 0, []), (.iadd, 0, 0, []), (.putfield 94, 11, 7, []), zN], [zN, (.aload_n 0, 0, 0, []), (.getfield 94, 11, 7, []), zN, zN, (.iconst 1, 0, 0, []), (.isub, 0, 0, []), (.ireturn, 0, 0, [])]]
def zcX11_force : List (List zE) := [[(.iload_n 1, 1, 0, []), (.ifCond .lt 11, 12, 0, []), zN, zN, (.iload_n 1, 1, 0, []), (.aload_n 0, 0, 0, []), (.getfield 94, 11, 7, []), zN, zN, (.if_icmp .lt 6, 15, 0, []), zN, zN, (.bipush (-2), 0, 0, []), zN, (.ireturn, 0, 0, []), (.aload_n 0, 0, 0, [])], [(.getfield 18, 11, 1, []), zN, zN, (.getfield 168, 0, 6, []), zN, zN, (.istore_n 2, 2, 0, []), (.aload_n 0, 0, 0, []), (.getfield 18, 11, 1, []), zN, zN, (.iload_n 1, 1, 0, []), (.putfield 168, 0, 6, []), zN, zN, (.iload_n 2, 2, 0, [])], [(.ireturn, 0, 0, [])]]
def zcX11_ruleOf : List (List zE) := [[(.aload_n 1, 1, 0, []), (.getfield 168, 0, 6, []), zN, zN, (.ifCond .lt 24, 28, 0, []), zN, zN, (.aload_n 1, 1, 0, []), (.getfield 168, 0, 6, []), zN, zN, (.bipush 6, 0, 0, []), zN, (.if_icmp .ge 15, 28, 0, []), zN, zN], [(.aload_n 0, 0, 0, []), (.getfield 30, 11, 5, []), zN, zN, (.aload_n 1, 1, 0, []), (.getfield 168, 0, 6, []), zN, zN, (.aaload, 0, 0, []), (.goto 9, 34, 0, []), zN, zN, (.aload_n 0, 0, 0, []), (.getfield 30, 11, 5, []), zN, zN], [(.iconst 0, 0, 0, []), (.aaload, 0, 0, []), (.areturn, 0, 0, [])]]
def zcX11_over : List (List zE) := [[(.iload_n 1, 1, 0, []), (.invokestatic 171, 129, 1, [(0, 0)]), zN, zN, (.ifCond .eq 19, 23, 0, []), zN, zN, (.iload_n 2, 2, 0, []), (.invokestatic 121, 83, 1, [(0, 0)]), zN, zN, (.ifCond .eq 12, 23, 0, []), zN, zN, (.iload_n 3, 3, 0, []), (.ifCond .lt 8, 23, 0, [])], [zN, zN, (.iload_n 3, 3, 0, []), (.iconst 3, 0, 0, []), (.if_icmp .le 6, 26, 0, []), zN, zN, (.bipush (-2), 0, 0, []), zN, (.ireturn, 0, 0, []), (.aload_n 0, 0, 0, []), (.getfield 40, 11, 9, []), zN, zN, (.iload_n 1, 1, 0, []), (.aaload, 0, 0, [])], [(.astore 4, 4, 0, []), zN, (.aload 4, 4, 0, []), zN, (.invokevirtual 174, 1000, 0, [(8, 60)]), zN, zN, (.ifCond .eq 6, 45, 0, []), zN, zN, (.bipush (-11), 0, 0, []), zN, (.ireturn, 0, 0, []), (.iconst 0, 0, 0, []), (.istore 5, 5, 0, []), zN], [(.iload 5, 5, 0, []), zN, (.aload 4, 4, 0, []), zN, (.getfield 178, 8, 2, []), zN, zN, (.if_icmp .ge 30, 85, 0, []), zN, zN, (.aload_n 0, 0, 0, []), (.getfield 18, 11, 1, []), zN, zN, (.aload 4, 4, 0, []), zN], [(.getfield 179, 8, 0, []), zN, zN, (.iload 5, 5, 0, []), zN, (.iaload, 0, 0, []), (.invokevirtual 98, 1000, 1, [(0, 1)]), zN, zN, (.ifCond .ne 6, 79, 0, []), zN, zN, (.bipush (-2), 0, 0, []), zN, (.ireturn, 0, 0, []), (.iinc 5 1, 5, 0, [])], [zN, zN, (.goto (-34), 48, 0, []), zN, zN, (.aload_n 0, 0, 0, []), (.aload 4, 4, 0, []), zN, (.iload_n 2, 2, 0, []), (.invokevirtual 182, 1000, 2, [(11, 98)]), zN, zN, (.istore 5, 5, 0, []), zN, (.iload_n 3, 3, 0, []), (.tableswitch 42 0 2 #[25, 28, 35], 137, 0, [(0, 120), (1, 123), (2, 130)])], [zN, zN, zN, zN, zN, zN, zN, zN, zN, zN, zN, zN, zN, zN, zN, zN], [zN, zN, zN, zN, zN, zN, zN, zN, (.iload 5, 5, 0, []), zN, (.ireturn, 0, 0, []), (.iload 5, 5, 0, []), zN, (.iload_n 2, 2, 0, []), (.invokestatic 186, 101, 2, [(0, 0)]), zN], [zN, (.ireturn, 0, 0, []), (.iload_n 2, 2, 0, []), (.iload 5, 5, 0, []), zN, (.iconst (-1), 0, 0, []), (.ixor, 0, 0, []), (.iand, 0, 0, []), (.ireturn, 0, 0, []), (.iload 5, 5, 0, []), zN, (.iload_n 2, 2, 0, []), (.iconst (-1), 0, 0, []), (.ixor, 0, 0, []), (.iand, 0, 0, []), (.ireturn, 0, 0, [])]]
def zcX11_day : List (List zE) := [[(.aload_n 0, 0, 0, []), (.getfield 18, 11, 1, []), zN, zN, (.getfield 105, 0, 4, []), zN, zN, (.sipush 999, 0, 0, []), zN, zN, (.if_icmp .lt 6, 16, 0, []), zN, zN, (.bipush (-3), 0, 0, []), zN, (.ireturn, 0, 0, [])], [(.aload_n 0, 0, 0, []), (.aload_n 0, 0, 0, []), (.getfield 18, 11, 1, []), zN, zN, (.invokevirtual 190, 1000, 1, [(11, 99)]), zN, zN, (.ireturn, 0, 0, [])]]
def zcX11_run : List (List zE) := [[(.iload_n 1, 1, 0, []), (.ifCond .lt 17, 18, 0, []), zN, zN, (.iload_n 1, 1, 0, []), (.bipush 20, 0, 0, []), zN, (.if_icmp .gt 11, 18, 0, []), zN, zN, (.aload_n 0, 0, 0, []), (.iload_n 2, 2, 0, []), (.invokevirtual 194, 1000, 1, [(11, 91)]), zN, zN, (.ifCond .ne 7, 22, 0, [])], [zN, zN, (.sipush (-1000), 0, 0, []), zN, zN, (.ireturn, 0, 0, []), (.iconst (-1), 0, 0, []), (.istore_n 3, 3, 0, []), (.iconst 0, 0, 0, []), (.istore 4, 4, 0, []), zN, (.aload_n 0, 0, 0, []), (.getfield 25, 11, 3, []), zN, zN, (.aload_n 0, 0, 0, [])], [(.getfield 18, 11, 1, []), zN, zN, (.invokevirtual 197, 1000, 1, [(0, 3)]), zN, zN, (.iconst 0, 0, 0, []), (.istore 5, 5, 0, []), zN, (.iload 5, 5, 0, []), zN, (.iload_n 1, 1, 0, []), (.if_icmp .ge 31, 75, 0, []), zN, zN, (.aload_n 0, 0, 0, [])], [(.aload_n 0, 0, 0, []), (.getfield 25, 11, 3, []), zN, zN, (.invokevirtual 190, 1000, 1, [(11, 99)]), zN, zN, (.istore 6, 6, 0, []), zN, (.iload 6, 6, 0, []), zN, (.iconst (-1), 0, 0, []), (.if_icmp .eq 9, 69, 0, []), zN, zN, (.iload 6, 6, 0, [])], [zN, (.istore_n 3, 3, 0, []), (.iinc 4 1, 4, 0, []), zN, zN, (.iinc 5 1, 5, 0, []), zN, zN, (.goto (-31), 41, 0, []), zN, zN, (.iload_n 2, 2, 0, []), (.ifCond .ne 5, 81, 0, []), zN, zN, (.iload_n 3, 3, 0, [])], [(.ireturn, 0, 0, []), (.iload_n 2, 2, 0, []), (.iconst 1, 0, 0, []), (.if_icmp .ne 6, 89, 0, []), zN, zN, (.iload 4, 4, 0, []), zN, (.ireturn, 0, 0, []), (.iload_n 2, 2, 0, []), (.bipush 20, 0, 0, []), zN, (.if_icmp .ge 21, 113, 0, []), zN, zN, (.aload_n 0, 0, 0, [])], [(.getfield 25, 11, 3, []), zN, zN, (.getfield 108, 0, 0, []), zN, zN, (.iload_n 2, 2, 0, []), (.bipush 10, 0, 0, []), zN, (.isub, 0, 0, []), (.aaload, 0, 0, []), (.getfield 133, 5, 2, []), zN, zN, (.goto 18, 128, 0, []), zN], [zN, (.aload_n 0, 0, 0, []), (.getfield 25, 11, 3, []), zN, zN, (.getfield 108, 0, 0, []), zN, zN, (.iload_n 2, 2, 0, []), (.bipush 20, 0, 0, []), zN, (.isub, 0, 0, []), (.aaload, 0, 0, []), (.getfield 136, 5, 3, []), zN, zN], [(.ireturn, 0, 0, [])]]
def zcX11_isAskedOfRun : List (List zE) := [[(.iload_n 1, 1, 0, []), (.ifCond .eq 36, 37, 0, []), zN, zN, (.iload_n 1, 1, 0, []), (.iconst 1, 0, 0, []), (.if_icmp .eq 31, 37, 0, []), zN, zN, (.aload_n 0, 0, 0, []), (.getfield 18, 11, 1, []), zN, zN, (.iload_n 1, 1, 0, []), (.bipush 10, 0, 0, []), zN], [(.isub, 0, 0, []), (.invokevirtual 98, 1000, 1, [(0, 1)]), zN, zN, (.ifCond .ne 17, 37, 0, []), zN, zN, (.aload_n 0, 0, 0, []), (.getfield 18, 11, 1, []), zN, zN, (.iload_n 1, 1, 0, []), (.bipush 20, 0, 0, []), zN, (.isub, 0, 0, []), (.invokevirtual 98, 1000, 1, [(0, 1)])], [zN, zN, (.ifCond .eq 7, 41, 0, []), zN, zN, (.iconst 1, 0, 0, []), (.goto 4, 42, 0, []), zN, zN, (.iconst 0, 0, 0, []), (.ireturn, 1, 0, [])]]
def zcX11_kindOf : List (List zE) := [[(.aload_n 1, 1, 0, []), (.getfield 127, 5, 0, []), zN, zN, (.ifCond .lt 24, 28, 0, []), zN, zN, (.aload_n 1, 1, 0, []), (.getfield 127, 5, 0, []), zN, zN, (.bipush 6, 0, 0, []), zN, (.if_icmp .ge 15, 28, 0, []), zN, zN], [(.aload_n 0, 0, 0, []), (.getfield 11, 11, 0, []), zN, zN, (.aload_n 1, 1, 0, []), (.getfield 127, 5, 0, []), zN, zN, (.aaload, 0, 0, []), (.goto 9, 34, 0, []), zN, zN, (.aload_n 0, 0, 0, []), (.getfield 11, 11, 0, []), zN, zN], [(.iconst 0, 0, 0, []), (.aaload, 0, 0, []), (.areturn, 0, 0, [])]]
def zcX11_keeping : List (List zE) := [[(.aload_n 0, 0, 0, []), (.aload_n 2, 2, 0, []), (.invokevirtual 200, 1000, 1, [(11, 92)]), zN, zN, (.aload_n 0, 0, 0, []), (.aload_n 1, 1, 0, []), (.invokevirtual 204, 1000, 1, [(11, 87)]), zN, zN, (.iconst 0, 0, 0, []), (.aload_n 2, 2, 0, []), (.iload_n 3, 3, 0, []), (.aload_n 1, 1, 0, []), (.getfield 105, 0, 4, []), zN], [zN, (.aload_n 0, 0, 0, []), (.getfield 34, 11, 8, []), zN, zN, (.invokevirtual 208, 1000, 5, [(10, 72)]), zN, zN, (.aload_n 1, 1, 0, []), (.getfield 105, 0, 4, []), zN, zN, (.invokevirtual 211, 1000, 2, [(9, 66), (1, 6), (2, 12), (3, 12), (4, 23), (6, 32)]), zN, zN, (.bipush 10, 0, 0, [])], [zN, (.invokestatic 214, 103, 2, [(0, 0)]), zN, zN, (.ireturn, 0, 0, [])]]
def zcX11_telling : List (List zE) := [[(.aload_n 0, 0, 0, []), (.aload_n 2, 2, 0, []), (.invokevirtual 200, 1000, 1, [(11, 92)]), zN, zN, (.aload_n 2, 2, 0, []), (.iload_n 3, 3, 0, []), (.aload_n 0, 0, 0, []), (.aload_n 1, 1, 0, []), (.aload_n 2, 2, 0, []), (.iload_n 3, 3, 0, []), (.invokevirtual 155, 1000, 3, [(11, 93)]), zN, zN, (.invokevirtual 217, 1000, 3, [(9, 67), (1, 7), (2, 13), (3, 18), (4, 24), (6, 33)]), zN], [zN, (.ireturn, 0, 0, [])]]
def zcX11_tiring : List (List zE) := [[(.aload_n 0, 0, 0, []), (.aload_n 2, 2, 0, []), (.invokevirtual 200, 1000, 1, [(11, 92)]), zN, zN, (.aload_n 0, 0, 0, []), (.aload_n 1, 1, 0, []), (.invokevirtual 204, 1000, 1, [(11, 87)]), zN, zN, (.iconst 1, 0, 0, []), (.aload_n 2, 2, 0, []), (.iload_n 3, 3, 0, []), (.aload_n 1, 1, 0, []), (.getfield 105, 0, 4, []), zN], [zN, (.aload_n 0, 0, 0, []), (.getfield 34, 11, 8, []), zN, zN, (.invokevirtual 208, 1000, 5, [(10, 72)]), zN, zN, (.aload_n 2, 2, 0, []), (.invokevirtual 221, 1000, 2, [(9, 68), (1, 8), (2, 14), (3, 19), (4, 25), (6, 34)]), zN, zN, (.ireturn, 0, 0, [])]]
def zcX11_learning : List (List zE) := [[(.aload_n 0, 0, 0, []), (.aload_n 2, 2, 0, []), (.invokevirtual 200, 1000, 1, [(11, 92)]), zN, zN, (.aload_n 0, 0, 0, []), (.aload_n 1, 1, 0, []), (.invokevirtual 204, 1000, 1, [(11, 87)]), zN, zN, (.iconst 2, 0, 0, []), (.aload_n 2, 2, 0, []), (.iload_n 3, 3, 0, []), (.aload_n 1, 1, 0, []), (.getfield 105, 0, 4, []), zN], [zN, (.aload_n 0, 0, 0, []), (.getfield 34, 11, 8, []), zN, zN, (.invokevirtual 208, 1000, 5, [(10, 72)]), zN, zN, (.ifCond .eq 7, 31, 0, []), zN, zN, (.iconst 1, 0, 0, []), (.goto 4, 32, 0, []), zN, zN, (.iconst 0, 0, 0, [])], [(.iload_n 3, 3, 0, []), (.invokevirtual 225, 1000, 2, [(9, 69), (1, 9), (2, 15), (3, 20), (4, 9), (6, 35)]), zN, zN, (.ireturn, 1, 0, [])]]
def zcX11_toldByAll : List (List zE) := [[(.iload_n 2, 2, 0, []), (.istore_n 3, 3, 0, []), (.iconst 0, 0, 0, []), (.istore 4, 4, 0, []), zN, (.iload 4, 4, 0, []), zN, (.aload_n 1, 1, 0, []), (.getfield 124, 0, 2, []), zN, zN, (.if_icmp .ge 23, 34, 0, []), zN, zN, (.aload_n 0, 0, 0, []), (.aload_n 1, 1, 0, [])], [(.aload_n 1, 1, 0, []), (.getfield 108, 0, 0, []), zN, zN, (.iload 4, 4, 0, []), zN, (.aaload, 0, 0, []), (.iload_n 3, 3, 0, []), (.invokevirtual 151, 1000, 3, [(11, 94)]), zN, zN, (.istore_n 3, 3, 0, []), (.iinc 4 1, 4, 0, []), zN, zN, (.goto (-26), 5, 0, [])], [zN, zN, (.iload_n 3, 3, 0, []), (.ireturn, 0, 0, [])]]
def zcX11_toldByRow : List (List zE) := [[(.iload_n 2, 2, 0, []), (.istore_n 3, 3, 0, []), (.iconst 0, 0, 0, []), (.istore 4, 4, 0, []), zN, (.iload 4, 4, 0, []), zN, (.aload_n 1, 1, 0, []), (.getfield 178, 8, 2, []), zN, zN, (.if_icmp .ge 50, 61, 0, []), zN, zN, (.aload_n 1, 1, 0, []), (.getfield 179, 8, 0, [])], [zN, zN, (.iload 4, 4, 0, []), zN, (.iaload, 0, 0, []), (.istore 5, 5, 0, []), zN, (.aload_n 0, 0, 0, []), (.getfield 18, 11, 1, []), zN, zN, (.iload 5, 5, 0, []), zN, (.invokevirtual 98, 1000, 1, [(0, 1)]), zN, zN], [(.ifCond .eq 23, 55, 0, []), zN, zN, (.aload_n 0, 0, 0, []), (.aload_n 0, 0, 0, []), (.getfield 18, 11, 1, []), zN, zN, (.aload_n 0, 0, 0, []), (.getfield 18, 11, 1, []), zN, zN, (.getfield 108, 0, 0, []), zN, zN, (.iload 5, 5, 0, [])], [zN, (.aaload, 0, 0, []), (.iload_n 3, 3, 0, []), (.invokevirtual 151, 1000, 3, [(11, 94)]), zN, zN, (.istore_n 3, 3, 0, []), (.iinc 4 1, 4, 0, []), zN, zN, (.goto (-53), 5, 0, []), zN, zN, (.iload_n 3, 3, 0, []), (.ireturn, 0, 0, [])]]
def zcX11_passDay : List (List zE) := [[(.iconst (-1), 0, 0, []), (.istore_n 2, 2, 0, []), (.aload_n 1, 1, 0, []), (.getfield 142, 0, 3, []), zN, zN, (.ifCond .le 57, 63, 0, []), zN, zN, (.aload_n 1, 1, 0, []), (.invokevirtual 229, 1000, 0, [(0, 2)]), zN, zN, (.istore_n 2, 2, 0, []), (.iconst 0, 0, 0, []), (.istore_n 3, 3, 0, [])], [(.iload_n 3, 3, 0, []), (.aload_n 1, 1, 0, []), (.getfield 124, 0, 2, []), zN, zN, (.if_icmp .ge 22, 43, 0, []), zN, zN, (.aload_n 0, 0, 0, []), (.aload_n 1, 1, 0, []), (.aload_n 1, 1, 0, []), (.getfield 108, 0, 0, []), zN, zN, (.iload_n 3, 3, 0, []), (.aaload, 0, 0, [])], [(.iload_n 2, 2, 0, []), (.invokevirtual 232, 1000, 3, [(11, 100)]), zN, zN, (.istore_n 2, 2, 0, []), (.iinc 3 1, 3, 0, []), zN, zN, (.goto (-24), 16, 0, []), zN, zN, (.aload_n 1, 1, 0, []), (.getfield 148, 0, 5, []), zN, zN, (.sipush 999, 0, 0, [])], [zN, zN, (.if_icmp .ge 13, 63, 0, []), zN, zN, (.aload_n 1, 1, 0, []), (.dup, 0, 0, []), (.getfield 148, 0, 5, []), zN, zN, (.iconst 1, 0, 0, []), (.iadd, 0, 0, []), (.putfield 148, 0, 5, []), zN, zN, (.aload_n 1, 1, 0, [])], [(.dup, 0, 0, []), (.getfield 105, 0, 4, []), zN, zN, (.iconst 1, 0, 0, []), (.iadd, 0, 0, []), (.putfield 105, 0, 4, []), zN, zN, (.iload_n 2, 2, 0, []), (.ireturn, 0, 0, [])]]
def zcX11_tellTruly : List (List zE) := [[(.aload_n 0, 0, 0, []), (.aload_n 1, 1, 0, []), (.aload_n 2, 2, 0, []), (.iload_n 3, 3, 0, []), (.invokevirtual 151, 1000, 3, [(11, 94)]), zN, zN, (.istore 4, 4, 0, []), zN, (.aload_n 0, 0, 0, []), (.aload_n 1, 1, 0, []), (.aload_n 2, 2, 0, []), (.iload_n 3, 3, 0, []), (.invokevirtual 158, 1000, 3, [(11, 95)]), zN, zN], [(.istore 5, 5, 0, []), zN, (.aload_n 0, 0, 0, []), (.aload_n 1, 1, 0, []), (.aload_n 2, 2, 0, []), (.iload_n 3, 3, 0, []), (.invokevirtual 161, 1000, 3, [(11, 96)]), zN, zN, (.ifCond .eq 30, 55, 0, []), zN, zN, (.aload_n 2, 2, 0, []), (.astore 6, 6, 0, []), zN, (.aload 6, 6, 0, [])], [zN, (.aload 6, 6, 0, []), zN, (.getfield 133, 5, 2, []), zN, zN, (.iload_n 3, 3, 0, []), (.aload_n 2, 2, 0, []), (.getfield 133, 5, 2, []), zN, zN, (.iconst (-1), 0, 0, []), (.ixor, 0, 0, []), (.iand, 0, 0, []), (.invokestatic 235, 102, 1, [(0, 0)]), zN], [zN, (.ior, 0, 0, []), (.dup_x1, 0, 0, []), (.putfield 133, 5, 2, []), zN, zN, (.pop, 0, 0, []), (.aload_n 2, 2, 0, []), (.iconst 0, 0, 0, []), (.aload_n 2, 2, 0, []), (.getfield 136, 5, 3, []), zN, zN, (.iload 5, 5, 0, []), zN, (.isub, 0, 0, [])], [(.invokestatic 238, 1004, 2, [(7, 0)]), zN, zN, (.putfield 136, 5, 3, []), zN, zN, (.aload_n 2, 2, 0, []), (.bipush 99, 0, 0, []), zN, (.aload_n 2, 2, 0, []), (.getfield 139, 5, 4, []), zN, zN, (.iconst 1, 0, 0, []), (.iadd, 0, 0, []), (.invokestatic 243, 1005, 2, [(7, 0)])], [zN, zN, (.putfield 139, 5, 4, []), zN, zN, (.iload 4, 4, 0, []), zN, (.ireturn, 0, 0, [])]]
def zcX11_off : List (List zE) := [[(.iload_n 0, 0, 0, []), (.iload_n 1, 1, 0, []), (.ixor, 0, 0, []), (.invokestatic 246, 202, 1, [(0, 0)]), zN, zN, (.ireturn, 0, 0, [])]]
def zcX11_lowest : List (List zE) := [[(.iload_n 0, 0, 0, []), (.iload_n 0, 0, 0, []), (.ineg, 0, 0, []), (.iand, 0, 0, []), (.ireturn, 0, 0, [])]]
def zcX11_within : List (List zE) := [[(.iconst 0, 0, 0, []), (.iload_n 1, 1, 0, []), (.iload_n 0, 0, 0, []), (.invokestatic 243, 1005, 2, [(7, 0)]), zN, zN, (.invokestatic 238, 1004, 2, [(7, 0)]), zN, zN, (.ireturn, 0, 0, [])]]
def zcX11_fro : List (List zE) := [[(.iload_n 1, 1, 0, []), (.invokestatic 121, 83, 1, [(0, 0)]), zN, zN, (.ifCond .eq 12, 16, 0, []), zN, zN, (.iload_n 2, 2, 0, []), (.ifCond .lt 8, 16, 0, []), zN, zN, (.iload_n 2, 2, 0, []), (.iconst 1, 0, 0, []), (.if_icmp .le 6, 19, 0, []), zN, zN], [(.bipush (-2), 0, 0, []), zN, (.ireturn, 0, 0, []), (.aload_n 0, 0, 0, []), (.getfield 44, 11, 10, []), zN, zN, (.iconst 0, 0, 0, []), (.iload_n 1, 1, 0, []), (.iastore, 0, 0, []), (.iconst 1, 0, 0, []), (.istore_n 3, 3, 0, []), (.iload_n 3, 3, 0, []), (.bipush 60, 0, 0, []), zN, (.if_icmp .gt 77, 108, 0, [])], [zN, zN, (.aload_n 0, 0, 0, []), (.getfield 44, 11, 10, []), zN, zN, (.iload_n 3, 3, 0, []), (.aload_n 0, 0, 0, []), (.aload_n 0, 0, 0, []), (.getfield 18, 11, 1, []), zN, zN, (.aload_n 0, 0, 0, []), (.getfield 44, 11, 10, []), zN, zN], [(.iload_n 3, 3, 0, []), (.iconst 1, 0, 0, []), (.isub, 0, 0, []), (.iaload, 0, 0, []), (.invokevirtual 251, 1000, 2, [(11, 97)]), zN, zN, (.iastore, 0, 0, []), (.iconst 0, 0, 0, []), (.istore 4, 4, 0, []), zN, (.iload 4, 4, 0, []), zN, (.iload_n 3, 3, 0, []), (.if_icmp .ge 40, 102, 0, []), zN], [zN, (.aload_n 0, 0, 0, []), (.getfield 44, 11, 10, []), zN, zN, (.iload 4, 4, 0, []), zN, (.iaload, 0, 0, []), (.aload_n 0, 0, 0, []), (.getfield 44, 11, 10, []), zN, zN, (.iload_n 3, 3, 0, []), (.iaload, 0, 0, []), (.if_icmp .ne 18, 96, 0, []), zN], [zN, (.iload_n 2, 2, 0, []), (.ifCond .ne 7, 89, 0, []), zN, zN, (.iload_n 3, 3, 0, []), (.goto 9, 95, 0, []), zN, zN, (.aload_n 0, 0, 0, []), (.getfield 44, 11, 10, []), zN, zN, (.iload_n 3, 3, 0, []), (.iaload, 0, 0, []), (.ireturn, 0, 0, [])], [(.iinc 4 1, 4, 0, []), zN, zN, (.goto (-40), 59, 0, []), zN, zN, (.iinc 3 1, 3, 0, []), zN, zN, (.goto (-77), 28, 0, []), zN, zN, (.iconst (-1), 0, 0, []), (.ireturn, 0, 0, [])]]
def zcX11_row : List (List zE) := [[(.iload_n 1, 1, 0, []), (.invokestatic 121, 83, 1, [(0, 0)]), zN, zN, (.ifCond .eq 22, 26, 0, []), zN, zN, (.iload_n 2, 2, 0, []), (.iconst 1, 0, 0, []), (.if_icmp .lt 17, 26, 0, []), zN, zN, (.iload_n 2, 2, 0, []), (.iconst 3, 0, 0, []), (.if_icmp .gt 12, 26, 0, []), zN], [zN, (.iload_n 3, 3, 0, []), (.ifCond .lt 8, 26, 0, []), zN, zN, (.iload_n 3, 3, 0, []), (.iconst 1, 0, 0, []), (.if_icmp .le 6, 29, 0, []), zN, zN, (.bipush (-2), 0, 0, []), zN, (.ireturn, 0, 0, []), (.aload_n 0, 0, 0, []), (.iconst (-1), 0, 0, []), (.putfield 255, 11, 11, [])], [zN, zN, (.aload_n 0, 0, 0, []), (.iconst (-1), 0, 0, []), (.putfield 258, 11, 12, []), zN, zN, (.iconst 1, 0, 0, []), (.istore 4, 4, 0, []), zN, (.iload 4, 4, 0, []), zN, (.iload_n 2, 2, 0, []), (.if_icmp .gt 19, 64, 0, []), zN, zN], [(.aload_n 0, 0, 0, []), (.iload_n 1, 1, 0, []), (.iload_n 1, 1, 0, []), (.iconst 0, 0, 0, []), (.iconst 0, 0, 0, []), (.iload 4, 4, 0, []), zN, (.invokevirtual 261, 1000, 5, [(11, 106)]), zN, zN, (.iinc 4 1, 4, 0, []), zN, zN, (.goto (-19), 42, 0, []), zN, zN], [(.iload_n 3, 3, 0, []), (.ifCond .ne 10, 75, 0, []), zN, zN, (.aload_n 0, 0, 0, []), (.getfield 255, 11, 11, []), zN, zN, (.goto 7, 79, 0, []), zN, zN, (.aload_n 0, 0, 0, []), (.getfield 258, 11, 12, []), zN, zN, (.ireturn, 0, 0, [])]]
def zcX11_tryRows : List (List zE) := [[(.iload 5, 5, 0, []), zN, (.ifCond .gt 39, 41, 0, []), zN, zN, (.iload_n 1, 1, 0, []), (.iload_n 2, 2, 0, []), (.invokestatic 186, 101, 2, [(0, 0)]), zN, zN, (.istore 6, 6, 0, []), zN, (.aload_n 0, 0, 0, []), (.getfield 258, 11, 12, []), zN, zN], [(.iconst (-1), 0, 0, []), (.if_icmp .eq 12, 29, 0, []), zN, zN, (.iload 6, 6, 0, []), zN, (.aload_n 0, 0, 0, []), (.getfield 258, 11, 12, []), zN, zN, (.if_icmp .ge 14, 40, 0, []), zN, zN, (.aload_n 0, 0, 0, []), (.iload 6, 6, 0, []), zN], [(.putfield 258, 11, 12, []), zN, zN, (.aload_n 0, 0, 0, []), (.iload_n 3, 3, 0, []), (.putfield 255, 11, 11, []), zN, zN, (.return_, 0, 0, []), (.iconst 0, 0, 0, []), (.istore 6, 6, 0, []), zN, (.iload 6, 6, 0, []), zN, (.aload_n 0, 0, 0, []), (.getfield 18, 11, 1, [])], [zN, zN, (.getfield 124, 0, 2, []), zN, zN, (.if_icmp .ge 66, 119, 0, []), zN, zN, (.iload 4, 4, 0, []), zN, (.iconst 1, 0, 0, []), (.iload 6, 6, 0, []), zN, (.ishl, 0, 0, []), (.iand, 0, 0, []), (.ifCond .eq 6, 69, 0, [])], [zN, zN, (.goto 47, 113, 0, []), zN, zN, (.aload_n 0, 0, 0, []), (.iload_n 1, 1, 0, []), (.aload_n 0, 0, 0, []), (.aload_n 0, 0, 0, []), (.getfield 18, 11, 1, []), zN, zN, (.aload_n 0, 0, 0, []), (.getfield 18, 11, 1, []), zN, zN], [(.getfield 108, 0, 0, []), zN, zN, (.iload 6, 6, 0, []), zN, (.aaload, 0, 0, []), (.iload_n 2, 2, 0, []), (.invokevirtual 151, 1000, 3, [(11, 94)]), zN, zN, (.iload_n 3, 3, 0, []), (.bipush 10, 0, 0, []), zN, (.imul, 0, 0, []), (.iload 6, 6, 0, []), zN], [(.iadd, 0, 0, []), (.iconst 1, 0, 0, []), (.iadd, 0, 0, []), (.iload 4, 4, 0, []), zN, (.iconst 1, 0, 0, []), (.iload 6, 6, 0, []), zN, (.ishl, 0, 0, []), (.ior, 0, 0, []), (.iload 5, 5, 0, []), zN, (.iconst 1, 0, 0, []), (.isub, 0, 0, []), (.invokevirtual 261, 1000, 5, [(11, 106)]), zN], [zN, (.iinc 6 1, 6, 0, []), zN, zN, (.goto (-72), 44, 0, []), zN, zN, (.return_, 0, 0, [])]]
def zcX11_learn : List (List zE) := [[(.iload_n 1, 1, 0, []), (.invokestatic 121, 83, 1, [(0, 0)]), zN, zN, (.ifCond .eq 12, 16, 0, []), zN, zN, (.iload_n 2, 2, 0, []), (.ifCond .lt 8, 16, 0, []), zN, zN, (.iload_n 2, 2, 0, []), (.iconst 1, 0, 0, []), (.if_icmp .le 6, 19, 0, []), zN, zN], [(.bipush (-2), 0, 0, []), zN, (.ireturn, 0, 0, []), (.iconst (-1), 0, 0, []), (.istore_n 3, 3, 0, []), (.bipush 11, 0, 0, []), zN, (.istore 4, 4, 0, []), zN, (.aload_n 0, 0, 0, []), (.getfield 25, 11, 3, []), zN, zN, (.aload_n 0, 0, 0, []), (.getfield 18, 11, 1, []), zN], [zN, (.invokevirtual 197, 1000, 1, [(0, 3)]), zN, zN, (.iconst 0, 0, 0, []), (.istore 5, 5, 0, []), zN, (.iload 5, 5, 0, []), zN, (.sipush 1024, 0, 0, []), zN, zN, (.if_icmp .ge 41, 85, 0, []), zN, zN, (.iload 5, 5, 0, [])], [zN, (.invokestatic 246, 202, 1, [(0, 0)]), zN, zN, (.istore 6, 6, 0, []), zN, (.iload 6, 6, 0, []), zN, (.iload 4, 4, 0, []), zN, (.if_icmp .ge 21, 79, 0, []), zN, zN, (.aload_n 0, 0, 0, []), (.iload 5, 5, 0, []), zN], [(.iload_n 1, 1, 0, []), (.invokevirtual 265, 1000, 2, [(11, 108)]), zN, zN, (.iload_n 1, 1, 0, []), (.if_icmp .ne 10, 79, 0, []), zN, zN, (.iload 5, 5, 0, []), zN, (.istore_n 3, 3, 0, []), (.iload 6, 6, 0, []), zN, (.istore 4, 4, 0, []), zN, (.iinc 5 1, 5, 0, [])], [zN, zN, (.goto (-43), 39, 0, []), zN, zN, (.iload_n 3, 3, 0, []), (.iconst (-1), 0, 0, []), (.if_icmp .ne 5, 92, 0, []), zN, zN, (.iconst (-1), 0, 0, []), (.ireturn, 0, 0, []), (.iload_n 2, 2, 0, []), (.ifCond .ne 7, 100, 0, []), zN, zN], [(.iload_n 3, 3, 0, []), (.goto 5, 102, 0, []), zN, zN, (.iload 4, 4, 0, []), zN, (.ireturn, 0, 0, [])]]
def zcX11_toldWithMore : List (List zE) := [[(.iconst 0, 0, 0, []), (.istore_n 3, 3, 0, []), (.iload_n 3, 3, 0, []), (.aload_n 0, 0, 0, []), (.getfield 25, 11, 3, []), zN, zN, (.getfield 124, 0, 2, []), zN, zN, (.if_icmp .ge 35, 45, 0, []), zN, zN, (.aload_n 0, 0, 0, []), (.getfield 25, 11, 3, []), zN], [zN, (.getfield 108, 0, 0, []), zN, zN, (.iload_n 3, 3, 0, []), (.aaload, 0, 0, []), (.aload_n 0, 0, 0, []), (.getfield 18, 11, 1, []), zN, zN, (.getfield 108, 0, 0, []), zN, zN, (.iload_n 3, 3, 0, []), (.aaload, 0, 0, []), (.getfield 133, 5, 2, [])], [zN, zN, (.iload_n 1, 1, 0, []), (.ior, 0, 0, []), (.putfield 133, 5, 2, []), zN, zN, (.iinc 3 1, 3, 0, []), zN, zN, (.goto (-40), 2, 0, []), zN, zN, (.aload_n 0, 0, 0, []), (.aload_n 0, 0, 0, []), (.getfield 25, 11, 3, [])], [zN, zN, (.iload_n 2, 2, 0, []), (.invokevirtual 251, 1000, 2, [(11, 97)]), zN, zN, (.ireturn, 0, 0, [])]]
def zcX11_from : List (List zE) := [[(.iload_n 1, 1, 0, []), (.invokestatic 121, 83, 1, [(0, 0)]), zN, zN, (.ifCond .eq 12, 16, 0, []), zN, zN, (.iload_n 2, 2, 0, []), (.ifCond .lt 8, 16, 0, []), zN, zN, (.iload_n 2, 2, 0, []), (.iconst 1, 0, 0, []), (.if_icmp .le 6, 19, 0, []), zN, zN], [(.bipush (-2), 0, 0, []), zN, (.ireturn, 0, 0, []), (.iconst 0, 0, 0, []), (.istore_n 3, 3, 0, []), (.iconst (-1), 0, 0, []), (.istore 4, 4, 0, []), zN, (.iconst 0, 0, 0, []), (.istore 5, 5, 0, []), zN, (.iload 5, 5, 0, []), zN, (.sipush 1024, 0, 0, []), zN, zN], [(.if_icmp .ge 37, 69, 0, []), zN, zN, (.aload_n 0, 0, 0, []), (.aload_n 0, 0, 0, []), (.getfield 18, 11, 1, []), zN, zN, (.iload 5, 5, 0, []), zN, (.invokevirtual 251, 1000, 2, [(11, 97)]), zN, zN, (.iload_n 1, 1, 0, []), (.if_icmp .eq 6, 52, 0, []), zN], [zN, (.goto 14, 63, 0, []), zN, zN, (.iload_n 3, 3, 0, []), (.ifCond .ne 7, 60, 0, []), zN, zN, (.iload 5, 5, 0, []), zN, (.istore 4, 4, 0, []), zN, (.iinc 3 1, 3, 0, []), zN, zN, (.iinc 5 1, 5, 0, [])], [zN, zN, (.goto (-39), 27, 0, []), zN, zN, (.iload_n 2, 2, 0, []), (.ifCond .ne 7, 77, 0, []), zN, zN, (.iload_n 3, 3, 0, []), (.goto 5, 79, 0, []), zN, zN, (.iload 4, 4, 0, []), zN, (.ireturn, 0, 0, [])]]
def zcX11_mean : List (List zE) := [[(.iload_n 1, 1, 0, []), (.ifCond .lt 18, 19, 0, []), zN, zN, (.iload_n 1, 1, 0, []), (.iconst 1, 0, 0, []), (.if_icmp .gt 13, 19, 0, []), zN, zN, (.aload_n 0, 0, 0, []), (.getfield 18, 11, 1, []), zN, zN, (.getfield 124, 0, 2, []), zN, zN], [(.ifCond .ne 7, 23, 0, []), zN, zN, (.ldc2_w 268, 0, 0, [((-4611686018427387904), 0)]), zN, zN, (.lreturn, 0, 0, []), (.iconst 0, 0, 0, []), (.istore_n 2, 2, 0, []), (.iconst 0, 0, 0, []), (.istore_n 3, 3, 0, []), (.iload_n 3, 3, 0, []), (.aload_n 0, 0, 0, []), (.getfield 18, 11, 1, []), zN, zN], [(.getfield 124, 0, 2, []), zN, zN, (.if_icmp .ge 27, 62, 0, []), zN, zN, (.iload_n 2, 2, 0, []), (.aload_n 0, 0, 0, []), (.getfield 18, 11, 1, []), zN, zN, (.getfield 108, 0, 0, []), zN, zN, (.iload_n 3, 3, 0, []), (.aaload, 0, 0, [])], [(.getfield 133, 5, 2, []), zN, zN, (.invokestatic 246, 202, 1, [(0, 0)]), zN, zN, (.iadd, 0, 0, []), (.istore_n 2, 2, 0, []), (.iinc 3 1, 3, 0, []), zN, zN, (.goto (-32), 27, 0, []), zN, zN, (.iload_n 2, 2, 0, []), (.aload_n 0, 0, 0, [])], [(.getfield 18, 11, 1, []), zN, zN, (.getfield 124, 0, 2, []), zN, zN, (.iload_n 1, 1, 0, []), (.invokestatic 270, 111, 3, [(0, 0)]), zN, zN, (.lreturn, 0, 0, [])]]
def zcX11_inLowestTerms : List (List zE) := [[(.iload_n 0, 0, 0, []), (.iload_n 1, 1, 0, []), (.invokestatic 274, 112, 2, [(0, 0)]), zN, zN, (.istore_n 3, 3, 0, []), (.iload_n 3, 3, 0, []), (.ifCond .ne 7, 14, 0, []), zN, zN, (.ldc2_w 268, 0, 0, [((-4611686018427387904), 0)]), zN, zN, (.lreturn, 0, 0, []), (.iload_n 2, 2, 0, []), (.ifCond .ne 7, 22, 0, [])], [zN, zN, (.iload_n 0, 0, 0, []), (.goto 4, 23, 0, []), zN, zN, (.iload_n 1, 1, 0, []), (.iload_n 3, 3, 0, []), (.idiv, 0, 0, []), (.i2l, 0, 0, []), (.lreturn, 0, 0, [])]]
def zcX11_commonDivisor : List (List zE) := [[(.iload_n 0, 0, 0, []), (.istore_n 2, 2, 0, []), (.iload_n 1, 1, 0, []), (.istore_n 3, 3, 0, []), (.iconst 0, 0, 0, []), (.istore 4, 4, 0, []), zN, (.iload 4, 4, 0, []), zN, (.bipush 64, 0, 0, []), zN, (.if_icmp .ge 23, 34, 0, []), zN, zN, (.iload_n 3, 3, 0, []), (.ifCond .eq 19, 34, 0, [])], [zN, zN, (.iload_n 2, 2, 0, []), (.iload_n 3, 3, 0, []), (.irem, 0, 0, []), (.istore 5, 5, 0, []), zN, (.iload_n 3, 3, 0, []), (.istore_n 2, 2, 0, []), (.iload 5, 5, 0, []), zN, (.istore_n 3, 3, 0, []), (.iinc 4 1, 4, 0, []), zN, zN, (.goto (-24), 7, 0, [])], [zN, zN, (.iload_n 2, 2, 0, []), (.ireturn, 0, 0, [])]]
def zcX11_tells : List (List zE) := [[(.iload_n 1, 1, 0, []), (.invokestatic 171, 129, 1, [(0, 0)]), zN, zN, (.ifCond .eq 24, 28, 0, []), zN, zN, (.aload_n 0, 0, 0, []), (.getfield 18, 11, 1, []), zN, zN, (.iload_n 2, 2, 0, []), (.invokevirtual 98, 1000, 1, [(0, 1)]), zN, zN, (.ifCond .eq 13, 28, 0, [])], [zN, zN, (.iload_n 3, 3, 0, []), (.ifCond .lt 9, 28, 0, []), zN, zN, (.iload_n 3, 3, 0, []), (.bipush 8, 0, 0, []), zN, (.if_icmp .le 6, 31, 0, []), zN, zN, (.bipush (-2), 0, 0, []), zN, (.ireturn, 0, 0, []), (.aload_n 0, 0, 0, [])], [(.getfield 40, 11, 9, []), zN, zN, (.iload_n 1, 1, 0, []), (.aaload, 0, 0, []), (.astore 4, 4, 0, []), zN, (.aload 4, 4, 0, []), zN, (.invokevirtual 174, 1000, 0, [(8, 60)]), zN, zN, (.ifCond .eq 6, 50, 0, []), zN, zN, (.bipush (-11), 0, 0, [])], [zN, (.ireturn, 0, 0, []), (.aload 4, 4, 0, []), zN, (.getfield 178, 8, 2, []), zN, zN, (.bipush 10, 0, 0, []), zN, (.if_icmp .le 6, 63, 0, []), zN, zN, (.bipush (-2), 0, 0, []), zN, (.ireturn, 0, 0, []), (.aload_n 0, 0, 0, [])], [(.getfield 25, 11, 3, []), zN, zN, (.aload_n 0, 0, 0, []), (.getfield 18, 11, 1, []), zN, zN, (.invokevirtual 197, 1000, 1, [(0, 3)]), zN, zN, (.iload_n 3, 3, 0, []), (.tableswitch 142 0 7 #[45, 53, 65, 77, 89, 101, 114, 127], 217, 0, [(0, 120), (1, 128), (2, 140), (3, 152), (4, 164), (5, 176), (6, 189), (7, 202)]), zN, zN, zN, zN], [zN, zN, zN, zN, zN, zN, zN, zN, zN, zN, zN, zN, zN, zN, zN, zN], [zN, zN, zN, zN, zN, zN, zN, zN, zN, zN, zN, zN, zN, zN, zN, zN], [zN, zN, zN, zN, zN, zN, zN, zN, (.aload_n 0, 0, 0, []), (.aload 4, 4, 0, []), zN, (.iload_n 2, 2, 0, []), (.invokevirtual 277, 1000, 2, [(11, 116)]), zN, zN, (.ireturn, 0, 0, [])], [(.aload_n 0, 0, 0, []), (.aload 4, 4, 0, []), zN, (.iload_n 2, 2, 0, []), (.iconst 5, 0, 0, []), (.bipush 6, 0, 0, []), zN, (.iconst 0, 0, 0, []), (.invokevirtual 280, 1000, 5, [(11, 114)]), zN, zN, (.ireturn, 0, 0, []), (.aload_n 0, 0, 0, []), (.aload 4, 4, 0, []), zN, (.iload_n 2, 2, 0, [])], [(.iconst 1, 0, 0, []), (.bipush 10, 0, 0, []), zN, (.iconst 0, 0, 0, []), (.invokevirtual 280, 1000, 5, [(11, 114)]), zN, zN, (.ireturn, 0, 0, []), (.aload_n 0, 0, 0, []), (.aload 4, 4, 0, []), zN, (.iload_n 2, 2, 0, []), (.iconst 3, 0, 0, []), (.bipush 100, 0, 0, []), zN, (.iconst 1, 0, 0, [])], [(.invokevirtual 280, 1000, 5, [(11, 114)]), zN, zN, (.ireturn, 0, 0, []), (.aload_n 0, 0, 0, []), (.aload 4, 4, 0, []), zN, (.iload_n 2, 2, 0, []), (.iconst 3, 0, 0, []), (.bipush 100, 0, 0, []), zN, (.iconst 2, 0, 0, []), (.invokevirtual 280, 1000, 5, [(11, 114)]), zN, zN, (.ireturn, 0, 0, [])], [(.aload_n 0, 0, 0, []), (.aload 4, 4, 0, []), zN, (.iload_n 2, 2, 0, []), (.iconst 2, 0, 0, []), (.sipush 1024, 0, 0, []), zN, zN, (.iconst 1, 0, 0, []), (.invokevirtual 280, 1000, 5, [(11, 114)]), zN, zN, (.ireturn, 0, 0, []), (.aload_n 0, 0, 0, []), (.aload 4, 4, 0, []), zN], [(.iload_n 2, 2, 0, []), (.iconst 2, 0, 0, []), (.sipush 1024, 0, 0, []), zN, zN, (.iconst 2, 0, 0, []), (.invokevirtual 280, 1000, 5, [(11, 114)]), zN, zN, (.ireturn, 0, 0, []), (.aload_n 0, 0, 0, []), (.aload 4, 4, 0, []), zN, (.iload_n 2, 2, 0, []), (.bipush 9, 0, 0, []), zN], [(.aload_n 0, 0, 0, []), (.getfield 94, 11, 7, []), zN, zN, (.iconst 0, 0, 0, []), (.invokevirtual 280, 1000, 5, [(11, 114)]), zN, zN, (.ireturn, 0, 0, []), (.aload_n 0, 0, 0, []), (.aload 4, 4, 0, []), zN, (.iload_n 2, 2, 0, []), (.bipush 10, 0, 0, []), zN, (.aload_n 0, 0, 0, [])], [(.getfield 25, 11, 3, []), zN, zN, (.getfield 124, 0, 2, []), zN, zN, (.iconst 0, 0, 0, []), (.invokevirtual 280, 1000, 5, [(11, 114)]), zN, zN, (.ireturn, 0, 0, [])]]
def zcX11_suiting : List (List zE) := [[(.iconst 0, 0, 0, []), (.istore 6, 6, 0, []), zN, (.iconst 0, 0, 0, []), (.istore 7, 7, 0, []), zN, (.iconst (-1), 0, 0, []), (.istore 8, 8, 0, []), zN, (.iconst 0, 0, 0, []), (.istore 9, 9, 0, []), zN, (.iload 9, 9, 0, []), zN, (.iload 4, 4, 0, []), zN], [(.if_icmp .ge 74, 90, 0, []), zN, zN, (.iload_n 3, 3, 0, []), (.bipush 10, 0, 0, []), zN, (.if_icmp .ne 8, 30, 0, []), zN, zN, (.iload 9, 9, 0, []), zN, (.goto 4, 31, 0, []), zN, zN, (.iload_n 2, 2, 0, []), (.istore 10, 10, 0, [])], [zN, (.aload_n 0, 0, 0, []), (.iload 10, 10, 0, []), zN, (.iload_n 3, 3, 0, []), (.iload 9, 9, 0, []), zN, (.invokevirtual 284, 1000, 3, [(11, 115)]), zN, zN, (.aload_n 0, 0, 0, []), (.aload_n 1, 1, 0, []), (.iload 10, 10, 0, []), zN, (.invokevirtual 277, 1000, 2, [(11, 116)]), zN], [zN, (.iconst (-1), 0, 0, []), (.if_icmp .eq 6, 56, 0, []), zN, zN, (.goto 31, 84, 0, []), zN, zN, (.iload 7, 7, 0, []), zN, (.ifCond .ne 7, 65, 0, []), zN, zN, (.iload 9, 9, 0, []), zN, (.istore 8, 8, 0, [])], [zN, (.iinc 7 1, 7, 0, []), zN, zN, (.iload 9, 9, 0, []), zN, (.bipush 31, 0, 0, []), zN, (.if_icmp .ge 12, 84, 0, []), zN, zN, (.iload 6, 6, 0, []), zN, (.iconst 1, 0, 0, []), (.iload 9, 9, 0, []), zN], [(.ishl, 0, 0, []), (.ior, 0, 0, []), (.istore 6, 6, 0, []), zN, (.iinc 9 1, 9, 0, []), zN, zN, (.goto (-75), 12, 0, []), zN, zN, (.iload 5, 5, 0, []), zN, (.lookupswitch 34 #[(0, 28), (1, 31)], 126, 0, [(0, 120), (1, 123)]), zN, zN, zN], [zN, zN, zN, zN, zN, zN, zN, zN, zN, zN, zN, zN, zN, zN, zN, zN], [zN, zN, zN, zN, zN, zN, zN, zN, (.iload 6, 6, 0, []), zN, (.ireturn, 0, 0, []), (.iload 7, 7, 0, []), zN, (.ireturn, 0, 0, []), (.iload 8, 8, 0, []), zN], [(.ireturn, 0, 0, [])]]
def zcX11_vary : List (List zE) := [[(.iload_n 2, 2, 0, []), (.bipush 9, 0, 0, []), zN, (.if_icmp .ne 14, 17, 0, []), zN, zN, (.aload_n 0, 0, 0, []), (.getfield 25, 11, 3, []), zN, zN, (.iload_n 3, 3, 0, []), (.putfield 168, 0, 6, []), zN, zN, (.goto 34, 48, 0, []), zN], [zN, (.iload_n 2, 2, 0, []), (.bipush 10, 0, 0, []), zN, (.if_icmp .eq 28, 48, 0, []), zN, zN, (.aload_n 0, 0, 0, []), (.getfield 25, 11, 3, []), zN, zN, (.iload_n 1, 1, 0, []), (.invokevirtual 98, 1000, 1, [(0, 1)]), zN, zN, (.ifCond .eq 17, 48, 0, [])], [zN, zN, (.aload_n 0, 0, 0, []), (.getfield 25, 11, 3, []), zN, zN, (.getfield 108, 0, 0, []), zN, zN, (.iload_n 1, 1, 0, []), (.aaload, 0, 0, []), (.iload_n 2, 2, 0, []), (.iload_n 3, 3, 0, []), (.invokevirtual 117, 1000, 2, [(5, 28)]), zN, zN], [(.return_, 0, 0, [])]]
def zcX11_firstOtherwise : List (List zE) := [[(.aload_n 0, 0, 0, []), (.getfield 25, 11, 3, []), zN, zN, (.iload_n 2, 2, 0, []), (.invokevirtual 98, 1000, 1, [(0, 1)]), zN, zN, (.ifCond .ne 5, 13, 0, []), zN, zN, (.iconst 0, 0, 0, []), (.ireturn, 0, 0, []), (.iconst 0, 0, 0, []), (.istore_n 3, 3, 0, []), (.iload_n 3, 3, 0, [])], [(.aload_n 1, 1, 0, []), (.getfield 178, 8, 2, []), zN, zN, (.if_icmp .ge 40, 60, 0, []), zN, zN, (.aload_n 0, 0, 0, []), (.aload_n 0, 0, 0, []), (.getfield 25, 11, 3, []), zN, zN, (.aload_n 0, 0, 0, []), (.getfield 25, 11, 3, []), zN, zN], [(.getfield 108, 0, 0, []), zN, zN, (.iload_n 2, 2, 0, []), (.aaload, 0, 0, []), (.iconst 1, 0, 0, []), (.iload_n 3, 3, 0, []), (.ishl, 0, 0, []), (.invokevirtual 151, 1000, 3, [(11, 94)]), zN, zN, (.aload_n 1, 1, 0, []), (.getfield 179, 8, 0, []), zN, zN, (.iload_n 3, 3, 0, [])], [(.iaload, 0, 0, []), (.if_icmp .eq 5, 54, 0, []), zN, zN, (.iload_n 3, 3, 0, []), (.ireturn, 0, 0, []), (.iinc 3 1, 3, 0, []), zN, zN, (.goto (-42), 15, 0, []), zN, zN, (.iconst (-1), 0, 0, []), (.ireturn, 0, 0, [])]]
def zcX11_film : List (List zE) := [[(.iload_n 1, 1, 0, []), (.invokestatic 171, 129, 1, [(0, 0)]), zN, zN, (.ifCond .eq 14, 18, 0, []), zN, zN, (.aload_n 0, 0, 0, []), (.getfield 18, 11, 1, []), zN, zN, (.iload_n 2, 2, 0, []), (.invokevirtual 98, 1000, 1, [(0, 1)]), zN, zN, (.ifCond .ne 6, 21, 0, [])], [zN, zN, (.bipush (-2), 0, 0, []), zN, (.ireturn, 0, 0, []), (.aload_n 0, 0, 0, []), (.getfield 40, 11, 9, []), zN, zN, (.iload_n 1, 1, 0, []), (.aaload, 0, 0, []), (.astore_n 3, 3, 0, []), (.iconst 0, 0, 0, []), (.istore 4, 4, 0, []), zN, (.aload_n 3, 3, 0, [])], [(.iconst 1, 0, 0, []), (.bipush 10, 0, 0, []), zN, (.invokevirtual 288, 1000, 2, [(8, 62)]), zN, zN, (.iconst 0, 0, 0, []), (.istore 5, 5, 0, []), zN, (.iload 5, 5, 0, []), zN, (.bipush 10, 0, 0, []), zN, (.if_icmp .ge 52, 97, 0, []), zN, zN], [(.aload_n 0, 0, 0, []), (.aload_n 0, 0, 0, []), (.getfield 18, 11, 1, []), zN, zN, (.aload_n 0, 0, 0, []), (.getfield 18, 11, 1, []), zN, zN, (.getfield 108, 0, 0, []), zN, zN, (.iload_n 2, 2, 0, []), (.aaload, 0, 0, []), (.iconst 1, 0, 0, []), (.iload 5, 5, 0, [])], [zN, (.ishl, 0, 0, []), (.invokevirtual 151, 1000, 3, [(11, 94)]), zN, zN, (.istore 6, 6, 0, []), zN, (.aload_n 3, 3, 0, []), (.iload 5, 5, 0, []), zN, (.iload 6, 6, 0, []), zN, (.invokevirtual 289, 1000, 2, [(8, 63)]), zN, zN, (.iload 6, 6, 0, [])], [zN, (.iconst 1, 0, 0, []), (.iload 5, 5, 0, []), zN, (.ishl, 0, 0, []), (.if_icmp .ne 6, 91, 0, []), zN, zN, (.iinc 4 1, 4, 0, []), zN, zN, (.iinc 5 1, 5, 0, []), zN, zN, (.goto (-53), 41, 0, []), zN], [zN, (.iload 4, 4, 0, []), zN, (.ireturn, 0, 0, [])]]
def zcX11_drawn : List (List zE) := [[(.iload_n 2, 2, 0, []), (.ifCond .lt 9, 10, 0, []), zN, zN, (.iload_n 2, 2, 0, []), (.bipush 40, 0, 0, []), zN, (.if_icmp .le 6, 13, 0, []), zN, zN, (.bipush (-2), 0, 0, []), zN, (.ireturn, 0, 0, []), (.aload_n 0, 0, 0, []), (.iload_n 1, 1, 0, []), (.iload_n 2, 2, 0, [])], [(.invokevirtual 291, 1000, 2, [(11, 120)]), zN, zN, (.ireturn, 0, 0, [])]]
def zcX11_chance : List (List zE) := [[(.iload_n 2, 2, 0, []), (.iconst 1, 0, 0, []), (.if_icmp .lt 30, 32, 0, []), zN, zN, (.iload_n 2, 2, 0, []), (.bipush 40, 0, 0, []), zN, (.if_icmp .gt 24, 32, 0, []), zN, zN, (.iload_n 3, 3, 0, []), (.ifCond .lt 20, 32, 0, []), zN, zN, (.iload_n 3, 3, 0, [])], [(.bipush 10, 0, 0, []), zN, (.if_icmp .gt 14, 32, 0, []), zN, zN, (.iload 4, 4, 0, []), zN, (.ifCond .lt 9, 32, 0, []), zN, zN, (.iload 4, 4, 0, []), zN, (.iconst 1, 0, 0, []), (.if_icmp .le 7, 36, 0, []), zN, zN], [(.ldc2_w 268, 0, 0, [((-4611686018427387904), 0)]), zN, zN, (.lreturn, 0, 0, []), (.iconst 0, 0, 0, []), (.istore 5, 5, 0, []), zN, (.iconst 0, 0, 0, []), (.istore 6, 6, 0, []), zN, (.iload 6, 6, 0, []), zN, (.iload_n 2, 2, 0, []), (.if_icmp .ge 25, 70, 0, []), zN, zN], [(.aload_n 0, 0, 0, []), (.iload_n 1, 1, 0, []), (.iload 6, 6, 0, []), zN, (.iadd, 0, 0, []), (.iconst 1, 0, 0, []), (.invokevirtual 291, 1000, 2, [(11, 120)]), zN, zN, (.iload_n 3, 3, 0, []), (.if_icmp .gt 6, 64, 0, []), zN, zN, (.iinc 5 1, 5, 0, []), zN, zN], [(.iinc 6 1, 6, 0, []), zN, zN, (.goto (-25), 42, 0, []), zN, zN, (.iload 5, 5, 0, []), zN, (.iload_n 2, 2, 0, []), (.iload 4, 4, 0, []), zN, (.invokestatic 270, 111, 3, [(0, 0)]), zN, zN, (.lreturn, 0, 0, [])]]
def zcX11_offOfDrawn : List (List zE) := [[(.iload_n 1, 1, 0, []), (.istore_n 3, 3, 0, []), (.iconst 0, 0, 0, []), (.istore 4, 4, 0, []), zN, (.iconst 0, 0, 0, []), (.istore 5, 5, 0, []), zN, (.iload 5, 5, 0, []), zN, (.iload_n 2, 2, 0, []), (.if_icmp .ge 49, 60, 0, []), zN, zN, (.iload_n 3, 3, 0, []), (.ldc_w 294, 0, 0, [(1103515245, 0)])], [zN, zN, (.imul, 0, 0, []), (.sipush 12345, 0, 0, []), zN, zN, (.iadd, 0, 0, []), (.istore_n 3, 3, 0, []), (.iload_n 3, 3, 0, []), (.bipush 9, 0, 0, []), zN, (.iushr, 0, 0, []), (.sipush 1024, 0, 0, []), zN, zN, (.irem, 0, 0, [])], [(.istore 6, 6, 0, []), zN, (.iload 4, 4, 0, []), zN, (.iload 6, 6, 0, []), zN, (.aload_n 0, 0, 0, []), (.aload_n 0, 0, 0, []), (.getfield 18, 11, 1, []), zN, zN, (.iload 6, 6, 0, []), zN, (.invokevirtual 251, 1000, 2, [(11, 97)]), zN, zN], [(.invokestatic 186, 101, 2, [(0, 0)]), zN, zN, (.iadd, 0, 0, []), (.istore 4, 4, 0, []), zN, (.iinc 5 1, 5, 0, []), zN, zN, (.goto (-49), 8, 0, []), zN, zN, (.iload 4, 4, 0, []), zN, (.ireturn, 0, 0, [])]]
def zcX11_image : List (List zE) := [[(.aload_n 0, 0, 0, []), (.getfield 22, 11, 2, []), zN, zN, (.aload_n 0, 0, 0, []), (.getfield 18, 11, 1, []), zN, zN, (.invokevirtual 197, 1000, 1, [(0, 3)]), zN, zN, (.aload_n 0, 0, 0, []), (.iconst 1, 0, 0, []), (.putfield 295, 11, 4, []), zN, zN], [(.aload_n 0, 0, 0, []), (.getfield 22, 11, 2, []), zN, zN, (.getfield 124, 0, 2, []), zN, zN, (.ireturn, 0, 0, [])]]
def zcX11_back : List (List zE) := [[(.aload_n 0, 0, 0, []), (.getfield 295, 11, 4, []), zN, zN, (.ifCond .ne 6, 10, 0, []), zN, zN, (.bipush (-3), 0, 0, []), zN, (.ireturn, 0, 0, []), (.aload_n 0, 0, 0, []), (.getfield 18, 11, 1, []), zN, zN, (.aload_n 0, 0, 0, []), (.getfield 22, 11, 2, [])], [zN, zN, (.invokevirtual 197, 1000, 1, [(0, 3)]), zN, zN, (.aload_n 0, 0, 0, []), (.getfield 18, 11, 1, []), zN, zN, (.getfield 124, 0, 2, []), zN, zN, (.ireturn, 0, 0, [])]]
def zcX11_count : List (List zE) := [[(.iload_n 1, 1, 0, []), (.tableswitch 84 0 5 #[39, 47, 55, 63, 68, 76], 85, 0, [(0, 40), (1, 48), (2, 56), (3, 64), (4, 69), (5, 77)]), zN, zN, zN, zN, zN, zN, zN, zN, zN, zN, zN, zN, zN, zN], [zN, zN, zN, zN, zN, zN, zN, zN, zN, zN, zN, zN, zN, zN, zN, zN], [zN, zN, zN, zN, zN, zN, zN, zN, (.aload_n 0, 0, 0, []), (.getfield 18, 11, 1, []), zN, zN, (.getfield 124, 0, 2, []), zN, zN, (.ireturn, 0, 0, [])], [(.aload_n 0, 0, 0, []), (.getfield 18, 11, 1, []), zN, zN, (.getfield 142, 0, 3, []), zN, zN, (.ireturn, 0, 0, []), (.aload_n 0, 0, 0, []), (.getfield 18, 11, 1, []), zN, zN, (.getfield 105, 0, 4, []), zN, zN, (.ireturn, 0, 0, [])], [(.aload_n 0, 0, 0, []), (.getfield 94, 11, 7, []), zN, zN, (.ireturn, 0, 0, []), (.aload_n 0, 0, 0, []), (.getfield 70, 11, 6, []), zN, zN, (.getfield 165, 7, 1, []), zN, zN, (.ireturn, 0, 0, []), (.aload_n 0, 0, 0, []), (.getfield 18, 11, 1, []), zN], [zN, (.getfield 168, 0, 6, []), zN, zN, (.ireturn, 0, 0, []), (.bipush (-2), 0, 0, []), zN, (.ireturn, 0, 0, [])]]
def zcX11_sheet : List (List zE) := [[(.iload_n 1, 1, 0, []), (.invokestatic 171, 129, 1, [(0, 0)]), zN, zN, (.ifCond .eq 13, 17, 0, []), zN, zN, (.iload_n 2, 2, 0, []), (.iconst (-1), 0, 0, []), (.if_icmp .lt 8, 17, 0, []), zN, zN, (.iload_n 2, 2, 0, []), (.iconst 3, 0, 0, []), (.if_icmp .lt 6, 20, 0, []), zN], [zN, (.bipush (-2), 0, 0, []), zN, (.ireturn, 0, 0, []), (.iload_n 2, 2, 0, []), (.iconst (-1), 0, 0, []), (.if_icmp .ne 16, 38, 0, []), zN, zN, (.aload_n 0, 0, 0, []), (.getfield 40, 11, 9, []), zN, zN, (.iload_n 1, 1, 0, []), (.aaload, 0, 0, []), (.iconst (-1), 0, 0, [])], [(.iconst 0, 0, 0, []), (.invokevirtual 288, 1000, 2, [(8, 62)]), zN, zN, (.iconst 1, 0, 0, []), (.ireturn, 0, 0, []), (.iload_n 3, 3, 0, []), (.bipush 40, 0, 0, []), zN, (.if_icmp .le 6, 47, 0, []), zN, zN, (.bipush (-2), 0, 0, []), zN, (.ireturn, 0, 0, []), (.iload_n 3, 3, 0, [])], [(.ifCond .ge 6, 54, 0, []), zN, zN, (.bipush (-14), 0, 0, []), zN, (.ireturn, 0, 0, []), (.aload_n 0, 0, 0, []), (.getfield 40, 11, 9, []), zN, zN, (.iload_n 1, 1, 0, []), (.aaload, 0, 0, []), (.iload_n 2, 2, 0, []), (.iload_n 3, 3, 0, []), (.invokevirtual 288, 1000, 2, [(8, 62)]), zN], [zN, (.iconst 1, 0, 0, []), (.ireturn, 0, 0, [])]]
def zcX11_cell : List (List zE) := [[(.iload_n 1, 1, 0, []), (.invokestatic 171, 129, 1, [(0, 0)]), zN, zN, (.ifCond .ne 6, 10, 0, []), zN, zN, (.bipush (-2), 0, 0, []), zN, (.ireturn, 0, 0, []), (.aload_n 0, 0, 0, []), (.getfield 40, 11, 9, []), zN, zN, (.iload_n 1, 1, 0, []), (.aaload, 0, 0, [])], [(.invokevirtual 174, 1000, 0, [(8, 60)]), zN, zN, (.ifCond .eq 6, 25, 0, []), zN, zN, (.bipush (-11), 0, 0, []), zN, (.ireturn, 0, 0, []), (.aload_n 0, 0, 0, []), (.getfield 40, 11, 9, []), zN, zN, (.iload_n 1, 1, 0, []), (.aaload, 0, 0, []), (.iload_n 2, 2, 0, [])], [(.iconst 1, 0, 0, []), (.invokevirtual 299, 1000, 2, [(8, 61)]), zN, zN, (.ifCond .ne 6, 42, 0, []), zN, zN, (.bipush (-12), 0, 0, []), zN, (.ireturn, 0, 0, []), (.aload_n 0, 0, 0, []), (.getfield 40, 11, 9, []), zN, zN, (.iload_n 1, 1, 0, []), (.aaload, 0, 0, [])], [(.iload_n 2, 2, 0, []), (.iload_n 3, 3, 0, []), (.invokevirtual 289, 1000, 2, [(8, 63)]), zN, zN, (.iconst 1, 0, 0, []), (.ireturn, 0, 0, [])]]
def zcX11_copy : List (List zE) := [[(.iload_n 1, 1, 0, []), (.invokestatic 171, 129, 1, [(0, 0)]), zN, zN, (.ifCond .eq 10, 14, 0, []), zN, zN, (.iload_n 3, 3, 0, []), (.invokestatic 171, 129, 1, [(0, 0)]), zN, zN, (.ifCond .ne 6, 17, 0, []), zN, zN, (.bipush (-2), 0, 0, []), zN], [(.ireturn, 0, 0, []), (.aload_n 0, 0, 0, []), (.getfield 40, 11, 9, []), zN, zN, (.iload_n 1, 1, 0, []), (.aaload, 0, 0, []), (.astore 6, 6, 0, []), zN, (.aload_n 0, 0, 0, []), (.getfield 40, 11, 9, []), zN, zN, (.iload_n 3, 3, 0, []), (.aaload, 0, 0, []), (.astore 7, 7, 0, [])], [zN, (.aload 6, 6, 0, []), zN, (.invokevirtual 174, 1000, 0, [(8, 60)]), zN, zN, (.ifCond .ne 11, 49, 0, []), zN, zN, (.aload 7, 7, 0, []), zN, (.invokevirtual 174, 1000, 0, [(8, 60)]), zN, zN, (.ifCond .eq 6, 52, 0, []), zN], [zN, (.bipush (-11), 0, 0, []), zN, (.ireturn, 0, 0, []), (.aload 6, 6, 0, []), zN, (.getfield 303, 8, 1, []), zN, zN, (.aload 7, 7, 0, []), zN, (.getfield 303, 8, 1, []), zN, zN, (.if_icmp .eq 6, 68, 0, []), zN], [zN, (.bipush (-13), 0, 0, []), zN, (.ireturn, 0, 0, []), (.aload 6, 6, 0, []), zN, (.iload_n 2, 2, 0, []), (.iload 5, 5, 0, []), zN, (.invokevirtual 299, 1000, 2, [(8, 61)]), zN, zN, (.ifCond .eq 15, 91, 0, []), zN, zN, (.aload 7, 7, 0, [])], [zN, (.iload 4, 4, 0, []), zN, (.iload 5, 5, 0, []), zN, (.invokevirtual 299, 1000, 2, [(8, 61)]), zN, zN, (.ifCond .ne 6, 94, 0, []), zN, zN, (.bipush (-12), 0, 0, []), zN, (.ireturn, 0, 0, []), (.aload 6, 6, 0, []), zN], [(.getfield 179, 8, 0, []), zN, zN, (.iload_n 2, 2, 0, []), (.aload 7, 7, 0, []), zN, (.getfield 179, 8, 0, []), zN, zN, (.iload 4, 4, 0, []), zN, (.iload 5, 5, 0, []), zN, (.invokestatic 306, 1000, 5, [(7, 0)]), zN, zN], [(.iload 5, 5, 0, []), zN, (.ireturn, 0, 0, [])]]
def zcX11_crew : List (List zE) := [[(.iload_n 1, 1, 0, []), (.invokestatic 171, 129, 1, [(0, 0)]), zN, zN, (.ifCond .eq 23, 27, 0, []), zN, zN, (.iload_n 2, 2, 0, []), (.ifCond .lt 19, 27, 0, []), zN, zN, (.iload_n 2, 2, 0, []), (.iconst 3, 0, 0, []), (.if_icmp .ge 14, 27, 0, []), zN, zN], [(.iload 4, 4, 0, []), zN, (.ifCond .lt 9, 27, 0, []), zN, zN, (.iload 4, 4, 0, []), zN, (.iconst 5, 0, 0, []), (.if_icmp .le 6, 30, 0, []), zN, zN, (.bipush (-2), 0, 0, []), zN, (.ireturn, 0, 0, []), (.aload_n 0, 0, 0, []), (.getfield 40, 11, 9, [])], [zN, zN, (.iload_n 1, 1, 0, []), (.aaload, 0, 0, []), (.astore 5, 5, 0, []), zN, (.aload 5, 5, 0, []), zN, (.invokevirtual 174, 1000, 0, [(8, 60)]), zN, zN, (.ifCond .eq 6, 49, 0, []), zN, zN, (.bipush (-11), 0, 0, []), zN], [(.ireturn, 0, 0, []), (.aload 5, 5, 0, []), zN, (.getfield 303, 8, 1, []), zN, zN, (.iload_n 2, 2, 0, []), (.if_icmp .eq 6, 61, 0, []), zN, zN, (.bipush (-13), 0, 0, []), zN, (.ireturn, 0, 0, []), (.iconst 0, 0, 0, []), (.istore 6, 6, 0, []), zN], [(.iload_n 3, 3, 0, []), (.istore 7, 7, 0, []), zN, (.iconst 0, 0, 0, []), (.istore 8, 8, 0, []), zN, (.iload 8, 8, 0, []), zN, (.iload 4, 4, 0, []), zN, (.if_icmp .ge 69, 143, 0, []), zN, zN, (.aload 5, 5, 0, []), zN, (.iload 7, 7, 0, [])], [zN, (.iconst 4, 0, 0, []), (.invokevirtual 299, 1000, 2, [(8, 61)]), zN, zN, (.ifCond .ne 6, 91, 0, []), zN, zN, (.bipush (-12), 0, 0, []), zN, (.ireturn, 0, 0, []), (.aload 5, 5, 0, []), zN, (.getfield 179, 8, 0, []), zN, zN], [(.astore 9, 9, 0, []), zN, (.aload_n 0, 0, 0, []), (.aload 9, 9, 0, []), zN, (.iload 7, 7, 0, []), zN, (.iaload, 0, 0, []), (.aload 9, 9, 0, []), zN, (.iload 7, 7, 0, []), zN, (.iconst 1, 0, 0, []), (.iadd, 0, 0, []), (.iaload, 0, 0, []), (.aload 9, 9, 0, [])], [zN, (.iload 7, 7, 0, []), zN, (.iconst 2, 0, 0, []), (.iadd, 0, 0, []), (.iaload, 0, 0, []), (.aload 9, 9, 0, []), zN, (.iload 7, 7, 0, []), zN, (.iconst 3, 0, 0, []), (.iadd, 0, 0, []), (.iaload, 0, 0, []), (.invokevirtual 312, 1000, 4, [(11, 78)]), zN, zN], [(.ifCond .lt 6, 134, 0, []), zN, zN, (.iinc 6 1, 6, 0, []), zN, zN, (.iinc 7 4, 7, 0, []), zN, zN, (.iinc 8 1, 8, 0, []), zN, zN, (.goto (-70), 70, 0, []), zN, zN, (.iload 6, 6, 0, [])], [zN, (.ireturn, 0, 0, [])]]
def zcX11_taken : List (List zE) := [[(.iload_n 2, 2, 0, []), (.ifCond .lt 9, 10, 0, []), zN, zN, (.iload_n 2, 2, 0, []), (.bipush 6, 0, 0, []), zN, (.if_icmp .lt 6, 13, 0, []), zN, zN, (.bipush (-2), 0, 0, []), zN, (.ireturn, 0, 0, []), (.aload_n 0, 0, 0, []), (.getfield 18, 11, 1, []), zN], [zN, (.iload_n 1, 1, 0, []), (.invokevirtual 98, 1000, 1, [(0, 1)]), zN, zN, (.ifCond .ne 6, 27, 0, []), zN, zN, (.bipush (-11), 0, 0, []), zN, (.ireturn, 0, 0, []), (.aload_n 0, 0, 0, []), (.getfield 18, 11, 1, []), zN, zN, (.getfield 108, 0, 0, [])], [zN, zN, (.iload_n 1, 1, 0, []), (.aaload, 0, 0, []), (.astore_n 3, 3, 0, []), (.aload_n 0, 0, 0, []), (.aload_n 3, 3, 0, []), (.invokevirtual 200, 1000, 1, [(11, 92)]), zN, zN, (.iload_n 2, 2, 0, []), (.invokevirtual 316, 1000, 1, [(9, 65), (1, 5), (2, 11), (3, 17), (4, 22), (6, 31)]), zN, zN, (.ifCond .eq 10, 56, 0, []), zN], [zN, (.aload_n 3, 3, 0, []), (.getfield 130, 5, 1, []), zN, zN, (.goto 5, 58, 0, []), zN, zN, (.bipush (-13), 0, 0, []), zN, (.ireturn, 0, 0, [])]]
def zcX11_isSheet : List (List zE) := [[(.iload_n 0, 0, 0, []), (.ifCond .lt 12, 13, 0, []), zN, zN, (.iload_n 0, 0, 0, []), (.iconst 4, 0, 0, []), (.if_icmp .ge 7, 13, 0, []), zN, zN, (.iconst 1, 0, 0, []), (.goto 4, 14, 0, []), zN, zN, (.iconst 0, 0, 0, []), (.ireturn, 1, 0, [])]]
def zcX12_in : List (List zE) := [[(.lload_n 0, 0, 0, []), (.lload_n 2, 2, 0, []), (.lcmp, 0, 0, []), (.ifCond .lt 14, 17, 0, []), zN, zN, (.lload_n 0, 0, 0, []), (.lload 4, 4, 0, []), zN, (.lcmp, 0, 0, []), (.ifCond .gt 7, 17, 0, []), zN, zN, (.iconst 1, 0, 0, []), (.goto 4, 18, 0, []), zN], [zN, (.iconst 0, 0, 0, []), (.ireturn, 1, 0, [])]]
def zcX12_within : List (List zE) := [[(.iload_n 0, 0, 0, []), (.iload_n 1, 1, 0, []), (.if_icmp .ge 7, 9, 0, []), zN, zN, (.iload_n 1, 1, 0, []), (.goto 13, 19, 0, []), zN, zN, (.iload_n 0, 0, 0, []), (.iload_n 2, 2, 0, []), (.if_icmp .le 7, 18, 0, []), zN, zN, (.iload_n 2, 2, 0, []), (.goto 4, 19, 0, [])], [zN, zN, (.iload_n 0, 0, 0, []), (.ireturn, 0, 0, [])]]
def zcX12_init : List (List zE) := [[(.aload_n 0, 0, 0, []), (.invokespecial 7, 1003, 0, [(6, 0)]), zN, zN, (.aload_n 0, 0, 0, []), (.sipush 960, 0, 0, []), zN, zN, (.newarray .int, 0, 0, []), zN, (.putfield 13, 12, 1, []), zN, zN, (.aload_n 0, 0, 0, []), (.bipush 6, 0, 0, []), zN], [(.newarray .int, 0, 0, []), zN, (.putfield 17, 12, 2, []), zN, zN, (.aload_n 0, 0, 0, []), (.sipush 160, 0, 0, []), zN, zN, (.newarray .int, 0, 0, []), zN, (.putfield 20, 12, 5, []), zN, zN, (.aload_n 0, 0, 0, []), (.bipush 25, 0, 0, [])], [zN, (.newarray .int, 0, 0, []), zN, (.putfield 23, 12, 8, []), zN, zN, (.aload_n 0, 0, 0, []), (.bipush 8, 0, 0, []), zN, (.newarray .int, 0, 0, []), zN, (.putfield 26, 12, 10, []), zN, zN, (.aload_n 0, 0, 0, []), (.bipush 36, 0, 0, [])], [zN, (.newarray .int, 0, 0, []), zN, (.putfield 29, 12, 29, []), zN, zN, (.aload_n 0, 0, 0, []), (.bipush 61, 0, 0, []), zN, (.newarray .int, 0, 0, []), zN, (.putfield 32, 12, 30, []), zN, zN, (.aload_n 0, 0, 0, []), (.bipush 25, 0, 0, [])], [zN, (.newarray .int, 0, 0, []), zN, (.putfield 35, 12, 34, []), zN, zN, (.aload_n 0, 0, 0, []), (.bipush 8, 0, 0, []), zN, (.newarray .int, 0, 0, []), zN, (.putfield 38, 12, 35, []), zN, zN, (.aload_n 0, 0, 0, []), (.iconst (-1), 0, 0, [])], [(.putfield 41, 12, 36, []), zN, zN, (.aload_n 0, 0, 0, []), (.iconst 4, 0, 0, []), (.newarray .boolean, 1, 0, []), zN, (.putfield 44, 12, 41, []), zN, zN, (.aload_n 0, 0, 0, []), (.iconst 4, 0, 0, []), (.newarray .int, 0, 0, []), zN, (.putfield 48, 12, 42, []), zN], [zN, (.aload_n 0, 0, 0, []), (.iconst 4, 0, 0, []), (.newarray .int, 0, 0, []), zN, (.putfield 51, 12, 43, []), zN, zN, (.aload_n 0, 0, 0, []), (.sipush 160, 0, 0, []), zN, zN, (.newarray .int, 0, 0, []), zN, (.putfield 54, 12, 44, []), zN], [zN, (.aload_n 0, 0, 0, []), (.iconst 0, 0, 0, []), (.bipush 107, 0, 0, []), zN, (.bipush 101, 0, 0, []), zN, (.bipush 101, 0, 0, []), zN, (.bipush 112, 0, 0, []), zN, (.bipush 115, 0, 0, []), zN, (.bipush 32, 0, 0, []), zN, (.bipush 109, 0, 0, [])], [zN, (.bipush 101, 0, 0, []), zN, (.invokevirtual 57, 1000, 9, [(12, 133)]), zN, zN, (.aload_n 0, 0, 0, []), (.bipush 8, 0, 0, []), zN, (.bipush 109, 0, 0, []), zN, (.bipush 111, 0, 0, []), zN, (.bipush 114, 0, 0, []), zN, (.bipush 121, 0, 0, [])], [zN, (.bipush 32, 0, 0, []), zN, (.bipush 59, 0, 0, []), zN, (.bipush 32, 0, 0, []), zN, (.bipush 116, 0, 0, []), zN, (.invokevirtual 57, 1000, 9, [(12, 133)]), zN, zN, (.aload_n 0, 0, 0, []), (.bipush 16, 0, 0, []), zN, (.bipush 105, 0, 0, [])], [zN, (.bipush 114, 0, 0, []), zN, (.bipush 101, 0, 0, []), zN, (.bipush 115, 0, 0, []), zN, (.bipush 32, 0, 0, []), zN, (.bipush 48, 0, 0, []), zN, (.bipush 32, 0, 0, []), zN, (.bipush 59, 0, 0, []), zN, (.invokevirtual 57, 1000, 9, [(12, 133)])], [zN, zN, (.aload_n 0, 0, 0, []), (.bipush 24, 0, 0, []), zN, (.bipush 32, 0, 0, []), zN, (.bipush 108, 0, 0, []), zN, (.bipush 101, 0, 0, []), zN, (.bipush 97, 0, 0, []), zN, (.bipush 114, 0, 0, []), zN, (.bipush 110, 0, 0, [])], [zN, (.bipush 115, 0, 0, []), zN, (.bipush 32, 0, 0, []), zN, (.invokevirtual 57, 1000, 9, [(12, 133)]), zN, zN, (.aload_n 0, 0, 0, []), (.bipush 32, 0, 0, []), zN, (.bipush 48, 0, 0, []), zN, (.bipush 32, 0, 0, []), zN, (.bipush 59, 0, 0, [])], [zN, (.bipush 32, 0, 0, []), zN, (.bipush 32, 0, 0, []), zN, (.bipush 32, 0, 0, []), zN, (.bipush 32, 0, 0, []), zN, (.bipush 32, 0, 0, []), zN, (.invokevirtual 57, 1000, 9, [(12, 133)]), zN, zN, (.aload_n 0, 0, 0, []), (.getfield 17, 12, 2, [])], [zN, zN, (.iconst 0, 0, 0, []), (.bipush 40, 0, 0, []), zN, (.iastore, 0, 0, []), (.aload_n 0, 0, 0, []), (.iconst 1, 0, 0, []), (.putfield 61, 12, 3, []), zN, zN, (.return_, 0, 0, [])]]
def zcX12_spell : List (List zE) := [[(.aload_n 0, 0, 0, []), (.getfield 13, 12, 1, []), zN, zN, (.iload_n 1, 1, 0, []), (.iload_n 2, 2, 0, []), (.iastore, 0, 0, []), (.aload_n 0, 0, 0, []), (.getfield 13, 12, 1, []), zN, zN, (.iload_n 1, 1, 0, []), (.iconst 1, 0, 0, []), (.iadd, 0, 0, []), (.iload_n 3, 3, 0, []), (.iastore, 0, 0, [])], [(.aload_n 0, 0, 0, []), (.getfield 13, 12, 1, []), zN, zN, (.iload_n 1, 1, 0, []), (.iconst 2, 0, 0, []), (.iadd, 0, 0, []), (.iload 4, 4, 0, []), zN, (.iastore, 0, 0, []), (.aload_n 0, 0, 0, []), (.getfield 13, 12, 1, []), zN, zN, (.iload_n 1, 1, 0, []), (.iconst 3, 0, 0, [])], [(.iadd, 0, 0, []), (.iload 5, 5, 0, []), zN, (.iastore, 0, 0, []), (.aload_n 0, 0, 0, []), (.getfield 13, 12, 1, []), zN, zN, (.iload_n 1, 1, 0, []), (.iconst 4, 0, 0, []), (.iadd, 0, 0, []), (.iload 6, 6, 0, []), zN, (.iastore, 0, 0, []), (.aload_n 0, 0, 0, []), (.getfield 13, 12, 1, [])], [zN, zN, (.iload_n 1, 1, 0, []), (.iconst 5, 0, 0, []), (.iadd, 0, 0, []), (.iload 7, 7, 0, []), zN, (.iastore, 0, 0, []), (.aload_n 0, 0, 0, []), (.getfield 13, 12, 1, []), zN, zN, (.iload_n 1, 1, 0, []), (.bipush 6, 0, 0, []), zN, (.iadd, 0, 0, [])], [(.iload 8, 8, 0, []), zN, (.iastore, 0, 0, []), (.aload_n 0, 0, 0, []), (.getfield 13, 12, 1, []), zN, zN, (.iload_n 1, 1, 0, []), (.bipush 7, 0, 0, []), zN, (.iadd, 0, 0, []), (.iload 9, 9, 0, []), zN, (.iastore, 0, 0, []), (.return_, 0, 0, [])]]
def zcX12_isOne : List (List zE) := [[(.iload_n 1, 1, 0, []), (.i2l, 0, 0, []), (.lconst 0, 0, 0, []), (.aload_n 0, 0, 0, []), (.getfield 64, 12, 9, []), zN, zN, (.iconst 1, 0, 0, []), (.isub, 0, 0, []), (.i2l, 0, 0, []), (.invokestatic 67, 130, 3, [(0, 0)]), zN, zN, (.ireturn, 1, 0, [])]]
def zcX12_isOf : List (List zE) := [[(.iload_n 1, 1, 0, []), (.ifCond .eq 42, 43, 0, []), zN, zN, (.iload_n 1, 1, 0, []), (.bipush 6, 0, 0, []), zN, (.if_icmp .gt 36, 43, 0, []), zN, zN, (.iload_n 1, 1, 0, []), (.bipush 6, 0, 0, []), zN, (.if_icmp .ne 22, 35, 0, []), zN, zN], [(.iload_n 2, 2, 0, []), (.i2l, 0, 0, []), (.lconst 0, 0, 0, []), (.aload_n 0, 0, 0, []), (.getfield 71, 12, 11, []), zN, zN, (.iconst 1, 0, 0, []), (.isub, 0, 0, []), (.i2l, 0, 0, []), (.invokestatic 67, 130, 3, [(0, 0)]), zN, zN, (.ifCond .eq 18, 47, 0, []), zN, zN], [(.goto 11, 43, 0, []), zN, zN, (.aload_n 0, 0, 0, []), (.iload_n 2, 2, 0, []), (.invokevirtual 74, 1000, 1, [(12, 134)]), zN, zN, (.ifCond .eq 7, 47, 0, []), zN, zN, (.iconst 1, 0, 0, []), (.goto 4, 48, 0, []), zN, zN, (.iconst 0, 0, 0, [])], [(.ireturn, 1, 0, [])]]
def zcX12_mostOf : List (List zE) := [[(.iload_n 0, 0, 0, []), (.ifCond .ne 9, 10, 0, []), zN, zN, (.sipush 999, 0, 0, []), zN, zN, (.goto 26, 33, 0, []), zN, zN, (.iload_n 0, 0, 0, []), (.iconst 1, 0, 0, []), (.if_icmp .ne 8, 20, 0, []), zN, zN, (.bipush 9, 0, 0, [])], [zN, (.goto 16, 33, 0, []), zN, zN, (.iload_n 0, 0, 0, []), (.iconst 2, 0, 0, []), (.if_icmp .ne 9, 31, 0, []), zN, zN, (.sipush 1023, 0, 0, []), zN, zN, (.goto 5, 33, 0, []), zN, zN, (.bipush 99, 0, 0, [])], [zN, (.ireturn, 0, 0, [])]]
def zcX12_set : List (List zE) := [[(.iload_n 1, 1, 0, []), (.i2l, 0, 0, []), (.lconst 0, 0, 0, []), (.ldc2_w 78, 0, 0, [(4, 0)]), zN, zN, (.invokestatic 67, 130, 3, [(0, 0)]), zN, zN, (.ifCond .eq 26, 35, 0, []), zN, zN, (.aload_n 0, 0, 0, []), (.iload_n 1, 1, 0, []), (.iload_n 2, 2, 0, []), (.invokevirtual 80, 1000, 2, [(12, 135)])], [zN, zN, (.ifCond .eq 17, 35, 0, []), zN, zN, (.iload_n 3, 3, 0, []), (.i2l, 0, 0, []), (.lconst 0, 0, 0, []), (.iload_n 1, 1, 0, []), (.invokestatic 84, 136, 1, [(0, 0)]), zN, zN, (.i2l, 0, 0, []), (.invokestatic 67, 130, 3, [(0, 0)]), zN, zN], [(.ifCond .ne 6, 38, 0, []), zN, zN, (.bipush (-2), 0, 0, []), zN, (.ireturn, 0, 0, []), (.aload_n 0, 0, 0, []), (.iload_n 2, 2, 0, []), (.iload_n 1, 1, 0, []), (.invokevirtual 88, 1000, 2, [(12, 140)]), zN, zN, (.istore 4, 4, 0, []), zN, (.aload_n 0, 0, 0, []), (.iload_n 1, 1, 0, [])], [(.iload_n 2, 2, 0, []), (.iload_n 3, 3, 0, []), (.invokevirtual 92, 1000, 3, [(12, 138)]), zN, zN, (.iload 4, 4, 0, []), zN, (.ireturn, 0, 0, [])]]
def zcX12_lays : List (List zE) := [[(.iload_n 1, 1, 0, []), (.ifCond .ne 11, 12, 0, []), zN, zN, (.aload_n 0, 0, 0, []), (.iload_n 3, 3, 0, []), (.putfield 96, 12, 7, []), zN, zN, (.goto 30, 39, 0, []), zN, zN, (.iload_n 1, 1, 0, []), (.bipush 6, 0, 0, []), zN, (.if_icmp .ge 19, 34, 0, [])], [zN, zN, (.aload_n 0, 0, 0, []), (.getfield 23, 12, 8, []), zN, zN, (.iconst 5, 0, 0, []), (.iload_n 2, 2, 0, []), (.imul, 0, 0, []), (.iload_n 1, 1, 0, []), (.iadd, 0, 0, []), (.iconst 1, 0, 0, []), (.isub, 0, 0, []), (.iload_n 3, 3, 0, []), (.iastore, 0, 0, []), (.goto 8, 39, 0, [])], [zN, zN, (.aload_n 0, 0, 0, []), (.iload_n 3, 3, 0, []), (.putfield 99, 12, 4, []), zN, zN, (.return_, 0, 0, [])]]
def zcX12_person : List (List zE) := [[(.iload_n 1, 1, 0, []), (.i2l, 0, 0, []), (.lconst 0, 0, 0, []), (.ldc2_w 102, 0, 0, [(5, 0)]), zN, zN, (.invokestatic 67, 130, 3, [(0, 0)]), zN, zN, (.ifCond .eq 40, 49, 0, []), zN, zN, (.iload_n 2, 2, 0, []), (.i2l, 0, 0, []), (.lconst 0, 0, 0, []), (.ldc2_w 104, 0, 0, [(9, 0)])], [zN, zN, (.invokestatic 67, 130, 3, [(0, 0)]), zN, zN, (.ifCond .eq 28, 49, 0, []), zN, zN, (.iload_n 3, 3, 0, []), (.i2l, 0, 0, []), (.lconst 0, 0, 0, []), (.ldc2_w 106, 0, 0, [(1023, 0)]), zN, zN, (.invokestatic 67, 130, 3, [(0, 0)]), zN], [zN, (.ifCond .eq 16, 49, 0, []), zN, zN, (.iload 4, 4, 0, []), zN, (.i2l, 0, 0, []), (.lconst 0, 0, 0, []), (.ldc2_w 108, 0, 0, [(99, 0)]), zN, zN, (.invokestatic 67, 130, 3, [(0, 0)]), zN, zN, (.ifCond .ne 6, 52, 0, []), zN], [zN, (.bipush (-2), 0, 0, []), zN, (.ireturn, 0, 0, []), (.aload_n 0, 0, 0, []), (.getfield 64, 12, 9, []), zN, zN, (.iconst 5, 0, 0, []), (.if_icmp .ne 6, 63, 0, []), zN, zN, (.bipush (-4), 0, 0, []), zN, (.ireturn, 0, 0, []), (.iconst 5, 0, 0, [])], [(.aload_n 0, 0, 0, []), (.getfield 64, 12, 9, []), zN, zN, (.imul, 0, 0, []), (.istore 5, 5, 0, []), zN, (.aload_n 0, 0, 0, []), (.getfield 23, 12, 8, []), zN, zN, (.iload 5, 5, 0, []), zN, (.iload_n 2, 2, 0, []), (.iastore, 0, 0, []), (.aload_n 0, 0, 0, [])], [(.getfield 23, 12, 8, []), zN, zN, (.iload 5, 5, 0, []), zN, (.iconst 1, 0, 0, []), (.iadd, 0, 0, []), (.iload_n 3, 3, 0, []), (.iastore, 0, 0, []), (.aload_n 0, 0, 0, []), (.getfield 23, 12, 8, []), zN, zN, (.iload 5, 5, 0, []), zN, (.iconst 2, 0, 0, [])], [(.iadd, 0, 0, []), (.iload 4, 4, 0, []), zN, (.iastore, 0, 0, []), (.aload_n 0, 0, 0, []), (.getfield 23, 12, 8, []), zN, zN, (.iload 5, 5, 0, []), zN, (.iconst 3, 0, 0, []), (.iadd, 0, 0, []), (.iconst 0, 0, 0, []), (.iastore, 0, 0, []), (.aload_n 0, 0, 0, []), (.getfield 23, 12, 8, [])], [zN, zN, (.iload 5, 5, 0, []), zN, (.iconst 4, 0, 0, []), (.iadd, 0, 0, []), (.iload_n 1, 1, 0, []), (.iastore, 0, 0, []), (.aload_n 0, 0, 0, []), (.dup, 0, 0, []), (.getfield 64, 12, 9, []), zN, zN, (.iconst 1, 0, 0, []), (.iadd, 0, 0, []), (.putfield 64, 12, 9, [])], [zN, zN, (.aload_n 0, 0, 0, []), (.getfield 64, 12, 9, []), zN, zN, (.iconst 1, 0, 0, []), (.isub, 0, 0, []), (.ireturn, 0, 0, [])]]
def zcX12_told : List (List zE) := [[(.iload_n 2, 2, 0, []), (.i2l, 0, 0, []), (.lconst 0, 0, 0, []), (.ldc2_w 110, 0, 0, [(8, 0)]), zN, zN, (.invokestatic 67, 130, 3, [(0, 0)]), zN, zN, (.ifCond .eq 12, 21, 0, []), zN, zN, (.aload_n 0, 0, 0, []), (.iload_n 2, 2, 0, []), (.iload_n 1, 1, 0, []), (.invokevirtual 80, 1000, 2, [(12, 135)])], [zN, zN, (.ifCond .ne 7, 25, 0, []), zN, zN, (.sipush (-1000), 0, 0, []), zN, zN, (.ireturn, 0, 0, []), (.iload_n 2, 2, 0, []), (.bipush 6, 0, 0, []), zN, (.if_icmp .ge 27, 55, 0, []), zN, zN, (.iload_n 2, 2, 0, [])], [(.ifCond .ne 10, 42, 0, []), zN, zN, (.aload_n 0, 0, 0, []), (.getfield 96, 12, 7, []), zN, zN, (.goto 15, 54, 0, []), zN, zN, (.aload_n 0, 0, 0, []), (.getfield 23, 12, 8, []), zN, zN, (.iconst 5, 0, 0, []), (.iload_n 1, 1, 0, [])], [(.imul, 0, 0, []), (.iload_n 2, 2, 0, []), (.iadd, 0, 0, []), (.iconst 1, 0, 0, []), (.isub, 0, 0, []), (.iaload, 0, 0, []), (.ireturn, 0, 0, []), (.iload_n 2, 2, 0, []), (.bipush 6, 0, 0, []), zN, (.if_icmp .ne 12, 70, 0, []), zN, zN, (.aload_n 0, 0, 0, []), (.getfield 26, 12, 10, []), zN], [zN, (.iload_n 1, 1, 0, []), (.iaload, 0, 0, []), (.goto 20, 87, 0, []), zN, zN, (.iload_n 2, 2, 0, []), (.bipush 7, 0, 0, []), zN, (.if_icmp .ne 10, 83, 0, []), zN, zN, (.aload_n 0, 0, 0, []), (.getfield 71, 12, 11, []), zN, zN], [(.goto 7, 87, 0, []), zN, zN, (.aload_n 0, 0, 0, []), (.getfield 112, 12, 12, []), zN, zN, (.ireturn, 0, 0, [])]]
def zcX12_brings : List (List zE) := [[(.iload_n 1, 1, 0, []), (.i2l, 0, 0, []), (.lconst 1, 0, 0, []), (.ldc2_w 106, 0, 0, [(1023, 0)]), zN, zN, (.invokestatic 67, 130, 3, [(0, 0)]), zN, zN, (.ifCond .ne 6, 15, 0, []), zN, zN, (.bipush (-2), 0, 0, []), zN, (.ireturn, 0, 0, []), (.aload_n 0, 0, 0, [])], [(.getfield 71, 12, 11, []), zN, zN, (.bipush 8, 0, 0, []), zN, (.if_icmp .ne 6, 27, 0, []), zN, zN, (.bipush (-4), 0, 0, []), zN, (.ireturn, 0, 0, []), (.aload_n 0, 0, 0, []), (.getfield 26, 12, 10, []), zN, zN, (.aload_n 0, 0, 0, [])], [(.getfield 71, 12, 11, []), zN, zN, (.iload_n 1, 1, 0, []), (.iastore, 0, 0, []), (.aload_n 0, 0, 0, []), (.dup, 0, 0, []), (.getfield 71, 12, 11, []), zN, zN, (.iconst 1, 0, 0, []), (.iadd, 0, 0, []), (.putfield 71, 12, 11, []), zN, zN, (.aload_n 0, 0, 0, [])], [(.getfield 71, 12, 11, []), zN, zN, (.ireturn, 0, 0, [])]]
def zcX12_feed : List (List zE) := [[(.iload_n 1, 1, 0, []), (.i2l, 0, 0, []), (.lconst 0, 0, 0, []), (.ldc2_w 115, 0, 0, [(255, 0)]), zN, zN, (.invokestatic 67, 130, 3, [(0, 0)]), zN, zN, (.ifCond .ne 6, 15, 0, []), zN, zN, (.bipush (-2), 0, 0, []), zN, (.ireturn, 0, 0, []), (.aload_n 0, 0, 0, [])], [(.getfield 117, 12, 6, []), zN, zN, (.sipush 160, 0, 0, []), zN, zN, (.if_icmp .ne 6, 28, 0, []), zN, zN, (.bipush (-4), 0, 0, []), zN, (.ireturn, 0, 0, []), (.aload_n 0, 0, 0, []), (.getfield 20, 12, 5, []), zN, zN], [(.aload_n 0, 0, 0, []), (.getfield 117, 12, 6, []), zN, zN, (.iload_n 1, 1, 0, []), (.iastore, 0, 0, []), (.aload_n 0, 0, 0, []), (.dup, 0, 0, []), (.getfield 117, 12, 6, []), zN, zN, (.iconst 1, 0, 0, []), (.iadd, 0, 0, []), (.putfield 117, 12, 6, []), zN, zN], [(.aload_n 0, 0, 0, []), (.getfield 117, 12, 6, []), zN, zN, (.ireturn, 0, 0, [])]]
def zcX12_byteAt : List (List zE) := [[(.iload_n 1, 1, 0, []), (.aload_n 0, 0, 0, []), (.getfield 120, 12, 21, []), zN, zN, (.if_icmp .ge 17, 22, 0, []), zN, zN, (.aload_n 0, 0, 0, []), (.getfield 13, 12, 1, []), zN, zN, (.aload_n 0, 0, 0, []), (.getfield 123, 12, 20, []), zN, zN], [(.iload_n 1, 1, 0, []), (.iadd, 0, 0, []), (.iaload, 0, 0, []), (.goto 4, 23, 0, []), zN, zN, (.iconst (-1), 0, 0, []), (.ireturn, 0, 0, [])]]
def zcX12_next : List (List zE) := [[(.aload_n 0, 0, 0, []), (.aload_n 0, 0, 0, []), (.getfield 126, 12, 22, []), zN, zN, (.invokevirtual 129, 1000, 1, [(12, 143)]), zN, zN, (.bipush 32, 0, 0, []), zN, (.if_icmp .eq 16, 26, 0, []), zN, zN, (.aload_n 0, 0, 0, []), (.aload_n 0, 0, 0, []), (.getfield 126, 12, 22, [])], [zN, zN, (.invokevirtual 129, 1000, 1, [(12, 143)]), zN, zN, (.bipush 10, 0, 0, []), zN, (.if_icmp .ne 16, 39, 0, []), zN, zN, (.aload_n 0, 0, 0, []), (.dup, 0, 0, []), (.getfield 126, 12, 22, []), zN, zN, (.iconst 1, 0, 0, [])], [(.iadd, 0, 0, []), (.putfield 126, 12, 22, []), zN, zN, (.goto (-36), 0, 0, []), zN, zN, (.aload_n 0, 0, 0, []), (.aload_n 0, 0, 0, []), (.getfield 126, 12, 22, []), zN, zN, (.putfield 132, 12, 24, []), zN, zN, (.aload_n 0, 0, 0, [])], [(.aload_n 0, 0, 0, []), (.getfield 126, 12, 22, []), zN, zN, (.invokevirtual 129, 1000, 1, [(12, 143)]), zN, zN, (.istore_n 1, 1, 0, []), (.aload_n 0, 0, 0, []), (.iconst 4, 0, 0, []), (.putfield 135, 12, 23, []), zN, zN, (.iload_n 1, 1, 0, []), (.ifCond .ge 19, 81, 0, []), zN], [zN, (.aload_n 0, 0, 0, []), (.iconst 0, 0, 0, []), (.putfield 135, 12, 23, []), zN, zN, (.aload_n 0, 0, 0, []), (.aload_n 0, 0, 0, []), (.getfield 120, 12, 21, []), zN, zN, (.putfield 132, 12, 24, []), zN, zN, (.goto 243, 321, 0, []), zN], [zN, (.iload_n 1, 1, 0, []), (.i2l, 0, 0, []), (.ldc2_w 138, 0, 0, [(97, 0)]), zN, zN, (.ldc2_w 140, 0, 0, [(122, 0)]), zN, zN, (.invokestatic 67, 130, 3, [(0, 0)]), zN, zN, (.ifCond .eq 42, 134, 0, []), zN, zN, (.aload_n 0, 0, 0, [])], [(.iconst 1, 0, 0, []), (.putfield 135, 12, 23, []), zN, zN, (.aload_n 0, 0, 0, []), (.aload_n 0, 0, 0, []), (.getfield 126, 12, 22, []), zN, zN, (.invokevirtual 129, 1000, 1, [(12, 143)]), zN, zN, (.i2l, 0, 0, []), (.ldc2_w 138, 0, 0, [(97, 0)]), zN, zN], [(.ldc2_w 140, 0, 0, [(122, 0)]), zN, zN, (.invokestatic 67, 130, 3, [(0, 0)]), zN, zN, (.ifCond .eq 203, 321, 0, []), zN, zN, (.aload_n 0, 0, 0, []), (.dup, 0, 0, []), (.getfield 126, 12, 22, []), zN, zN, (.iconst 1, 0, 0, []), (.iadd, 0, 0, [])], [(.putfield 126, 12, 22, []), zN, zN, (.goto (-31), 100, 0, []), zN, zN, (.iload_n 1, 1, 0, []), (.i2l, 0, 0, []), (.ldc2_w 142, 0, 0, [(48, 0)]), zN, zN, (.ldc2_w 144, 0, 0, [(57, 0)]), zN, zN, (.invokestatic 67, 130, 3, [(0, 0)]), zN], [zN, (.ifCond .eq 107, 252, 0, []), zN, zN, (.aload_n 0, 0, 0, []), (.iconst 2, 0, 0, []), (.putfield 135, 12, 23, []), zN, zN, (.aload_n 0, 0, 0, []), (.lconst 0, 0, 0, []), (.putfield 146, 12, 25, []), zN, zN, (.iconst 0, 0, 0, []), (.istore_n 2, 2, 0, [])], [(.aload_n 0, 0, 0, []), (.aload_n 0, 0, 0, []), (.getfield 126, 12, 22, []), zN, zN, (.invokevirtual 129, 1000, 1, [(12, 143)]), zN, zN, (.i2l, 0, 0, []), (.ldc2_w 142, 0, 0, [(48, 0)]), zN, zN, (.ldc2_w 144, 0, 0, [(57, 0)]), zN, zN, (.invokestatic 67, 130, 3, [(0, 0)])], [zN, zN, (.ifCond .eq 57, 235, 0, []), zN, zN, (.aload_n 0, 0, 0, []), (.iload_n 2, 2, 0, []), (.iconst 4, 0, 0, []), (.if_icmp .ge 28, 212, 0, []), zN, zN, (.ldc2_w 150, 0, 0, [(10, 0)]), zN, zN, (.aload_n 0, 0, 0, []), (.getfield 146, 12, 25, [])], [zN, zN, (.lmul, 0, 0, []), (.aload_n 0, 0, 0, []), (.aload_n 0, 0, 0, []), (.getfield 126, 12, 22, []), zN, zN, (.invokevirtual 129, 1000, 1, [(12, 143)]), zN, zN, (.i2l, 0, 0, []), (.ladd, 0, 0, []), (.ldc2_w 142, 0, 0, [(48, 0)]), zN, zN], [(.lsub, 0, 0, []), (.goto 7, 216, 0, []), zN, zN, (.aload_n 0, 0, 0, []), (.getfield 146, 12, 25, []), zN, zN, (.putfield 146, 12, 25, []), zN, zN, (.iinc 2 1, 2, 0, []), zN, zN, (.aload_n 0, 0, 0, []), (.dup, 0, 0, [])], [(.getfield 126, 12, 22, []), zN, zN, (.iconst 1, 0, 0, []), (.iadd, 0, 0, []), (.putfield 126, 12, 22, []), zN, zN, (.goto (-72), 160, 0, []), zN, zN, (.aload_n 0, 0, 0, []), (.iload_n 2, 2, 0, []), (.iconst 4, 0, 0, []), (.if_icmp .le 7, 245, 0, []), zN], [zN, (.iconst 4, 0, 0, []), (.goto 4, 246, 0, []), zN, zN, (.iconst 2, 0, 0, []), (.putfield 135, 12, 23, []), zN, zN, (.goto 72, 321, 0, []), zN, zN, (.iload_n 1, 1, 0, []), (.bipush 40, 0, 0, []), zN, (.if_icmp .eq 45, 300, 0, [])], [zN, zN, (.iload_n 1, 1, 0, []), (.bipush 41, 0, 0, []), zN, (.if_icmp .eq 39, 300, 0, []), zN, zN, (.iload_n 1, 1, 0, []), (.bipush 59, 0, 0, []), zN, (.if_icmp .eq 33, 300, 0, []), zN, zN, (.iload_n 1, 1, 0, []), (.bipush 43, 0, 0, [])], [zN, (.if_icmp .eq 27, 300, 0, []), zN, zN, (.iload_n 1, 1, 0, []), (.bipush 45, 0, 0, []), zN, (.if_icmp .eq 21, 300, 0, []), zN, zN, (.iload_n 1, 1, 0, []), (.bipush 42, 0, 0, []), zN, (.if_icmp .eq 15, 300, 0, []), zN, zN], [(.iload_n 1, 1, 0, []), (.bipush 60, 0, 0, []), zN, (.if_icmp .eq 9, 300, 0, []), zN, zN, (.iload_n 1, 1, 0, []), (.bipush 61, 0, 0, []), zN, (.if_icmp .ne 24, 321, 0, []), zN, zN, (.aload_n 0, 0, 0, []), (.iconst 3, 0, 0, []), (.putfield 135, 12, 23, []), zN], [zN, (.aload_n 0, 0, 0, []), (.iload_n 1, 1, 0, []), (.i2l, 0, 0, []), (.putfield 146, 12, 25, []), zN, zN, (.aload_n 0, 0, 0, []), (.dup, 0, 0, []), (.getfield 126, 12, 22, []), zN, zN, (.iconst 1, 0, 0, []), (.iadd, 0, 0, []), (.putfield 126, 12, 22, []), zN], [zN, (.return_, 0, 0, [])]]
def zcX12_fail : List (List zE) := [[(.aload_n 0, 0, 0, []), (.getfield 152, 12, 27, []), zN, zN, (.ifCond .ne 16, 20, 0, []), zN, zN, (.aload_n 0, 0, 0, []), (.iconst 1, 0, 0, []), (.putfield 152, 12, 27, []), zN, zN, (.aload_n 0, 0, 0, []), (.aload_n 0, 0, 0, []), (.getfield 132, 12, 24, []), zN], [zN, (.putfield 156, 12, 28, []), zN, zN, (.return_, 0, 0, [])]]
def zcX12_isLetter : List (List zE) := [[(.aload_n 0, 0, 0, []), (.getfield 132, 12, 24, []), zN, zN, (.iload_n 1, 1, 0, []), (.iadd, 0, 0, []), (.aload_n 0, 0, 0, []), (.getfield 126, 12, 22, []), zN, zN, (.if_icmp .ge 25, 35, 0, []), zN, zN, (.aload_n 0, 0, 0, []), (.aload_n 0, 0, 0, []), (.getfield 132, 12, 24, [])], [zN, zN, (.iload_n 1, 1, 0, []), (.iadd, 0, 0, []), (.invokevirtual 129, 1000, 1, [(12, 143)]), zN, zN, (.iload_n 2, 2, 0, []), (.if_icmp .ne 7, 31, 0, []), zN, zN, (.iconst 1, 0, 0, []), (.goto 16, 44, 0, []), zN, zN, (.iconst 0, 0, 0, [])], [(.goto 12, 44, 0, []), zN, zN, (.iload_n 2, 2, 0, []), (.ifCond .ne 7, 43, 0, []), zN, zN, (.iconst 1, 0, 0, []), (.goto 4, 44, 0, []), zN, zN, (.iconst 0, 0, 0, []), (.ireturn, 1, 0, [])]]
def zcX12_isWord : List (List zE) := [[(.aload_n 0, 0, 0, []), (.getfield 152, 12, 27, []), zN, zN, (.ifCond .ne 108, 112, 0, []), zN, zN, (.aload_n 0, 0, 0, []), (.getfield 135, 12, 23, []), zN, zN, (.iconst 1, 0, 0, []), (.if_icmp .ne 100, 112, 0, []), zN, zN, (.aload_n 0, 0, 0, [])], [(.getfield 126, 12, 22, []), zN, zN, (.aload_n 0, 0, 0, []), (.getfield 132, 12, 24, []), zN, zN, (.bipush 8, 0, 0, []), zN, (.iadd, 0, 0, []), (.if_icmp .gt 86, 112, 0, []), zN, zN, (.aload_n 0, 0, 0, []), (.iconst 0, 0, 0, []), (.iload_n 1, 1, 0, [])], [(.invokevirtual 159, 1000, 2, [(12, 146)]), zN, zN, (.ifCond .eq 77, 112, 0, []), zN, zN, (.aload_n 0, 0, 0, []), (.iconst 1, 0, 0, []), (.iload_n 2, 2, 0, []), (.invokevirtual 159, 1000, 2, [(12, 146)]), zN, zN, (.ifCond .eq 68, 112, 0, []), zN, zN, (.aload_n 0, 0, 0, [])], [(.iconst 2, 0, 0, []), (.iload_n 3, 3, 0, []), (.invokevirtual 159, 1000, 2, [(12, 146)]), zN, zN, (.ifCond .eq 59, 112, 0, []), zN, zN, (.aload_n 0, 0, 0, []), (.iconst 3, 0, 0, []), (.iload 4, 4, 0, []), zN, (.invokevirtual 159, 1000, 2, [(12, 146)]), zN, zN, (.ifCond .eq 49, 112, 0, [])], [zN, zN, (.aload_n 0, 0, 0, []), (.iconst 4, 0, 0, []), (.iload 5, 5, 0, []), zN, (.invokevirtual 159, 1000, 2, [(12, 146)]), zN, zN, (.ifCond .eq 39, 112, 0, []), zN, zN, (.aload_n 0, 0, 0, []), (.iconst 5, 0, 0, []), (.iload 6, 6, 0, []), zN], [(.invokevirtual 159, 1000, 2, [(12, 146)]), zN, zN, (.ifCond .eq 29, 112, 0, []), zN, zN, (.aload_n 0, 0, 0, []), (.bipush 6, 0, 0, []), zN, (.iload 7, 7, 0, []), zN, (.invokevirtual 159, 1000, 2, [(12, 146)]), zN, zN, (.ifCond .eq 18, 112, 0, []), zN], [zN, (.aload_n 0, 0, 0, []), (.bipush 7, 0, 0, []), zN, (.iload 8, 8, 0, []), zN, (.invokevirtual 159, 1000, 2, [(12, 146)]), zN, zN, (.ifCond .eq 7, 112, 0, []), zN, zN, (.iconst 1, 0, 0, []), (.goto 4, 113, 0, []), zN, zN], [(.iconst 0, 0, 0, []), (.ireturn, 1, 0, [])]]
def zcX12_isSign : List (List zE) := [[(.aload_n 0, 0, 0, []), (.getfield 152, 12, 27, []), zN, zN, (.ifCond .ne 25, 29, 0, []), zN, zN, (.aload_n 0, 0, 0, []), (.getfield 135, 12, 23, []), zN, zN, (.iconst 3, 0, 0, []), (.if_icmp .ne 17, 29, 0, []), zN, zN, (.aload_n 0, 0, 0, [])], [(.getfield 146, 12, 25, []), zN, zN, (.iload_n 1, 1, 0, []), (.i2l, 0, 0, []), (.lcmp, 0, 0, []), (.ifCond .ne 7, 29, 0, []), zN, zN, (.iconst 1, 0, 0, []), (.goto 4, 30, 0, []), zN, zN, (.iconst 0, 0, 0, []), (.ireturn, 1, 0, [])]]
def zcX12_opens : List (List zE) := [[(.aload_n 0, 0, 0, []), (.getfield 162, 12, 26, []), zN, zN, (.iconst 5, 0, 0, []), (.if_icmp .ne 9, 14, 0, []), zN, zN, (.aload_n 0, 0, 0, []), (.invokevirtual 165, 1000, 0, [(12, 145)]), zN, zN, (.iconst 0, 0, 0, []), (.ireturn, 1, 0, []), (.aload_n 0, 0, 0, []), (.dup, 0, 0, [])], [(.getfield 162, 12, 26, []), zN, zN, (.iconst 1, 0, 0, []), (.iadd, 0, 0, []), (.putfield 162, 12, 26, []), zN, zN, (.aload_n 0, 0, 0, []), (.invokevirtual 168, 1000, 0, [(12, 144)]), zN, zN, (.iconst 1, 0, 0, []), (.ireturn, 1, 0, [])]]
def zcX12_name : List (List zE) := [[(.aload_n 0, 0, 0, []), (.bipush 119, 0, 0, []), zN, (.bipush 111, 0, 0, []), zN, (.bipush 114, 0, 0, []), zN, (.bipush 100, 0, 0, []), zN, (.bipush 115, 0, 0, []), zN, (.iconst 0, 0, 0, []), (.iconst 0, 0, 0, []), (.iconst 0, 0, 0, []), (.invokevirtual 171, 1000, 8, [(12, 147)]), zN], [zN, (.ifCond .eq 8, 25, 0, []), zN, zN, (.aload_n 0, 0, 0, []), (.getfield 175, 12, 14, []), zN, zN, (.ireturn, 0, 0, []), (.aload_n 0, 0, 0, []), (.bipush 109, 0, 0, []), zN, (.bipush 101, 0, 0, []), zN, (.bipush 109, 0, 0, []), zN], [(.bipush 111, 0, 0, []), zN, (.bipush 114, 0, 0, []), zN, (.bipush 121, 0, 0, []), zN, (.iconst 0, 0, 0, []), (.iconst 0, 0, 0, []), (.invokevirtual 171, 1000, 8, [(12, 147)]), zN, zN, (.ifCond .eq 8, 51, 0, []), zN, zN, (.aload_n 0, 0, 0, []), (.getfield 178, 12, 15, [])], [zN, zN, (.ireturn, 0, 0, []), (.aload_n 0, 0, 0, []), (.bipush 110, 0, 0, []), zN, (.bipush 117, 0, 0, []), zN, (.bipush 109, 0, 0, []), zN, (.bipush 98, 0, 0, []), zN, (.bipush 101, 0, 0, []), zN, (.bipush 114, 0, 0, []), zN], [(.iconst 0, 0, 0, []), (.iconst 0, 0, 0, []), (.invokevirtual 171, 1000, 8, [(12, 147)]), zN, zN, (.ifCond .eq 8, 77, 0, []), zN, zN, (.aload_n 0, 0, 0, []), (.getfield 181, 12, 16, []), zN, zN, (.ireturn, 0, 0, []), (.aload_n 0, 0, 0, []), (.bipush 100, 0, 0, []), zN], [(.bipush 97, 0, 0, []), zN, (.bipush 121, 0, 0, []), zN, (.iconst 0, 0, 0, []), (.iconst 0, 0, 0, []), (.iconst 0, 0, 0, []), (.iconst 0, 0, 0, []), (.iconst 0, 0, 0, []), (.invokevirtual 171, 1000, 8, [(12, 147)]), zN, zN, (.ifCond .eq 8, 100, 0, []), zN, zN, (.aload_n 0, 0, 0, [])], [(.getfield 184, 12, 17, []), zN, zN, (.ireturn, 0, 0, []), (.aload_n 0, 0, 0, []), (.bipush 112, 0, 0, []), zN, (.bipush 97, 0, 0, []), zN, (.bipush 114, 0, 0, []), zN, (.bipush 116, 0, 0, []), zN, (.bipush 115, 0, 0, []), zN, (.iconst 0, 0, 0, [])], [(.iconst 0, 0, 0, []), (.iconst 0, 0, 0, []), (.invokevirtual 171, 1000, 8, [(12, 147)]), zN, zN, (.ifCond .eq 8, 125, 0, []), zN, zN, (.aload_n 0, 0, 0, []), (.getfield 187, 12, 18, []), zN, zN, (.ireturn, 0, 0, []), (.aload_n 0, 0, 0, []), (.bipush 115, 0, 0, []), zN], [(.bipush 97, 0, 0, []), zN, (.bipush 105, 0, 0, []), zN, (.bipush 100, 0, 0, []), zN, (.iconst 0, 0, 0, []), (.iconst 0, 0, 0, []), (.iconst 0, 0, 0, []), (.iconst 0, 0, 0, []), (.invokevirtual 171, 1000, 8, [(12, 147)]), zN, zN, (.ifCond .eq 8, 149, 0, []), zN, zN], [(.aload_n 0, 0, 0, []), (.getfield 190, 12, 19, []), zN, zN, (.ireturn, 0, 0, []), (.aload_n 0, 0, 0, []), (.invokevirtual 165, 1000, 0, [(12, 145)]), zN, zN, (.iconst 0, 0, 0, []), (.ireturn, 0, 0, [])]]
def zcX12_atom : List (List zE) := [[(.iconst 0, 0, 0, []), (.istore_n 1, 1, 0, []), (.aload_n 0, 0, 0, []), (.bipush 45, 0, 0, []), zN, (.invokevirtual 193, 1000, 1, [(12, 148)]), zN, zN, (.ifCond .eq 29, 37, 0, []), zN, zN, (.aload_n 0, 0, 0, []), (.invokevirtual 196, 1000, 0, [(12, 149)]), zN, zN, (.ifCond .eq 146, 161, 0, [])], [zN, zN, (.aload_n 0, 0, 0, []), (.invokevirtual 200, 1000, 0, [(12, 151)]), zN, zN, (.ineg, 0, 0, []), (.istore_n 1, 1, 0, []), (.aload_n 0, 0, 0, []), (.dup, 0, 0, []), (.getfield 162, 12, 26, []), zN, zN, (.iconst 1, 0, 0, []), (.isub, 0, 0, []), (.putfield 162, 12, 26, [])], [zN, zN, (.goto 127, 161, 0, []), zN, zN, (.aload_n 0, 0, 0, []), (.bipush 40, 0, 0, []), zN, (.invokevirtual 193, 1000, 1, [(12, 148)]), zN, zN, (.ifCond .eq 52, 95, 0, []), zN, zN, (.aload_n 0, 0, 0, []), (.invokevirtual 196, 1000, 0, [(12, 149)])], [zN, zN, (.ifCond .eq 111, 161, 0, []), zN, zN, (.aload_n 0, 0, 0, []), (.invokevirtual 204, 1000, 0, [(12, 156)]), zN, zN, (.istore_n 1, 1, 0, []), (.aload_n 0, 0, 0, []), (.bipush 41, 0, 0, []), zN, (.invokevirtual 193, 1000, 1, [(12, 148)]), zN, zN], [(.ifCond .ne 7, 71, 0, []), zN, zN, (.aload_n 0, 0, 0, []), (.invokevirtual 165, 1000, 0, [(12, 145)]), zN, zN, (.aload_n 0, 0, 0, []), (.dup, 0, 0, []), (.getfield 162, 12, 26, []), zN, zN, (.iconst 1, 0, 0, []), (.isub, 0, 0, []), (.putfield 162, 12, 26, []), zN], [zN, (.aload_n 0, 0, 0, []), (.getfield 152, 12, 27, []), zN, zN, (.ifCond .ne 76, 161, 0, []), zN, zN, (.aload_n 0, 0, 0, []), (.invokevirtual 168, 1000, 0, [(12, 144)]), zN, zN, (.goto 69, 161, 0, []), zN, zN, (.aload_n 0, 0, 0, [])], [(.getfield 152, 12, 27, []), zN, zN, (.ifCond .ne 24, 123, 0, []), zN, zN, (.aload_n 0, 0, 0, []), (.getfield 135, 12, 23, []), zN, zN, (.iconst 2, 0, 0, []), (.if_icmp .ne 16, 123, 0, []), zN, zN, (.aload_n 0, 0, 0, []), (.getfield 146, 12, 25, [])], [zN, zN, (.l2i, 0, 0, []), (.istore_n 1, 1, 0, []), (.aload_n 0, 0, 0, []), (.invokevirtual 168, 1000, 0, [(12, 144)]), zN, zN, (.goto 41, 161, 0, []), zN, zN, (.aload_n 0, 0, 0, []), (.getfield 152, 12, 27, []), zN, zN, (.ifCond .ne 30, 157, 0, [])], [zN, zN, (.aload_n 0, 0, 0, []), (.getfield 135, 12, 23, []), zN, zN, (.iconst 1, 0, 0, []), (.if_icmp .ne 22, 157, 0, []), zN, zN, (.aload_n 0, 0, 0, []), (.invokevirtual 207, 1000, 0, [(12, 150)]), zN, zN, (.istore_n 1, 1, 0, []), (.aload_n 0, 0, 0, [])], [(.getfield 152, 12, 27, []), zN, zN, (.ifCond .ne 14, 161, 0, []), zN, zN, (.aload_n 0, 0, 0, []), (.invokevirtual 168, 1000, 0, [(12, 144)]), zN, zN, (.goto 7, 161, 0, []), zN, zN, (.aload_n 0, 0, 0, []), (.invokevirtual 165, 1000, 0, [(12, 145)]), zN], [zN, (.iload_n 1, 1, 0, []), (.ireturn, 0, 0, [])]]
def zcX12_term : List (List zE) := [[(.aload_n 0, 0, 0, []), (.invokevirtual 200, 1000, 0, [(12, 151)]), zN, zN, (.istore_n 1, 1, 0, []), (.aload_n 0, 0, 0, []), (.bipush 42, 0, 0, []), zN, (.invokevirtual 193, 1000, 1, [(12, 148)]), zN, zN, (.ifCond .eq 17, 28, 0, []), zN, zN, (.aload_n 0, 0, 0, []), (.invokevirtual 168, 1000, 0, [(12, 144)])], [zN, zN, (.iload_n 1, 1, 0, []), (.aload_n 0, 0, 0, []), (.invokevirtual 200, 1000, 0, [(12, 151)]), zN, zN, (.imul, 0, 0, []), (.istore_n 1, 1, 0, []), (.goto (-20), 5, 0, []), zN, zN, (.iload_n 1, 1, 0, []), (.ireturn, 0, 0, [])]]
def zcX12_added : List (List zE) := [[(.aload_n 0, 0, 0, []), (.invokevirtual 210, 1000, 0, [(12, 152)]), zN, zN, (.istore_n 1, 1, 0, []), (.aload_n 0, 0, 0, []), (.bipush 43, 0, 0, []), zN, (.invokevirtual 193, 1000, 1, [(12, 148)]), zN, zN, (.ifCond .ne 12, 23, 0, []), zN, zN, (.aload_n 0, 0, 0, []), (.bipush 45, 0, 0, [])], [zN, (.invokevirtual 193, 1000, 1, [(12, 148)]), zN, zN, (.ifCond .eq 46, 66, 0, []), zN, zN, (.aload_n 0, 0, 0, []), (.getfield 146, 12, 25, []), zN, zN, (.ldc2_w 213, 0, 0, [(43, 0)]), zN, zN, (.lcmp, 0, 0, []), (.ifCond .ne 7, 38, 0, [])], [zN, zN, (.iconst 1, 0, 0, []), (.goto 4, 39, 0, []), zN, zN, (.iconst 0, 0, 0, []), (.istore_n 2, 2, 0, []), (.aload_n 0, 0, 0, []), (.invokevirtual 168, 1000, 0, [(12, 144)]), zN, zN, (.aload_n 0, 0, 0, []), (.invokevirtual 210, 1000, 0, [(12, 152)]), zN, zN], [(.istore_n 3, 3, 0, []), (.iload_n 2, 2, 0, []), (.ifCond .eq 9, 59, 0, []), zN, zN, (.iload_n 1, 1, 0, []), (.iload_n 3, 3, 0, []), (.iadd, 0, 0, []), (.goto 6, 62, 0, []), zN, zN, (.iload_n 1, 1, 0, []), (.iload_n 3, 3, 0, []), (.isub, 0, 0, []), (.istore_n 1, 1, 0, []), (.goto (-58), 5, 0, [])], [zN, zN, (.iload_n 1, 1, 0, []), (.ireturn, 0, 0, [])]]
def zcX12_not : List (List zE) := [[(.aload_n 0, 0, 0, []), (.bipush 110, 0, 0, []), zN, (.bipush 111, 0, 0, []), zN, (.bipush 116, 0, 0, []), zN, (.iconst 0, 0, 0, []), (.iconst 0, 0, 0, []), (.iconst 0, 0, 0, []), (.iconst 0, 0, 0, []), (.iconst 0, 0, 0, []), (.invokevirtual 171, 1000, 8, [(12, 147)]), zN, zN, (.ifCond .eq 37, 52, 0, [])], [zN, zN, (.aload_n 0, 0, 0, []), (.invokevirtual 196, 1000, 0, [(12, 149)]), zN, zN, (.ifCond .ne 5, 27, 0, []), zN, zN, (.iconst 0, 0, 0, []), (.ireturn, 0, 0, []), (.aload_n 0, 0, 0, []), (.invokevirtual 215, 1000, 0, [(12, 154)]), zN, zN, (.istore_n 1, 1, 0, [])], [(.aload_n 0, 0, 0, []), (.dup, 0, 0, []), (.getfield 162, 12, 26, []), zN, zN, (.iconst 1, 0, 0, []), (.isub, 0, 0, []), (.putfield 162, 12, 26, []), zN, zN, (.iload_n 1, 1, 0, []), (.ifCond .ne 7, 50, 0, []), zN, zN, (.iconst 1, 0, 0, []), (.goto 4, 51, 0, [])], [zN, zN, (.iconst 0, 0, 0, []), (.ireturn, 0, 0, []), (.aload_n 0, 0, 0, []), (.invokevirtual 218, 1000, 0, [(12, 153)]), zN, zN, (.istore_n 1, 1, 0, []), (.aload_n 0, 0, 0, []), (.bipush 60, 0, 0, []), zN, (.invokevirtual 193, 1000, 1, [(12, 148)]), zN, zN, (.ifCond .ne 14, 77, 0, [])], [zN, zN, (.aload_n 0, 0, 0, []), (.bipush 61, 0, 0, []), zN, (.invokevirtual 193, 1000, 1, [(12, 148)]), zN, zN, (.ifCond .ne 5, 77, 0, []), zN, zN, (.iload_n 1, 1, 0, []), (.ireturn, 0, 0, []), (.aload_n 0, 0, 0, []), (.getfield 146, 12, 25, []), zN], [zN, (.ldc2_w 221, 0, 0, [(60, 0)]), zN, zN, (.lcmp, 0, 0, []), (.ifCond .ne 7, 92, 0, []), zN, zN, (.iconst 1, 0, 0, []), (.goto 4, 93, 0, []), zN, zN, (.iconst 0, 0, 0, []), (.istore_n 2, 2, 0, []), (.aload_n 0, 0, 0, []), (.invokevirtual 168, 1000, 0, [(12, 144)])], [zN, zN, (.aload_n 0, 0, 0, []), (.invokevirtual 218, 1000, 0, [(12, 153)]), zN, zN, (.istore_n 3, 3, 0, []), (.iload_n 2, 2, 0, []), (.ifCond .eq 11, 115, 0, []), zN, zN, (.iload_n 1, 1, 0, []), (.iload_n 3, 3, 0, []), (.if_icmp .ge 15, 124, 0, []), zN, zN], [(.goto 8, 120, 0, []), zN, zN, (.iload_n 1, 1, 0, []), (.iload_n 3, 3, 0, []), (.if_icmp .ne 7, 124, 0, []), zN, zN, (.iconst 1, 0, 0, []), (.goto 4, 125, 0, []), zN, zN, (.iconst 0, 0, 0, []), (.ireturn, 0, 0, [])]]
def zcX12_both : List (List zE) := [[(.aload_n 0, 0, 0, []), (.invokevirtual 215, 1000, 0, [(12, 154)]), zN, zN, (.istore_n 1, 1, 0, []), (.aload_n 0, 0, 0, []), (.bipush 97, 0, 0, []), zN, (.bipush 110, 0, 0, []), zN, (.bipush 100, 0, 0, []), zN, (.iconst 0, 0, 0, []), (.iconst 0, 0, 0, []), (.iconst 0, 0, 0, []), (.iconst 0, 0, 0, [])], [(.iconst 0, 0, 0, []), (.invokevirtual 171, 1000, 8, [(12, 147)]), zN, zN, (.ifCond .eq 29, 49, 0, []), zN, zN, (.aload_n 0, 0, 0, []), (.invokevirtual 168, 1000, 0, [(12, 144)]), zN, zN, (.aload_n 0, 0, 0, []), (.invokevirtual 215, 1000, 0, [(12, 154)]), zN, zN, (.istore_n 2, 2, 0, [])], [(.iload_n 1, 1, 0, []), (.ifCond .eq 11, 44, 0, []), zN, zN, (.iload_n 2, 2, 0, []), (.ifCond .eq 7, 44, 0, []), zN, zN, (.iconst 1, 0, 0, []), (.goto 4, 45, 0, []), zN, zN, (.iconst 0, 0, 0, []), (.istore_n 1, 1, 0, []), (.goto (-41), 5, 0, []), zN], [zN, (.iload_n 1, 1, 0, []), (.ireturn, 0, 0, [])]]
def zcX12_either : List (List zE) := [[(.aload_n 0, 0, 0, []), (.invokevirtual 223, 1000, 0, [(12, 155)]), zN, zN, (.istore_n 1, 1, 0, []), (.aload_n 0, 0, 0, []), (.bipush 111, 0, 0, []), zN, (.bipush 114, 0, 0, []), zN, (.iconst 0, 0, 0, []), (.iconst 0, 0, 0, []), (.iconst 0, 0, 0, []), (.iconst 0, 0, 0, []), (.iconst 0, 0, 0, []), (.iconst 0, 0, 0, [])], [(.invokevirtual 171, 1000, 8, [(12, 147)]), zN, zN, (.ifCond .eq 29, 48, 0, []), zN, zN, (.aload_n 0, 0, 0, []), (.invokevirtual 168, 1000, 0, [(12, 144)]), zN, zN, (.aload_n 0, 0, 0, []), (.invokevirtual 223, 1000, 0, [(12, 155)]), zN, zN, (.istore_n 2, 2, 0, []), (.iload_n 1, 1, 0, [])], [(.ifCond .ne 7, 39, 0, []), zN, zN, (.iload_n 2, 2, 0, []), (.ifCond .eq 7, 43, 0, []), zN, zN, (.iconst 1, 0, 0, []), (.goto 4, 44, 0, []), zN, zN, (.iconst 0, 0, 0, []), (.istore_n 1, 1, 0, []), (.goto (-40), 5, 0, []), zN, zN], [(.iload_n 1, 1, 0, []), (.ireturn, 0, 0, [])]]
def zcX12_part : List (List zE) := [[(.iload_n 1, 1, 0, []), (.ifCond .ne 7, 8, 0, []), zN, zN, (.aload_n 0, 0, 0, []), (.invokevirtual 165, 1000, 0, [(12, 145)]), zN, zN, (.aload_n 0, 0, 0, []), (.getfield 152, 12, 27, []), zN, zN, (.ifCond .ne 7, 19, 0, []), zN, zN, (.aload_n 0, 0, 0, [])], [(.invokevirtual 168, 1000, 0, [(12, 144)]), zN, zN, (.aload_n 0, 0, 0, []), (.getfield 152, 12, 27, []), zN, zN, (.ifCond .eq 7, 30, 0, []), zN, zN, (.iconst 0, 0, 0, []), (.goto 7, 34, 0, []), zN, zN, (.aload_n 0, 0, 0, []), (.invokevirtual 204, 1000, 0, [(12, 156)])], [zN, zN, (.istore_n 2, 2, 0, []), (.aload_n 0, 0, 0, []), (.bipush 59, 0, 0, []), zN, (.invokevirtual 193, 1000, 1, [(12, 148)]), zN, zN, (.ifCond .ne 7, 48, 0, []), zN, zN, (.aload_n 0, 0, 0, []), (.invokevirtual 165, 1000, 0, [(12, 145)]), zN, zN], [(.aload_n 0, 0, 0, []), (.getfield 152, 12, 27, []), zN, zN, (.ifCond .ne 7, 59, 0, []), zN, zN, (.aload_n 0, 0, 0, []), (.invokevirtual 168, 1000, 0, [(12, 144)]), zN, zN, (.iload_n 2, 2, 0, []), (.ireturn, 0, 0, [])]]
def zcX12_read : List (List zE) := [[(.aload_n 0, 0, 0, []), (.sipush 160, 0, 0, []), zN, zN, (.iload_n 1, 1, 0, []), (.imul, 0, 0, []), (.putfield 123, 12, 20, []), zN, zN, (.aload_n 0, 0, 0, []), (.aload_n 0, 0, 0, []), (.getfield 17, 12, 2, []), zN, zN, (.iload_n 1, 1, 0, []), (.iaload, 0, 0, [])], [(.putfield 120, 12, 21, []), zN, zN, (.aload_n 0, 0, 0, []), (.iconst 0, 0, 0, []), (.putfield 126, 12, 22, []), zN, zN, (.aload_n 0, 0, 0, []), (.iconst 0, 0, 0, []), (.putfield 162, 12, 26, []), zN, zN, (.aload_n 0, 0, 0, []), (.iconst 0, 0, 0, []), (.putfield 152, 12, 27, [])], [zN, zN, (.aload_n 0, 0, 0, []), (.invokevirtual 168, 1000, 0, [(12, 144)]), zN, zN, (.aload_n 0, 0, 0, []), (.aload_n 0, 0, 0, []), (.bipush 107, 0, 0, []), zN, (.bipush 101, 0, 0, []), zN, (.bipush 101, 0, 0, []), zN, (.bipush 112, 0, 0, []), zN], [(.bipush 115, 0, 0, []), zN, (.iconst 0, 0, 0, []), (.iconst 0, 0, 0, []), (.iconst 0, 0, 0, []), (.invokevirtual 171, 1000, 8, [(12, 147)]), zN, zN, (.invokevirtual 226, 1000, 1, [(12, 157)]), zN, zN, (.istore_n 3, 3, 0, []), (.aload_n 0, 0, 0, []), (.getfield 152, 12, 27, []), zN, zN], [(.ifCond .eq 7, 71, 0, []), zN, zN, (.iconst 0, 0, 0, []), (.goto 24, 92, 0, []), zN, zN, (.aload_n 0, 0, 0, []), (.aload_n 0, 0, 0, []), (.bipush 116, 0, 0, []), zN, (.bipush 105, 0, 0, []), zN, (.bipush 114, 0, 0, []), zN, (.bipush 101, 0, 0, [])], [zN, (.bipush 115, 0, 0, []), zN, (.iconst 0, 0, 0, []), (.iconst 0, 0, 0, []), (.iconst 0, 0, 0, []), (.invokevirtual 171, 1000, 8, [(12, 147)]), zN, zN, (.invokevirtual 226, 1000, 1, [(12, 157)]), zN, zN, (.istore 4, 4, 0, []), zN, (.aload_n 0, 0, 0, []), (.getfield 152, 12, 27, [])], [zN, zN, (.ifCond .eq 7, 105, 0, []), zN, zN, (.iconst 0, 0, 0, []), (.goto 25, 127, 0, []), zN, zN, (.aload_n 0, 0, 0, []), (.aload_n 0, 0, 0, []), (.bipush 108, 0, 0, []), zN, (.bipush 101, 0, 0, []), zN, (.bipush 97, 0, 0, [])], [zN, (.bipush 114, 0, 0, []), zN, (.bipush 110, 0, 0, []), zN, (.bipush 115, 0, 0, []), zN, (.iconst 0, 0, 0, []), (.iconst 0, 0, 0, []), (.invokevirtual 171, 1000, 8, [(12, 147)]), zN, zN, (.invokevirtual 226, 1000, 1, [(12, 157)]), zN, zN, (.istore 5, 5, 0, [])], [zN, (.aload_n 0, 0, 0, []), (.getfield 152, 12, 27, []), zN, zN, (.ifCond .ne 14, 147, 0, []), zN, zN, (.aload_n 0, 0, 0, []), (.getfield 135, 12, 23, []), zN, zN, (.ifCond .eq 7, 147, 0, []), zN, zN, (.aload_n 0, 0, 0, [])], [(.invokevirtual 165, 1000, 0, [(12, 145)]), zN, zN, (.iload_n 2, 2, 0, []), (.ifCond .ne 7, 155, 0, []), zN, zN, (.iload_n 3, 3, 0, []), (.goto 15, 167, 0, []), zN, zN, (.iload_n 2, 2, 0, []), (.iconst 1, 0, 0, []), (.if_icmp .ne 8, 165, 0, []), zN, zN], [(.iload 4, 4, 0, []), zN, (.goto 5, 167, 0, []), zN, zN, (.iload 5, 5, 0, []), zN, (.ireturn, 0, 0, [])]]
def zcX12_text : List (List zE) := [[(.aload_n 0, 0, 0, []), (.getfield 61, 12, 3, []), zN, zN, (.bipush 6, 0, 0, []), zN, (.if_icmp .ne 6, 12, 0, []), zN, zN, (.bipush (-4), 0, 0, []), zN, (.ireturn, 0, 0, []), (.iconst 0, 0, 0, []), (.istore_n 1, 1, 0, []), (.iload_n 1, 1, 0, []), (.aload_n 0, 0, 0, [])], [(.getfield 117, 12, 6, []), zN, zN, (.if_icmp .ge 30, 49, 0, []), zN, zN, (.aload_n 0, 0, 0, []), (.getfield 13, 12, 1, []), zN, zN, (.sipush 160, 0, 0, []), zN, zN, (.aload_n 0, 0, 0, []), (.getfield 61, 12, 3, []), zN], [zN, (.imul, 0, 0, []), (.iload_n 1, 1, 0, []), (.iadd, 0, 0, []), (.aload_n 0, 0, 0, []), (.getfield 20, 12, 5, []), zN, zN, (.iload_n 1, 1, 0, []), (.iaload, 0, 0, []), (.iastore, 0, 0, []), (.iinc 1 1, 1, 0, []), zN, zN, (.goto (-32), 14, 0, []), zN], [zN, (.aload_n 0, 0, 0, []), (.getfield 17, 12, 2, []), zN, zN, (.aload_n 0, 0, 0, []), (.getfield 61, 12, 3, []), zN, zN, (.aload_n 0, 0, 0, []), (.getfield 117, 12, 6, []), zN, zN, (.iastore, 0, 0, []), (.aload_n 0, 0, 0, []), (.iconst 0, 0, 0, [])], [(.putfield 117, 12, 6, []), zN, zN, (.aload_n 0, 0, 0, []), (.aload_n 0, 0, 0, []), (.getfield 61, 12, 3, []), zN, zN, (.iconst 0, 0, 0, []), (.invokevirtual 230, 1000, 2, [(12, 158)]), zN, zN, (.istore_n 1, 1, 0, []), (.aload_n 0, 0, 0, []), (.getfield 152, 12, 27, []), zN], [zN, (.ifCond .eq 11, 92, 0, []), zN, zN, (.bipush (-100), 0, 0, []), zN, (.aload_n 0, 0, 0, []), (.getfield 156, 12, 28, []), zN, zN, (.isub, 0, 0, []), (.ireturn, 0, 0, []), (.aload_n 0, 0, 0, []), (.dup, 0, 0, []), (.getfield 61, 12, 3, []), zN], [zN, (.iconst 1, 0, 0, []), (.iadd, 0, 0, []), (.putfield 61, 12, 3, []), zN, zN, (.aload_n 0, 0, 0, []), (.getfield 61, 12, 3, []), zN, zN, (.iconst 1, 0, 0, []), (.isub, 0, 0, []), (.ireturn, 0, 0, [])]]
def zcX12_force : List (List zE) := [[(.iload_n 1, 1, 0, []), (.i2l, 0, 0, []), (.lconst 0, 0, 0, []), (.aload_n 0, 0, 0, []), (.getfield 61, 12, 3, []), zN, zN, (.iconst 1, 0, 0, []), (.isub, 0, 0, []), (.i2l, 0, 0, []), (.invokestatic 67, 130, 3, [(0, 0)]), zN, zN, (.ifCond .ne 6, 19, 0, []), zN, zN], [(.bipush (-2), 0, 0, []), zN, (.ireturn, 0, 0, []), (.aload_n 0, 0, 0, []), (.getfield 99, 12, 4, []), zN, zN, (.istore_n 2, 2, 0, []), (.aload_n 0, 0, 0, []), (.iload_n 1, 1, 0, []), (.putfield 99, 12, 4, []), zN, zN, (.iload_n 2, 2, 0, []), (.ireturn, 0, 0, [])]]
def zcX12_bitsOf : List (List zE) := [[(.iconst 0, 0, 0, []), (.istore_n 1, 1, 0, []), (.iload_n 0, 0, 0, []), (.istore_n 2, 2, 0, []), (.iload_n 2, 2, 0, []), (.ifCond .eq 15, 20, 0, []), zN, zN, (.iinc 1 1, 1, 0, []), zN, zN, (.iload_n 2, 2, 0, []), (.iload_n 2, 2, 0, []), (.iconst 1, 0, 0, []), (.isub, 0, 0, []), (.iand, 0, 0, [])], [(.istore_n 2, 2, 0, []), (.goto (-13), 4, 0, []), zN, zN, (.iload_n 1, 1, 0, []), (.ireturn, 0, 0, [])]]
def zcX12_wordsOf : List (List zE) := [[(.aload_n 0, 0, 0, []), (.getfield 23, 12, 8, []), zN, zN, (.iconst 5, 0, 0, []), (.iload_n 1, 1, 0, []), (.imul, 0, 0, []), (.iconst 1, 0, 0, []), (.iadd, 0, 0, []), (.iaload, 0, 0, []), (.aload_n 0, 0, 0, []), (.getfield 233, 12, 13, []), zN, zN, (.ior, 0, 0, []), (.ireturn, 0, 0, [])]]
def zcX12_says : List (List zE) := [[(.aload_n 0, 0, 0, []), (.aload_n 0, 0, 0, []), (.iload_n 2, 2, 0, []), (.invokevirtual 236, 1000, 1, [(12, 162)]), zN, zN, (.invokestatic 239, 161, 1, [(0, 0)]), zN, zN, (.putfield 175, 12, 14, []), zN, zN, (.aload_n 0, 0, 0, []), (.aload_n 0, 0, 0, []), (.getfield 23, 12, 8, []), zN], [zN, (.iconst 5, 0, 0, []), (.iload_n 2, 2, 0, []), (.imul, 0, 0, []), (.iconst 2, 0, 0, []), (.iadd, 0, 0, []), (.iaload, 0, 0, []), (.putfield 178, 12, 15, []), zN, zN, (.aload_n 0, 0, 0, []), (.aload_n 0, 0, 0, []), (.getfield 23, 12, 8, []), zN, zN, (.iconst 5, 0, 0, [])], [(.iload_n 2, 2, 0, []), (.imul, 0, 0, []), (.iaload, 0, 0, []), (.putfield 181, 12, 16, []), zN, zN, (.aload_n 0, 0, 0, []), (.aload_n 0, 0, 0, []), (.getfield 96, 12, 7, []), zN, zN, (.putfield 184, 12, 17, []), zN, zN, (.aload_n 0, 0, 0, []), (.iload_n 3, 3, 0, [])], [(.invokestatic 239, 161, 1, [(0, 0)]), zN, zN, (.putfield 187, 12, 18, []), zN, zN, (.aload_n 0, 0, 0, []), (.aload_n 0, 0, 0, []), (.getfield 23, 12, 8, []), zN, zN, (.iconst 5, 0, 0, []), (.iload_n 2, 2, 0, []), (.imul, 0, 0, []), (.iconst 3, 0, 0, []), (.iadd, 0, 0, [])], [(.iaload, 0, 0, []), (.putfield 190, 12, 19, []), zN, zN, (.aload_n 0, 0, 0, []), (.aload_n 0, 0, 0, []), (.getfield 99, 12, 4, []), zN, zN, (.iload_n 1, 1, 0, []), (.invokevirtual 230, 1000, 2, [(12, 158)]), zN, zN, (.iconst 0, 0, 0, []), (.bipush 99, 0, 0, []), zN], [(.invokestatic 242, 131, 3, [(0, 0)]), zN, zN, (.ireturn, 0, 0, [])]]
def zcX12_keepsOf : List (List zE) := [[(.aload_n 0, 0, 0, []), (.getfield 23, 12, 8, []), zN, zN, (.iconst 5, 0, 0, []), (.iload_n 1, 1, 0, []), (.imul, 0, 0, []), (.iconst 4, 0, 0, []), (.iadd, 0, 0, []), (.iaload, 0, 0, []), (.istore_n 3, 3, 0, []), (.iload_n 3, 3, 0, []), (.iconst 4, 0, 0, []), (.if_icmp .ne 15, 28, 0, []), zN, zN], [(.aload_n 0, 0, 0, []), (.getfield 96, 12, 7, []), zN, zN, (.iconst 4, 0, 0, []), (.irem, 0, 0, []), (.ifCond .ne 6, 28, 0, []), zN, zN, (.bipush 10, 0, 0, []), zN, (.ireturn, 0, 0, []), (.aload_n 0, 0, 0, []), (.iconst 0, 0, 0, []), (.iload_n 1, 1, 0, []), (.iload_n 2, 2, 0, [])], [(.invokevirtual 246, 1000, 3, [(12, 163)]), zN, zN, (.istore 4, 4, 0, []), zN, (.iload_n 3, 3, 0, []), (.iconst 1, 0, 0, []), (.if_icmp .eq 8, 47, 0, []), zN, zN, (.iload_n 3, 3, 0, []), (.iconst 3, 0, 0, []), (.if_icmp .ne 10, 54, 0, []), zN, zN, (.iload 4, 4, 0, [])], [zN, (.iconst 1, 0, 0, []), (.iadd, 0, 0, []), (.goto 34, 85, 0, []), zN, zN, (.iload_n 3, 3, 0, []), (.iconst 2, 0, 0, []), (.if_icmp .eq 8, 64, 0, []), zN, zN, (.iload_n 3, 3, 0, []), (.iconst 4, 0, 0, []), (.if_icmp .ne 10, 71, 0, []), zN, zN], [(.iconst 2, 0, 0, []), (.iload 4, 4, 0, []), zN, (.imul, 0, 0, []), (.goto 17, 85, 0, []), zN, zN, (.iload_n 3, 3, 0, []), (.iconst 5, 0, 0, []), (.if_icmp .ne 10, 83, 0, []), zN, zN, (.iload 4, 4, 0, []), zN, (.iconst 2, 0, 0, []), (.idiv, 0, 0, [])], [(.goto 5, 85, 0, []), zN, zN, (.iload 4, 4, 0, []), zN, (.iconst 0, 0, 0, []), (.bipush 10, 0, 0, []), zN, (.invokestatic 242, 131, 3, [(0, 0)]), zN, zN, (.ireturn, 0, 0, [])]]
def zcX12_tellsOf : List (List zE) := [[(.aload_n 0, 0, 0, []), (.getfield 23, 12, 8, []), zN, zN, (.iconst 5, 0, 0, []), (.iload_n 1, 1, 0, []), (.imul, 0, 0, []), (.iconst 4, 0, 0, []), (.iadd, 0, 0, []), (.iaload, 0, 0, []), (.istore_n 3, 3, 0, []), (.iload_n 2, 2, 0, []), (.aload_n 0, 0, 0, []), (.iload_n 1, 1, 0, []), (.invokevirtual 236, 1000, 1, [(12, 162)]), zN], [zN, (.iand, 0, 0, []), (.istore 4, 4, 0, []), zN, (.iconst 0, 0, 0, []), (.istore 5, 5, 0, []), zN, (.aload_n 0, 0, 0, []), (.iload_n 1, 1, 0, []), (.iload_n 2, 2, 0, []), (.invokevirtual 249, 1000, 2, [(12, 164)]), zN, zN, (.istore 6, 6, 0, []), zN, (.iload 6, 6, 0, [])], [zN, (.ifCond .le 29, 62, 0, []), zN, zN, (.iload 5, 5, 0, []), zN, (.iload 4, 4, 0, []), zN, (.iload 4, 4, 0, []), zN, (.ineg, 0, 0, []), (.iand, 0, 0, []), (.ior, 0, 0, []), (.istore 5, 5, 0, []), zN, (.iload 4, 4, 0, [])], [zN, (.iload 4, 4, 0, []), zN, (.iconst 1, 0, 0, []), (.isub, 0, 0, []), (.iand, 0, 0, []), (.istore 4, 4, 0, []), zN, (.iinc 6 (-1), 6, 0, []), zN, zN, (.goto (-28), 31, 0, []), zN, zN, (.aload_n 0, 0, 0, []), (.getfield 23, 12, 8, [])], [zN, zN, (.iconst 5, 0, 0, []), (.iload_n 1, 1, 0, []), (.imul, 0, 0, []), (.iaload, 0, 0, []), (.istore 6, 6, 0, []), zN, (.iload 5, 5, 0, []), zN, (.iload 5, 5, 0, []), zN, (.iconst 1, 0, 0, []), (.ishl, 0, 0, []), (.iload_n 2, 2, 0, []), (.iand, 0, 0, [])], [(.ior, 0, 0, []), (.istore 7, 7, 0, []), zN, (.iload_n 3, 3, 0, []), (.iconst 1, 0, 0, []), (.if_icmp .eq 8, 93, 0, []), zN, zN, (.iload_n 3, 3, 0, []), (.iconst 3, 0, 0, []), (.if_icmp .ne 34, 124, 0, []), zN, zN, (.iload_n 3, 3, 0, []), (.iconst 1, 0, 0, []), (.if_icmp .ne 13, 108, 0, [])], [zN, zN, (.iload 5, 5, 0, []), zN, (.iconst 1, 0, 0, []), (.iload 6, 6, 0, []), zN, (.ishl, 0, 0, []), (.ior, 0, 0, []), (.goto 18, 123, 0, []), zN, zN, (.iload 5, 5, 0, []), zN, (.iconst 1, 0, 0, []), (.iload 6, 6, 0, [])], [zN, (.ishl, 0, 0, []), (.ior, 0, 0, []), (.iconst 1, 0, 0, []), (.bipush 9, 0, 0, []), zN, (.iload 6, 6, 0, []), zN, (.isub, 0, 0, []), (.ishl, 0, 0, []), (.ixor, 0, 0, []), (.ireturn, 0, 0, []), (.iload_n 3, 3, 0, []), (.iconst 4, 0, 0, []), (.if_icmp .ne 30, 156, 0, []), zN], [zN, (.iload 7, 7, 0, []), zN, (.ifCond .ne 7, 138, 0, []), zN, zN, (.iconst 0, 0, 0, []), (.goto 20, 155, 0, []), zN, zN, (.iload 7, 7, 0, []), zN, (.aload_n 0, 0, 0, []), (.iload_n 1, 1, 0, []), (.invokevirtual 236, 1000, 1, [(12, 162)]), zN], [zN, (.iload 7, 7, 0, []), zN, (.iload 7, 7, 0, []), zN, (.ineg, 0, 0, []), (.iand, 0, 0, []), (.iconst 1, 0, 0, []), (.isub, 0, 0, []), (.iand, 0, 0, []), (.ior, 0, 0, []), (.ireturn, 0, 0, []), (.iload_n 3, 3, 0, []), (.iconst 2, 0, 0, []), (.if_icmp .ne 8, 166, 0, []), zN], [zN, (.iload 7, 7, 0, []), zN, (.goto 18, 181, 0, []), zN, zN, (.iload_n 3, 3, 0, []), (.iconst 5, 0, 0, []), (.if_icmp .ne 11, 179, 0, []), zN, zN, (.iload 5, 5, 0, []), zN, (.bipush 31, 0, 0, []), zN, (.iand, 0, 0, [])], [(.goto 5, 181, 0, []), zN, zN, (.iload 5, 5, 0, []), zN, (.ireturn, 0, 0, [])]]
def zcX12_tiresOf : List (List zE) := [[(.aload_n 0, 0, 0, []), (.getfield 23, 12, 8, []), zN, zN, (.iconst 5, 0, 0, []), (.iload_n 1, 1, 0, []), (.imul, 0, 0, []), (.iconst 4, 0, 0, []), (.iadd, 0, 0, []), (.iaload, 0, 0, []), (.istore_n 3, 3, 0, []), (.iload_n 3, 3, 0, []), (.iconst 1, 0, 0, []), (.if_icmp .eq 8, 21, 0, []), zN, zN], [(.iload_n 3, 3, 0, []), (.iconst 3, 0, 0, []), (.if_icmp .ne 21, 39, 0, []), zN, zN, (.iload_n 3, 3, 0, []), (.iconst 3, 0, 0, []), (.if_icmp .ne 14, 37, 0, []), zN, zN, (.aload_n 0, 0, 0, []), (.getfield 23, 12, 8, []), zN, zN, (.iconst 5, 0, 0, []), (.iload_n 1, 1, 0, [])], [(.imul, 0, 0, []), (.iaload, 0, 0, []), (.goto 4, 38, 0, []), zN, zN, (.iconst 0, 0, 0, []), (.ireturn, 0, 0, []), (.aload_n 0, 0, 0, []), (.iconst 1, 0, 0, []), (.iload_n 1, 1, 0, []), (.iload_n 2, 2, 0, []), (.invokevirtual 246, 1000, 3, [(12, 163)]), zN, zN, (.istore 4, 4, 0, []), zN], [(.iload_n 3, 3, 0, []), (.iconst 2, 0, 0, []), (.if_icmp .ne 10, 60, 0, []), zN, zN, (.iload 4, 4, 0, []), zN, (.iconst 1, 0, 0, []), (.iadd, 0, 0, []), (.goto 44, 101, 0, []), zN, zN, (.iload_n 3, 3, 0, []), (.iconst 4, 0, 0, []), (.if_icmp .ne 12, 74, 0, []), zN], [zN, (.iload 4, 4, 0, []), zN, (.iconst 1, 0, 0, []), (.iadd, 0, 0, []), (.iconst 2, 0, 0, []), (.idiv, 0, 0, []), (.goto 30, 101, 0, []), zN, zN, (.iload_n 3, 3, 0, []), (.iconst 5, 0, 0, []), (.if_icmp .ne 23, 99, 0, []), zN, zN, (.aload_n 0, 0, 0, [])], [(.getfield 23, 12, 8, []), zN, zN, (.iconst 5, 0, 0, []), (.iload_n 1, 1, 0, []), (.imul, 0, 0, []), (.iconst 3, 0, 0, []), (.iadd, 0, 0, []), (.iaload, 0, 0, []), (.iconst 2, 0, 0, []), (.irem, 0, 0, []), (.iconst 1, 0, 0, []), (.if_icmp .ne 7, 99, 0, []), zN, zN, (.iconst 0, 0, 0, [])], [(.goto 5, 101, 0, []), zN, zN, (.iload 4, 4, 0, []), zN, (.ireturn, 0, 0, [])]]
def zcX12_learns : List (List zE) := [[(.aload_n 0, 0, 0, []), (.getfield 23, 12, 8, []), zN, zN, (.iconst 5, 0, 0, []), (.iload_n 1, 1, 0, []), (.imul, 0, 0, []), (.iconst 4, 0, 0, []), (.iadd, 0, 0, []), (.iaload, 0, 0, []), (.istore_n 3, 3, 0, []), (.iload_n 3, 3, 0, []), (.iconst 1, 0, 0, []), (.if_icmp .eq 8, 21, 0, []), zN, zN], [(.iload_n 3, 3, 0, []), (.iconst 5, 0, 0, []), (.if_icmp .ne 5, 23, 0, []), zN, zN, (.iconst 0, 0, 0, []), (.ireturn, 1, 0, []), (.aload_n 0, 0, 0, []), (.iconst 2, 0, 0, []), (.iload_n 1, 1, 0, []), (.iload_n 2, 2, 0, []), (.invokevirtual 246, 1000, 3, [(12, 163)]), zN, zN, (.ifCond .ne 21, 51, 0, []), zN], [zN, (.iload_n 3, 3, 0, []), (.iconst 2, 0, 0, []), (.if_icmp .eq 8, 43, 0, []), zN, zN, (.iload_n 3, 3, 0, []), (.iconst 4, 0, 0, []), (.if_icmp .ne 15, 55, 0, []), zN, zN, (.iload_n 2, 2, 0, []), (.invokestatic 239, 161, 1, [(0, 0)]), zN, zN, (.iconst 1, 0, 0, [])], [(.if_icmp .ne 7, 55, 0, []), zN, zN, (.iconst 1, 0, 0, []), (.goto 4, 56, 0, []), zN, zN, (.iconst 0, 0, 0, []), (.ireturn, 1, 0, [])]]
def zcX12_asks : List (List zE) := [[(.aload_n 0, 0, 0, []), (.iload_n 1, 1, 0, []), (.invokevirtual 74, 1000, 1, [(12, 134)]), zN, zN, (.ifCond .eq 27, 32, 0, []), zN, zN, (.iload_n 2, 2, 0, []), (.i2l, 0, 0, []), (.lconst 0, 0, 0, []), (.ldc2_w 106, 0, 0, [(1023, 0)]), zN, zN, (.invokestatic 67, 130, 3, [(0, 0)]), zN], [zN, (.ifCond .eq 15, 32, 0, []), zN, zN, (.iload_n 3, 3, 0, []), (.i2l, 0, 0, []), (.lconst 0, 0, 0, []), (.ldc2_w 252, 0, 0, [(3, 0)]), zN, zN, (.invokestatic 67, 130, 3, [(0, 0)]), zN, zN, (.ifCond .ne 6, 35, 0, []), zN, zN], [(.bipush (-2), 0, 0, []), zN, (.ireturn, 0, 0, []), (.iload_n 3, 3, 0, []), (.ifCond .ne 12, 48, 0, []), zN, zN, (.aload_n 0, 0, 0, []), (.iload_n 1, 1, 0, []), (.iload_n 2, 2, 0, []), (.invokevirtual 254, 1000, 2, [(12, 165)]), zN, zN, (.goto 45, 90, 0, []), zN, zN], [(.iload_n 3, 3, 0, []), (.iconst 1, 0, 0, []), (.if_icmp .ne 12, 62, 0, []), zN, zN, (.aload_n 0, 0, 0, []), (.iload_n 1, 1, 0, []), (.iload_n 2, 2, 0, []), (.invokevirtual 249, 1000, 2, [(12, 164)]), zN, zN, (.goto 31, 90, 0, []), zN, zN, (.iload_n 3, 3, 0, []), (.iconst 2, 0, 0, [])], [(.if_icmp .ne 12, 76, 0, []), zN, zN, (.aload_n 0, 0, 0, []), (.iload_n 1, 1, 0, []), (.iload_n 2, 2, 0, []), (.invokevirtual 257, 1000, 2, [(12, 166)]), zN, zN, (.goto 17, 90, 0, []), zN, zN, (.aload_n 0, 0, 0, []), (.iload_n 1, 1, 0, []), (.iload_n 2, 2, 0, []), (.invokevirtual 260, 1000, 2, [(12, 167)])], [zN, zN, (.ifCond .eq 7, 89, 0, []), zN, zN, (.iconst 1, 0, 0, []), (.goto 4, 90, 0, []), zN, zN, (.iconst 0, 0, 0, []), (.ireturn, 0, 0, [])]]
def zcX12_byAll : List (List zE) := [[(.iload_n 1, 1, 0, []), (.istore_n 2, 2, 0, []), (.iconst 0, 0, 0, []), (.istore_n 3, 3, 0, []), (.iload_n 3, 3, 0, []), (.aload_n 0, 0, 0, []), (.getfield 64, 12, 9, []), zN, zN, (.if_icmp .ge 16, 25, 0, []), zN, zN, (.aload_n 0, 0, 0, []), (.iload_n 3, 3, 0, []), (.iload_n 2, 2, 0, []), (.invokevirtual 254, 1000, 2, [(12, 165)])], [zN, zN, (.istore_n 2, 2, 0, []), (.iinc 3 1, 3, 0, []), zN, zN, (.goto (-18), 4, 0, []), zN, zN, (.iload_n 2, 2, 0, []), (.ireturn, 0, 0, [])]]
def zcX12_off : List (List zE) := [[(.iload_n 0, 0, 0, []), (.iload_n 1, 1, 0, []), (.ixor, 0, 0, []), (.invokestatic 239, 161, 1, [(0, 0)]), zN, zN, (.ireturn, 0, 0, [])]]
def zcX12_over : List (List zE) := [[(.iload_n 1, 1, 0, []), (.invokestatic 263, 195, 1, [(0, 0)]), zN, zN, (.ifCond .eq 27, 31, 0, []), zN, zN, (.iload_n 2, 2, 0, []), (.i2l, 0, 0, []), (.lconst 0, 0, 0, []), (.ldc2_w 106, 0, 0, [(1023, 0)]), zN, zN, (.invokestatic 67, 130, 3, [(0, 0)]), zN, zN], [(.ifCond .eq 15, 31, 0, []), zN, zN, (.iload_n 3, 3, 0, []), (.i2l, 0, 0, []), (.lconst 0, 0, 0, []), (.ldc2_w 252, 0, 0, [(3, 0)]), zN, zN, (.invokestatic 67, 130, 3, [(0, 0)]), zN, zN, (.ifCond .ne 6, 34, 0, []), zN, zN, (.bipush (-2), 0, 0, [])], [zN, (.ireturn, 0, 0, []), (.aload_n 0, 0, 0, []), (.getfield 44, 12, 41, []), zN, zN, (.iload_n 1, 1, 0, []), (.baload, 0, 0, []), (.ifCond .ne 6, 46, 0, []), zN, zN, (.bipush (-11), 0, 0, []), zN, (.ireturn, 0, 0, []), (.iload_n 2, 2, 0, []), (.istore 4, 4, 0, [])], [zN, (.iconst 0, 0, 0, []), (.istore 5, 5, 0, []), zN, (.iload 5, 5, 0, []), zN, (.aload_n 0, 0, 0, []), (.getfield 51, 12, 43, []), zN, zN, (.iload_n 1, 1, 0, []), (.iaload, 0, 0, []), (.if_icmp .ge 31, 91, 0, []), zN, zN, (.aload_n 0, 0, 0, [])], [(.aload_n 0, 0, 0, []), (.getfield 54, 12, 44, []), zN, zN, (.bipush 40, 0, 0, []), zN, (.iload_n 1, 1, 0, []), (.imul, 0, 0, []), (.iload 5, 5, 0, []), zN, (.iadd, 0, 0, []), (.iaload, 0, 0, []), (.invokevirtual 74, 1000, 1, [(12, 134)]), zN, zN, (.ifCond .ne 6, 85, 0, [])], [zN, zN, (.bipush (-2), 0, 0, []), zN, (.ireturn, 0, 0, []), (.iinc 5 1, 5, 0, []), zN, zN, (.goto (-36), 52, 0, []), zN, zN, (.iconst 0, 0, 0, []), (.istore 5, 5, 0, []), zN, (.iload 5, 5, 0, []), zN], [(.aload_n 0, 0, 0, []), (.getfield 51, 12, 43, []), zN, zN, (.iload_n 1, 1, 0, []), (.iaload, 0, 0, []), (.if_icmp .ge 29, 131, 0, []), zN, zN, (.aload_n 0, 0, 0, []), (.aload_n 0, 0, 0, []), (.getfield 54, 12, 44, []), zN, zN, (.bipush 40, 0, 0, []), zN], [(.iload_n 1, 1, 0, []), (.imul, 0, 0, []), (.iload 5, 5, 0, []), zN, (.iadd, 0, 0, []), (.iaload, 0, 0, []), (.iload 4, 4, 0, []), zN, (.invokevirtual 254, 1000, 2, [(12, 165)]), zN, zN, (.istore 4, 4, 0, []), zN, (.iinc 5 1, 5, 0, []), zN, zN], [(.goto (-34), 94, 0, []), zN, zN, (.iload_n 3, 3, 0, []), (.ifCond .ne 8, 140, 0, []), zN, zN, (.iload 4, 4, 0, []), zN, (.goto 37, 174, 0, []), zN, zN, (.iload_n 3, 3, 0, []), (.iconst 1, 0, 0, []), (.if_icmp .ne 12, 154, 0, []), zN], [zN, (.iload_n 2, 2, 0, []), (.iload 4, 4, 0, []), zN, (.invokestatic 266, 170, 2, [(0, 0)]), zN, zN, (.goto 23, 174, 0, []), zN, zN, (.iload_n 3, 3, 0, []), (.iconst 2, 0, 0, []), (.if_icmp .ne 12, 168, 0, []), zN, zN, (.iload_n 2, 2, 0, [])], [(.iload 4, 4, 0, []), zN, (.iconst (-1), 0, 0, []), (.ixor, 0, 0, []), (.iand, 0, 0, []), (.goto 9, 174, 0, []), zN, zN, (.iload 4, 4, 0, []), zN, (.iload_n 2, 2, 0, []), (.iconst (-1), 0, 0, []), (.ixor, 0, 0, []), (.iand, 0, 0, []), (.ireturn, 0, 0, [])]]
def zcX12_tellsTruly : List (List zE) := [[(.iconst 5, 0, 0, []), (.iload_n 1, 1, 0, []), (.imul, 0, 0, []), (.istore_n 3, 3, 0, []), (.aload_n 0, 0, 0, []), (.iload_n 1, 1, 0, []), (.iload_n 2, 2, 0, []), (.invokevirtual 254, 1000, 2, [(12, 165)]), zN, zN, (.istore 4, 4, 0, []), zN, (.aload_n 0, 0, 0, []), (.iload_n 1, 1, 0, []), (.iload_n 2, 2, 0, []), (.invokevirtual 257, 1000, 2, [(12, 166)])], [zN, zN, (.istore 5, 5, 0, []), zN, (.iload_n 2, 2, 0, []), (.aload_n 0, 0, 0, []), (.getfield 23, 12, 8, []), zN, zN, (.iload_n 3, 3, 0, []), (.iconst 1, 0, 0, []), (.iadd, 0, 0, []), (.iaload, 0, 0, []), (.iconst (-1), 0, 0, []), (.ixor, 0, 0, []), (.iand, 0, 0, [])], [(.istore 6, 6, 0, []), zN, (.aload_n 0, 0, 0, []), (.getfield 23, 12, 8, []), zN, zN, (.iload_n 3, 3, 0, []), (.iconst 1, 0, 0, []), (.iadd, 0, 0, []), (.dup2, 0, 0, []), (.iaload, 0, 0, []), (.aload_n 0, 0, 0, []), (.iload_n 1, 1, 0, []), (.iload_n 2, 2, 0, []), (.invokevirtual 260, 1000, 2, [(12, 167)]), zN], [zN, (.ifCond .eq 12, 61, 0, []), zN, zN, (.iload 6, 6, 0, []), zN, (.iload 6, 6, 0, []), zN, (.ineg, 0, 0, []), (.iand, 0, 0, []), (.goto 4, 62, 0, []), zN, zN, (.iconst 0, 0, 0, []), (.ior, 0, 0, []), (.iastore, 0, 0, [])], [(.aload_n 0, 0, 0, []), (.getfield 23, 12, 8, []), zN, zN, (.iload_n 3, 3, 0, []), (.iconst 2, 0, 0, []), (.iadd, 0, 0, []), (.aload_n 0, 0, 0, []), (.getfield 23, 12, 8, []), zN, zN, (.iload_n 3, 3, 0, []), (.iconst 2, 0, 0, []), (.iadd, 0, 0, []), (.iaload, 0, 0, []), (.iload 5, 5, 0, [])], [zN, (.isub, 0, 0, []), (.iconst 0, 0, 0, []), (.bipush 99, 0, 0, []), zN, (.invokestatic 242, 131, 3, [(0, 0)]), zN, zN, (.iastore, 0, 0, []), (.aload_n 0, 0, 0, []), (.getfield 23, 12, 8, []), zN, zN, (.iload_n 3, 3, 0, []), (.iconst 3, 0, 0, []), (.iadd, 0, 0, [])], [(.aload_n 0, 0, 0, []), (.getfield 23, 12, 8, []), zN, zN, (.iload_n 3, 3, 0, []), (.iconst 3, 0, 0, []), (.iadd, 0, 0, []), (.iaload, 0, 0, []), (.iconst 1, 0, 0, []), (.iadd, 0, 0, []), (.iconst 0, 0, 0, []), (.bipush 99, 0, 0, []), zN, (.invokestatic 242, 131, 3, [(0, 0)]), zN, zN], [(.iastore, 0, 0, []), (.iload 4, 4, 0, []), zN, (.ireturn, 0, 0, [])]]
def zcX12_passes : List (List zE) := [[(.iconst (-1), 0, 0, []), (.istore_n 1, 1, 0, []), (.aload_n 0, 0, 0, []), (.getfield 71, 12, 11, []), zN, zN, (.ifCond .le 90, 96, 0, []), zN, zN, (.aload_n 0, 0, 0, []), (.getfield 26, 12, 10, []), zN, zN, (.iconst 0, 0, 0, []), (.iaload, 0, 0, []), (.istore_n 1, 1, 0, [])], [(.iconst 0, 0, 0, []), (.istore_n 2, 2, 0, []), (.iload_n 2, 2, 0, []), (.aload_n 0, 0, 0, []), (.getfield 64, 12, 9, []), zN, zN, (.if_icmp .ge 16, 39, 0, []), zN, zN, (.aload_n 0, 0, 0, []), (.iload_n 2, 2, 0, []), (.iload_n 1, 1, 0, []), (.invokevirtual 269, 1000, 2, [(12, 172)]), zN, zN], [(.istore_n 1, 1, 0, []), (.iinc 2 1, 2, 0, []), zN, zN, (.goto (-18), 18, 0, []), zN, zN, (.aload_n 0, 0, 0, []), (.dup, 0, 0, []), (.getfield 71, 12, 11, []), zN, zN, (.iconst 1, 0, 0, []), (.isub, 0, 0, []), (.putfield 71, 12, 11, []), zN], [zN, (.iconst 0, 0, 0, []), (.istore_n 2, 2, 0, []), (.iload_n 2, 2, 0, []), (.aload_n 0, 0, 0, []), (.getfield 71, 12, 11, []), zN, zN, (.if_icmp .ge 23, 79, 0, []), zN, zN, (.aload_n 0, 0, 0, []), (.getfield 26, 12, 10, []), zN, zN, (.iload_n 2, 2, 0, [])], [(.aload_n 0, 0, 0, []), (.getfield 26, 12, 10, []), zN, zN, (.iload_n 2, 2, 0, []), (.iconst 1, 0, 0, []), (.iadd, 0, 0, []), (.iaload, 0, 0, []), (.iastore, 0, 0, []), (.iinc 2 1, 2, 0, []), zN, zN, (.goto (-25), 51, 0, []), zN, zN, (.aload_n 0, 0, 0, [])], [(.aload_n 0, 0, 0, []), (.getfield 112, 12, 12, []), zN, zN, (.iconst 1, 0, 0, []), (.iadd, 0, 0, []), (.iconst 0, 0, 0, []), (.sipush 999, 0, 0, []), zN, zN, (.invokestatic 242, 131, 3, [(0, 0)]), zN, zN, (.putfield 112, 12, 12, []), zN, zN], [(.aload_n 0, 0, 0, []), (.dup, 0, 0, []), (.getfield 96, 12, 7, []), zN, zN, (.iconst 1, 0, 0, []), (.iadd, 0, 0, []), (.putfield 96, 12, 7, []), zN, zN, (.iload_n 1, 1, 0, []), (.ireturn, 0, 0, [])]]
def zcX12_day : List (List zE) := [[(.aload_n 0, 0, 0, []), (.getfield 96, 12, 7, []), zN, zN, (.sipush 999, 0, 0, []), zN, zN, (.if_icmp .ne 8, 15, 0, []), zN, zN, (.bipush (-3), 0, 0, []), zN, (.goto 7, 19, 0, []), zN, zN, (.aload_n 0, 0, 0, [])], [(.invokevirtual 272, 1000, 0, [(12, 173)]), zN, zN, (.ireturn, 0, 0, [])]]
def zcX12_laysAside : List (List zE) := [[(.iconst 0, 0, 0, []), (.istore_n 1, 1, 0, []), (.iload_n 1, 1, 0, []), (.bipush 25, 0, 0, []), zN, (.if_icmp .ge 21, 26, 0, []), zN, zN, (.aload_n 0, 0, 0, []), (.getfield 29, 12, 29, []), zN, zN, (.iload_n 1, 1, 0, []), (.aload_n 0, 0, 0, []), (.getfield 23, 12, 8, []), zN], [zN, (.iload_n 1, 1, 0, []), (.iaload, 0, 0, []), (.iastore, 0, 0, []), (.iinc 1 1, 1, 0, []), zN, zN, (.goto (-21), 2, 0, []), zN, zN, (.iconst 0, 0, 0, []), (.istore_n 1, 1, 0, []), (.iload_n 1, 1, 0, []), (.bipush 8, 0, 0, []), zN, (.if_icmp .ge 24, 55, 0, [])], [zN, zN, (.aload_n 0, 0, 0, []), (.getfield 29, 12, 29, []), zN, zN, (.bipush 25, 0, 0, []), zN, (.iload_n 1, 1, 0, []), (.iadd, 0, 0, []), (.aload_n 0, 0, 0, []), (.getfield 26, 12, 10, []), zN, zN, (.iload_n 1, 1, 0, []), (.iaload, 0, 0, [])], [(.iastore, 0, 0, []), (.iinc 1 1, 1, 0, []), zN, zN, (.goto (-24), 28, 0, []), zN, zN, (.aload_n 0, 0, 0, []), (.getfield 29, 12, 29, []), zN, zN, (.bipush 33, 0, 0, []), zN, (.aload_n 0, 0, 0, []), (.getfield 71, 12, 11, []), zN], [zN, (.iastore, 0, 0, []), (.aload_n 0, 0, 0, []), (.getfield 29, 12, 29, []), zN, zN, (.bipush 34, 0, 0, []), zN, (.aload_n 0, 0, 0, []), (.getfield 112, 12, 12, []), zN, zN, (.iastore, 0, 0, []), (.aload_n 0, 0, 0, []), (.getfield 29, 12, 29, []), zN], [zN, (.bipush 35, 0, 0, []), zN, (.aload_n 0, 0, 0, []), (.getfield 96, 12, 7, []), zN, zN, (.iastore, 0, 0, []), (.return_, 0, 0, [])]]
def zcX12_laysBack : List (List zE) := [[(.iconst 0, 0, 0, []), (.istore_n 1, 1, 0, []), (.iload_n 1, 1, 0, []), (.bipush 25, 0, 0, []), zN, (.if_icmp .ge 21, 26, 0, []), zN, zN, (.aload_n 0, 0, 0, []), (.getfield 23, 12, 8, []), zN, zN, (.iload_n 1, 1, 0, []), (.aload_n 0, 0, 0, []), (.getfield 29, 12, 29, []), zN], [zN, (.iload_n 1, 1, 0, []), (.iaload, 0, 0, []), (.iastore, 0, 0, []), (.iinc 1 1, 1, 0, []), zN, zN, (.goto (-21), 2, 0, []), zN, zN, (.iconst 0, 0, 0, []), (.istore_n 1, 1, 0, []), (.iload_n 1, 1, 0, []), (.bipush 8, 0, 0, []), zN, (.if_icmp .ge 24, 55, 0, [])], [zN, zN, (.aload_n 0, 0, 0, []), (.getfield 26, 12, 10, []), zN, zN, (.iload_n 1, 1, 0, []), (.aload_n 0, 0, 0, []), (.getfield 29, 12, 29, []), zN, zN, (.bipush 25, 0, 0, []), zN, (.iload_n 1, 1, 0, []), (.iadd, 0, 0, []), (.iaload, 0, 0, [])], [(.iastore, 0, 0, []), (.iinc 1 1, 1, 0, []), zN, zN, (.goto (-24), 28, 0, []), zN, zN, (.aload_n 0, 0, 0, []), (.aload_n 0, 0, 0, []), (.getfield 29, 12, 29, []), zN, zN, (.bipush 33, 0, 0, []), zN, (.iaload, 0, 0, []), (.putfield 71, 12, 11, [])], [zN, zN, (.aload_n 0, 0, 0, []), (.aload_n 0, 0, 0, []), (.getfield 29, 12, 29, []), zN, zN, (.bipush 34, 0, 0, []), zN, (.iaload, 0, 0, []), (.putfield 112, 12, 12, []), zN, zN, (.aload_n 0, 0, 0, []), (.aload_n 0, 0, 0, []), (.getfield 29, 12, 29, [])], [zN, zN, (.bipush 35, 0, 0, []), zN, (.iaload, 0, 0, []), (.putfield 96, 12, 7, []), zN, zN, (.return_, 0, 0, [])]]
def zcX12_run : List (List zE) := [[(.iload_n 2, 2, 0, []), (.i2l, 0, 0, []), (.ldc2_w 150, 0, 0, [(10, 0)]), zN, zN, (.ldc2_w 275, 0, 0, [(14, 0)]), zN, zN, (.invokestatic 67, 130, 3, [(0, 0)]), zN, zN, (.ifCond .ne 17, 28, 0, []), zN, zN, (.iload_n 2, 2, 0, []), (.i2l, 0, 0, [])], [(.ldc2_w 277, 0, 0, [(20, 0)]), zN, zN, (.ldc2_w 279, 0, 0, [(24, 0)]), zN, zN, (.invokestatic 67, 130, 3, [(0, 0)]), zN, zN, (.ifCond .eq 18, 43, 0, []), zN, zN, (.aload_n 0, 0, 0, []), (.iload_n 2, 2, 0, []), (.bipush 10, 0, 0, []), zN], [(.irem, 0, 0, []), (.invokevirtual 74, 1000, 1, [(12, 134)]), zN, zN, (.ifCond .eq 7, 43, 0, []), zN, zN, (.iconst 1, 0, 0, []), (.goto 4, 44, 0, []), zN, zN, (.iconst 0, 0, 0, []), (.istore_n 3, 3, 0, []), (.iload_n 1, 1, 0, []), (.i2l, 0, 0, []), (.lconst 0, 0, 0, [])], [(.ldc2_w 277, 0, 0, [(20, 0)]), zN, zN, (.invokestatic 67, 130, 3, [(0, 0)]), zN, zN, (.ifCond .eq 17, 71, 0, []), zN, zN, (.iload_n 2, 2, 0, []), (.i2l, 0, 0, []), (.lconst 0, 0, 0, []), (.lconst 1, 0, 0, []), (.invokestatic 67, 130, 3, [(0, 0)]), zN, zN], [(.ifCond .ne 11, 75, 0, []), zN, zN, (.iload_n 3, 3, 0, []), (.ifCond .ne 7, 75, 0, []), zN, zN, (.sipush (-1000), 0, 0, []), zN, zN, (.ireturn, 0, 0, []), (.aload_n 0, 0, 0, []), (.invokevirtual 281, 1000, 0, [(12, 175)]), zN, zN, (.iconst (-1), 0, 0, [])], [(.istore 4, 4, 0, []), zN, (.iconst 0, 0, 0, []), (.istore 5, 5, 0, []), zN, (.iconst 0, 0, 0, []), (.istore 6, 6, 0, []), zN, (.iload 6, 6, 0, []), zN, (.iload_n 1, 1, 0, []), (.if_icmp .ge 46, 137, 0, []), zN, zN, (.aload_n 0, 0, 0, []), (.invokevirtual 272, 1000, 0, [(12, 173)])], [zN, zN, (.istore 7, 7, 0, []), zN, (.iload 7, 7, 0, []), zN, (.iconst (-1), 0, 0, []), (.if_icmp .ne 8, 111, 0, []), zN, zN, (.iload 4, 4, 0, []), zN, (.goto 5, 113, 0, []), zN, zN, (.iload 7, 7, 0, [])], [zN, (.istore 4, 4, 0, []), zN, (.iload 5, 5, 0, []), zN, (.iload 7, 7, 0, []), zN, (.iconst (-1), 0, 0, []), (.if_icmp .ne 7, 127, 0, []), zN, zN, (.iconst 0, 0, 0, []), (.goto 4, 128, 0, []), zN, zN, (.iconst 1, 0, 0, [])], [(.iadd, 0, 0, []), (.istore 5, 5, 0, []), zN, (.iinc 6 1, 6, 0, []), zN, zN, (.goto (-46), 88, 0, []), zN, zN, (.iload_n 2, 2, 0, []), (.ifCond .ne 8, 146, 0, []), zN, zN, (.iload 4, 4, 0, []), zN, (.goto 29, 172, 0, [])], [zN, zN, (.iload_n 2, 2, 0, []), (.iconst 1, 0, 0, []), (.if_icmp .ne 8, 156, 0, []), zN, zN, (.iload 5, 5, 0, []), zN, (.goto 19, 172, 0, []), zN, zN, (.aload_n 0, 0, 0, []), (.getfield 23, 12, 8, []), zN, zN], [(.iconst 5, 0, 0, []), (.iload_n 2, 2, 0, []), (.bipush 10, 0, 0, []), zN, (.irem, 0, 0, []), (.imul, 0, 0, []), (.iload_n 2, 2, 0, []), (.bipush 10, 0, 0, []), zN, (.idiv, 0, 0, []), (.iadd, 0, 0, []), (.iaload, 0, 0, []), (.istore 6, 6, 0, []), zN, (.aload_n 0, 0, 0, []), (.invokevirtual 284, 1000, 0, [(12, 176)])], [zN, zN, (.iload 6, 6, 0, []), zN, (.ireturn, 0, 0, [])]]
def zcX12_fro : List (List zE) := [[(.iload_n 1, 1, 0, []), (.i2l, 0, 0, []), (.lconst 0, 0, 0, []), (.ldc2_w 106, 0, 0, [(1023, 0)]), zN, zN, (.invokestatic 67, 130, 3, [(0, 0)]), zN, zN, (.ifCond .eq 13, 22, 0, []), zN, zN, (.iload_n 2, 2, 0, []), (.i2l, 0, 0, []), (.lconst 0, 0, 0, []), (.lconst 1, 0, 0, [])], [(.invokestatic 67, 130, 3, [(0, 0)]), zN, zN, (.ifCond .ne 6, 25, 0, []), zN, zN, (.bipush (-2), 0, 0, []), zN, (.ireturn, 0, 0, []), (.aload_n 0, 0, 0, []), (.getfield 32, 12, 30, []), zN, zN, (.iconst 0, 0, 0, []), (.iload_n 1, 1, 0, []), (.iastore, 0, 0, [])], [(.iconst 1, 0, 0, []), (.istore_n 3, 3, 0, []), (.iload_n 3, 3, 0, []), (.bipush 60, 0, 0, []), zN, (.if_icmp .gt 73, 110, 0, []), zN, zN, (.aload_n 0, 0, 0, []), (.getfield 32, 12, 30, []), zN, zN, (.iload_n 3, 3, 0, []), (.aload_n 0, 0, 0, []), (.aload_n 0, 0, 0, []), (.getfield 32, 12, 30, [])], [zN, zN, (.iload_n 3, 3, 0, []), (.iconst 1, 0, 0, []), (.isub, 0, 0, []), (.iaload, 0, 0, []), (.invokevirtual 287, 1000, 1, [(12, 169)]), zN, zN, (.iastore, 0, 0, []), (.iconst 0, 0, 0, []), (.istore 4, 4, 0, []), zN, (.iload 4, 4, 0, []), zN, (.iload_n 3, 3, 0, [])], [(.if_icmp .ge 40, 104, 0, []), zN, zN, (.aload_n 0, 0, 0, []), (.getfield 32, 12, 30, []), zN, zN, (.iload 4, 4, 0, []), zN, (.iaload, 0, 0, []), (.aload_n 0, 0, 0, []), (.getfield 32, 12, 30, []), zN, zN, (.iload_n 3, 3, 0, []), (.iaload, 0, 0, [])], [(.if_icmp .ne 18, 98, 0, []), zN, zN, (.iload_n 2, 2, 0, []), (.ifCond .ne 7, 91, 0, []), zN, zN, (.iload_n 3, 3, 0, []), (.goto 9, 97, 0, []), zN, zN, (.aload_n 0, 0, 0, []), (.getfield 32, 12, 30, []), zN, zN, (.iload_n 3, 3, 0, [])], [(.iaload, 0, 0, []), (.ireturn, 0, 0, []), (.iinc 4 1, 4, 0, []), zN, zN, (.goto (-40), 61, 0, []), zN, zN, (.iinc 3 1, 3, 0, []), zN, zN, (.goto (-73), 34, 0, []), zN, zN, (.iconst (-1), 0, 0, []), (.ireturn, 0, 0, [])]]
def zcX12_rowsFrom : List (List zE) := [[(.iload_n 1, 1, 0, []), (.iload_n 2, 2, 0, []), (.invokestatic 266, 170, 2, [(0, 0)]), zN, zN, (.istore 7, 7, 0, []), zN, (.iload_n 3, 3, 0, []), (.ifCond .le 46, 54, 0, []), zN, zN, (.iload 7, 7, 0, []), zN, (.aload_n 0, 0, 0, []), (.getfield 290, 12, 32, []), zN], [zN, (.if_icmp .lt 20, 37, 0, []), zN, zN, (.iload 7, 7, 0, []), zN, (.aload_n 0, 0, 0, []), (.getfield 290, 12, 32, []), zN, zN, (.if_icmp .ne 28, 54, 0, []), zN, zN, (.iload_n 3, 3, 0, []), (.aload_n 0, 0, 0, []), (.getfield 293, 12, 33, [])], [zN, zN, (.if_icmp .ge 20, 54, 0, []), zN, zN, (.aload_n 0, 0, 0, []), (.iload 6, 6, 0, []), zN, (.putfield 296, 12, 31, []), zN, zN, (.aload_n 0, 0, 0, []), (.iload 7, 7, 0, []), zN, (.putfield 290, 12, 32, []), zN], [zN, (.aload_n 0, 0, 0, []), (.iload_n 3, 3, 0, []), (.putfield 293, 12, 33, []), zN, zN, (.iconst 0, 0, 0, []), (.istore 8, 8, 0, []), zN, (.iload 8, 8, 0, []), zN, (.aload_n 0, 0, 0, []), (.getfield 64, 12, 9, []), zN, zN, (.if_icmp .ge 59, 122, 0, [])], [zN, zN, (.iload_n 3, 3, 0, []), (.iload 4, 4, 0, []), zN, (.if_icmp .ge 53, 122, 0, []), zN, zN, (.iload 5, 5, 0, []), zN, (.iload 8, 8, 0, []), zN, (.ishr, 0, 0, []), (.iconst 1, 0, 0, []), (.iand, 0, 0, []), (.ifCond .ne 37, 116, 0, [])], [zN, zN, (.aload_n 0, 0, 0, []), (.iload_n 1, 1, 0, []), (.aload_n 0, 0, 0, []), (.iload 8, 8, 0, []), zN, (.iload_n 2, 2, 0, []), (.invokevirtual 254, 1000, 2, [(12, 165)]), zN, zN, (.iload_n 3, 3, 0, []), (.iconst 1, 0, 0, []), (.iadd, 0, 0, []), (.iload 4, 4, 0, []), zN], [(.iload 5, 5, 0, []), zN, (.iconst 1, 0, 0, []), (.iload 8, 8, 0, []), zN, (.ishl, 0, 0, []), (.ior, 0, 0, []), (.bipush 10, 0, 0, []), zN, (.iload 6, 6, 0, []), zN, (.imul, 0, 0, []), (.iload 8, 8, 0, []), zN, (.iadd, 0, 0, []), (.iconst 1, 0, 0, [])], [(.iadd, 0, 0, []), (.invokevirtual 299, 1000, 6, [(12, 179)]), zN, zN, (.iinc 8 1, 8, 0, []), zN, zN, (.goto (-62), 57, 0, []), zN, zN, (.return_, 0, 0, [])]]
def zcX12_row : List (List zE) := [[(.iload_n 1, 1, 0, []), (.i2l, 0, 0, []), (.lconst 0, 0, 0, []), (.ldc2_w 106, 0, 0, [(1023, 0)]), zN, zN, (.invokestatic 67, 130, 3, [(0, 0)]), zN, zN, (.ifCond .eq 25, 34, 0, []), zN, zN, (.iload_n 2, 2, 0, []), (.i2l, 0, 0, []), (.lconst 1, 0, 0, []), (.ldc2_w 252, 0, 0, [(3, 0)])], [zN, zN, (.invokestatic 67, 130, 3, [(0, 0)]), zN, zN, (.ifCond .eq 13, 34, 0, []), zN, zN, (.iload_n 3, 3, 0, []), (.i2l, 0, 0, []), (.lconst 0, 0, 0, []), (.lconst 1, 0, 0, []), (.invokestatic 67, 130, 3, [(0, 0)]), zN, zN, (.ifCond .ne 6, 37, 0, [])], [zN, zN, (.bipush (-2), 0, 0, []), zN, (.ireturn, 0, 0, []), (.aload_n 0, 0, 0, []), (.getfield 64, 12, 9, []), zN, zN, (.ifCond .ne 5, 46, 0, []), zN, zN, (.iconst (-1), 0, 0, []), (.ireturn, 0, 0, []), (.aload_n 0, 0, 0, []), (.bipush 100, 0, 0, [])], [zN, (.putfield 290, 12, 32, []), zN, zN, (.aload_n 0, 0, 0, []), (.iload_n 1, 1, 0, []), (.iload_n 1, 1, 0, []), (.iconst 0, 0, 0, []), (.iload_n 2, 2, 0, []), (.iconst 0, 0, 0, []), (.iconst 0, 0, 0, []), (.invokevirtual 299, 1000, 6, [(12, 179)]), zN, zN, (.iload_n 3, 3, 0, []), (.ifCond .ne 10, 73, 0, [])], [zN, zN, (.aload_n 0, 0, 0, []), (.getfield 296, 12, 31, []), zN, zN, (.goto 7, 77, 0, []), zN, zN, (.aload_n 0, 0, 0, []), (.getfield 290, 12, 32, []), zN, zN, (.ireturn, 0, 0, [])]]
def zcX12_learn : List (List zE) := [[(.iload_n 1, 1, 0, []), (.i2l, 0, 0, []), (.lconst 0, 0, 0, []), (.ldc2_w 106, 0, 0, [(1023, 0)]), zN, zN, (.invokestatic 67, 130, 3, [(0, 0)]), zN, zN, (.ifCond .eq 13, 22, 0, []), zN, zN, (.iload_n 2, 2, 0, []), (.i2l, 0, 0, []), (.lconst 0, 0, 0, []), (.lconst 1, 0, 0, [])], [(.invokestatic 67, 130, 3, [(0, 0)]), zN, zN, (.ifCond .ne 6, 25, 0, []), zN, zN, (.bipush (-2), 0, 0, []), zN, (.ireturn, 0, 0, []), (.iconst (-1), 0, 0, []), (.istore_n 3, 3, 0, []), (.iconst 0, 0, 0, []), (.istore 4, 4, 0, []), zN, (.iload 4, 4, 0, []), zN], [(.sipush 1023, 0, 0, []), zN, zN, (.if_icmp .gt 48, 83, 0, []), zN, zN, (.iload_n 3, 3, 0, []), (.iconst (-1), 0, 0, []), (.if_icmp .eq 15, 55, 0, []), zN, zN, (.iload 4, 4, 0, []), zN, (.invokestatic 239, 161, 1, [(0, 0)]), zN, zN], [(.iload_n 3, 3, 0, []), (.invokestatic 239, 161, 1, [(0, 0)]), zN, zN, (.if_icmp .ge 25, 77, 0, []), zN, zN, (.aload_n 0, 0, 0, []), (.iload 4, 4, 0, []), zN, (.putfield 233, 12, 13, []), zN, zN, (.aload_n 0, 0, 0, []), (.iload_n 1, 1, 0, []), (.invokevirtual 287, 1000, 1, [(12, 169)])], [zN, zN, (.iload_n 1, 1, 0, []), (.if_icmp .ne 8, 75, 0, []), zN, zN, (.iload 4, 4, 0, []), zN, (.goto 4, 76, 0, []), zN, zN, (.iload_n 3, 3, 0, []), (.istore_n 3, 3, 0, []), (.iinc 4 1, 4, 0, []), zN, zN], [(.goto (-50), 30, 0, []), zN, zN, (.aload_n 0, 0, 0, []), (.iconst 0, 0, 0, []), (.putfield 233, 12, 13, []), zN, zN, (.iload_n 2, 2, 0, []), (.ifCond .eq 8, 97, 0, []), zN, zN, (.iload_n 3, 3, 0, []), (.iconst (-1), 0, 0, []), (.if_icmp .ne 7, 101, 0, []), zN], [zN, (.iload_n 3, 3, 0, []), (.goto 7, 105, 0, []), zN, zN, (.iload_n 3, 3, 0, []), (.invokestatic 239, 161, 1, [(0, 0)]), zN, zN, (.ireturn, 0, 0, [])]]
def zcX12_from : List (List zE) := [[(.iload_n 1, 1, 0, []), (.i2l, 0, 0, []), (.lconst 0, 0, 0, []), (.ldc2_w 106, 0, 0, [(1023, 0)]), zN, zN, (.invokestatic 67, 130, 3, [(0, 0)]), zN, zN, (.ifCond .eq 13, 22, 0, []), zN, zN, (.iload_n 2, 2, 0, []), (.i2l, 0, 0, []), (.lconst 0, 0, 0, []), (.lconst 1, 0, 0, [])], [(.invokestatic 67, 130, 3, [(0, 0)]), zN, zN, (.ifCond .ne 6, 25, 0, []), zN, zN, (.bipush (-2), 0, 0, []), zN, (.ireturn, 0, 0, []), (.iconst 0, 0, 0, []), (.istore_n 3, 3, 0, []), (.iconst (-1), 0, 0, []), (.istore 4, 4, 0, []), zN, (.sipush 1023, 0, 0, []), zN], [zN, (.istore 5, 5, 0, []), zN, (.iload 5, 5, 0, []), zN, (.ifCond .lt 26, 63, 0, []), zN, zN, (.aload_n 0, 0, 0, []), (.iload 5, 5, 0, []), zN, (.invokevirtual 287, 1000, 1, [(12, 169)]), zN, zN, (.iload_n 1, 1, 0, []), (.if_icmp .ne 10, 57, 0, [])], [zN, zN, (.iinc 3 1, 3, 0, []), zN, zN, (.iload 5, 5, 0, []), zN, (.istore 4, 4, 0, []), zN, (.iinc 5 (-1), 5, 0, []), zN, zN, (.goto (-25), 35, 0, []), zN, zN, (.iload_n 2, 2, 0, [])], [(.ifCond .ne 7, 71, 0, []), zN, zN, (.iload_n 3, 3, 0, []), (.goto 5, 73, 0, []), zN, zN, (.iload 4, 4, 0, []), zN, (.ireturn, 0, 0, [])]]
def zcX12_lowest : List (List zE) := [[(.lload_n 0, 0, 0, []), (.lstore 5, 5, 0, []), zN, (.lload_n 2, 2, 0, []), (.lstore 7, 7, 0, []), zN, (.lload 7, 7, 0, []), zN, (.lconst 0, 0, 0, []), (.lcmp, 0, 0, []), (.ifCond .eq 21, 31, 0, []), zN, zN, (.lload 5, 5, 0, []), zN, (.lload 7, 7, 0, [])], [zN, (.lrem, 0, 0, []), (.lstore 9, 9, 0, []), zN, (.lload 7, 7, 0, []), zN, (.lstore 5, 5, 0, []), zN, (.lload 9, 9, 0, []), zN, (.lstore 7, 7, 0, []), zN, (.goto (-22), 6, 0, []), zN, zN, (.iload 4, 4, 0, [])], [zN, (.ifCond .ne 10, 43, 0, []), zN, zN, (.lload_n 0, 0, 0, []), (.lload 5, 5, 0, []), zN, (.ldiv, 0, 0, []), (.goto 7, 47, 0, []), zN, zN, (.lload_n 2, 2, 0, []), (.lload 5, 5, 0, []), zN, (.ldiv, 0, 0, []), (.lreturn, 0, 0, [])]]
def zcX12_mean : List (List zE) := [[(.iload_n 1, 1, 0, []), (.i2l, 0, 0, []), (.lconst 0, 0, 0, []), (.lconst 1, 0, 0, []), (.invokestatic 67, 130, 3, [(0, 0)]), zN, zN, (.ifCond .eq 10, 17, 0, []), zN, zN, (.aload_n 0, 0, 0, []), (.getfield 64, 12, 9, []), zN, zN, (.ifCond .ne 7, 21, 0, []), zN], [zN, (.ldc2_w 303, 0, 0, [((-4611686018427387904), 0)]), zN, zN, (.lreturn, 0, 0, []), (.iconst 0, 0, 0, []), (.istore_n 2, 2, 0, []), (.iconst 0, 0, 0, []), (.istore_n 3, 3, 0, []), (.iload_n 3, 3, 0, []), (.aload_n 0, 0, 0, []), (.getfield 64, 12, 9, []), zN, zN, (.if_icmp .ge 25, 55, 0, []), zN], [zN, (.iload_n 2, 2, 0, []), (.aload_n 0, 0, 0, []), (.getfield 23, 12, 8, []), zN, zN, (.iconst 5, 0, 0, []), (.iload_n 3, 3, 0, []), (.imul, 0, 0, []), (.iconst 1, 0, 0, []), (.iadd, 0, 0, []), (.iaload, 0, 0, []), (.invokestatic 239, 161, 1, [(0, 0)]), zN, zN, (.iadd, 0, 0, [])], [(.istore_n 2, 2, 0, []), (.iinc 3 1, 3, 0, []), zN, zN, (.goto (-27), 25, 0, []), zN, zN, (.iload_n 2, 2, 0, []), (.i2l, 0, 0, []), (.aload_n 0, 0, 0, []), (.getfield 64, 12, 9, []), zN, zN, (.i2l, 0, 0, []), (.iload_n 1, 1, 0, []), (.invokestatic 305, 183, 3, [(0, 0)])], [zN, zN, (.lreturn, 0, 0, [])]]
def zcX12_firstOther : List (List zE) := [[(.iconst 0, 0, 0, []), (.istore_n 3, 3, 0, []), (.iload_n 3, 3, 0, []), (.aload_n 0, 0, 0, []), (.getfield 51, 12, 43, []), zN, zN, (.iload_n 1, 1, 0, []), (.iaload, 0, 0, []), (.if_icmp .ge 33, 42, 0, []), zN, zN, (.aload_n 0, 0, 0, []), (.iload_n 2, 2, 0, []), (.iconst 1, 0, 0, []), (.iload_n 3, 3, 0, [])], [(.ishl, 0, 0, []), (.invokevirtual 254, 1000, 2, [(12, 165)]), zN, zN, (.aload_n 0, 0, 0, []), (.getfield 54, 12, 44, []), zN, zN, (.bipush 40, 0, 0, []), zN, (.iload_n 1, 1, 0, []), (.imul, 0, 0, []), (.iload_n 3, 3, 0, []), (.iadd, 0, 0, []), (.iaload, 0, 0, []), (.if_icmp .eq 5, 36, 0, [])], [zN, zN, (.iload_n 3, 3, 0, []), (.ireturn, 0, 0, []), (.iinc 3 1, 3, 0, []), zN, zN, (.goto (-37), 2, 0, []), zN, zN, (.iconst (-1), 0, 0, []), (.ireturn, 0, 0, [])]]
def zcX12_likeSet : List (List zE) := [[(.iconst 0, 0, 0, []), (.istore_n 2, 2, 0, []), (.iconst 0, 0, 0, []), (.istore_n 3, 3, 0, []), (.iload_n 3, 3, 0, []), (.aload_n 0, 0, 0, []), (.getfield 64, 12, 9, []), zN, zN, (.if_icmp .ge 29, 38, 0, []), zN, zN, (.iload_n 2, 2, 0, []), (.aload_n 0, 0, 0, []), (.iload_n 1, 1, 0, []), (.iload_n 3, 3, 0, [])], [(.invokevirtual 309, 1000, 2, [(12, 185)]), zN, zN, (.iconst (-1), 0, 0, []), (.if_icmp .ne 7, 27, 0, []), zN, zN, (.iconst 1, 0, 0, []), (.goto 4, 28, 0, []), zN, zN, (.iconst 0, 0, 0, []), (.iload_n 3, 3, 0, []), (.ishl, 0, 0, []), (.ior, 0, 0, []), (.istore_n 2, 2, 0, [])], [(.iinc 3 1, 3, 0, []), zN, zN, (.goto (-31), 4, 0, []), zN, zN, (.iload_n 2, 2, 0, []), (.ireturn, 0, 0, [])]]
def zcX12_tells : List (List zE) := [[(.iload_n 1, 1, 0, []), (.invokestatic 263, 195, 1, [(0, 0)]), zN, zN, (.ifCond .eq 23, 27, 0, []), zN, zN, (.aload_n 0, 0, 0, []), (.iload_n 2, 2, 0, []), (.invokevirtual 74, 1000, 1, [(12, 134)]), zN, zN, (.ifCond .eq 15, 27, 0, []), zN, zN, (.iload_n 3, 3, 0, [])], [(.i2l, 0, 0, []), (.lconst 0, 0, 0, []), (.ldc2_w 110, 0, 0, [(8, 0)]), zN, zN, (.invokestatic 67, 130, 3, [(0, 0)]), zN, zN, (.ifCond .ne 6, 30, 0, []), zN, zN, (.bipush (-2), 0, 0, []), zN, (.ireturn, 0, 0, []), (.aload_n 0, 0, 0, []), (.getfield 44, 12, 41, [])], [zN, zN, (.iload_n 1, 1, 0, []), (.baload, 0, 0, []), (.ifCond .ne 6, 42, 0, []), zN, zN, (.bipush (-11), 0, 0, []), zN, (.ireturn, 0, 0, []), (.aload_n 0, 0, 0, []), (.getfield 51, 12, 43, []), zN, zN, (.iload_n 1, 1, 0, []), (.iaload, 0, 0, [])], [(.bipush 10, 0, 0, []), zN, (.if_icmp .le 6, 56, 0, []), zN, zN, (.bipush (-2), 0, 0, []), zN, (.ireturn, 0, 0, []), (.iload_n 3, 3, 0, []), (.ifCond .eq 9, 66, 0, []), zN, zN, (.iload_n 3, 3, 0, []), (.bipush 8, 0, 0, []), zN, (.if_icmp .ne 22, 85, 0, [])], [zN, zN, (.iload_n 3, 3, 0, []), (.ifCond .ne 12, 79, 0, []), zN, zN, (.aload_n 0, 0, 0, []), (.iload_n 1, 1, 0, []), (.iload_n 2, 2, 0, []), (.invokevirtual 309, 1000, 2, [(12, 185)]), zN, zN, (.goto 8, 84, 0, []), zN, zN, (.aload_n 0, 0, 0, [])], [(.iload_n 1, 1, 0, []), (.invokevirtual 312, 1000, 1, [(12, 186)]), zN, zN, (.ireturn, 0, 0, []), (.iload_n 3, 3, 0, []), (.iconst 1, 0, 0, []), (.if_icmp .ne 7, 94, 0, []), zN, zN, (.iconst 5, 0, 0, []), (.goto 33, 124, 0, []), zN, zN, (.iload_n 3, 3, 0, []), (.iconst 2, 0, 0, [])], [(.if_icmp .ne 7, 103, 0, []), zN, zN, (.iconst 1, 0, 0, []), (.goto 24, 124, 0, []), zN, zN, (.iload_n 3, 3, 0, []), (.iconst 5, 0, 0, []), (.if_icmp .ge 7, 112, 0, []), zN, zN, (.iconst 3, 0, 0, []), (.goto 15, 124, 0, []), zN, zN], [(.iload_n 3, 3, 0, []), (.bipush 7, 0, 0, []), zN, (.if_icmp .ge 7, 122, 0, []), zN, zN, (.iconst 2, 0, 0, []), (.goto 5, 124, 0, []), zN, zN, (.bipush 6, 0, 0, []), zN, (.istore 4, 4, 0, []), zN, (.iload 4, 4, 0, []), zN], [(.bipush 6, 0, 0, []), zN, (.if_icmp .ne 10, 140, 0, []), zN, zN, (.aload_n 0, 0, 0, []), (.getfield 99, 12, 4, []), zN, zN, (.goto 10, 147, 0, []), zN, zN, (.aload_n 0, 0, 0, []), (.iload_n 2, 2, 0, []), (.iload 4, 4, 0, []), zN], [(.invokevirtual 88, 1000, 2, [(12, 140)]), zN, zN, (.istore 5, 5, 0, []), zN, (.iload 4, 4, 0, []), zN, (.bipush 6, 0, 0, []), zN, (.if_icmp .ne 12, 165, 0, []), zN, zN, (.aload_n 0, 0, 0, []), (.getfield 61, 12, 3, []), zN, zN], [(.iconst 1, 0, 0, []), (.isub, 0, 0, []), (.goto 38, 200, 0, []), zN, zN, (.iload 4, 4, 0, []), zN, (.iconst 5, 0, 0, []), (.if_icmp .ne 7, 175, 0, []), zN, zN, (.iconst 5, 0, 0, []), (.goto 28, 200, 0, []), zN, zN, (.iload 4, 4, 0, [])], [zN, (.iconst 1, 0, 0, []), (.if_icmp .ne 8, 186, 0, []), zN, zN, (.bipush 9, 0, 0, []), zN, (.goto 17, 200, 0, []), zN, zN, (.iload 4, 4, 0, []), zN, (.iconst 3, 0, 0, []), (.if_icmp .ne 8, 197, 0, []), zN, zN], [(.bipush 99, 0, 0, []), zN, (.goto 6, 200, 0, []), zN, zN, (.sipush 1023, 0, 0, []), zN, zN, (.istore 6, 6, 0, []), zN, (.iconst 0, 0, 0, []), (.istore 7, 7, 0, []), zN, (.iconst 0, 0, 0, []), (.istore 8, 8, 0, []), zN], [(.iconst (-1), 0, 0, []), (.istore 9, 9, 0, []), zN, (.iload 6, 6, 0, []), zN, (.istore 10, 10, 0, []), zN, (.iload 10, 10, 0, []), zN, (.ifCond .lt 55, 272, 0, []), zN, zN, (.aload_n 0, 0, 0, []), (.iload 4, 4, 0, []), zN, (.iload_n 2, 2, 0, [])], [(.iload 10, 10, 0, []), zN, (.invokevirtual 92, 1000, 3, [(12, 138)]), zN, zN, (.aload_n 0, 0, 0, []), (.iload_n 1, 1, 0, []), (.iload_n 2, 2, 0, []), (.invokevirtual 309, 1000, 2, [(12, 185)]), zN, zN, (.iconst (-1), 0, 0, []), (.if_icmp .ne 30, 266, 0, []), zN, zN, (.iload 7, 7, 0, [])], [zN, (.iload 10, 10, 0, []), zN, (.bipush 10, 0, 0, []), zN, (.if_icmp .ge 10, 255, 0, []), zN, zN, (.iconst 1, 0, 0, []), (.iload 10, 10, 0, []), zN, (.ishl, 0, 0, []), (.goto 4, 256, 0, []), zN, zN, (.iconst 0, 0, 0, [])], [(.ior, 0, 0, []), (.istore 7, 7, 0, []), zN, (.iinc 8 1, 8, 0, []), zN, zN, (.iload 10, 10, 0, []), zN, (.istore 9, 9, 0, []), zN, (.iinc 10 (-1), 10, 0, []), zN, zN, (.goto (-54), 215, 0, []), zN, zN], [(.aload_n 0, 0, 0, []), (.iload 4, 4, 0, []), zN, (.iload_n 2, 2, 0, []), (.iload 5, 5, 0, []), zN, (.invokevirtual 92, 1000, 3, [(12, 138)]), zN, zN, (.iload_n 3, 3, 0, []), (.iconst 3, 0, 0, []), (.if_icmp .eq 8, 291, 0, []), zN, zN, (.iload_n 3, 3, 0, []), (.iconst 5, 0, 0, [])], [(.if_icmp .ne 8, 296, 0, []), zN, zN, (.iload 8, 8, 0, []), zN, (.goto 21, 314, 0, []), zN, zN, (.iload_n 3, 3, 0, []), (.iconst 4, 0, 0, []), (.if_icmp .eq 9, 307, 0, []), zN, zN, (.iload_n 3, 3, 0, []), (.bipush 6, 0, 0, []), zN], [(.if_icmp .ne 8, 312, 0, []), zN, zN, (.iload 9, 9, 0, []), zN, (.goto 5, 314, 0, []), zN, zN, (.iload 7, 7, 0, []), zN, (.ireturn, 0, 0, [])]]
def zcX12_film : List (List zE) := [[(.iload_n 1, 1, 0, []), (.invokestatic 263, 195, 1, [(0, 0)]), zN, zN, (.ifCond .eq 11, 15, 0, []), zN, zN, (.aload_n 0, 0, 0, []), (.iload_n 2, 2, 0, []), (.invokevirtual 74, 1000, 1, [(12, 134)]), zN, zN, (.ifCond .ne 6, 18, 0, []), zN, zN, (.bipush (-2), 0, 0, [])], [zN, (.ireturn, 0, 0, []), (.aload_n 0, 0, 0, []), (.iload_n 1, 1, 0, []), (.iconst 1, 0, 0, []), (.bipush 10, 0, 0, []), zN, (.invokevirtual 315, 1000, 3, [(12, 196)]), zN, zN, (.pop, 0, 0, []), (.iconst 0, 0, 0, []), (.istore_n 3, 3, 0, []), (.iconst 0, 0, 0, []), (.istore 4, 4, 0, []), zN], [(.iload 4, 4, 0, []), zN, (.bipush 10, 0, 0, []), zN, (.if_icmp .ge 51, 87, 0, []), zN, zN, (.aload_n 0, 0, 0, []), (.iload_n 2, 2, 0, []), (.iconst 1, 0, 0, []), (.iload 4, 4, 0, []), zN, (.ishl, 0, 0, []), (.invokevirtual 254, 1000, 2, [(12, 165)]), zN, zN], [(.istore 5, 5, 0, []), zN, (.aload_n 0, 0, 0, []), (.getfield 54, 12, 44, []), zN, zN, (.bipush 40, 0, 0, []), zN, (.iload_n 1, 1, 0, []), (.imul, 0, 0, []), (.iload 4, 4, 0, []), zN, (.iadd, 0, 0, []), (.iload 5, 5, 0, []), zN, (.iastore, 0, 0, [])], [(.iload_n 3, 3, 0, []), (.iload 5, 5, 0, []), zN, (.iconst 1, 0, 0, []), (.iload 4, 4, 0, []), zN, (.ishl, 0, 0, []), (.if_icmp .ne 7, 78, 0, []), zN, zN, (.iconst 1, 0, 0, []), (.goto 4, 79, 0, []), zN, zN, (.iconst 0, 0, 0, []), (.iadd, 0, 0, [])], [(.istore_n 3, 3, 0, []), (.iinc 4 1, 4, 0, []), zN, zN, (.goto (-52), 32, 0, []), zN, zN, (.iload_n 3, 3, 0, []), (.ireturn, 0, 0, [])]]
def zcX12_offDrawn : List (List zE) := [[(.iload_n 1, 1, 0, []), (.istore_n 3, 3, 0, []), (.iconst 0, 0, 0, []), (.istore 4, 4, 0, []), zN, (.iconst 0, 0, 0, []), (.istore 5, 5, 0, []), zN, (.iload 5, 5, 0, []), zN, (.iload_n 2, 2, 0, []), (.if_icmp .ge 45, 56, 0, []), zN, zN, (.iload_n 3, 3, 0, []), (.ldc_w 318, 0, 0, [(1103515245, 0)])], [zN, zN, (.imul, 0, 0, []), (.sipush 12345, 0, 0, []), zN, zN, (.iadd, 0, 0, []), (.istore_n 3, 3, 0, []), (.iload_n 3, 3, 0, []), (.bipush 9, 0, 0, []), zN, (.iushr, 0, 0, []), (.sipush 1024, 0, 0, []), zN, zN, (.irem, 0, 0, [])], [(.istore 6, 6, 0, []), zN, (.iload 4, 4, 0, []), zN, (.iload 6, 6, 0, []), zN, (.aload_n 0, 0, 0, []), (.iload 6, 6, 0, []), zN, (.invokevirtual 287, 1000, 1, [(12, 169)]), zN, zN, (.invokestatic 266, 170, 2, [(0, 0)]), zN, zN, (.iadd, 0, 0, [])], [(.istore 4, 4, 0, []), zN, (.iinc 5 1, 5, 0, []), zN, zN, (.goto (-45), 8, 0, []), zN, zN, (.iload 4, 4, 0, []), zN, (.ireturn, 0, 0, [])]]
def zcX12_drawn : List (List zE) := [[(.iload_n 2, 2, 0, []), (.i2l, 0, 0, []), (.lconst 0, 0, 0, []), (.ldc2_w 319, 0, 0, [(40, 0)]), zN, zN, (.invokestatic 67, 130, 3, [(0, 0)]), zN, zN, (.ifCond .eq 12, 21, 0, []), zN, zN, (.aload_n 0, 0, 0, []), (.iload_n 1, 1, 0, []), (.iload_n 2, 2, 0, []), (.invokevirtual 321, 1000, 2, [(12, 189)])], [zN, zN, (.goto 5, 23, 0, []), zN, zN, (.bipush (-2), 0, 0, []), zN, (.ireturn, 0, 0, [])]]
def zcX12_chance : List (List zE) := [[(.iload_n 2, 2, 0, []), (.i2l, 0, 0, []), (.lconst 1, 0, 0, []), (.ldc2_w 319, 0, 0, [(40, 0)]), zN, zN, (.invokestatic 67, 130, 3, [(0, 0)]), zN, zN, (.ifCond .eq 26, 35, 0, []), zN, zN, (.iload_n 3, 3, 0, []), (.i2l, 0, 0, []), (.lconst 0, 0, 0, []), (.ldc2_w 150, 0, 0, [(10, 0)])], [zN, zN, (.invokestatic 67, 130, 3, [(0, 0)]), zN, zN, (.ifCond .eq 14, 35, 0, []), zN, zN, (.iload 4, 4, 0, []), zN, (.i2l, 0, 0, []), (.lconst 0, 0, 0, []), (.lconst 1, 0, 0, []), (.invokestatic 67, 130, 3, [(0, 0)]), zN, zN], [(.ifCond .ne 7, 39, 0, []), zN, zN, (.ldc2_w 303, 0, 0, [((-4611686018427387904), 0)]), zN, zN, (.lreturn, 0, 0, []), (.lconst 0, 0, 0, []), (.lstore 5, 5, 0, []), zN, (.iconst 0, 0, 0, []), (.istore 7, 7, 0, []), zN, (.iload 7, 7, 0, []), zN, (.iload_n 2, 2, 0, [])], [(.if_icmp .ge 32, 80, 0, []), zN, zN, (.lload 5, 5, 0, []), zN, (.aload_n 0, 0, 0, []), (.iload_n 1, 1, 0, []), (.iload 7, 7, 0, []), zN, (.iadd, 0, 0, []), (.iconst 1, 0, 0, []), (.invokevirtual 321, 1000, 2, [(12, 189)]), zN, zN, (.iload_n 3, 3, 0, []), (.if_icmp .gt 7, 70, 0, [])], [zN, zN, (.lconst 1, 0, 0, []), (.goto 4, 71, 0, []), zN, zN, (.lconst 0, 0, 0, []), (.ladd, 0, 0, []), (.lstore 5, 5, 0, []), zN, (.iinc 7 1, 7, 0, []), zN, zN, (.goto (-32), 45, 0, []), zN, zN], [(.lload 5, 5, 0, []), zN, (.iload_n 2, 2, 0, []), (.i2l, 0, 0, []), (.iload 4, 4, 0, []), zN, (.invokestatic 305, 183, 3, [(0, 0)]), zN, zN, (.lreturn, 0, 0, [])]]
def zcX12_image : List (List zE) := [[(.iconst 0, 0, 0, []), (.istore_n 1, 1, 0, []), (.iload_n 1, 1, 0, []), (.bipush 25, 0, 0, []), zN, (.if_icmp .ge 21, 26, 0, []), zN, zN, (.aload_n 0, 0, 0, []), (.getfield 35, 12, 34, []), zN, zN, (.iload_n 1, 1, 0, []), (.aload_n 0, 0, 0, []), (.getfield 23, 12, 8, []), zN], [zN, (.iload_n 1, 1, 0, []), (.iaload, 0, 0, []), (.iastore, 0, 0, []), (.iinc 1 1, 1, 0, []), zN, zN, (.goto (-21), 2, 0, []), zN, zN, (.iconst 0, 0, 0, []), (.istore_n 1, 1, 0, []), (.iload_n 1, 1, 0, []), (.bipush 8, 0, 0, []), zN, (.if_icmp .ge 21, 52, 0, [])], [zN, zN, (.aload_n 0, 0, 0, []), (.getfield 38, 12, 35, []), zN, zN, (.iload_n 1, 1, 0, []), (.aload_n 0, 0, 0, []), (.getfield 26, 12, 10, []), zN, zN, (.iload_n 1, 1, 0, []), (.iaload, 0, 0, []), (.iastore, 0, 0, []), (.iinc 1 1, 1, 0, []), zN], [zN, (.goto (-21), 28, 0, []), zN, zN, (.aload_n 0, 0, 0, []), (.aload_n 0, 0, 0, []), (.getfield 64, 12, 9, []), zN, zN, (.putfield 41, 12, 36, []), zN, zN, (.aload_n 0, 0, 0, []), (.aload_n 0, 0, 0, []), (.getfield 71, 12, 11, []), zN], [zN, (.putfield 324, 12, 37, []), zN, zN, (.aload_n 0, 0, 0, []), (.aload_n 0, 0, 0, []), (.getfield 112, 12, 12, []), zN, zN, (.putfield 327, 12, 38, []), zN, zN, (.aload_n 0, 0, 0, []), (.aload_n 0, 0, 0, []), (.getfield 96, 12, 7, []), zN], [zN, (.putfield 330, 12, 39, []), zN, zN, (.aload_n 0, 0, 0, []), (.aload_n 0, 0, 0, []), (.getfield 99, 12, 4, []), zN, zN, (.putfield 333, 12, 40, []), zN, zN, (.aload_n 0, 0, 0, []), (.getfield 64, 12, 9, []), zN, zN], [(.ireturn, 0, 0, [])]]
def zcX12_back : List (List zE) := [[(.aload_n 0, 0, 0, []), (.getfield 41, 12, 36, []), zN, zN, (.iconst (-1), 0, 0, []), (.if_icmp .ne 6, 11, 0, []), zN, zN, (.bipush (-3), 0, 0, []), zN, (.ireturn, 0, 0, []), (.iconst 0, 0, 0, []), (.istore_n 1, 1, 0, []), (.iload_n 1, 1, 0, []), (.bipush 25, 0, 0, []), zN], [(.if_icmp .ge 21, 37, 0, []), zN, zN, (.aload_n 0, 0, 0, []), (.getfield 23, 12, 8, []), zN, zN, (.iload_n 1, 1, 0, []), (.aload_n 0, 0, 0, []), (.getfield 35, 12, 34, []), zN, zN, (.iload_n 1, 1, 0, []), (.iaload, 0, 0, []), (.iastore, 0, 0, []), (.iinc 1 1, 1, 0, [])], [zN, zN, (.goto (-21), 13, 0, []), zN, zN, (.iconst 0, 0, 0, []), (.istore_n 1, 1, 0, []), (.iload_n 1, 1, 0, []), (.bipush 8, 0, 0, []), zN, (.if_icmp .ge 21, 63, 0, []), zN, zN, (.aload_n 0, 0, 0, []), (.getfield 26, 12, 10, []), zN], [zN, (.iload_n 1, 1, 0, []), (.aload_n 0, 0, 0, []), (.getfield 38, 12, 35, []), zN, zN, (.iload_n 1, 1, 0, []), (.iaload, 0, 0, []), (.iastore, 0, 0, []), (.iinc 1 1, 1, 0, []), zN, zN, (.goto (-21), 39, 0, []), zN, zN, (.aload_n 0, 0, 0, [])], [(.aload_n 0, 0, 0, []), (.getfield 41, 12, 36, []), zN, zN, (.putfield 64, 12, 9, []), zN, zN, (.aload_n 0, 0, 0, []), (.aload_n 0, 0, 0, []), (.getfield 324, 12, 37, []), zN, zN, (.putfield 71, 12, 11, []), zN, zN, (.aload_n 0, 0, 0, [])], [(.aload_n 0, 0, 0, []), (.getfield 327, 12, 38, []), zN, zN, (.putfield 112, 12, 12, []), zN, zN, (.aload_n 0, 0, 0, []), (.aload_n 0, 0, 0, []), (.getfield 330, 12, 39, []), zN, zN, (.putfield 96, 12, 7, []), zN, zN, (.aload_n 0, 0, 0, [])], [(.aload_n 0, 0, 0, []), (.getfield 333, 12, 40, []), zN, zN, (.putfield 99, 12, 4, []), zN, zN, (.aload_n 0, 0, 0, []), (.getfield 64, 12, 9, []), zN, zN, (.ireturn, 0, 0, [])]]
def zcX12_count : List (List zE) := [[(.iload_n 1, 1, 0, []), (.i2l, 0, 0, []), (.lconst 0, 0, 0, []), (.ldc2_w 102, 0, 0, [(5, 0)]), zN, zN, (.invokestatic 67, 130, 3, [(0, 0)]), zN, zN, (.ifCond .ne 6, 15, 0, []), zN, zN, (.bipush (-2), 0, 0, []), zN, (.ireturn, 0, 0, []), (.iload_n 1, 1, 0, [])], [(.ifCond .ne 10, 26, 0, []), zN, zN, (.aload_n 0, 0, 0, []), (.getfield 64, 12, 9, []), zN, zN, (.goto 55, 78, 0, []), zN, zN, (.iload_n 1, 1, 0, []), (.iconst 1, 0, 0, []), (.if_icmp .ne 10, 38, 0, []), zN, zN, (.aload_n 0, 0, 0, [])], [(.getfield 71, 12, 11, []), zN, zN, (.goto 43, 78, 0, []), zN, zN, (.iload_n 1, 1, 0, []), (.iconst 2, 0, 0, []), (.if_icmp .ne 10, 50, 0, []), zN, zN, (.aload_n 0, 0, 0, []), (.getfield 96, 12, 7, []), zN, zN, (.goto 31, 78, 0, [])], [zN, zN, (.iload_n 1, 1, 0, []), (.iconst 3, 0, 0, []), (.if_icmp .ne 10, 62, 0, []), zN, zN, (.aload_n 0, 0, 0, []), (.getfield 61, 12, 3, []), zN, zN, (.goto 19, 78, 0, []), zN, zN, (.iload_n 1, 1, 0, []), (.iconst 4, 0, 0, [])], [(.if_icmp .ne 10, 74, 0, []), zN, zN, (.aload_n 0, 0, 0, []), (.getfield 117, 12, 6, []), zN, zN, (.goto 7, 78, 0, []), zN, zN, (.aload_n 0, 0, 0, []), (.getfield 99, 12, 4, []), zN, zN, (.ireturn, 0, 0, [])]]
def zcX12_isSheet : List (List zE) := [[(.iload_n 0, 0, 0, []), (.i2l, 0, 0, []), (.lconst 0, 0, 0, []), (.ldc2_w 252, 0, 0, [(3, 0)]), zN, zN, (.invokestatic 67, 130, 3, [(0, 0)]), zN, zN, (.ireturn, 1, 0, [])]]
def zcX12_sheet : List (List zE) := [[(.iload_n 1, 1, 0, []), (.invokestatic 263, 195, 1, [(0, 0)]), zN, zN, (.ifCond .eq 27, 31, 0, []), zN, zN, (.iload_n 2, 2, 0, []), (.i2l, 0, 0, []), (.ldc2_w 336, 0, 0, [((-1), 0)]), zN, zN, (.ldc2_w 338, 0, 0, [(2, 0)]), zN, zN, (.invokestatic 67, 130, 3, [(0, 0)])], [zN, zN, (.ifCond .eq 13, 31, 0, []), zN, zN, (.iload_n 2, 2, 0, []), (.ifCond .lt 12, 34, 0, []), zN, zN, (.iload_n 3, 3, 0, []), (.bipush 40, 0, 0, []), zN, (.if_icmp .le 6, 34, 0, []), zN, zN, (.bipush (-2), 0, 0, [])], [zN, (.ireturn, 0, 0, []), (.iload_n 2, 2, 0, []), (.ifCond .lt 10, 45, 0, []), zN, zN, (.iload_n 3, 3, 0, []), (.ifCond .ge 6, 45, 0, []), zN, zN, (.bipush (-14), 0, 0, []), zN, (.ireturn, 0, 0, []), (.aload_n 0, 0, 0, []), (.getfield 44, 12, 41, []), zN], [zN, (.iload_n 1, 1, 0, []), (.iload_n 2, 2, 0, []), (.ifCond .lt 7, 58, 0, []), zN, zN, (.iconst 1, 0, 0, []), (.goto 4, 59, 0, []), zN, zN, (.iconst 0, 0, 0, []), (.bastore, 0, 0, []), (.aload_n 0, 0, 0, []), (.getfield 48, 12, 42, []), zN, zN], [(.iload_n 1, 1, 0, []), (.iload_n 2, 2, 0, []), (.iastore, 0, 0, []), (.aload_n 0, 0, 0, []), (.getfield 51, 12, 43, []), zN, zN, (.iload_n 1, 1, 0, []), (.iload_n 3, 3, 0, []), (.iastore, 0, 0, []), (.iconst 0, 0, 0, []), (.istore 4, 4, 0, []), zN, (.iload 4, 4, 0, []), zN, (.iload_n 3, 3, 0, [])], [(.if_icmp .ge 26, 106, 0, []), zN, zN, (.iload_n 2, 2, 0, []), (.ifCond .lt 22, 106, 0, []), zN, zN, (.aload_n 0, 0, 0, []), (.getfield 54, 12, 44, []), zN, zN, (.bipush 40, 0, 0, []), zN, (.iload_n 1, 1, 0, []), (.imul, 0, 0, []), (.iload 4, 4, 0, [])], [zN, (.iadd, 0, 0, []), (.iconst 0, 0, 0, []), (.iastore, 0, 0, []), (.iinc 4 1, 4, 0, []), zN, zN, (.goto (-26), 77, 0, []), zN, zN, (.iconst 1, 0, 0, []), (.ireturn, 0, 0, [])]]
def zcX12_cell : List (List zE) := [[(.iload_n 1, 1, 0, []), (.invokestatic 263, 195, 1, [(0, 0)]), zN, zN, (.ifCond .ne 6, 10, 0, []), zN, zN, (.bipush (-2), 0, 0, []), zN, (.ireturn, 0, 0, []), (.aload_n 0, 0, 0, []), (.getfield 44, 12, 41, []), zN, zN, (.iload_n 1, 1, 0, []), (.baload, 0, 0, [])], [(.ifCond .ne 6, 22, 0, []), zN, zN, (.bipush (-11), 0, 0, []), zN, (.ireturn, 0, 0, []), (.iload_n 2, 2, 0, []), (.i2l, 0, 0, []), (.lconst 0, 0, 0, []), (.aload_n 0, 0, 0, []), (.getfield 51, 12, 43, []), zN, zN, (.iload_n 1, 1, 0, []), (.iaload, 0, 0, []), (.iconst 1, 0, 0, [])], [(.isub, 0, 0, []), (.i2l, 0, 0, []), (.invokestatic 67, 130, 3, [(0, 0)]), zN, zN, (.ifCond .ne 6, 43, 0, []), zN, zN, (.bipush (-12), 0, 0, []), zN, (.ireturn, 0, 0, []), (.aload_n 0, 0, 0, []), (.getfield 54, 12, 44, []), zN, zN, (.bipush 40, 0, 0, [])], [zN, (.iload_n 1, 1, 0, []), (.imul, 0, 0, []), (.iload_n 2, 2, 0, []), (.iadd, 0, 0, []), (.aload_n 0, 0, 0, []), (.getfield 48, 12, 42, []), zN, zN, (.iload_n 1, 1, 0, []), (.iaload, 0, 0, []), (.ifCond .ne 8, 67, 0, []), zN, zN, (.iload_n 3, 3, 0, []), (.i2b, 0, 0, [])], [(.goto 19, 83, 0, []), zN, zN, (.aload_n 0, 0, 0, []), (.getfield 48, 12, 42, []), zN, zN, (.iload_n 1, 1, 0, []), (.iaload, 0, 0, []), (.iconst 1, 0, 0, []), (.if_icmp .ne 8, 82, 0, []), zN, zN, (.iload_n 3, 3, 0, []), (.i2s, 0, 0, []), (.goto 4, 83, 0, [])], [zN, zN, (.iload_n 3, 3, 0, []), (.iastore, 0, 0, []), (.iconst 1, 0, 0, []), (.ireturn, 0, 0, [])]]
def zcX12_copy : List (List zE) := [[(.iload_n 1, 1, 0, []), (.invokestatic 263, 195, 1, [(0, 0)]), zN, zN, (.ifCond .eq 10, 14, 0, []), zN, zN, (.iload_n 3, 3, 0, []), (.invokestatic 263, 195, 1, [(0, 0)]), zN, zN, (.ifCond .ne 6, 17, 0, []), zN, zN, (.bipush (-2), 0, 0, []), zN], [(.ireturn, 0, 0, []), (.aload_n 0, 0, 0, []), (.getfield 44, 12, 41, []), zN, zN, (.iload_n 1, 1, 0, []), (.baload, 0, 0, []), (.ifCond .eq 12, 35, 0, []), zN, zN, (.aload_n 0, 0, 0, []), (.getfield 44, 12, 41, []), zN, zN, (.iload_n 3, 3, 0, []), (.baload, 0, 0, [])], [(.ifCond .ne 6, 38, 0, []), zN, zN, (.bipush (-11), 0, 0, []), zN, (.ireturn, 0, 0, []), (.aload_n 0, 0, 0, []), (.getfield 48, 12, 42, []), zN, zN, (.iload_n 1, 1, 0, []), (.iaload, 0, 0, []), (.aload_n 0, 0, 0, []), (.getfield 48, 12, 42, []), zN, zN], [(.iload_n 3, 3, 0, []), (.iaload, 0, 0, []), (.if_icmp .eq 6, 56, 0, []), zN, zN, (.bipush (-13), 0, 0, []), zN, (.ireturn, 0, 0, []), (.iload 5, 5, 0, []), zN, (.ifCond .lt 39, 97, 0, []), zN, zN, (.iload_n 2, 2, 0, []), (.ifCond .lt 35, 97, 0, []), zN], [zN, (.iload 4, 4, 0, []), zN, (.ifCond .lt 30, 97, 0, []), zN, zN, (.iload_n 2, 2, 0, []), (.aload_n 0, 0, 0, []), (.getfield 51, 12, 43, []), zN, zN, (.iload_n 1, 1, 0, []), (.iaload, 0, 0, []), (.iload 5, 5, 0, []), zN, (.isub, 0, 0, [])], [(.if_icmp .gt 17, 97, 0, []), zN, zN, (.iload 4, 4, 0, []), zN, (.aload_n 0, 0, 0, []), (.getfield 51, 12, 43, []), zN, zN, (.iload_n 3, 3, 0, []), (.iaload, 0, 0, []), (.iload 5, 5, 0, []), zN, (.isub, 0, 0, []), (.if_icmp .le 6, 100, 0, []), zN], [zN, (.bipush (-12), 0, 0, []), zN, (.ireturn, 0, 0, []), (.iload_n 1, 1, 0, []), (.iload_n 3, 3, 0, []), (.if_icmp .ne 13, 115, 0, []), zN, zN, (.iload_n 2, 2, 0, []), (.iload 4, 4, 0, []), zN, (.if_icmp .ge 7, 115, 0, []), zN, zN, (.iconst 1, 0, 0, [])], [(.goto 4, 116, 0, []), zN, zN, (.iconst 0, 0, 0, []), (.istore 6, 6, 0, []), zN, (.iconst 0, 0, 0, []), (.istore 7, 7, 0, []), zN, (.iload 7, 7, 0, []), zN, (.iload 5, 5, 0, []), zN, (.if_icmp .ge 57, 182, 0, []), zN, zN], [(.iload 6, 6, 0, []), zN, (.ifCond .eq 13, 143, 0, []), zN, zN, (.iload 5, 5, 0, []), zN, (.iconst 1, 0, 0, []), (.isub, 0, 0, []), (.iload 7, 7, 0, []), zN, (.isub, 0, 0, []), (.goto 5, 145, 0, []), zN, zN, (.iload 7, 7, 0, [])], [zN, (.istore 8, 8, 0, []), zN, (.aload_n 0, 0, 0, []), (.getfield 54, 12, 44, []), zN, zN, (.bipush 40, 0, 0, []), zN, (.iload_n 3, 3, 0, []), (.imul, 0, 0, []), (.iload 4, 4, 0, []), zN, (.iadd, 0, 0, []), (.iload 8, 8, 0, []), zN], [(.iadd, 0, 0, []), (.aload_n 0, 0, 0, []), (.getfield 54, 12, 44, []), zN, zN, (.bipush 40, 0, 0, []), zN, (.iload_n 1, 1, 0, []), (.imul, 0, 0, []), (.iload_n 2, 2, 0, []), (.iadd, 0, 0, []), (.iload 8, 8, 0, []), zN, (.iadd, 0, 0, []), (.iaload, 0, 0, []), (.iastore, 0, 0, [])], [(.iinc 7 1, 7, 0, []), zN, zN, (.goto (-58), 121, 0, []), zN, zN, (.iload 5, 5, 0, []), zN, (.ireturn, 0, 0, [])]]
def zcX12_crew : List (List zE) := [[(.iload_n 1, 1, 0, []), (.invokestatic 263, 195, 1, [(0, 0)]), zN, zN, (.ifCond .eq 28, 32, 0, []), zN, zN, (.iload_n 2, 2, 0, []), (.i2l, 0, 0, []), (.lconst 0, 0, 0, []), (.ldc2_w 338, 0, 0, [(2, 0)]), zN, zN, (.invokestatic 67, 130, 3, [(0, 0)]), zN, zN], [(.ifCond .eq 16, 32, 0, []), zN, zN, (.iload 4, 4, 0, []), zN, (.i2l, 0, 0, []), (.lconst 0, 0, 0, []), (.ldc2_w 102, 0, 0, [(5, 0)]), zN, zN, (.invokestatic 67, 130, 3, [(0, 0)]), zN, zN, (.ifCond .ne 6, 35, 0, []), zN, zN], [(.bipush (-2), 0, 0, []), zN, (.ireturn, 0, 0, []), (.aload_n 0, 0, 0, []), (.getfield 44, 12, 41, []), zN, zN, (.iload_n 1, 1, 0, []), (.baload, 0, 0, []), (.ifCond .eq 16, 57, 0, []), zN, zN, (.aload_n 0, 0, 0, []), (.getfield 48, 12, 42, []), zN, zN], [(.iload_n 1, 1, 0, []), (.iaload, 0, 0, []), (.iload_n 2, 2, 0, []), (.if_icmp .eq 6, 57, 0, []), zN, zN, (.bipush (-13), 0, 0, []), zN, (.ireturn, 0, 0, []), (.aload_n 0, 0, 0, []), (.getfield 44, 12, 41, []), zN, zN, (.iload_n 1, 1, 0, []), (.baload, 0, 0, []), (.ifCond .ne 6, 69, 0, [])], [zN, zN, (.bipush (-11), 0, 0, []), zN, (.ireturn, 0, 0, []), (.iconst 0, 0, 0, []), (.istore 5, 5, 0, []), zN, (.iconst 0, 0, 0, []), (.istore 6, 6, 0, []), zN, (.iload 6, 6, 0, []), zN, (.iload 4, 4, 0, []), zN, (.if_icmp .ge 97, 176, 0, [])], [zN, zN, (.iload_n 3, 3, 0, []), (.ifCond .lt 20, 103, 0, []), zN, zN, (.iload_n 3, 3, 0, []), (.aload_n 0, 0, 0, []), (.getfield 51, 12, 43, []), zN, zN, (.iload_n 1, 1, 0, []), (.iaload, 0, 0, []), (.iconst 4, 0, 0, []), (.iload 6, 6, 0, []), zN], [(.imul, 0, 0, []), (.isub, 0, 0, []), (.iconst 4, 0, 0, []), (.isub, 0, 0, []), (.if_icmp .le 6, 106, 0, []), zN, zN, (.bipush (-12), 0, 0, []), zN, (.ireturn, 0, 0, []), (.bipush 40, 0, 0, []), zN, (.iload_n 1, 1, 0, []), (.imul, 0, 0, []), (.iload_n 3, 3, 0, []), (.iadd, 0, 0, [])], [(.iconst 4, 0, 0, []), (.iload 6, 6, 0, []), zN, (.imul, 0, 0, []), (.iadd, 0, 0, []), (.istore 7, 7, 0, []), zN, (.iload 5, 5, 0, []), zN, (.aload_n 0, 0, 0, []), (.aload_n 0, 0, 0, []), (.getfield 54, 12, 44, []), zN, zN, (.iload 7, 7, 0, []), zN], [(.iaload, 0, 0, []), (.aload_n 0, 0, 0, []), (.getfield 54, 12, 44, []), zN, zN, (.iload 7, 7, 0, []), zN, (.iconst 1, 0, 0, []), (.iadd, 0, 0, []), (.iaload, 0, 0, []), (.aload_n 0, 0, 0, []), (.getfield 54, 12, 44, []), zN, zN, (.iload 7, 7, 0, []), zN], [(.iconst 2, 0, 0, []), (.iadd, 0, 0, []), (.iaload, 0, 0, []), (.aload_n 0, 0, 0, []), (.getfield 54, 12, 44, []), zN, zN, (.iload 7, 7, 0, []), zN, (.iconst 3, 0, 0, []), (.iadd, 0, 0, []), (.iaload, 0, 0, []), (.invokevirtual 340, 1000, 4, [(12, 139)]), zN, zN, (.ifCond .lt 7, 166, 0, [])], [zN, zN, (.iconst 1, 0, 0, []), (.goto 4, 167, 0, []), zN, zN, (.iconst 0, 0, 0, []), (.iadd, 0, 0, []), (.istore 5, 5, 0, []), zN, (.iinc 6 1, 6, 0, []), zN, zN, (.goto (-98), 75, 0, []), zN, zN], [(.iload 5, 5, 0, []), zN, (.ireturn, 0, 0, [])]]
def zcX12_above : List (List zE) := [[(.iload_n 0, 0, 0, []), (.ifCond .ne 7, 8, 0, []), zN, zN, (.iconst (-1), 0, 0, []), (.goto 22, 27, 0, []), zN, zN, (.iload_n 0, 0, 0, []), (.iconst 3, 0, 0, []), (.if_icmp .ne 7, 17, 0, []), zN, zN, (.iconst 1, 0, 0, []), (.goto 13, 27, 0, []), zN], [zN, (.iload_n 0, 0, 0, []), (.iconst 4, 0, 0, []), (.if_icmp .ne 7, 26, 0, []), zN, zN, (.iconst 2, 0, 0, []), (.goto 4, 27, 0, []), zN, zN, (.iconst 0, 0, 0, []), (.ireturn, 0, 0, [])]]
def zcX12_taken : List (List zE) := [[(.iload_n 2, 2, 0, []), (.i2l, 0, 0, []), (.lconst 0, 0, 0, []), (.ldc2_w 102, 0, 0, [(5, 0)]), zN, zN, (.invokestatic 67, 130, 3, [(0, 0)]), zN, zN, (.ifCond .ne 6, 15, 0, []), zN, zN, (.bipush (-2), 0, 0, []), zN, (.ireturn, 0, 0, []), (.aload_n 0, 0, 0, [])], [(.iload_n 1, 1, 0, []), (.invokevirtual 74, 1000, 1, [(12, 134)]), zN, zN, (.ifCond .ne 6, 26, 0, []), zN, zN, (.bipush (-11), 0, 0, []), zN, (.ireturn, 0, 0, []), (.aload_n 0, 0, 0, []), (.getfield 23, 12, 8, []), zN, zN, (.iconst 5, 0, 0, []), (.iload_n 1, 1, 0, [])], [(.imul, 0, 0, []), (.iconst 4, 0, 0, []), (.iadd, 0, 0, []), (.iaload, 0, 0, []), (.istore_n 3, 3, 0, []), (.iload_n 3, 3, 0, []), (.iconst (-1), 0, 0, []), (.if_icmp .eq 16, 55, 0, []), zN, zN, (.iload_n 3, 3, 0, []), (.iload_n 2, 2, 0, []), (.if_icmp .eq 11, 55, 0, []), zN, zN, (.iload_n 3, 3, 0, [])], [(.invokestatic 344, 200, 1, [(0, 0)]), zN, zN, (.istore_n 3, 3, 0, []), (.goto (-15), 37, 0, []), zN, zN, (.iload_n 3, 3, 0, []), (.iload_n 2, 2, 0, []), (.if_icmp .ne 14, 71, 0, []), zN, zN, (.aload_n 0, 0, 0, []), (.getfield 23, 12, 8, []), zN, zN], [(.iconst 5, 0, 0, []), (.iload_n 1, 1, 0, []), (.imul, 0, 0, []), (.iaload, 0, 0, []), (.goto 5, 73, 0, []), zN, zN, (.bipush (-13), 0, 0, []), zN, (.ireturn, 0, 0, [])]]
def zcJ6_bitCount_0f7a4 : List (List zE) := [[(.iload_n 0, 0, 0, []), (.iload_n 0, 0, 0, []), (.iconst 1, 0, 0, []), (.iushr, 0, 0, []), (.ldc_w 265, 0, 0, [(1431655765, 0)]), zN, zN, (.iand, 0, 0, []), (.isub, 0, 0, []), (.istore_n 0, 0, 0, []), (.iload_n 0, 0, 0, []), (.ldc_w 266, 0, 0, [(858993459, 0)]), zN, zN, (.iand, 0, 0, []), (.iload_n 0, 0, 0, [])], [(.iconst 2, 0, 0, []), (.iushr, 0, 0, []), (.ldc_w 266, 0, 0, [(858993459, 0)]), zN, zN, (.iand, 0, 0, []), (.iadd, 0, 0, []), (.istore_n 0, 0, 0, []), (.iload_n 0, 0, 0, []), (.iload_n 0, 0, 0, []), (.iconst 4, 0, 0, []), (.iushr, 0, 0, []), (.iadd, 0, 0, []), (.ldc_w 267, 0, 0, [(252645135, 0)]), zN, zN], [(.iand, 0, 0, []), (.istore_n 0, 0, 0, []), (.iload_n 0, 0, 0, []), (.iload_n 0, 0, 0, []), (.bipush 8, 0, 0, []), zN, (.iushr, 0, 0, []), (.iadd, 0, 0, []), (.istore_n 0, 0, 0, []), (.iload_n 0, 0, 0, []), (.iload_n 0, 0, 0, []), (.bipush 16, 0, 0, []), zN, (.iushr, 0, 0, []), (.iadd, 0, 0, []), (.istore_n 0, 0, 0, [])], [(.iload_n 0, 0, 0, []), (.bipush 63, 0, 0, []), zN, (.iand, 0, 0, []), (.ireturn, 0, 0, [])]]
def zcJ9_max_7cf53 : List (List zE) := [[(.iload_n 0, 0, 0, []), (.iload_n 1, 1, 0, []), (.if_icmp .lt 7, 9, 0, []), zN, zN, (.iload_n 0, 0, 0, []), (.goto 4, 10, 0, []), zN, zN, (.iload_n 1, 1, 0, []), (.ireturn, 0, 0, [])]]
def zcJ9_min_7cf53 : List (List zE) := [[(.iload_n 0, 0, 0, []), (.iload_n 1, 1, 0, []), (.if_icmp .gt 7, 9, 0, []), zN, zN, (.iload_n 0, 0, 0, []), (.goto 4, 10, 0, []), zN, zN, (.iload_n 1, 1, 0, []), (.ireturn, 0, 0, [])]]
def zcL_law : List (List zE) := [[(.new 7, 11, 0, []), zN, zN, (.dup, 0, 0, []), (.invokespecial 9, 76, 0, [(2, 0)]), zN, zN, (.astore_n 1, 1, 0, []), (.new 10, 12, 0, []), zN, zN, (.dup, 0, 0, []), (.invokespecial 12, 132, 0, [(2, 0)]), zN, zN, (.astore_n 2, 2, 0, [])], [(.iconst 0, 0, 0, []), (.istore_n 3, 3, 0, []), (.iload_n 3, 3, 0, []), (.aload_n 0, 0, 0, []), (.arraylength, 1, 0, []), (.bipush 6, 0, 0, []), zN, (.isub, 0, 0, []), (.if_icmp .gt 1098, 1122, 0, []), zN, zN, (.aload_n 0, 0, 0, []), (.iload_n 3, 3, 0, []), (.iaload, 1, 0, []), (.bipush 31, 0, 0, []), zN], [(.iand, 0, 0, []), (.tableswitch 1083 0 27 #[127, 170, 223, 256, 279, 322, 345, 358, 381, 424, 437, 470, 503, 546, 579, 612, 636, 679, 712, 745, 799, 812, 825, 848, 891, 934, 997, 1050], 1116, 0, [(0, 160), (1, 203), (2, 256), (3, 289), (4, 312), (5, 355), (6, 378), (7, 391), (8, 414), (9, 457), (10, 470), (11, 503), (12, 536), (13, 579), (14, 612), (15, 645), (16, 669), (17, 712), (18, 745), (19, 778), (20, 832), (21, 845), (22, 858), (23, 881), (24, 924), (25, 967), (26, 1030), (27, 1083)]), zN, zN, zN, zN, zN, zN, zN, zN, zN, zN, zN, zN, zN, zN], [zN, zN, zN, zN, zN, zN, zN, zN, zN, zN, zN, zN, zN, zN, zN, zN], [zN, zN, zN, zN, zN, zN, zN, zN, zN, zN, zN, zN, zN, zN, zN, zN], [zN, zN, zN, zN, zN, zN, zN, zN, zN, zN, zN, zN, zN, zN, zN, zN], [zN, zN, zN, zN, zN, zN, zN, zN, zN, zN, zN, zN, zN, zN, zN, zN], [zN, zN, zN, zN, zN, zN, zN, zN, zN, zN, zN, zN, zN, zN, zN, zN], [zN, zN, zN, zN, zN, zN, zN, zN, zN, zN, zN, zN, zN, zN, zN, zN], [zN, zN, zN, zN, zN, zN, zN, zN, zN, zN, zN, zN, zN, zN, zN, zN], [(.aload_n 1, 1, 0, []), (.aload_n 0, 0, 0, []), (.iload_n 3, 3, 0, []), (.iconst 1, 0, 0, []), (.iadd, 0, 0, []), (.iaload, 1, 0, []), (.aload_n 0, 0, 0, []), (.iload_n 3, 3, 0, []), (.iconst 2, 0, 0, []), (.iadd, 0, 0, []), (.iaload, 1, 0, []), (.aload_n 0, 0, 0, []), (.iload_n 3, 3, 0, []), (.iconst 3, 0, 0, []), (.iadd, 0, 0, []), (.iaload, 1, 0, [])], [(.invokevirtual 13, 1000, 3, [(11, 77)]), zN, zN, (.aload_n 2, 2, 0, []), (.aload_n 0, 0, 0, []), (.iload_n 3, 3, 0, []), (.iconst 1, 0, 0, []), (.iadd, 0, 0, []), (.iaload, 1, 0, []), (.aload_n 0, 0, 0, []), (.iload_n 3, 3, 0, []), (.iconst 2, 0, 0, []), (.iadd, 0, 0, []), (.iaload, 1, 0, []), (.aload_n 0, 0, 0, []), (.iload_n 3, 3, 0, [])], [(.iconst 3, 0, 0, []), (.iadd, 0, 0, []), (.iaload, 1, 0, []), (.invokevirtual 17, 1000, 3, [(12, 137)]), zN, zN, (.if_icmp .eq 918, 1116, 0, []), zN, zN, (.iconst 0, 0, 0, []), (.ireturn, 1, 0, []), (.aload_n 1, 1, 0, []), (.aload_n 0, 0, 0, []), (.iload_n 3, 3, 0, []), (.iconst 1, 0, 0, []), (.iadd, 0, 0, [])], [(.iaload, 1, 0, []), (.aload_n 0, 0, 0, []), (.iload_n 3, 3, 0, []), (.iconst 2, 0, 0, []), (.iadd, 0, 0, []), (.iaload, 1, 0, []), (.aload_n 0, 0, 0, []), (.iload_n 3, 3, 0, []), (.iconst 3, 0, 0, []), (.iadd, 0, 0, []), (.iaload, 1, 0, []), (.aload_n 0, 0, 0, []), (.iload_n 3, 3, 0, []), (.iconst 4, 0, 0, []), (.iadd, 0, 0, []), (.iaload, 1, 0, [])], [(.invokevirtual 18, 1000, 4, [(11, 78)]), zN, zN, (.aload_n 2, 2, 0, []), (.aload_n 0, 0, 0, []), (.iload_n 3, 3, 0, []), (.iconst 1, 0, 0, []), (.iadd, 0, 0, []), (.iaload, 1, 0, []), (.aload_n 0, 0, 0, []), (.iload_n 3, 3, 0, []), (.iconst 2, 0, 0, []), (.iadd, 0, 0, []), (.iaload, 1, 0, []), (.aload_n 0, 0, 0, []), (.iload_n 3, 3, 0, [])], [(.iconst 3, 0, 0, []), (.iadd, 0, 0, []), (.iaload, 1, 0, []), (.aload_n 0, 0, 0, []), (.iload_n 3, 3, 0, []), (.iconst 4, 0, 0, []), (.iadd, 0, 0, []), (.iaload, 1, 0, []), (.invokevirtual 22, 1000, 4, [(12, 139)]), zN, zN, (.if_icmp .eq 865, 1116, 0, []), zN, zN, (.iconst 0, 0, 0, []), (.ireturn, 1, 0, [])], [(.aload_n 1, 1, 0, []), (.aload_n 0, 0, 0, []), (.iload_n 3, 3, 0, []), (.iconst 1, 0, 0, []), (.iadd, 0, 0, []), (.iaload, 1, 0, []), (.aload_n 0, 0, 0, []), (.iload_n 3, 3, 0, []), (.iconst 2, 0, 0, []), (.iadd, 0, 0, []), (.iaload, 1, 0, []), (.invokevirtual 23, 1000, 2, [(11, 79)]), zN, zN, (.aload_n 2, 2, 0, []), (.aload_n 0, 0, 0, [])], [(.iload_n 3, 3, 0, []), (.iconst 1, 0, 0, []), (.iadd, 0, 0, []), (.iaload, 1, 0, []), (.aload_n 0, 0, 0, []), (.iload_n 3, 3, 0, []), (.iconst 2, 0, 0, []), (.iadd, 0, 0, []), (.iaload, 1, 0, []), (.invokevirtual 27, 1000, 2, [(12, 140)]), zN, zN, (.if_icmp .eq 832, 1116, 0, []), zN, zN, (.iconst 0, 0, 0, [])], [(.ireturn, 1, 0, []), (.aload_n 1, 1, 0, []), (.aload_n 0, 0, 0, []), (.iload_n 3, 3, 0, []), (.iconst 1, 0, 0, []), (.iadd, 0, 0, []), (.iaload, 1, 0, []), (.invokevirtual 28, 1000, 1, [(11, 80)]), zN, zN, (.aload_n 2, 2, 0, []), (.aload_n 0, 0, 0, []), (.iload_n 3, 3, 0, []), (.iconst 1, 0, 0, []), (.iadd, 0, 0, []), (.iaload, 1, 0, [])], [(.invokevirtual 32, 1000, 1, [(12, 141)]), zN, zN, (.if_icmp .eq 809, 1116, 0, []), zN, zN, (.iconst 0, 0, 0, []), (.ireturn, 1, 0, []), (.aload_n 1, 1, 0, []), (.aload_n 0, 0, 0, []), (.iload_n 3, 3, 0, []), (.iconst 1, 0, 0, []), (.iadd, 0, 0, []), (.iaload, 1, 0, []), (.aload_n 0, 0, 0, []), (.iload_n 3, 3, 0, [])], [(.iconst 2, 0, 0, []), (.iadd, 0, 0, []), (.iaload, 1, 0, []), (.aload_n 0, 0, 0, []), (.iload_n 3, 3, 0, []), (.iconst 3, 0, 0, []), (.iadd, 0, 0, []), (.iaload, 1, 0, []), (.invokevirtual 33, 1000, 3, [(11, 81)]), zN, zN, (.aload_n 2, 2, 0, []), (.aload_n 0, 0, 0, []), (.iload_n 3, 3, 0, []), (.iconst 1, 0, 0, []), (.iadd, 0, 0, [])], [(.iaload, 1, 0, []), (.aload_n 0, 0, 0, []), (.iload_n 3, 3, 0, []), (.iconst 2, 0, 0, []), (.iadd, 0, 0, []), (.iaload, 1, 0, []), (.aload_n 0, 0, 0, []), (.iload_n 3, 3, 0, []), (.iconst 3, 0, 0, []), (.iadd, 0, 0, []), (.iaload, 1, 0, []), (.invokevirtual 36, 1000, 3, [(12, 168)]), zN, zN, (.if_icmp .eq 766, 1116, 0, []), zN], [zN, (.iconst 0, 0, 0, []), (.ireturn, 1, 0, []), (.aload_n 1, 1, 0, []), (.aload_n 0, 0, 0, []), (.iload_n 3, 3, 0, []), (.iconst 1, 0, 0, []), (.iadd, 0, 0, []), (.iaload, 1, 0, []), (.invokevirtual 37, 1000, 1, [(11, 84)]), zN, zN, (.aload_n 2, 2, 0, []), (.aload_n 0, 0, 0, []), (.iload_n 3, 3, 0, []), (.iconst 1, 0, 0, [])], [(.iadd, 0, 0, []), (.iaload, 1, 0, []), (.invokevirtual 40, 1000, 1, [(12, 142)]), zN, zN, (.if_icmp .eq 743, 1116, 0, []), zN, zN, (.iconst 0, 0, 0, []), (.ireturn, 1, 0, []), (.aload_n 1, 1, 0, []), (.invokevirtual 41, 1000, 0, [(11, 85)]), zN, zN, (.aload_n 2, 2, 0, []), (.invokevirtual 45, 1000, 0, [(12, 159)])], [zN, zN, (.if_icmp .eq 730, 1116, 0, []), zN, zN, (.iconst 0, 0, 0, []), (.ireturn, 1, 0, []), (.aload_n 1, 1, 0, []), (.aload_n 0, 0, 0, []), (.iload_n 3, 3, 0, []), (.iconst 1, 0, 0, []), (.iadd, 0, 0, []), (.iaload, 1, 0, []), (.invokevirtual 46, 1000, 1, [(11, 86)]), zN, zN], [(.aload_n 2, 2, 0, []), (.aload_n 0, 0, 0, []), (.iload_n 3, 3, 0, []), (.iconst 1, 0, 0, []), (.iadd, 0, 0, []), (.iaload, 1, 0, []), (.invokevirtual 49, 1000, 1, [(12, 160)]), zN, zN, (.if_icmp .eq 707, 1116, 0, []), zN, zN, (.iconst 0, 0, 0, []), (.ireturn, 1, 0, []), (.aload_n 1, 1, 0, []), (.aload_n 0, 0, 0, [])], [(.iload_n 3, 3, 0, []), (.iconst 1, 0, 0, []), (.iadd, 0, 0, []), (.iaload, 1, 0, []), (.aload_n 0, 0, 0, []), (.iload_n 3, 3, 0, []), (.iconst 2, 0, 0, []), (.iadd, 0, 0, []), (.iaload, 1, 0, []), (.aload_n 0, 0, 0, []), (.iload_n 3, 3, 0, []), (.iconst 3, 0, 0, []), (.iadd, 0, 0, []), (.iaload, 1, 0, []), (.invokevirtual 50, 1000, 3, [(11, 88)]), zN], [zN, (.aload_n 2, 2, 0, []), (.aload_n 0, 0, 0, []), (.iload_n 3, 3, 0, []), (.iconst 1, 0, 0, []), (.iadd, 0, 0, []), (.iaload, 1, 0, []), (.aload_n 0, 0, 0, []), (.iload_n 3, 3, 0, []), (.iconst 2, 0, 0, []), (.iadd, 0, 0, []), (.iaload, 1, 0, []), (.aload_n 0, 0, 0, []), (.iload_n 3, 3, 0, []), (.iconst 3, 0, 0, []), (.iadd, 0, 0, [])], [(.iaload, 1, 0, []), (.invokevirtual 53, 1000, 3, [(12, 171)]), zN, zN, (.if_icmp .eq 664, 1116, 0, []), zN, zN, (.iconst 0, 0, 0, []), (.ireturn, 1, 0, []), (.aload_n 1, 1, 0, []), (.invokevirtual 54, 1000, 0, [(11, 89)]), zN, zN, (.aload_n 2, 2, 0, []), (.invokevirtual 57, 1000, 0, [(12, 174)]), zN], [zN, (.if_icmp .eq 651, 1116, 0, []), zN, zN, (.iconst 0, 0, 0, []), (.ireturn, 1, 0, []), (.aload_n 1, 1, 0, []), (.aload_n 0, 0, 0, []), (.iload_n 3, 3, 0, []), (.iconst 1, 0, 0, []), (.iadd, 0, 0, []), (.iaload, 1, 0, []), (.aload_n 0, 0, 0, []), (.iload_n 3, 3, 0, []), (.iconst 2, 0, 0, []), (.iadd, 0, 0, [])], [(.iaload, 1, 0, []), (.invokevirtual 58, 1000, 2, [(11, 90)]), zN, zN, (.aload_n 2, 2, 0, []), (.aload_n 0, 0, 0, []), (.iload_n 3, 3, 0, []), (.iconst 1, 0, 0, []), (.iadd, 0, 0, []), (.iaload, 1, 0, []), (.aload_n 0, 0, 0, []), (.iload_n 3, 3, 0, []), (.iconst 2, 0, 0, []), (.iadd, 0, 0, []), (.iaload, 1, 0, []), (.invokevirtual 61, 1000, 2, [(12, 177)])], [zN, zN, (.if_icmp .eq 618, 1116, 0, []), zN, zN, (.iconst 0, 0, 0, []), (.ireturn, 1, 0, []), (.aload_n 1, 1, 0, []), (.aload_n 0, 0, 0, []), (.iload_n 3, 3, 0, []), (.iconst 1, 0, 0, []), (.iadd, 0, 0, []), (.iaload, 1, 0, []), (.aload_n 0, 0, 0, []), (.iload_n 3, 3, 0, []), (.iconst 2, 0, 0, [])], [(.iadd, 0, 0, []), (.iaload, 1, 0, []), (.invokevirtual 62, 1000, 2, [(11, 104)]), zN, zN, (.aload_n 2, 2, 0, []), (.aload_n 0, 0, 0, []), (.iload_n 3, 3, 0, []), (.iconst 1, 0, 0, []), (.iadd, 0, 0, []), (.iaload, 1, 0, []), (.aload_n 0, 0, 0, []), (.iload_n 3, 3, 0, []), (.iconst 2, 0, 0, []), (.iadd, 0, 0, []), (.iaload, 1, 0, [])], [(.invokevirtual 65, 1000, 2, [(12, 178)]), zN, zN, (.if_icmp .eq 585, 1116, 0, []), zN, zN, (.iconst 0, 0, 0, []), (.ireturn, 1, 0, []), (.aload_n 1, 1, 0, []), (.aload_n 0, 0, 0, []), (.iload_n 3, 3, 0, []), (.iconst 1, 0, 0, []), (.iadd, 0, 0, []), (.iaload, 1, 0, []), (.aload_n 0, 0, 0, []), (.iload_n 3, 3, 0, [])], [(.iconst 2, 0, 0, []), (.iadd, 0, 0, []), (.iaload, 1, 0, []), (.aload_n 0, 0, 0, []), (.iload_n 3, 3, 0, []), (.iconst 3, 0, 0, []), (.iadd, 0, 0, []), (.iaload, 1, 0, []), (.invokevirtual 66, 1000, 3, [(11, 105)]), zN, zN, (.aload_n 2, 2, 0, []), (.aload_n 0, 0, 0, []), (.iload_n 3, 3, 0, []), (.iconst 1, 0, 0, []), (.iadd, 0, 0, [])], [(.iaload, 1, 0, []), (.aload_n 0, 0, 0, []), (.iload_n 3, 3, 0, []), (.iconst 2, 0, 0, []), (.iadd, 0, 0, []), (.iaload, 1, 0, []), (.aload_n 0, 0, 0, []), (.iload_n 3, 3, 0, []), (.iconst 3, 0, 0, []), (.iadd, 0, 0, []), (.iaload, 1, 0, []), (.invokevirtual 69, 1000, 3, [(12, 180)]), zN, zN, (.if_icmp .eq 542, 1116, 0, []), zN], [zN, (.iconst 0, 0, 0, []), (.ireturn, 1, 0, []), (.aload_n 1, 1, 0, []), (.aload_n 0, 0, 0, []), (.iload_n 3, 3, 0, []), (.iconst 1, 0, 0, []), (.iadd, 0, 0, []), (.iaload, 1, 0, []), (.aload_n 0, 0, 0, []), (.iload_n 3, 3, 0, []), (.iconst 2, 0, 0, []), (.iadd, 0, 0, []), (.iaload, 1, 0, []), (.invokevirtual 70, 1000, 2, [(11, 107)]), zN], [zN, (.aload_n 2, 2, 0, []), (.aload_n 0, 0, 0, []), (.iload_n 3, 3, 0, []), (.iconst 1, 0, 0, []), (.iadd, 0, 0, []), (.iaload, 1, 0, []), (.aload_n 0, 0, 0, []), (.iload_n 3, 3, 0, []), (.iconst 2, 0, 0, []), (.iadd, 0, 0, []), (.iaload, 1, 0, []), (.invokevirtual 73, 1000, 2, [(12, 181)]), zN, zN, (.if_icmp .eq 509, 1116, 0, [])], [zN, zN, (.iconst 0, 0, 0, []), (.ireturn, 1, 0, []), (.aload_n 1, 1, 0, []), (.aload_n 0, 0, 0, []), (.iload_n 3, 3, 0, []), (.iconst 1, 0, 0, []), (.iadd, 0, 0, []), (.iaload, 1, 0, []), (.aload_n 0, 0, 0, []), (.iload_n 3, 3, 0, []), (.iconst 2, 0, 0, []), (.iadd, 0, 0, []), (.iaload, 1, 0, []), (.invokevirtual 74, 1000, 2, [(11, 109)])], [zN, zN, (.aload_n 2, 2, 0, []), (.aload_n 0, 0, 0, []), (.iload_n 3, 3, 0, []), (.iconst 1, 0, 0, []), (.iadd, 0, 0, []), (.iaload, 1, 0, []), (.aload_n 0, 0, 0, []), (.iload_n 3, 3, 0, []), (.iconst 2, 0, 0, []), (.iadd, 0, 0, []), (.iaload, 1, 0, []), (.invokevirtual 77, 1000, 2, [(12, 182)]), zN, zN], [(.if_icmp .eq 476, 1116, 0, []), zN, zN, (.iconst 0, 0, 0, []), (.ireturn, 1, 0, []), (.aload_n 1, 1, 0, []), (.aload_n 0, 0, 0, []), (.iload_n 3, 3, 0, []), (.iconst 1, 0, 0, []), (.iadd, 0, 0, []), (.iaload, 1, 0, []), (.invokevirtual 78, 1000, 1, [(11, 110)]), zN, zN, (.aload_n 2, 2, 0, []), (.aload_n 0, 0, 0, [])], [(.iload_n 3, 3, 0, []), (.iconst 1, 0, 0, []), (.iadd, 0, 0, []), (.iaload, 1, 0, []), (.invokevirtual 82, 1000, 1, [(12, 184)]), zN, zN, (.lcmp, 0, 0, []), (.ifCond .eq 452, 1116, 0, []), zN, zN, (.iconst 0, 0, 0, []), (.ireturn, 1, 0, []), (.aload_n 1, 1, 0, []), (.aload_n 0, 0, 0, []), (.iload_n 3, 3, 0, [])], [(.iconst 1, 0, 0, []), (.iadd, 0, 0, []), (.iaload, 1, 0, []), (.aload_n 0, 0, 0, []), (.iload_n 3, 3, 0, []), (.iconst 2, 0, 0, []), (.iadd, 0, 0, []), (.iaload, 1, 0, []), (.aload_n 0, 0, 0, []), (.iload_n 3, 3, 0, []), (.iconst 3, 0, 0, []), (.iadd, 0, 0, []), (.iaload, 1, 0, []), (.invokevirtual 83, 1000, 3, [(11, 113)]), zN, zN], [(.aload_n 2, 2, 0, []), (.aload_n 0, 0, 0, []), (.iload_n 3, 3, 0, []), (.iconst 1, 0, 0, []), (.iadd, 0, 0, []), (.iaload, 1, 0, []), (.aload_n 0, 0, 0, []), (.iload_n 3, 3, 0, []), (.iconst 2, 0, 0, []), (.iadd, 0, 0, []), (.iaload, 1, 0, []), (.aload_n 0, 0, 0, []), (.iload_n 3, 3, 0, []), (.iconst 3, 0, 0, []), (.iadd, 0, 0, []), (.iaload, 1, 0, [])], [(.invokevirtual 86, 1000, 3, [(12, 187)]), zN, zN, (.if_icmp .eq 409, 1116, 0, []), zN, zN, (.iconst 0, 0, 0, []), (.ireturn, 1, 0, []), (.aload_n 1, 1, 0, []), (.aload_n 0, 0, 0, []), (.iload_n 3, 3, 0, []), (.iconst 1, 0, 0, []), (.iadd, 0, 0, []), (.iaload, 1, 0, []), (.aload_n 0, 0, 0, []), (.iload_n 3, 3, 0, [])], [(.iconst 2, 0, 0, []), (.iadd, 0, 0, []), (.iaload, 1, 0, []), (.invokevirtual 87, 1000, 2, [(11, 117)]), zN, zN, (.aload_n 2, 2, 0, []), (.aload_n 0, 0, 0, []), (.iload_n 3, 3, 0, []), (.iconst 1, 0, 0, []), (.iadd, 0, 0, []), (.iaload, 1, 0, []), (.aload_n 0, 0, 0, []), (.iload_n 3, 3, 0, []), (.iconst 2, 0, 0, []), (.iadd, 0, 0, [])], [(.iaload, 1, 0, []), (.invokevirtual 90, 1000, 2, [(12, 188)]), zN, zN, (.if_icmp .eq 376, 1116, 0, []), zN, zN, (.iconst 0, 0, 0, []), (.ireturn, 1, 0, []), (.aload_n 1, 1, 0, []), (.aload_n 0, 0, 0, []), (.iload_n 3, 3, 0, []), (.iconst 1, 0, 0, []), (.iadd, 0, 0, []), (.iaload, 1, 0, []), (.aload_n 0, 0, 0, [])], [(.iload_n 3, 3, 0, []), (.iconst 2, 0, 0, []), (.iadd, 0, 0, []), (.iaload, 1, 0, []), (.invokevirtual 91, 1000, 2, [(11, 118)]), zN, zN, (.aload_n 2, 2, 0, []), (.aload_n 0, 0, 0, []), (.iload_n 3, 3, 0, []), (.iconst 1, 0, 0, []), (.iadd, 0, 0, []), (.iaload, 1, 0, []), (.aload_n 0, 0, 0, []), (.iload_n 3, 3, 0, []), (.iconst 2, 0, 0, [])], [(.iadd, 0, 0, []), (.iaload, 1, 0, []), (.invokevirtual 94, 1000, 2, [(12, 190)]), zN, zN, (.if_icmp .eq 343, 1116, 0, []), zN, zN, (.iconst 0, 0, 0, []), (.ireturn, 1, 0, []), (.aload_n 1, 1, 0, []), (.aload_n 0, 0, 0, []), (.iload_n 3, 3, 0, []), (.iconst 1, 0, 0, []), (.iadd, 0, 0, []), (.iaload, 1, 0, [])], [(.aload_n 0, 0, 0, []), (.iload_n 3, 3, 0, []), (.iconst 2, 0, 0, []), (.iadd, 0, 0, []), (.iaload, 1, 0, []), (.aload_n 0, 0, 0, []), (.iload_n 3, 3, 0, []), (.iconst 3, 0, 0, []), (.iadd, 0, 0, []), (.iaload, 1, 0, []), (.aload_n 0, 0, 0, []), (.iload_n 3, 3, 0, []), (.iconst 4, 0, 0, []), (.iadd, 0, 0, []), (.iaload, 1, 0, []), (.invokevirtual 95, 1000, 4, [(11, 119)])], [zN, zN, (.aload_n 2, 2, 0, []), (.aload_n 0, 0, 0, []), (.iload_n 3, 3, 0, []), (.iconst 1, 0, 0, []), (.iadd, 0, 0, []), (.iaload, 1, 0, []), (.aload_n 0, 0, 0, []), (.iload_n 3, 3, 0, []), (.iconst 2, 0, 0, []), (.iadd, 0, 0, []), (.iaload, 1, 0, []), (.aload_n 0, 0, 0, []), (.iload_n 3, 3, 0, []), (.iconst 3, 0, 0, [])], [(.iadd, 0, 0, []), (.iaload, 1, 0, []), (.aload_n 0, 0, 0, []), (.iload_n 3, 3, 0, []), (.iconst 4, 0, 0, []), (.iadd, 0, 0, []), (.iaload, 1, 0, []), (.invokevirtual 99, 1000, 4, [(12, 191)]), zN, zN, (.lcmp, 0, 0, []), (.ifCond .eq 289, 1116, 0, []), zN, zN, (.iconst 0, 0, 0, []), (.ireturn, 1, 0, [])], [(.aload_n 1, 1, 0, []), (.invokevirtual 100, 1000, 0, [(11, 121)]), zN, zN, (.aload_n 2, 2, 0, []), (.invokevirtual 103, 1000, 0, [(12, 192)]), zN, zN, (.if_icmp .eq 276, 1116, 0, []), zN, zN, (.iconst 0, 0, 0, []), (.ireturn, 1, 0, []), (.aload_n 1, 1, 0, []), (.invokevirtual 104, 1000, 0, [(11, 122)]), zN], [zN, (.aload_n 2, 2, 0, []), (.invokevirtual 107, 1000, 0, [(12, 193)]), zN, zN, (.if_icmp .eq 263, 1116, 0, []), zN, zN, (.iconst 0, 0, 0, []), (.ireturn, 1, 0, []), (.aload_n 1, 1, 0, []), (.aload_n 0, 0, 0, []), (.iload_n 3, 3, 0, []), (.iconst 1, 0, 0, []), (.iadd, 0, 0, []), (.iaload, 1, 0, [])], [(.invokevirtual 108, 1000, 1, [(11, 123)]), zN, zN, (.aload_n 2, 2, 0, []), (.aload_n 0, 0, 0, []), (.iload_n 3, 3, 0, []), (.iconst 1, 0, 0, []), (.iadd, 0, 0, []), (.iaload, 1, 0, []), (.invokevirtual 111, 1000, 1, [(12, 194)]), zN, zN, (.if_icmp .eq 240, 1116, 0, []), zN, zN, (.iconst 0, 0, 0, [])], [(.ireturn, 1, 0, []), (.aload_n 1, 1, 0, []), (.aload_n 0, 0, 0, []), (.iload_n 3, 3, 0, []), (.iconst 1, 0, 0, []), (.iadd, 0, 0, []), (.iaload, 1, 0, []), (.aload_n 0, 0, 0, []), (.iload_n 3, 3, 0, []), (.iconst 2, 0, 0, []), (.iadd, 0, 0, []), (.iaload, 1, 0, []), (.aload_n 0, 0, 0, []), (.iload_n 3, 3, 0, []), (.iconst 3, 0, 0, []), (.iadd, 0, 0, [])], [(.iaload, 1, 0, []), (.invokevirtual 112, 1000, 3, [(11, 124)]), zN, zN, (.aload_n 2, 2, 0, []), (.aload_n 0, 0, 0, []), (.iload_n 3, 3, 0, []), (.iconst 1, 0, 0, []), (.iadd, 0, 0, []), (.iaload, 1, 0, []), (.aload_n 0, 0, 0, []), (.iload_n 3, 3, 0, []), (.iconst 2, 0, 0, []), (.iadd, 0, 0, []), (.iaload, 1, 0, []), (.aload_n 0, 0, 0, [])], [(.iload_n 3, 3, 0, []), (.iconst 3, 0, 0, []), (.iadd, 0, 0, []), (.iaload, 1, 0, []), (.invokevirtual 115, 1000, 3, [(12, 196)]), zN, zN, (.if_icmp .eq 197, 1116, 0, []), zN, zN, (.iconst 0, 0, 0, []), (.ireturn, 1, 0, []), (.aload_n 1, 1, 0, []), (.aload_n 0, 0, 0, []), (.iload_n 3, 3, 0, []), (.iconst 1, 0, 0, [])], [(.iadd, 0, 0, []), (.iaload, 1, 0, []), (.aload_n 0, 0, 0, []), (.iload_n 3, 3, 0, []), (.iconst 2, 0, 0, []), (.iadd, 0, 0, []), (.iaload, 1, 0, []), (.aload_n 0, 0, 0, []), (.iload_n 3, 3, 0, []), (.iconst 3, 0, 0, []), (.iadd, 0, 0, []), (.iaload, 1, 0, []), (.invokevirtual 116, 1000, 3, [(11, 125)]), zN, zN, (.aload_n 2, 2, 0, [])], [(.aload_n 0, 0, 0, []), (.iload_n 3, 3, 0, []), (.iconst 1, 0, 0, []), (.iadd, 0, 0, []), (.iaload, 1, 0, []), (.aload_n 0, 0, 0, []), (.iload_n 3, 3, 0, []), (.iconst 2, 0, 0, []), (.iadd, 0, 0, []), (.iaload, 1, 0, []), (.aload_n 0, 0, 0, []), (.iload_n 3, 3, 0, []), (.iconst 3, 0, 0, []), (.iadd, 0, 0, []), (.iaload, 1, 0, []), (.invokevirtual 119, 1000, 3, [(12, 197)])], [zN, zN, (.if_icmp .eq 154, 1116, 0, []), zN, zN, (.iconst 0, 0, 0, []), (.ireturn, 1, 0, []), (.aload_n 1, 1, 0, []), (.aload_n 0, 0, 0, []), (.iload_n 3, 3, 0, []), (.iconst 1, 0, 0, []), (.iadd, 0, 0, []), (.iaload, 1, 0, []), (.aload_n 0, 0, 0, []), (.iload_n 3, 3, 0, []), (.iconst 2, 0, 0, [])], [(.iadd, 0, 0, []), (.iaload, 1, 0, []), (.aload_n 0, 0, 0, []), (.iload_n 3, 3, 0, []), (.iconst 3, 0, 0, []), (.iadd, 0, 0, []), (.iaload, 1, 0, []), (.aload_n 0, 0, 0, []), (.iload_n 3, 3, 0, []), (.iconst 4, 0, 0, []), (.iadd, 0, 0, []), (.iaload, 1, 0, []), (.aload_n 0, 0, 0, []), (.iload_n 3, 3, 0, []), (.iconst 5, 0, 0, []), (.iadd, 0, 0, [])], [(.iaload, 1, 0, []), (.invokevirtual 120, 1000, 5, [(11, 126)]), zN, zN, (.aload_n 2, 2, 0, []), (.aload_n 0, 0, 0, []), (.iload_n 3, 3, 0, []), (.iconst 1, 0, 0, []), (.iadd, 0, 0, []), (.iaload, 1, 0, []), (.aload_n 0, 0, 0, []), (.iload_n 3, 3, 0, []), (.iconst 2, 0, 0, []), (.iadd, 0, 0, []), (.iaload, 1, 0, []), (.aload_n 0, 0, 0, [])], [(.iload_n 3, 3, 0, []), (.iconst 3, 0, 0, []), (.iadd, 0, 0, []), (.iaload, 1, 0, []), (.aload_n 0, 0, 0, []), (.iload_n 3, 3, 0, []), (.iconst 4, 0, 0, []), (.iadd, 0, 0, []), (.iaload, 1, 0, []), (.aload_n 0, 0, 0, []), (.iload_n 3, 3, 0, []), (.iconst 5, 0, 0, []), (.iadd, 0, 0, []), (.iaload, 1, 0, []), (.invokevirtual 124, 1000, 5, [(12, 198)]), zN], [zN, (.if_icmp .eq 91, 1116, 0, []), zN, zN, (.iconst 0, 0, 0, []), (.ireturn, 1, 0, []), (.aload_n 1, 1, 0, []), (.aload_n 0, 0, 0, []), (.iload_n 3, 3, 0, []), (.iconst 1, 0, 0, []), (.iadd, 0, 0, []), (.iaload, 1, 0, []), (.aload_n 0, 0, 0, []), (.iload_n 3, 3, 0, []), (.iconst 2, 0, 0, []), (.iadd, 0, 0, [])], [(.iaload, 1, 0, []), (.aload_n 0, 0, 0, []), (.iload_n 3, 3, 0, []), (.iconst 3, 0, 0, []), (.iadd, 0, 0, []), (.iaload, 1, 0, []), (.aload_n 0, 0, 0, []), (.iload_n 3, 3, 0, []), (.iconst 4, 0, 0, []), (.iadd, 0, 0, []), (.iaload, 1, 0, []), (.invokevirtual 125, 1000, 4, [(11, 127)]), zN, zN, (.aload_n 2, 2, 0, []), (.aload_n 0, 0, 0, [])], [(.iload_n 3, 3, 0, []), (.iconst 1, 0, 0, []), (.iadd, 0, 0, []), (.iaload, 1, 0, []), (.aload_n 0, 0, 0, []), (.iload_n 3, 3, 0, []), (.iconst 2, 0, 0, []), (.iadd, 0, 0, []), (.iaload, 1, 0, []), (.aload_n 0, 0, 0, []), (.iload_n 3, 3, 0, []), (.iconst 3, 0, 0, []), (.iadd, 0, 0, []), (.iaload, 1, 0, []), (.aload_n 0, 0, 0, []), (.iload_n 3, 3, 0, [])], [(.iconst 4, 0, 0, []), (.iadd, 0, 0, []), (.iaload, 1, 0, []), (.invokevirtual 128, 1000, 4, [(12, 199)]), zN, zN, (.if_icmp .eq 38, 1116, 0, []), zN, zN, (.iconst 0, 0, 0, []), (.ireturn, 1, 0, []), (.aload_n 1, 1, 0, []), (.aload_n 0, 0, 0, []), (.iload_n 3, 3, 0, []), (.iconst 1, 0, 0, []), (.iadd, 0, 0, [])], [(.iaload, 1, 0, []), (.aload_n 0, 0, 0, []), (.iload_n 3, 3, 0, []), (.iconst 2, 0, 0, []), (.iadd, 0, 0, []), (.iaload, 1, 0, []), (.invokevirtual 129, 1000, 2, [(11, 128)]), zN, zN, (.aload_n 2, 2, 0, []), (.aload_n 0, 0, 0, []), (.iload_n 3, 3, 0, []), (.iconst 1, 0, 0, []), (.iadd, 0, 0, []), (.iaload, 1, 0, []), (.aload_n 0, 0, 0, [])], [(.iload_n 3, 3, 0, []), (.iconst 2, 0, 0, []), (.iadd, 0, 0, []), (.iaload, 1, 0, []), (.invokevirtual 132, 1000, 2, [(12, 201)]), zN, zN, (.if_icmp .eq 5, 1116, 0, []), zN, zN, (.iconst 0, 0, 0, []), (.ireturn, 1, 0, []), (.iinc 3 6, 3, 0, []), zN, zN, (.goto (-1101), 18, 0, [])], [zN, zN, (.iconst 1, 0, 0, []), (.ireturn, 1, 0, [])]]
def zCs : List (List (List (List zE))) := [[zcX0_init, zcX0_isThere, zcX0_takeFirst, zcX0_become, zcX1_init, zcX1_isUnder, zcX1_keptOf, zcX1_wordsFor, zcX1_wearies, zcX1_takesIn, zcX2_init, zcX2_isUnder, zcX2_keptOf, zcX2_wordsFor, zcX2_wearies, zcX2_takesIn], [zcX3_init, zcX3_isUnder, zcX3_wordsFor, zcX3_wearies, zcX3_takesIn, zcX4_init, zcX4_isUnder, zcX4_keptOf, zcX4_wordsFor, zcX4_wearies, zcX5_init, zcX5_worth, zcX5_become, zcX5_become_, zcX6_init, zcX6_isUnder], [zcX6_keptOf, zcX6_wordsFor, zcX6_wearies, zcX6_takesIn, zcX7_init, zcX7_put, zcX7_readInto, zcX7_readPart, zcX7_readOrs, zcX7_readAnds, zcX7_readNot, zcX7_readSum, zcX7_readTerm, zcX7_readOne, zcX7_opens, zcX7_expect], [zcX7_fail, zcX7_advance, zcX7_split, zcX7_addToken, zcX7_splitOff, zcX7_splitWord, zcX7_splitNumber, zcX7_isSign, zcX7_nameCode, zcX7_keyToken, zcX7_isWord, zcX8_init, zcX8_isMissing, zcX8_has, zcX8_become, zcX8_put], [zcX9_init, zcX9_isUnder, zcX9_keptOf, zcX9_wordsFor, zcX9_wearies, zcX9_takesIn, zcX10_init, zcX10_add, zcX10_worth, zcX10_named, zcX10_ofOne, zcX10_ofTwo, zcX11_init, zcX11_set, zcX11_person, zcX11_told], [zcX11_brings, zcX11_asks, zcX11_most, zcX11_isSet, zcX11_feed, zcX11_text, zcX11_force, zcX11_ruleOf, zcX11_over, zcX11_day, zcX11_run, zcX11_isAskedOfRun, zcX11_kindOf, zcX11_keeping, zcX11_telling, zcX11_tiring], [zcX11_learning, zcX11_toldByAll, zcX11_toldByRow, zcX11_passDay, zcX11_tellTruly, zcX11_off, zcX11_lowest, zcX11_within, zcX11_fro, zcX11_row, zcX11_tryRows, zcX11_learn, zcX11_toldWithMore, zcX11_from, zcX11_mean, zcX11_inLowestTerms], [zcX11_commonDivisor, zcX11_tells, zcX11_suiting, zcX11_vary, zcX11_firstOtherwise, zcX11_film, zcX11_drawn, zcX11_chance, zcX11_offOfDrawn, zcX11_image, zcX11_back, zcX11_count, zcX11_sheet, zcX11_cell, zcX11_copy, zcX11_crew], [zcX11_taken, zcX11_isSheet, zcX12_in, zcX12_within, zcX12_init, zcX12_spell, zcX12_isOne, zcX12_isOf, zcX12_mostOf, zcX12_set, zcX12_lays, zcX12_person, zcX12_told, zcX12_brings, zcX12_feed, zcX12_byteAt], [zcX12_next, zcX12_fail, zcX12_isLetter, zcX12_isWord, zcX12_isSign, zcX12_opens, zcX12_name, zcX12_atom, zcX12_term, zcX12_added, zcX12_not, zcX12_both, zcX12_either, zcX12_part, zcX12_read, zcX12_text], [zcX12_force, zcX12_bitsOf, zcX12_wordsOf, zcX12_says, zcX12_keepsOf, zcX12_tellsOf, zcX12_tiresOf, zcX12_learns, zcX12_asks, zcX12_byAll, zcX12_off, zcX12_over, zcX12_tellsTruly, zcX12_passes, zcX12_day, zcX12_laysAside], [zcX12_laysBack, zcX12_run, zcX12_fro, zcX12_rowsFrom, zcX12_row, zcX12_learn, zcX12_from, zcX12_lowest, zcX12_mean, zcX12_firstOther, zcX12_likeSet, zcX12_tells, zcX12_film, zcX12_offDrawn, zcX12_drawn, zcX12_chance], [zcX12_image, zcX12_back, zcX12_count, zcX12_isSheet, zcX12_sheet, zcX12_cell, zcX12_copy, zcX12_crew, zcX12_above, zcX12_taken, zcJ6_bitCount_0f7a4, zcJ9_max_7cf53, zcJ9_min_7cf53, zcL_law]]
def zCode (k : Nat) : List (List zE) := zgt [] (zgt [] zCs (k / 16)) (k % 16)
def zF (k pc : Nat) : zE := zgt zN (zgt [] (zCode k) (pc / 16)) (pc % 16)
def zSs : List (List (Nat × Nat)) := [[(11, 13), (104, 6), (0, 7), (102, 5), (100, 8), (5, 5), (5, 5), (5, 5), (5, 5), (5, 5), (0, 7), (102, 5), (100, 8), (5, 5), (5, 5), (5, 5)], [(5, 5), (5, 5), (0, 7), (102, 5), (100, 8), (5, 5), (5, 5), (5, 5), (5, 5), (5, 5), (105, 6), (100, 160), (103, 4), (100, 61), (9, 0), (2, 0)], [(1, 0), (3, 0), (4, 0), (6, 0), (8, 3), (100, 40), (8, 3), (100, 40), (8, 3), (100, 40), (8, 3), (100, 40), (10, 3), (100, 160), (100, 3), (10, 3)], [(100, 160), (100, 3), (10, 3), (100, 160), (100, 3), (10, 3), (100, 160), (100, 3), (10, 3), (100, 160), (100, 3), (10, 3), (100, 160), (100, 3), (7, 10), (100, 160)], [(100, 161), (100, 161), (100, 161), (12, 45), (100, 960), (100, 6), (100, 160), (100, 25), (100, 8), (100, 36), (100, 61), (100, 25), (100, 8), (101, 4), (100, 4), (100, 4)], [(100, 160)]]
/-- the shapes of all cells: below 100 an object of that class, else an array of a type (100 int, 101 boolean, 102 on references), and the length -/
def zSh (x : Nat) : Nat × Nat := zgt (999, 0) (zgt [] zSs (x / 16)) (x % 16)
def zRs_ : List (List (List (Option Nat))) := [[[some 1, some 2, some 10, some 18, none, some 26, some 62, none, some 27, some 28, some 29], [some 30, some 31, some 32, some 33, some 34, some 35], [some 3, some 4], [some 5, some 6, some 7, some 8, some 9], [], [], [], [], [], [], [some 11, some 12], [some 13, some 14, some 15, some 16, some 17], [], [], [], []], [[], [], [some 19, some 20], [some 21, some 22, some 23, some 24, some 25], [], [], [], [], [], [], [some 44, some 47, some 50, some 53, some 56, some 59], [], [some 36, some 38, some 40, some 42], [], [], []], [[], [], [], [], [some 37], [], [some 39], [], [some 41], [], [some 43], [], [some 45, some 46], [], [], [some 48, some 49]], [[], [], [some 51, some 52], [], [], [some 54, some 55], [], [], [some 57, some 58], [], [], [some 60, some 61], [], [], [some 63, none, some 64, some 65, some 66], []], [[], [], [], [none, some 68, some 69, none, none, some 70, none, none, some 71, none, some 72, none, none, none, none, none, none, none, none, none, none, none, none, none, none, none, none, none, none, some 73, some 74, none, none, none, some 75, some 76, none, none, none, none, none, some 77, some 78, some 79, some 80], [], [], [], [], [], [], [], [], [], [], [], []], [[]]]
/-- the references that stand once all is made -/
def zR0 (x j : Nat) : Option Nat := zgt none (zgt [] (zgt [] zRs_ (x / 16)) (x % 16)) j
def zRg (g x j : Nat) : Option Nat := match Nat.beq x 62, Nat.beq j 9 with | true, true => some g | _, _ => zR0 x j
def zFT : List (Nat × Nat × Nat × Nat) := [(0, 11, 0, 0), (0, 17, 0, 1), (0, 22, 0, 2), (0, 26, 0, 3), (0, 29, 0, 4), (0, 32, 0, 5), (0, 35, 0, 6), (2, 21, 5, 1), (3, 17, 5, 1), (4, 21, 5, 2), (5, 9, 5, 1), (5, 15, 5, 2), (5, 18, 5, 3), (5, 21, 5, 4), (5, 24, 5, 0), (6, 23, 5, 4), (7, 9, 7, 0), (7, 15, 7, 2), (7, 18, 7, 3), (7, 21, 7, 4), (7, 24, 7, 9), (7, 28, 7, 1), (7, 32, 10, 2), (7, 38, 7, 8), (7, 41, 7, 6), (7, 44, 7, 7), (7, 58, 10, 1), (7, 89, 7, 5), (8, 9, 8, 0), (8, 15, 8, 1), (8, 19, 8, 2), (9, 9, 5, 2), (10, 9, 10, 0), (10, 15, 10, 1), (10, 18, 10, 2), (10, 37, 5, 2), (10, 48, 5, 3), (10, 51, 5, 1), (10, 54, 5, 4), (11, 11, 11, 0), (11, 18, 11, 1), (11, 22, 11, 2), (11, 25, 11, 3), (11, 30, 11, 5), (11, 34, 11, 8), (11, 40, 11, 9), (11, 44, 11, 10), (11, 70, 11, 6), (11, 94, 11, 7), (11, 105, 0, 4), (11, 108, 0, 0), (11, 124, 0, 2), (11, 127, 5, 0), (11, 130, 5, 1), (11, 133, 5, 2), (11, 136, 5, 3), (11, 139, 5, 4), (11, 142, 0, 3), (11, 145, 0, 1), (11, 148, 0, 5), (11, 165, 7, 1), (11, 168, 0, 6), (11, 178, 8, 2), (11, 179, 8, 0), (11, 255, 11, 11), (11, 258, 11, 12), (11, 295, 11, 4), (11, 303, 8, 1), (12, 13, 12, 1), (12, 17, 12, 2), (12, 20, 12, 5), (12, 23, 12, 8), (12, 26, 12, 10), (12, 29, 12, 29), (12, 32, 12, 30), (12, 35, 12, 34), (12, 38, 12, 35), (12, 41, 12, 36), (12, 44, 12, 41), (12, 48, 12, 42), (12, 51, 12, 43), (12, 54, 12, 44), (12, 61, 12, 3), (12, 64, 12, 9), (12, 71, 12, 11), (12, 96, 12, 7), (12, 99, 12, 4), (12, 112, 12, 12), (12, 117, 12, 6), (12, 120, 12, 21), (12, 123, 12, 20), (12, 126, 12, 22), (12, 132, 12, 24), (12, 135, 12, 23), (12, 146, 12, 25), (12, 152, 12, 27), (12, 156, 12, 28), (12, 162, 12, 26), (12, 175, 12, 14), (12, 178, 12, 15), (12, 181, 12, 16), (12, 184, 12, 17), (12, 187, 12, 18), (12, 190, 12, 19), (12, 233, 12, 13), (12, 290, 12, 32), (12, 293, 12, 33), (12, 296, 12, 31), (12, 324, 12, 37), (12, 327, 12, 38), (12, 330, 12, 39), (12, 333, 12, 40)]
def zST : List (Nat × Nat × Nat × Nat) := [(1, 25, 202, 1), (7, 112, 55, 1), (10, 22, 73, 4), (10, 26, 74, 2), (10, 30, 75, 3), (10, 42, 202, 1), (11, 101, 82, 1), (11, 121, 83, 1), (11, 171, 129, 1), (11, 186, 101, 2), (11, 214, 103, 2), (11, 235, 102, 1), (11, 246, 202, 1), (11, 270, 111, 3), (11, 274, 112, 2), (12, 67, 130, 3), (12, 84, 136, 1), (12, 239, 161, 1), (12, 242, 131, 3), (12, 263, 195, 1), (12, 266, 170, 2), (12, 305, 183, 3), (12, 344, 200, 1)]
def zSN : List (Nat × Nat × Nat × Nat) := [(4, 27, 102, 1), (8, 22, 103, 2), (9, 15, 102, 1), (10, 34, 103, 2)]
def zIT : List (Nat × Nat × Nat × Nat) := [(11, 17, 0, 0), (11, 67, 36, 1), (15, 9, 76, 0), (15, 12, 132, 0)]
def zIN : List (Nat × Nat × Nat × Nat) := [(0, 21, 26, 0), (1, 3, 64, 0), (2, 3, 64, 0), (3, 3, 10, 0), (4, 3, 4, 0), (6, 3, 64, 0), (11, 47, 64, 0), (11, 50, 10, 0), (11, 53, 4, 0), (11, 56, 16, 0), (11, 59, 21, 0), (11, 62, 30, 0), (11, 63, 59, 0), (11, 64, 70, 0)]
def zOT : List (Nat × Nat) := [(0, 3), (5, 3), (7, 3), (8, 3), (9, 3), (10, 3), (11, 1), (12, 7)]
def zUT : List (Nat × Nat × Nat × Nat) := [(1, 9, 65, 1), (1, 13, 66, 2), (1, 17, 67, 3), (1, 21, 68, 2), (2, 9, 65, 1), (2, 13, 66, 2), (2, 17, 67, 3), (3, 9, 11, 1), (3, 13, 13, 3), (4, 9, 5, 1), (4, 13, 6, 2), (4, 17, 7, 3), (4, 31, 8, 2), (6, 9, 65, 1), (6, 13, 66, 2), (6, 17, 67, 3), (6, 29, 68, 2)]
def zVT : List (Nat × Nat × Nat × Nat × Nat) := [(0, 38, 5, 29, 1), (7, 35, 7, 50, 0), (7, 47, 7, 39, 2), (7, 51, 7, 47, 1), (7, 55, 7, 40, 1), (7, 61, 7, 41, 1), (7, 64, 7, 49, 0), (7, 67, 10, 71, 1), (7, 70, 7, 42, 1), (7, 73, 7, 46, 1), (7, 77, 7, 43, 1), (7, 80, 7, 44, 1), (7, 83, 7, 45, 1), (7, 86, 7, 48, 0), (7, 92, 7, 52, 1), (7, 102, 7, 51, 3), (7, 106, 7, 53, 1), (7, 109, 7, 54, 1), (7, 115, 7, 56, 2), (7, 118, 7, 57, 2), (7, 123, 7, 58, 3), (11, 86, 7, 37, 1), (11, 90, 7, 38, 1), (11, 98, 0, 1, 1), (11, 112, 5, 27, 1), (11, 117, 5, 28, 2), (11, 151, 11, 94, 3), (11, 155, 11, 93, 3), (11, 158, 11, 95, 3), (11, 161, 11, 96, 3), (11, 174, 8, 60, 0), (11, 182, 11, 98, 2), (11, 190, 11, 99, 1), (11, 194, 11, 91, 1), (11, 197, 0, 3, 1), (11, 200, 11, 92, 1), (11, 204, 11, 87, 1), (11, 208, 10, 72, 5), (11, 211, 9, 66, 2), (11, 217, 9, 67, 3), (11, 221, 9, 68, 2), (11, 225, 9, 69, 2), (11, 229, 0, 2, 0), (11, 232, 11, 100, 3), (11, 251, 11, 97, 2), (11, 261, 11, 106, 5), (11, 265, 11, 108, 2), (11, 277, 11, 116, 2), (11, 280, 11, 114, 5), (11, 284, 11, 115, 3), (11, 288, 8, 62, 2), (11, 289, 8, 63, 2), (11, 291, 11, 120, 2), (11, 299, 8, 61, 2), (11, 312, 11, 78, 4), (11, 316, 9, 65, 1), (12, 57, 12, 133, 9), (12, 74, 12, 134, 1), (12, 80, 12, 135, 2), (12, 88, 12, 140, 2), (12, 92, 12, 138, 3), (12, 129, 12, 143, 1), (12, 159, 12, 146, 2), (12, 165, 12, 145, 0), (12, 168, 12, 144, 0), (12, 171, 12, 147, 8), (12, 193, 12, 148, 1), (12, 196, 12, 149, 0), (12, 200, 12, 151, 0), (12, 204, 12, 156, 0), (12, 207, 12, 150, 0), (12, 210, 12, 152, 0), (12, 215, 12, 154, 0), (12, 218, 12, 153, 0), (12, 223, 12, 155, 0), (12, 226, 12, 157, 1), (12, 230, 12, 158, 2), (12, 236, 12, 162, 1), (12, 246, 12, 163, 3), (12, 249, 12, 164, 2), (12, 254, 12, 165, 2), (12, 257, 12, 166, 2), (12, 260, 12, 167, 2), (12, 269, 12, 172, 2), (12, 272, 12, 173, 0), (12, 281, 12, 175, 0), (12, 284, 12, 176, 0), (12, 287, 12, 169, 1), (12, 299, 12, 179, 6), (12, 309, 12, 185, 2), (12, 312, 12, 186, 1), (12, 315, 12, 196, 3), (12, 321, 12, 189, 2), (12, 340, 12, 139, 4), (15, 13, 11, 77, 3), (15, 17, 12, 137, 3), (15, 18, 11, 78, 4), (15, 22, 12, 139, 4), (15, 23, 11, 79, 2), (15, 27, 12, 140, 2), (15, 28, 11, 80, 1), (15, 32, 12, 141, 1), (15, 33, 11, 81, 3), (15, 36, 12, 168, 3), (15, 37, 11, 84, 1), (15, 40, 12, 142, 1), (15, 41, 11, 85, 0), (15, 45, 12, 159, 0), (15, 46, 11, 86, 1), (15, 49, 12, 160, 1), (15, 50, 11, 88, 3), (15, 53, 12, 171, 3), (15, 54, 11, 89, 0), (15, 57, 12, 174, 0), (15, 58, 11, 90, 2), (15, 61, 12, 177, 2), (15, 62, 11, 104, 2), (15, 65, 12, 178, 2), (15, 66, 11, 105, 3), (15, 69, 12, 180, 3), (15, 70, 11, 107, 2), (15, 73, 12, 181, 2), (15, 74, 11, 109, 2), (15, 77, 12, 182, 2), (15, 78, 11, 110, 1), (15, 82, 12, 184, 1), (15, 83, 11, 113, 3), (15, 86, 12, 187, 3), (15, 87, 11, 117, 2), (15, 90, 12, 188, 2), (15, 91, 11, 118, 2), (15, 94, 12, 190, 2), (15, 95, 11, 119, 4), (15, 99, 12, 191, 4), (15, 100, 11, 121, 0), (15, 103, 12, 192, 0), (15, 104, 11, 122, 0), (15, 107, 12, 193, 0), (15, 108, 11, 123, 1), (15, 111, 12, 194, 1), (15, 112, 11, 124, 3), (15, 115, 12, 196, 3), (15, 116, 11, 125, 3), (15, 119, 12, 197, 3), (15, 120, 11, 126, 5), (15, 124, 12, 198, 5), (15, 125, 11, 127, 4), (15, 128, 12, 199, 4), (15, 129, 11, 128, 2), (15, 132, 12, 201, 2)]
def zWT : List (Nat × Nat × Nat × Nat × Nat × Nat) := [(11, 211, 1, 6, 2, 66), (11, 211, 2, 12, 2, 66), (11, 211, 3, 12, 2, 66), (11, 211, 4, 23, 2, 66), (11, 211, 6, 32, 2, 66), (11, 217, 1, 7, 3, 67), (11, 217, 2, 13, 3, 67), (11, 217, 3, 18, 3, 67), (11, 217, 4, 24, 3, 67), (11, 217, 6, 33, 3, 67), (11, 221, 1, 8, 2, 68), (11, 221, 2, 14, 2, 68), (11, 221, 3, 19, 2, 68), (11, 221, 4, 25, 2, 68), (11, 221, 6, 34, 2, 68), (11, 225, 1, 9, 2, 69), (11, 225, 2, 15, 2, 69), (11, 225, 3, 20, 2, 69), (11, 225, 4, 9, 2, 69), (11, 225, 6, 35, 2, 69), (11, 316, 1, 5, 1, 65), (11, 316, 2, 11, 1, 65), (11, 316, 3, 17, 1, 65), (11, 316, 4, 22, 1, 65), (11, 316, 6, 31, 1, 65)]
def zCT : List (Nat × Nat × Nat) := [(0, 9, 5), (11, 15, 0), (11, 9, 9), (11, 48, 2), (11, 51, 1), (11, 54, 3), (11, 57, 4), (11, 60, 6), (11, 38, 8), (11, 28, 10), (11, 65, 7), (15, 7, 11), (15, 10, 12)]
def zAT : List (Nat × Nat × Nat) := [(0, 9, 2), (11, 9, 4), (11, 28, 5), (11, 38, 3)]
def zGT : List (Nat × Nat × Nat) := [(7, 121, 1), (7, 127, 2), (7, 129, 3), (7, 131, 4), (7, 133, 5), (7, 135, 6), (7, 137, 7), (7, 139, 8), (7, 141, 9), (7, 143, 10), (7, 145, 11), (7, 147, 12), (11, 74, 0)]
def zYT : List (Nat × Nat) := [(11, 306)]
def zKT : List (Nat × Nat × Int) := [(11, 294, 1103515245), (12, 318, 1103515245), (13, 265, 1431655765), (13, 266, 858993459), (13, 267, 252645135)]
def zLT : List (Nat × Nat × Int) := [(11, 268, (-4611686018427387904)), (12, 78, 4), (12, 102, 5), (12, 104, 9), (12, 106, 1023), (12, 108, 99), (12, 110, 8), (12, 115, 255), (12, 138, 97), (12, 140, 122), (12, 142, 48), (12, 144, 57), (12, 150, 10), (12, 213, 43), (12, 221, 60), (12, 252, 3), (12, 275, 14), (12, 277, 20), (12, 279, 24), (12, 303, (-4611686018427387904)), (12, 319, 40), (12, 336, (-1)), (12, 338, 2)]
def zVS : List (List Int) := [[107, 101, 101, 112, 115, 32, 109, 101, 109, 111, 114, 121, 32, 59, 32, 116, 105, 114, 101, 115, 32, 48, 32, 59, 32, 108, 101, 97, 114, 110, 115, 32, 48, 32, 59], [119, 111, 114, 100, 115], [109, 101, 109, 111, 114, 121], [110, 117, 109, 98, 101, 114], [100, 97, 121], [112, 97, 114, 116, 115], [115, 97, 105, 100], [107, 101, 101, 112, 115], [116, 105, 114, 101, 115], [108, 101, 97, 114, 110, 115], [111, 114], [97, 110, 100], [110, 111, 116]]
end
section
/-! the links' words, by their places; the resolved code against the bytes; written by wip/whole/gen4.py -/
theorem zFT_ok : ∀ q ∈ zFT, Cond.fieldLink (zR q.1) q.2.1 (zT q.2.2.1 q.2.2.2).1 (zT q.2.2.1 q.2.2.2).2.1 (zT q.2.2.1 q.2.2.2).2.2.1 ∈ zGL := by
  unfold zFT
  refine List.forall_mem_cons.mpr ⟨zg1 75 (by decide +kernel) (by decide +kernel), ?_⟩
  refine List.forall_mem_cons.mpr ⟨zg1 77 (by decide +kernel) (by decide +kernel), ?_⟩
  refine List.forall_mem_cons.mpr ⟨zg1 79 (by decide +kernel) (by decide +kernel), ?_⟩
  refine List.forall_mem_cons.mpr ⟨zg1 81 (by decide +kernel) (by decide +kernel), ?_⟩
  refine List.forall_mem_cons.mpr ⟨zg1 84 (by decide +kernel) (by decide +kernel), ?_⟩
  refine List.forall_mem_cons.mpr ⟨zg1 85 (by decide +kernel) (by decide +kernel), ?_⟩
  refine List.forall_mem_cons.mpr ⟨zg1 87 (by decide +kernel) (by decide +kernel), ?_⟩
  refine List.forall_mem_cons.mpr ⟨zg1 49 (by decide +kernel) (by decide +kernel), ?_⟩
  refine List.forall_mem_cons.mpr ⟨zg1 47 (by decide +kernel) (by decide +kernel), ?_⟩
  refine List.forall_mem_cons.mpr ⟨zg1 54 (by decide +kernel) (by decide +kernel), ?_⟩
  refine List.forall_mem_cons.mpr ⟨zg1 46 (by decide +kernel) (by decide +kernel), ?_⟩
  refine List.forall_mem_cons.mpr ⟨zg1 51 (by decide +kernel) (by decide +kernel), ?_⟩
  refine List.forall_mem_cons.mpr ⟨zg1 56 (by decide +kernel) (by decide +kernel), ?_⟩
  refine List.forall_mem_cons.mpr ⟨zg1 59 (by decide +kernel) (by decide +kernel), ?_⟩
  refine List.forall_mem_cons.mpr ⟨zg1 44 (by decide +kernel) (by decide +kernel), ?_⟩
  refine List.forall_mem_cons.mpr ⟨zg1 62 (by decide +kernel) (by decide +kernel), ?_⟩
  refine List.forall_mem_cons.mpr ⟨zg1 190 (by decide +kernel) (by decide +kernel), ?_⟩
  refine List.forall_mem_cons.mpr ⟨zg1 193 (by decide +kernel) (by decide +kernel), ?_⟩
  refine List.forall_mem_cons.mpr ⟨zg1 194 (by decide +kernel) (by decide +kernel), ?_⟩
  refine List.forall_mem_cons.mpr ⟨zg1 195 (by decide +kernel) (by decide +kernel), ?_⟩
  refine List.forall_mem_cons.mpr ⟨zg1 200 (by decide +kernel) (by decide +kernel), ?_⟩
  refine List.forall_mem_cons.mpr ⟨zg1 191 (by decide +kernel) (by decide +kernel), ?_⟩
  refine List.forall_mem_cons.mpr ⟨zg1 176 (by decide +kernel) (by decide +kernel), ?_⟩
  refine List.forall_mem_cons.mpr ⟨zg1 199 (by decide +kernel) (by decide +kernel), ?_⟩
  refine List.forall_mem_cons.mpr ⟨zg1 197 (by decide +kernel) (by decide +kernel), ?_⟩
  refine List.forall_mem_cons.mpr ⟨zg1 198 (by decide +kernel) (by decide +kernel), ?_⟩
  refine List.forall_mem_cons.mpr ⟨zg1 174 (by decide +kernel) (by decide +kernel), ?_⟩
  refine List.forall_mem_cons.mpr ⟨zg1 196 (by decide +kernel) (by decide +kernel), ?_⟩
  refine List.forall_mem_cons.mpr ⟨zg1 154 (by decide +kernel) (by decide +kernel), ?_⟩
  refine List.forall_mem_cons.mpr ⟨zg1 156 (by decide +kernel) (by decide +kernel), ?_⟩
  refine List.forall_mem_cons.mpr ⟨zg1 158 (by decide +kernel) (by decide +kernel), ?_⟩
  refine List.forall_mem_cons.mpr ⟨zg1 53 (by decide +kernel) (by decide +kernel), ?_⟩
  refine List.forall_mem_cons.mpr ⟨zg1 172 (by decide +kernel) (by decide +kernel), ?_⟩
  refine List.forall_mem_cons.mpr ⟨zg1 173 (by decide +kernel) (by decide +kernel), ?_⟩
  refine List.forall_mem_cons.mpr ⟨zg1 175 (by decide +kernel) (by decide +kernel), ?_⟩
  refine List.forall_mem_cons.mpr ⟨zg1 55 (by decide +kernel) (by decide +kernel), ?_⟩
  refine List.forall_mem_cons.mpr ⟨zg1 58 (by decide +kernel) (by decide +kernel), ?_⟩
  refine List.forall_mem_cons.mpr ⟨zg1 50 (by decide +kernel) (by decide +kernel), ?_⟩
  refine List.forall_mem_cons.mpr ⟨zg1 61 (by decide +kernel) (by decide +kernel), ?_⟩
  refine List.forall_mem_cons.mpr ⟨zg2 139 (by decide +kernel) (by decide +kernel), ?_⟩
  refine List.forall_mem_cons.mpr ⟨zg2 140 (by decide +kernel) (by decide +kernel), ?_⟩
  refine List.forall_mem_cons.mpr ⟨zg2 141 (by decide +kernel) (by decide +kernel), ?_⟩
  refine List.forall_mem_cons.mpr ⟨zg2 142 (by decide +kernel) (by decide +kernel), ?_⟩
  refine List.forall_mem_cons.mpr ⟨zg2 144 (by decide +kernel) (by decide +kernel), ?_⟩
  refine List.forall_mem_cons.mpr ⟨zg2 147 (by decide +kernel) (by decide +kernel), ?_⟩
  refine List.forall_mem_cons.mpr ⟨zg2 148 (by decide +kernel) (by decide +kernel), ?_⟩
  refine List.forall_mem_cons.mpr ⟨zg2 149 (by decide +kernel) (by decide +kernel), ?_⟩
  refine List.forall_mem_cons.mpr ⟨zg2 145 (by decide +kernel) (by decide +kernel), ?_⟩
  refine List.forall_mem_cons.mpr ⟨zg2 146 (by decide +kernel) (by decide +kernel), ?_⟩
  refine List.forall_mem_cons.mpr ⟨zg1 83 (by decide +kernel) (by decide +kernel), ?_⟩
  refine List.forall_mem_cons.mpr ⟨zg1 76 (by decide +kernel) (by decide +kernel), ?_⟩
  refine List.forall_mem_cons.mpr ⟨zg1 80 (by decide +kernel) (by decide +kernel), ?_⟩
  refine List.forall_mem_cons.mpr ⟨zg1 45 (by decide +kernel) (by decide +kernel), ?_⟩
  refine List.forall_mem_cons.mpr ⟨zg1 48 (by decide +kernel) (by decide +kernel), ?_⟩
  refine List.forall_mem_cons.mpr ⟨zg1 52 (by decide +kernel) (by decide +kernel), ?_⟩
  refine List.forall_mem_cons.mpr ⟨zg1 57 (by decide +kernel) (by decide +kernel), ?_⟩
  refine List.forall_mem_cons.mpr ⟨zg1 60 (by decide +kernel) (by decide +kernel), ?_⟩
  refine List.forall_mem_cons.mpr ⟨zg1 82 (by decide +kernel) (by decide +kernel), ?_⟩
  refine List.forall_mem_cons.mpr ⟨zg1 78 (by decide +kernel) (by decide +kernel), ?_⟩
  refine List.forall_mem_cons.mpr ⟨zg1 86 (by decide +kernel) (by decide +kernel), ?_⟩
  refine List.forall_mem_cons.mpr ⟨zg1 192 (by decide +kernel) (by decide +kernel), ?_⟩
  refine List.forall_mem_cons.mpr ⟨zg1 88 (by decide +kernel) (by decide +kernel), ?_⟩
  refine List.forall_mem_cons.mpr ⟨zg1 159 (by decide +kernel) (by decide +kernel), ?_⟩
  refine List.forall_mem_cons.mpr ⟨zg1 155 (by decide +kernel) (by decide +kernel), ?_⟩
  refine List.forall_mem_cons.mpr ⟨zg2 150 (by decide +kernel) (by decide +kernel), ?_⟩
  refine List.forall_mem_cons.mpr ⟨zg2 151 (by decide +kernel) (by decide +kernel), ?_⟩
  refine List.forall_mem_cons.mpr ⟨zg2 143 (by decide +kernel) (by decide +kernel), ?_⟩
  refine List.forall_mem_cons.mpr ⟨zg1 157 (by decide +kernel) (by decide +kernel), ?_⟩
  refine List.forall_mem_cons.mpr ⟨zg4 102 (by decide +kernel) (by decide +kernel), ?_⟩
  refine List.forall_mem_cons.mpr ⟨zg4 103 (by decide +kernel) (by decide +kernel), ?_⟩
  refine List.forall_mem_cons.mpr ⟨zg4 106 (by decide +kernel) (by decide +kernel), ?_⟩
  refine List.forall_mem_cons.mpr ⟨zg4 109 (by decide +kernel) (by decide +kernel), ?_⟩
  refine List.forall_mem_cons.mpr ⟨zg4 111 (by decide +kernel) (by decide +kernel), ?_⟩
  refine List.forall_mem_cons.mpr ⟨zg4 130 (by decide +kernel) (by decide +kernel), ?_⟩
  refine List.forall_mem_cons.mpr ⟨zg4 131 (by decide +kernel) (by decide +kernel), ?_⟩
  refine List.forall_mem_cons.mpr ⟨zg4 135 (by decide +kernel) (by decide +kernel), ?_⟩
  refine List.forall_mem_cons.mpr ⟨zg4 136 (by decide +kernel) (by decide +kernel), ?_⟩
  refine List.forall_mem_cons.mpr ⟨zg4 137 (by decide +kernel) (by decide +kernel), ?_⟩
  refine List.forall_mem_cons.mpr ⟨zg4 142 (by decide +kernel) (by decide +kernel), ?_⟩
  refine List.forall_mem_cons.mpr ⟨zg4 143 (by decide +kernel) (by decide +kernel), ?_⟩
  refine List.forall_mem_cons.mpr ⟨zg4 144 (by decide +kernel) (by decide +kernel), ?_⟩
  refine List.forall_mem_cons.mpr ⟨zg4 145 (by decide +kernel) (by decide +kernel), ?_⟩
  refine List.forall_mem_cons.mpr ⟨zg4 104 (by decide +kernel) (by decide +kernel), ?_⟩
  refine List.forall_mem_cons.mpr ⟨zg4 110 (by decide +kernel) (by decide +kernel), ?_⟩
  refine List.forall_mem_cons.mpr ⟨zg4 112 (by decide +kernel) (by decide +kernel), ?_⟩
  refine List.forall_mem_cons.mpr ⟨zg4 108 (by decide +kernel) (by decide +kernel), ?_⟩
  refine List.forall_mem_cons.mpr ⟨zg4 105 (by decide +kernel) (by decide +kernel), ?_⟩
  refine List.forall_mem_cons.mpr ⟨zg4 113 (by decide +kernel) (by decide +kernel), ?_⟩
  refine List.forall_mem_cons.mpr ⟨zg4 107 (by decide +kernel) (by decide +kernel), ?_⟩
  refine List.forall_mem_cons.mpr ⟨zg4 122 (by decide +kernel) (by decide +kernel), ?_⟩
  refine List.forall_mem_cons.mpr ⟨zg4 121 (by decide +kernel) (by decide +kernel), ?_⟩
  refine List.forall_mem_cons.mpr ⟨zg4 123 (by decide +kernel) (by decide +kernel), ?_⟩
  refine List.forall_mem_cons.mpr ⟨zg4 125 (by decide +kernel) (by decide +kernel), ?_⟩
  refine List.forall_mem_cons.mpr ⟨zg4 124 (by decide +kernel) (by decide +kernel), ?_⟩
  refine List.forall_mem_cons.mpr ⟨zg4 126 (by decide +kernel) (by decide +kernel), ?_⟩
  refine List.forall_mem_cons.mpr ⟨zg4 128 (by decide +kernel) (by decide +kernel), ?_⟩
  refine List.forall_mem_cons.mpr ⟨zg4 129 (by decide +kernel) (by decide +kernel), ?_⟩
  refine List.forall_mem_cons.mpr ⟨zg4 127 (by decide +kernel) (by decide +kernel), ?_⟩
  refine List.forall_mem_cons.mpr ⟨zg4 115 (by decide +kernel) (by decide +kernel), ?_⟩
  refine List.forall_mem_cons.mpr ⟨zg4 116 (by decide +kernel) (by decide +kernel), ?_⟩
  refine List.forall_mem_cons.mpr ⟨zg4 117 (by decide +kernel) (by decide +kernel), ?_⟩
  refine List.forall_mem_cons.mpr ⟨zg4 118 (by decide +kernel) (by decide +kernel), ?_⟩
  refine List.forall_mem_cons.mpr ⟨zg4 119 (by decide +kernel) (by decide +kernel), ?_⟩
  refine List.forall_mem_cons.mpr ⟨zg4 120 (by decide +kernel) (by decide +kernel), ?_⟩
  refine List.forall_mem_cons.mpr ⟨zg4 114 (by decide +kernel) (by decide +kernel), ?_⟩
  refine List.forall_mem_cons.mpr ⟨zg4 133 (by decide +kernel) (by decide +kernel), ?_⟩
  refine List.forall_mem_cons.mpr ⟨zg4 134 (by decide +kernel) (by decide +kernel), ?_⟩
  refine List.forall_mem_cons.mpr ⟨zg4 132 (by decide +kernel) (by decide +kernel), ?_⟩
  refine List.forall_mem_cons.mpr ⟨zg4 138 (by decide +kernel) (by decide +kernel), ?_⟩
  refine List.forall_mem_cons.mpr ⟨zg4 139 (by decide +kernel) (by decide +kernel), ?_⟩
  refine List.forall_mem_cons.mpr ⟨zg4 140 (by decide +kernel) (by decide +kernel), ?_⟩
  refine List.forall_mem_cons.mpr ⟨zg4 141 (by decide +kernel) (by decide +kernel), ?_⟩
  exact List.forall_mem_nil _
theorem zST_ok : ∀ q ∈ zST, Cond.methodLink (zR q.1) q.2.1 (zY q.2.2.1) ∈ zGL ∧ Cond.static (zY q.2.2.1) ∈ zGL := by
  unfold zST
  refine List.forall_mem_cons.mpr ⟨⟨zg3 110 (by decide +kernel) (by decide +kernel), zg3 2 (by decide +kernel) (by decide +kernel)⟩, ?_⟩
  refine List.forall_mem_cons.mpr ⟨⟨zg2 85 (by decide +kernel) (by decide +kernel), zg2 86 (by decide +kernel) (by decide +kernel)⟩, ?_⟩
  refine List.forall_mem_cons.mpr ⟨⟨zg2 238 (by decide +kernel) (by decide +kernel), zg2 239 (by decide +kernel) (by decide +kernel)⟩, ?_⟩
  refine List.forall_mem_cons.mpr ⟨⟨zg3 7 (by decide +kernel) (by decide +kernel), zg3 8 (by decide +kernel) (by decide +kernel)⟩, ?_⟩
  refine List.forall_mem_cons.mpr ⟨⟨zg3 10 (by decide +kernel) (by decide +kernel), zg3 11 (by decide +kernel) (by decide +kernel)⟩, ?_⟩
  refine List.forall_mem_cons.mpr ⟨⟨zg3 1 (by decide +kernel) (by decide +kernel), zg3 2 (by decide +kernel) (by decide +kernel)⟩, ?_⟩
  refine List.forall_mem_cons.mpr ⟨⟨zg2 188 (by decide +kernel) (by decide +kernel), zg2 189 (by decide +kernel) (by decide +kernel)⟩, ?_⟩
  refine List.forall_mem_cons.mpr ⟨⟨zg2 203 (by decide +kernel) (by decide +kernel), zg2 204 (by decide +kernel) (by decide +kernel)⟩, ?_⟩
  refine List.forall_mem_cons.mpr ⟨⟨zg3 138 (by decide +kernel) (by decide +kernel), zg3 139 (by decide +kernel) (by decide +kernel)⟩, ?_⟩
  refine List.forall_mem_cons.mpr ⟨⟨zg3 149 (by decide +kernel) (by decide +kernel), zg3 150 (by decide +kernel) (by decide +kernel)⟩, ?_⟩
  refine List.forall_mem_cons.mpr ⟨⟨zg3 42 (by decide +kernel) (by decide +kernel), zg3 14 (by decide +kernel) (by decide +kernel)⟩, ?_⟩
  refine List.forall_mem_cons.mpr ⟨⟨zg3 169 (by decide +kernel) (by decide +kernel), zg3 64 (by decide +kernel) (by decide +kernel)⟩, ?_⟩
  refine List.forall_mem_cons.mpr ⟨⟨zg3 152 (by decide +kernel) (by decide +kernel), zg3 2 (by decide +kernel) (by decide +kernel)⟩, ?_⟩
  refine List.forall_mem_cons.mpr ⟨⟨zg3 219 (by decide +kernel) (by decide +kernel), zg3 220 (by decide +kernel) (by decide +kernel)⟩, ?_⟩
  refine List.forall_mem_cons.mpr ⟨⟨zg3 222 (by decide +kernel) (by decide +kernel), zg3 223 (by decide +kernel) (by decide +kernel)⟩, ?_⟩
  refine List.forall_mem_cons.mpr ⟨⟨zg5 3 (by decide +kernel) (by decide +kernel), zg5 4 (by decide +kernel) (by decide +kernel)⟩, ?_⟩
  refine List.forall_mem_cons.mpr ⟨⟨zg5 14 (by decide +kernel) (by decide +kernel), zg5 15 (by decide +kernel) (by decide +kernel)⟩, ?_⟩
  refine List.forall_mem_cons.mpr ⟨⟨zg5 144 (by decide +kernel) (by decide +kernel), zg5 145 (by decide +kernel) (by decide +kernel)⟩, ?_⟩
  refine List.forall_mem_cons.mpr ⟨⟨zg5 147 (by decide +kernel) (by decide +kernel), zg5 148 (by decide +kernel) (by decide +kernel)⟩, ?_⟩
  refine List.forall_mem_cons.mpr ⟨⟨zg5 162 (by decide +kernel) (by decide +kernel), zg5 163 (by decide +kernel) (by decide +kernel)⟩, ?_⟩
  refine List.forall_mem_cons.mpr ⟨⟨zg5 165 (by decide +kernel) (by decide +kernel), zg5 166 (by decide +kernel) (by decide +kernel)⟩, ?_⟩
  refine List.forall_mem_cons.mpr ⟨⟨zg5 224 (by decide +kernel) (by decide +kernel), zg5 225 (by decide +kernel) (by decide +kernel)⟩, ?_⟩
  refine List.forall_mem_cons.mpr ⟨⟨zg6 53 (by decide +kernel) (by decide +kernel), zg6 54 (by decide +kernel) (by decide +kernel)⟩, ?_⟩
  exact List.forall_mem_nil _
theorem zSN_ok : ∀ q ∈ zSN, Cond.methodLinkNest (zR q.1) q.2.1 (zY q.2.2.1) RX11 ∈ lw_tbl ∧ Cond.static (zY q.2.2.1) ∈ zGL := by
  unfold zSN
  refine List.forall_mem_cons.mpr ⟨⟨zt3 63 (by decide +kernel), zg3 64 (by decide +kernel) (by decide +kernel)⟩, ?_⟩
  refine List.forall_mem_cons.mpr ⟨⟨zt4 9 (by decide +kernel), zg3 14 (by decide +kernel) (by decide +kernel)⟩, ?_⟩
  refine List.forall_mem_cons.mpr ⟨⟨zt3 71 (by decide +kernel), zg3 64 (by decide +kernel) (by decide +kernel)⟩, ?_⟩
  refine List.forall_mem_cons.mpr ⟨⟨zt3 13 (by decide +kernel), zg3 14 (by decide +kernel) (by decide +kernel)⟩, ?_⟩
  exact List.forall_mem_nil _
theorem zIT_ok : ∀ q ∈ zIT, Cond.methodLink (zR q.1) q.2.1 (zY q.2.2.1) ∈ zGL ∧ Cond.instanceMethod (zY q.2.2.1) ∈ zGL := by
  unfold zIT
  refine List.forall_mem_cons.mpr ⟨⟨zg1 33 (by decide +kernel) (by decide +kernel), zg1 34 (by decide +kernel) (by decide +kernel)⟩, ?_⟩
  refine List.forall_mem_cons.mpr ⟨⟨zg1 186 (by decide +kernel) (by decide +kernel), zg1 187 (by decide +kernel) (by decide +kernel)⟩, ?_⟩
  refine List.forall_mem_cons.mpr ⟨⟨zg1 23 (by decide +kernel) (by decide +kernel), zg1 24 (by decide +kernel) (by decide +kernel)⟩, ?_⟩
  refine List.forall_mem_cons.mpr ⟨⟨zg4 94 (by decide +kernel) (by decide +kernel), zg4 95 (by decide +kernel) (by decide +kernel)⟩, ?_⟩
  exact List.forall_mem_nil _
theorem zIN_ok : ∀ q ∈ zIN, Cond.methodLinkNest (zR q.1) q.2.1 (zY q.2.2.1) RX11 ∈ lw_tbl ∧ Cond.instanceMethod (zY q.2.2.1) ∈ zGL := by
  unfold zIN
  refine List.forall_mem_cons.mpr ⟨⟨zt1 40 (by decide +kernel), zg1 41 (by decide +kernel) (by decide +kernel)⟩, ?_⟩
  refine List.forall_mem_cons.mpr ⟨⟨zt1 126 (by decide +kernel), zg1 110 (by decide +kernel) (by decide +kernel)⟩, ?_⟩
  refine List.forall_mem_cons.mpr ⟨⟨zt1 119 (by decide +kernel), zg1 110 (by decide +kernel) (by decide +kernel)⟩, ?_⟩
  refine List.forall_mem_cons.mpr ⟨⟨zt1 133 (by decide +kernel), zg1 117 (by decide +kernel) (by decide +kernel)⟩, ?_⟩
  refine List.forall_mem_cons.mpr ⟨⟨zt1 140 (by decide +kernel), zg1 124 (by decide +kernel) (by decide +kernel)⟩, ?_⟩
  refine List.forall_mem_cons.mpr ⟨⟨zt1 147 (by decide +kernel), zg1 110 (by decide +kernel) (by decide +kernel)⟩, ?_⟩
  refine List.forall_mem_cons.mpr ⟨⟨zt1 109 (by decide +kernel), zg1 110 (by decide +kernel) (by decide +kernel)⟩, ?_⟩
  refine List.forall_mem_cons.mpr ⟨⟨zt1 116 (by decide +kernel), zg1 117 (by decide +kernel) (by decide +kernel)⟩, ?_⟩
  refine List.forall_mem_cons.mpr ⟨⟨zt1 123 (by decide +kernel), zg1 124 (by decide +kernel) (by decide +kernel)⟩, ?_⟩
  refine List.forall_mem_cons.mpr ⟨⟨zt1 130 (by decide +kernel), zg1 131 (by decide +kernel) (by decide +kernel)⟩, ?_⟩
  refine List.forall_mem_cons.mpr ⟨⟨zt1 137 (by decide +kernel), zg1 138 (by decide +kernel) (by decide +kernel)⟩, ?_⟩
  refine List.forall_mem_cons.mpr ⟨⟨zt1 144 (by decide +kernel), zg1 145 (by decide +kernel) (by decide +kernel)⟩, ?_⟩
  refine List.forall_mem_cons.mpr ⟨⟨zt1 150 (by decide +kernel), zg1 151 (by decide +kernel) (by decide +kernel)⟩, ?_⟩
  refine List.forall_mem_cons.mpr ⟨⟨zt1 168 (by decide +kernel), zg1 169 (by decide +kernel) (by decide +kernel)⟩, ?_⟩
  exact List.forall_mem_nil _
theorem zOT_ok : ∀ q ∈ zOT, Cond.methodLink (zR q.1) q.2 Lib.objectInit ∈ zGL := by
  unfold zOT
  refine List.forall_mem_cons.mpr ⟨zg1 36 (by decide +kernel) (by decide +kernel), ?_⟩
  refine List.forall_mem_cons.mpr ⟨zg1 43 (by decide +kernel) (by decide +kernel), ?_⟩
  refine List.forall_mem_cons.mpr ⟨zg1 189 (by decide +kernel) (by decide +kernel), ?_⟩
  refine List.forall_mem_cons.mpr ⟨zg1 153 (by decide +kernel) (by decide +kernel), ?_⟩
  refine List.forall_mem_cons.mpr ⟨zg1 112 (by decide +kernel) (by decide +kernel), ?_⟩
  refine List.forall_mem_cons.mpr ⟨zg1 171 (by decide +kernel) (by decide +kernel), ?_⟩
  refine List.forall_mem_cons.mpr ⟨zg1 26 (by decide +kernel) (by decide +kernel), ?_⟩
  refine List.forall_mem_cons.mpr ⟨zg4 97 (by decide +kernel) (by decide +kernel), ?_⟩
  exact List.forall_mem_nil _
theorem zOI_ok : Cond.instanceMethod Lib.objectInit ∈ zGL ∧ Cond.code Lib.objectInit ⟨#[0xb1]⟩ 1 none ∈ zGL := ⟨zg1 27 (by decide +kernel) (by decide +kernel), zg1 28 (by decide +kernel) (by decide +kernel)⟩
theorem zUT_ok : ∀ q ∈ zUT, Cond.methodLink (zR q.1) q.2.1 (zY q.2.2.1) ∈ zGL ∧ Cond.sameMethod (zY q.2.2.1).cls (zY q.2.2.1).cls (zY q.2.2.1).name (zY q.2.2.1).desc ∈ zGL ∧ Cond.superclass (zR q.1) (zY q.2.2.1).cls ∈ zGL ∧ Cond.instanceMethod (zY q.2.2.1) ∈ zGL := by
  unfold zUT
  refine List.forall_mem_cons.mpr ⟨⟨zg4 74 (by decide +kernel) (by decide +kernel), zg4 70 (by decide +kernel) (by decide +kernel), zg1 127 (by decide +kernel) (by decide +kernel), zg4 68 (by decide +kernel) (by decide +kernel)⟩, ?_⟩
  refine List.forall_mem_cons.mpr ⟨⟨zg3 27 (by decide +kernel) (by decide +kernel), zg3 23 (by decide +kernel) (by decide +kernel), zg1 127 (by decide +kernel) (by decide +kernel), zg3 21 (by decide +kernel) (by decide +kernel)⟩, ?_⟩
  refine List.forall_mem_cons.mpr ⟨⟨zg3 50 (by decide +kernel) (by decide +kernel), zg3 46 (by decide +kernel) (by decide +kernel), zg1 127 (by decide +kernel) (by decide +kernel), zg3 44 (by decide +kernel) (by decide +kernel)⟩, ?_⟩
  refine List.forall_mem_cons.mpr ⟨⟨zg3 83 (by decide +kernel) (by decide +kernel), zg3 79 (by decide +kernel) (by decide +kernel), zg1 127 (by decide +kernel) (by decide +kernel), zg3 77 (by decide +kernel) (by decide +kernel)⟩, ?_⟩
  refine List.forall_mem_cons.mpr ⟨⟨zg4 78 (by decide +kernel) (by decide +kernel), zg4 70 (by decide +kernel) (by decide +kernel), zg1 120 (by decide +kernel) (by decide +kernel), zg4 68 (by decide +kernel) (by decide +kernel)⟩, ?_⟩
  refine List.forall_mem_cons.mpr ⟨⟨zg3 31 (by decide +kernel) (by decide +kernel), zg3 23 (by decide +kernel) (by decide +kernel), zg1 120 (by decide +kernel) (by decide +kernel), zg3 21 (by decide +kernel) (by decide +kernel)⟩, ?_⟩
  refine List.forall_mem_cons.mpr ⟨⟨zg3 54 (by decide +kernel) (by decide +kernel), zg3 46 (by decide +kernel) (by decide +kernel), zg1 120 (by decide +kernel) (by decide +kernel), zg3 44 (by decide +kernel) (by decide +kernel)⟩, ?_⟩
  refine List.forall_mem_cons.mpr ⟨⟨zg4 82 (by decide +kernel) (by decide +kernel), zg6 60 (by decide +kernel) (by decide +kernel), zg1 134 (by decide +kernel) (by decide +kernel), zg4 76 (by decide +kernel) (by decide +kernel)⟩, ?_⟩
  refine List.forall_mem_cons.mpr ⟨⟨zg3 58 (by decide +kernel) (by decide +kernel), zg6 57 (by decide +kernel) (by decide +kernel), zg1 134 (by decide +kernel) (by decide +kernel), zg3 52 (by decide +kernel) (by decide +kernel)⟩, ?_⟩
  refine List.forall_mem_cons.mpr ⟨⟨zg4 86 (by decide +kernel) (by decide +kernel), zg6 61 (by decide +kernel) (by decide +kernel), zg1 141 (by decide +kernel) (by decide +kernel), zg4 72 (by decide +kernel) (by decide +kernel)⟩, ?_⟩
  refine List.forall_mem_cons.mpr ⟨⟨zg3 36 (by decide +kernel) (by decide +kernel), zg6 56 (by decide +kernel) (by decide +kernel), zg1 141 (by decide +kernel) (by decide +kernel), zg3 25 (by decide +kernel) (by decide +kernel)⟩, ?_⟩
  refine List.forall_mem_cons.mpr ⟨⟨zg3 62 (by decide +kernel) (by decide +kernel), zg6 58 (by decide +kernel) (by decide +kernel), zg1 141 (by decide +kernel) (by decide +kernel), zg3 48 (by decide +kernel) (by decide +kernel)⟩, ?_⟩
  refine List.forall_mem_cons.mpr ⟨⟨zg3 93 (by decide +kernel) (by decide +kernel), zg6 59 (by decide +kernel) (by decide +kernel), zg1 141 (by decide +kernel) (by decide +kernel), zg3 81 (by decide +kernel) (by decide +kernel)⟩, ?_⟩
  refine List.forall_mem_cons.mpr ⟨⟨zg4 90 (by decide +kernel) (by decide +kernel), zg4 70 (by decide +kernel) (by decide +kernel), zg1 148 (by decide +kernel) (by decide +kernel), zg4 68 (by decide +kernel) (by decide +kernel)⟩, ?_⟩
  refine List.forall_mem_cons.mpr ⟨⟨zg3 40 (by decide +kernel) (by decide +kernel), zg3 23 (by decide +kernel) (by decide +kernel), zg1 148 (by decide +kernel) (by decide +kernel), zg3 21 (by decide +kernel) (by decide +kernel)⟩, ?_⟩
  refine List.forall_mem_cons.mpr ⟨⟨zg3 69 (by decide +kernel) (by decide +kernel), zg3 46 (by decide +kernel) (by decide +kernel), zg1 148 (by decide +kernel) (by decide +kernel), zg3 44 (by decide +kernel) (by decide +kernel)⟩, ?_⟩
  refine List.forall_mem_cons.mpr ⟨⟨zg3 97 (by decide +kernel) (by decide +kernel), zg3 79 (by decide +kernel) (by decide +kernel), zg1 148 (by decide +kernel) (by decide +kernel), zg3 77 (by decide +kernel) (by decide +kernel)⟩, ?_⟩
  exact List.forall_mem_nil _
theorem zsel_of {q : MethodName × Nat} (h : q ∈ lw_privs) (g : goodWord (Cond.selects q.1.cls q.1 q.1) = true) : Cond.selects q.1.cls q.1 q.1 ∈ zGL := List.mem_filter.mpr ⟨List.mem_append_left _ (List.mem_map.mpr ⟨q, h, rfl⟩), g⟩
theorem zVT_ok : ∀ q ∈ zVT, Cond.methodLink (zR q.1) q.2.1 (zY q.2.2.2.1) ∈ zGL ∧ Cond.instanceMethod (zY q.2.2.2.1) ∈ zGL ∧ Cond.selects (zR q.2.2.1) (zY q.2.2.2.1) (zY q.2.2.2.1) ∈ zGL := by
  unfold zVT
  refine List.forall_mem_cons.mpr ⟨⟨zg3 182 (by decide +kernel) (by decide +kernel), zg3 183 (by decide +kernel) (by decide +kernel), zg3 184 (by decide +kernel) (by decide +kernel)⟩, ?_⟩
  refine List.forall_mem_cons.mpr ⟨⟨zg2 39 (by decide +kernel) (by decide +kernel), zg2 41 (by decide +kernel) (by decide +kernel), zsel_of (q := (zY 50, 10)) (by decide +kernel) (by decide +kernel)⟩, ?_⟩
  refine List.forall_mem_cons.mpr ⟨⟨zg2 91 (by decide +kernel) (by decide +kernel), zg2 93 (by decide +kernel) (by decide +kernel), zsel_of (q := (zY 39, 10)) (by decide +kernel) (by decide +kernel)⟩, ?_⟩
  refine List.forall_mem_cons.mpr ⟨⟨zg2 95 (by decide +kernel) (by decide +kernel), zg2 97 (by decide +kernel) (by decide +kernel), zsel_of (q := (zY 47, 10)) (by decide +kernel) (by decide +kernel)⟩, ?_⟩
  refine List.forall_mem_cons.mpr ⟨⟨zg2 107 (by decide +kernel) (by decide +kernel), zg2 109 (by decide +kernel) (by decide +kernel), zsel_of (q := (zY 40, 10)) (by decide +kernel) (by decide +kernel)⟩, ?_⟩
  refine List.forall_mem_cons.mpr ⟨⟨zg2 111 (by decide +kernel) (by decide +kernel), zg2 113 (by decide +kernel) (by decide +kernel), zsel_of (q := (zY 41, 10)) (by decide +kernel) (by decide +kernel)⟩, ?_⟩
  refine List.forall_mem_cons.mpr ⟨⟨zg2 99 (by decide +kernel) (by decide +kernel), zg2 101 (by decide +kernel) (by decide +kernel), zsel_of (q := (zY 49, 10)) (by decide +kernel) (by decide +kernel)⟩, ?_⟩
  refine List.forall_mem_cons.mpr ⟨⟨zg2 123 (by decide +kernel) (by decide +kernel), zg2 124 (by decide +kernel) (by decide +kernel), zg2 125 (by decide +kernel) (by decide +kernel)⟩, ?_⟩
  refine List.forall_mem_cons.mpr ⟨⟨zg2 115 (by decide +kernel) (by decide +kernel), zg2 117 (by decide +kernel) (by decide +kernel), zsel_of (q := (zY 42, 10)) (by decide +kernel) (by decide +kernel)⟩, ?_⟩
  refine List.forall_mem_cons.mpr ⟨⟨zg2 119 (by decide +kernel) (by decide +kernel), zg2 121 (by decide +kernel) (by decide +kernel), zsel_of (q := (zY 46, 10)) (by decide +kernel) (by decide +kernel)⟩, ?_⟩
  refine List.forall_mem_cons.mpr ⟨⟨zg2 127 (by decide +kernel) (by decide +kernel), zg2 129 (by decide +kernel) (by decide +kernel), zsel_of (q := (zY 43, 10)) (by decide +kernel) (by decide +kernel)⟩, ?_⟩
  refine List.forall_mem_cons.mpr ⟨⟨zg2 131 (by decide +kernel) (by decide +kernel), zg2 133 (by decide +kernel) (by decide +kernel), zsel_of (q := (zY 44, 10)) (by decide +kernel) (by decide +kernel)⟩, ?_⟩
  refine List.forall_mem_cons.mpr ⟨⟨zg2 135 (by decide +kernel) (by decide +kernel), zg2 137 (by decide +kernel) (by decide +kernel), zsel_of (q := (zY 45, 10)) (by decide +kernel) (by decide +kernel)⟩, ?_⟩
  refine List.forall_mem_cons.mpr ⟨⟨zg2 103 (by decide +kernel) (by decide +kernel), zg2 105 (by decide +kernel) (by decide +kernel), zsel_of (q := (zY 48, 10)) (by decide +kernel) (by decide +kernel)⟩, ?_⟩
  refine List.forall_mem_cons.mpr ⟨⟨zg2 43 (by decide +kernel) (by decide +kernel), zg2 45 (by decide +kernel) (by decide +kernel), zsel_of (q := (zY 52, 10)) (by decide +kernel) (by decide +kernel)⟩, ?_⟩
  refine List.forall_mem_cons.mpr ⟨⟨zg2 77 (by decide +kernel) (by decide +kernel), zg2 79 (by decide +kernel) (by decide +kernel), zsel_of (q := (zY 51, 10)) (by decide +kernel) (by decide +kernel)⟩, ?_⟩
  refine List.forall_mem_cons.mpr ⟨⟨zg2 47 (by decide +kernel) (by decide +kernel), zg2 49 (by decide +kernel) (by decide +kernel), zsel_of (q := (zY 53, 10)) (by decide +kernel) (by decide +kernel)⟩, ?_⟩
  refine List.forall_mem_cons.mpr ⟨⟨zg2 81 (by decide +kernel) (by decide +kernel), zg2 83 (by decide +kernel) (by decide +kernel), zsel_of (q := (zY 54, 10)) (by decide +kernel) (by decide +kernel)⟩, ?_⟩
  refine List.forall_mem_cons.mpr ⟨⟨zg2 51 (by decide +kernel) (by decide +kernel), zg2 53 (by decide +kernel) (by decide +kernel), zsel_of (q := (zY 56, 10)) (by decide +kernel) (by decide +kernel)⟩, ?_⟩
  refine List.forall_mem_cons.mpr ⟨⟨zg2 67 (by decide +kernel) (by decide +kernel), zg2 69 (by decide +kernel) (by decide +kernel), zsel_of (q := (zY 57, 10)) (by decide +kernel) (by decide +kernel)⟩, ?_⟩
  refine List.forall_mem_cons.mpr ⟨⟨zg2 56 (by decide +kernel) (by decide +kernel), zg2 58 (by decide +kernel) (by decide +kernel), zsel_of (q := (zY 58, 10)) (by decide +kernel) (by decide +kernel)⟩, ?_⟩
  refine List.forall_mem_cons.mpr ⟨⟨zg2 31 (by decide +kernel) (by decide +kernel), zg2 32 (by decide +kernel) (by decide +kernel), zg2 33 (by decide +kernel) (by decide +kernel)⟩, ?_⟩
  refine List.forall_mem_cons.mpr ⟨⟨zg2 35 (by decide +kernel) (by decide +kernel), zg2 36 (by decide +kernel) (by decide +kernel), zg2 37 (by decide +kernel) (by decide +kernel)⟩, ?_⟩
  refine List.forall_mem_cons.mpr ⟨⟨zg2 184 (by decide +kernel) (by decide +kernel), zg2 185 (by decide +kernel) (by decide +kernel), zg2 186 (by decide +kernel) (by decide +kernel)⟩, ?_⟩
  refine List.forall_mem_cons.mpr ⟨⟨zg2 191 (by decide +kernel) (by decide +kernel), zg2 192 (by decide +kernel) (by decide +kernel), zg2 193 (by decide +kernel) (by decide +kernel)⟩, ?_⟩
  refine List.forall_mem_cons.mpr ⟨⟨zg2 195 (by decide +kernel) (by decide +kernel), zg2 196 (by decide +kernel) (by decide +kernel), zg2 197 (by decide +kernel) (by decide +kernel)⟩, ?_⟩
  refine List.forall_mem_cons.mpr ⟨⟨zg2 218 (by decide +kernel) (by decide +kernel), zg2 220 (by decide +kernel) (by decide +kernel), zsel_of (q := (zY 94, 13)) (by decide +kernel) (by decide +kernel)⟩, ?_⟩
  refine List.forall_mem_cons.mpr ⟨⟨zg2 226 (by decide +kernel) (by decide +kernel), zg2 228 (by decide +kernel) (by decide +kernel), zsel_of (q := (zY 93, 13)) (by decide +kernel) (by decide +kernel)⟩, ?_⟩
  refine List.forall_mem_cons.mpr ⟨⟨zg3 72 (by decide +kernel) (by decide +kernel), zg3 74 (by decide +kernel) (by decide +kernel), zsel_of (q := (zY 95, 13)) (by decide +kernel) (by decide +kernel)⟩, ?_⟩
  refine List.forall_mem_cons.mpr ⟨⟨zg3 99 (by decide +kernel) (by decide +kernel), zg3 101 (by decide +kernel) (by decide +kernel), zsel_of (q := (zY 96, 13)) (by decide +kernel) (by decide +kernel)⟩, ?_⟩
  refine List.forall_mem_cons.mpr ⟨⟨zg3 141 (by decide +kernel) (by decide +kernel), zg3 142 (by decide +kernel) (by decide +kernel), zg3 143 (by decide +kernel) (by decide +kernel)⟩, ?_⟩
  refine List.forall_mem_cons.mpr ⟨⟨zg3 145 (by decide +kernel) (by decide +kernel), zg3 147 (by decide +kernel) (by decide +kernel), zsel_of (q := (zY 98, 13)) (by decide +kernel) (by decide +kernel)⟩, ?_⟩
  refine List.forall_mem_cons.mpr ⟨⟨zg3 157 (by decide +kernel) (by decide +kernel), zg3 159 (by decide +kernel) (by decide +kernel), zsel_of (q := (zY 99, 13)) (by decide +kernel) (by decide +kernel)⟩, ?_⟩
  refine List.forall_mem_cons.mpr ⟨⟨zg3 174 (by decide +kernel) (by decide +kernel), zg3 176 (by decide +kernel) (by decide +kernel), zsel_of (q := (zY 91, 13)) (by decide +kernel) (by decide +kernel)⟩, ?_⟩
  refine List.forall_mem_cons.mpr ⟨⟨zg3 178 (by decide +kernel) (by decide +kernel), zg3 179 (by decide +kernel) (by decide +kernel), zg3 180 (by decide +kernel) (by decide +kernel)⟩, ?_⟩
  refine List.forall_mem_cons.mpr ⟨⟨zg2 222 (by decide +kernel) (by decide +kernel), zg2 224 (by decide +kernel) (by decide +kernel), zsel_of (q := (zY 92, 13)) (by decide +kernel) (by decide +kernel)⟩, ?_⟩
  refine List.forall_mem_cons.mpr ⟨⟨zg2 230 (by decide +kernel) (by decide +kernel), zg2 232 (by decide +kernel) (by decide +kernel), zsel_of (q := (zY 87, 13)) (by decide +kernel) (by decide +kernel)⟩, ?_⟩
  refine List.forall_mem_cons.mpr ⟨⟨zg2 234 (by decide +kernel) (by decide +kernel), zg2 235 (by decide +kernel) (by decide +kernel), zg2 236 (by decide +kernel) (by decide +kernel)⟩, ?_⟩
  refine List.forall_mem_cons.mpr ⟨⟨zg3 20 (by decide +kernel) (by decide +kernel), zg3 21 (by decide +kernel) (by decide +kernel), zg3 22 (by decide +kernel) (by decide +kernel)⟩, ?_⟩
  refine List.forall_mem_cons.mpr ⟨⟨zg3 43 (by decide +kernel) (by decide +kernel), zg3 44 (by decide +kernel) (by decide +kernel), zg3 45 (by decide +kernel) (by decide +kernel)⟩, ?_⟩
  refine List.forall_mem_cons.mpr ⟨⟨zg3 76 (by decide +kernel) (by decide +kernel), zg3 77 (by decide +kernel) (by decide +kernel), zg3 78 (by decide +kernel) (by decide +kernel)⟩, ?_⟩
  refine List.forall_mem_cons.mpr ⟨⟨zg3 103 (by decide +kernel) (by decide +kernel), zg3 104 (by decide +kernel) (by decide +kernel), zg3 105 (by decide +kernel) (by decide +kernel)⟩, ?_⟩
  refine List.forall_mem_cons.mpr ⟨⟨zg3 161 (by decide +kernel) (by decide +kernel), zg3 162 (by decide +kernel) (by decide +kernel), zg3 163 (by decide +kernel) (by decide +kernel)⟩, ?_⟩
  refine List.forall_mem_cons.mpr ⟨⟨zg3 165 (by decide +kernel) (by decide +kernel), zg3 167 (by decide +kernel) (by decide +kernel), zsel_of (q := (zY 100, 13)) (by decide +kernel) (by decide +kernel)⟩, ?_⟩
  refine List.forall_mem_cons.mpr ⟨⟨zg3 190 (by decide +kernel) (by decide +kernel), zg3 192 (by decide +kernel) (by decide +kernel), zsel_of (q := (zY 97, 13)) (by decide +kernel) (by decide +kernel)⟩, ?_⟩
  refine List.forall_mem_cons.mpr ⟨⟨zg3 198 (by decide +kernel) (by decide +kernel), zg3 200 (by decide +kernel) (by decide +kernel), zsel_of (q := (zY 106, 13)) (by decide +kernel) (by decide +kernel)⟩, ?_⟩
  refine List.forall_mem_cons.mpr ⟨⟨zg3 206 (by decide +kernel) (by decide +kernel), zg3 208 (by decide +kernel) (by decide +kernel), zsel_of (q := (zY 108, 13)) (by decide +kernel) (by decide +kernel)⟩, ?_⟩
  refine List.forall_mem_cons.mpr ⟨⟨zg3 229 (by decide +kernel) (by decide +kernel), zg3 231 (by decide +kernel) (by decide +kernel), zsel_of (q := (zY 116, 13)) (by decide +kernel) (by decide +kernel)⟩, ?_⟩
  refine List.forall_mem_cons.mpr ⟨⟨zg3 233 (by decide +kernel) (by decide +kernel), zg3 235 (by decide +kernel) (by decide +kernel), zsel_of (q := (zY 114, 13)) (by decide +kernel) (by decide +kernel)⟩, ?_⟩
  refine List.forall_mem_cons.mpr ⟨⟨zg3 237 (by decide +kernel) (by decide +kernel), zg3 239 (by decide +kernel) (by decide +kernel), zsel_of (q := (zY 115, 13)) (by decide +kernel) (by decide +kernel)⟩, ?_⟩
  refine List.forall_mem_cons.mpr ⟨⟨zg4 5 (by decide +kernel) (by decide +kernel), zg4 6 (by decide +kernel) (by decide +kernel), zg4 7 (by decide +kernel) (by decide +kernel)⟩, ?_⟩
  refine List.forall_mem_cons.mpr ⟨⟨zg4 10 (by decide +kernel) (by decide +kernel), zg4 11 (by decide +kernel) (by decide +kernel), zg4 12 (by decide +kernel) (by decide +kernel)⟩, ?_⟩
  refine List.forall_mem_cons.mpr ⟨⟨zg4 18 (by decide +kernel) (by decide +kernel), zg4 20 (by decide +kernel) (by decide +kernel), zsel_of (q := (zY 120, 13)) (by decide +kernel) (by decide +kernel)⟩, ?_⟩
  refine List.forall_mem_cons.mpr ⟨⟨zg4 47 (by decide +kernel) (by decide +kernel), zg4 48 (by decide +kernel) (by decide +kernel), zg4 49 (by decide +kernel) (by decide +kernel)⟩, ?_⟩
  refine List.forall_mem_cons.mpr ⟨⟨zg4 62 (by decide +kernel) (by decide +kernel), zg2 200 (by decide +kernel) (by decide +kernel), zg2 201 (by decide +kernel) (by decide +kernel)⟩, ?_⟩
  refine List.forall_mem_cons.mpr ⟨⟨zg4 67 (by decide +kernel) (by decide +kernel), zg4 68 (by decide +kernel) (by decide +kernel), zg4 69 (by decide +kernel) (by decide +kernel)⟩, ?_⟩
  refine List.forall_mem_cons.mpr ⟨⟨zg4 98 (by decide +kernel) (by decide +kernel), zg4 100 (by decide +kernel) (by decide +kernel), zsel_of (q := (zY 133, 45)) (by decide +kernel) (by decide +kernel)⟩, ?_⟩
  refine List.forall_mem_cons.mpr ⟨⟨zg5 10 (by decide +kernel) (by decide +kernel), zg5 12 (by decide +kernel) (by decide +kernel), zsel_of (q := (zY 134, 45)) (by decide +kernel) (by decide +kernel)⟩, ?_⟩
  refine List.forall_mem_cons.mpr ⟨⟨zg5 6 (by decide +kernel) (by decide +kernel), zg5 8 (by decide +kernel) (by decide +kernel), zsel_of (q := (zY 135, 45)) (by decide +kernel) (by decide +kernel)⟩, ?_⟩
  refine List.forall_mem_cons.mpr ⟨⟨zg5 17 (by decide +kernel) (by decide +kernel), zg5 18 (by decide +kernel) (by decide +kernel), zg5 19 (by decide +kernel) (by decide +kernel)⟩, ?_⟩
  refine List.forall_mem_cons.mpr ⟨⟨zg5 22 (by decide +kernel) (by decide +kernel), zg5 24 (by decide +kernel) (by decide +kernel), zsel_of (q := (zY 138, 45)) (by decide +kernel) (by decide +kernel)⟩, ?_⟩
  refine List.forall_mem_cons.mpr ⟨⟨zg5 56 (by decide +kernel) (by decide +kernel), zg5 58 (by decide +kernel) (by decide +kernel), zsel_of (q := (zY 143, 45)) (by decide +kernel) (by decide +kernel)⟩, ?_⟩
  refine List.forall_mem_cons.mpr ⟨⟨zg5 69 (by decide +kernel) (by decide +kernel), zg5 71 (by decide +kernel) (by decide +kernel), zsel_of (q := (zY 146, 45)) (by decide +kernel) (by decide +kernel)⟩, ?_⟩
  refine List.forall_mem_cons.mpr ⟨⟨zg5 77 (by decide +kernel) (by decide +kernel), zg5 79 (by decide +kernel) (by decide +kernel), zsel_of (q := (zY 145, 45)) (by decide +kernel) (by decide +kernel)⟩, ?_⟩
  refine List.forall_mem_cons.mpr ⟨⟨zg5 52 (by decide +kernel) (by decide +kernel), zg5 54 (by decide +kernel) (by decide +kernel), zsel_of (q := (zY 144, 45)) (by decide +kernel) (by decide +kernel)⟩, ?_⟩
  refine List.forall_mem_cons.mpr ⟨⟨zg5 65 (by decide +kernel) (by decide +kernel), zg5 67 (by decide +kernel) (by decide +kernel), zsel_of (q := (zY 147, 45)) (by decide +kernel) (by decide +kernel)⟩, ?_⟩
  refine List.forall_mem_cons.mpr ⟨⟨zg5 109 (by decide +kernel) (by decide +kernel), zg5 111 (by decide +kernel) (by decide +kernel), zsel_of (q := (zY 148, 45)) (by decide +kernel) (by decide +kernel)⟩, ?_⟩
  refine List.forall_mem_cons.mpr ⟨⟨zg5 93 (by decide +kernel) (by decide +kernel), zg5 95 (by decide +kernel) (by decide +kernel), zsel_of (q := (zY 149, 45)) (by decide +kernel) (by decide +kernel)⟩, ?_⟩
  refine List.forall_mem_cons.mpr ⟨⟨zg5 105 (by decide +kernel) (by decide +kernel), zg5 107 (by decide +kernel) (by decide +kernel), zsel_of (q := (zY 151, 45)) (by decide +kernel) (by decide +kernel)⟩, ?_⟩
  refine List.forall_mem_cons.mpr ⟨⟨zg5 81 (by decide +kernel) (by decide +kernel), zg5 83 (by decide +kernel) (by decide +kernel), zsel_of (q := (zY 156, 45)) (by decide +kernel) (by decide +kernel)⟩, ?_⟩
  refine List.forall_mem_cons.mpr ⟨⟨zg5 113 (by decide +kernel) (by decide +kernel), zg5 115 (by decide +kernel) (by decide +kernel), zsel_of (q := (zY 150, 45)) (by decide +kernel) (by decide +kernel)⟩, ?_⟩
  refine List.forall_mem_cons.mpr ⟨⟨zg5 101 (by decide +kernel) (by decide +kernel), zg5 103 (by decide +kernel) (by decide +kernel), zsel_of (q := (zY 152, 45)) (by decide +kernel) (by decide +kernel)⟩, ?_⟩
  refine List.forall_mem_cons.mpr ⟨⟨zg5 89 (by decide +kernel) (by decide +kernel), zg5 91 (by decide +kernel) (by decide +kernel), zsel_of (q := (zY 154, 45)) (by decide +kernel) (by decide +kernel)⟩, ?_⟩
  refine List.forall_mem_cons.mpr ⟨⟨zg5 97 (by decide +kernel) (by decide +kernel), zg5 99 (by decide +kernel) (by decide +kernel), zsel_of (q := (zY 153, 45)) (by decide +kernel) (by decide +kernel)⟩, ?_⟩
  refine List.forall_mem_cons.mpr ⟨⟨zg5 85 (by decide +kernel) (by decide +kernel), zg5 87 (by decide +kernel) (by decide +kernel), zsel_of (q := (zY 155, 45)) (by decide +kernel) (by decide +kernel)⟩, ?_⟩
  refine List.forall_mem_cons.mpr ⟨⟨zg5 73 (by decide +kernel) (by decide +kernel), zg5 75 (by decide +kernel) (by decide +kernel), zsel_of (q := (zY 157, 45)) (by decide +kernel) (by decide +kernel)⟩, ?_⟩
  refine List.forall_mem_cons.mpr ⟨⟨zg5 48 (by decide +kernel) (by decide +kernel), zg5 50 (by decide +kernel) (by decide +kernel), zsel_of (q := (zY 158, 45)) (by decide +kernel) (by decide +kernel)⟩, ?_⟩
  refine List.forall_mem_cons.mpr ⟨⟨zg5 132 (by decide +kernel) (by decide +kernel), zg5 134 (by decide +kernel) (by decide +kernel), zsel_of (q := (zY 162, 45)) (by decide +kernel) (by decide +kernel)⟩, ?_⟩
  refine List.forall_mem_cons.mpr ⟨⟨zg5 140 (by decide +kernel) (by decide +kernel), zg5 142 (by decide +kernel) (by decide +kernel), zsel_of (q := (zY 163, 45)) (by decide +kernel) (by decide +kernel)⟩, ?_⟩
  refine List.forall_mem_cons.mpr ⟨⟨zg5 136 (by decide +kernel) (by decide +kernel), zg5 138 (by decide +kernel) (by decide +kernel), zsel_of (q := (zY 164, 45)) (by decide +kernel) (by decide +kernel)⟩, ?_⟩
  refine List.forall_mem_cons.mpr ⟨⟨zg5 128 (by decide +kernel) (by decide +kernel), zg5 130 (by decide +kernel) (by decide +kernel), zsel_of (q := (zY 165, 45)) (by decide +kernel) (by decide +kernel)⟩, ?_⟩
  refine List.forall_mem_cons.mpr ⟨⟨zg5 150 (by decide +kernel) (by decide +kernel), zg5 152 (by decide +kernel) (by decide +kernel), zsel_of (q := (zY 166, 45)) (by decide +kernel) (by decide +kernel)⟩, ?_⟩
  refine List.forall_mem_cons.mpr ⟨⟨zg5 154 (by decide +kernel) (by decide +kernel), zg5 156 (by decide +kernel) (by decide +kernel), zsel_of (q := (zY 167, 45)) (by decide +kernel) (by decide +kernel)⟩, ?_⟩
  refine List.forall_mem_cons.mpr ⟨⟨zg5 176 (by decide +kernel) (by decide +kernel), zg5 178 (by decide +kernel) (by decide +kernel), zsel_of (q := (zY 172, 45)) (by decide +kernel) (by decide +kernel)⟩, ?_⟩
  refine List.forall_mem_cons.mpr ⟨⟨zg5 172 (by decide +kernel) (by decide +kernel), zg5 174 (by decide +kernel) (by decide +kernel), zsel_of (q := (zY 173, 45)) (by decide +kernel) (by decide +kernel)⟩, ?_⟩
  refine List.forall_mem_cons.mpr ⟨⟨zg5 187 (by decide +kernel) (by decide +kernel), zg5 189 (by decide +kernel) (by decide +kernel), zsel_of (q := (zY 175, 45)) (by decide +kernel) (by decide +kernel)⟩, ?_⟩
  refine List.forall_mem_cons.mpr ⟨⟨zg5 191 (by decide +kernel) (by decide +kernel), zg5 193 (by decide +kernel) (by decide +kernel), zsel_of (q := (zY 176, 45)) (by decide +kernel) (by decide +kernel)⟩, ?_⟩
  refine List.forall_mem_cons.mpr ⟨⟨zg5 199 (by decide +kernel) (by decide +kernel), zg5 201 (by decide +kernel) (by decide +kernel), zsel_of (q := (zY 169, 45)) (by decide +kernel) (by decide +kernel)⟩, ?_⟩
  refine List.forall_mem_cons.mpr ⟨⟨zg5 207 (by decide +kernel) (by decide +kernel), zg5 209 (by decide +kernel) (by decide +kernel), zsel_of (q := (zY 179, 45)) (by decide +kernel) (by decide +kernel)⟩, ?_⟩
  refine List.forall_mem_cons.mpr ⟨⟨zg5 231 (by decide +kernel) (by decide +kernel), zg5 233 (by decide +kernel) (by decide +kernel), zsel_of (q := (zY 185, 45)) (by decide +kernel) (by decide +kernel)⟩, ?_⟩
  refine List.forall_mem_cons.mpr ⟨⟨zg5 235 (by decide +kernel) (by decide +kernel), zg5 237 (by decide +kernel) (by decide +kernel), zsel_of (q := (zY 186, 45)) (by decide +kernel) (by decide +kernel)⟩, ?_⟩
  refine List.forall_mem_cons.mpr ⟨⟨zg6 3 (by decide +kernel) (by decide +kernel), zg6 4 (by decide +kernel) (by decide +kernel), zg6 5 (by decide +kernel) (by decide +kernel)⟩, ?_⟩
  refine List.forall_mem_cons.mpr ⟨⟨zg6 14 (by decide +kernel) (by decide +kernel), zg6 16 (by decide +kernel) (by decide +kernel), zsel_of (q := (zY 189, 45)) (by decide +kernel) (by decide +kernel)⟩, ?_⟩
  refine List.forall_mem_cons.mpr ⟨⟨zg6 48 (by decide +kernel) (by decide +kernel), zg5 27 (by decide +kernel) (by decide +kernel), zg5 28 (by decide +kernel) (by decide +kernel)⟩, ?_⟩
  refine List.forall_mem_cons.mpr ⟨⟨zg2 180 (by decide +kernel) (by decide +kernel), zg2 181 (by decide +kernel) (by decide +kernel), zg2 182 (by decide +kernel) (by decide +kernel)⟩, ?_⟩
  refine List.forall_mem_cons.mpr ⟨⟨zg4 238 (by decide +kernel) (by decide +kernel), zg4 239 (by decide +kernel) (by decide +kernel), zg5 0 (by decide +kernel) (by decide +kernel)⟩, ?_⟩
  refine List.forall_mem_cons.mpr ⟨⟨zg2 199 (by decide +kernel) (by decide +kernel), zg2 200 (by decide +kernel) (by decide +kernel), zg2 201 (by decide +kernel) (by decide +kernel)⟩, ?_⟩
  refine List.forall_mem_cons.mpr ⟨⟨zg5 26 (by decide +kernel) (by decide +kernel), zg5 27 (by decide +kernel) (by decide +kernel), zg5 28 (by decide +kernel) (by decide +kernel)⟩, ?_⟩
  refine List.forall_mem_cons.mpr ⟨⟨zg2 206 (by decide +kernel) (by decide +kernel), zg2 207 (by decide +kernel) (by decide +kernel), zg2 208 (by decide +kernel) (by decide +kernel)⟩, ?_⟩
  refine List.forall_mem_cons.mpr ⟨⟨zg5 34 (by decide +kernel) (by decide +kernel), zg5 18 (by decide +kernel) (by decide +kernel), zg5 19 (by decide +kernel) (by decide +kernel)⟩, ?_⟩
  refine List.forall_mem_cons.mpr ⟨⟨zg2 210 (by decide +kernel) (by decide +kernel), zg2 211 (by decide +kernel) (by decide +kernel), zg2 212 (by decide +kernel) (by decide +kernel)⟩, ?_⟩
  refine List.forall_mem_cons.mpr ⟨⟨zg5 35 (by decide +kernel) (by decide +kernel), zg5 36 (by decide +kernel) (by decide +kernel), zg5 37 (by decide +kernel) (by decide +kernel)⟩, ?_⟩
  refine List.forall_mem_cons.mpr ⟨⟨zg2 214 (by decide +kernel) (by decide +kernel), zg2 215 (by decide +kernel) (by decide +kernel), zg2 216 (by decide +kernel) (by decide +kernel)⟩, ?_⟩
  refine List.forall_mem_cons.mpr ⟨⟨zg5 123 (by decide +kernel) (by decide +kernel), zg5 124 (by decide +kernel) (by decide +kernel), zg5 125 (by decide +kernel) (by decide +kernel)⟩, ?_⟩
  refine List.forall_mem_cons.mpr ⟨⟨zg3 122 (by decide +kernel) (by decide +kernel), zg3 123 (by decide +kernel) (by decide +kernel), zg3 124 (by decide +kernel) (by decide +kernel)⟩, ?_⟩
  refine List.forall_mem_cons.mpr ⟨⟨zg5 39 (by decide +kernel) (by decide +kernel), zg5 40 (by decide +kernel) (by decide +kernel), zg5 41 (by decide +kernel) (by decide +kernel)⟩, ?_⟩
  refine List.forall_mem_cons.mpr ⟨⟨zg3 126 (by decide +kernel) (by decide +kernel), zg3 127 (by decide +kernel) (by decide +kernel), zg3 128 (by decide +kernel) (by decide +kernel)⟩, ?_⟩
  refine List.forall_mem_cons.mpr ⟨⟨zg5 44 (by decide +kernel) (by decide +kernel), zg5 45 (by decide +kernel) (by decide +kernel), zg5 46 (by decide +kernel) (by decide +kernel)⟩, ?_⟩
  refine List.forall_mem_cons.mpr ⟨⟨zg3 130 (by decide +kernel) (by decide +kernel), zg3 131 (by decide +kernel) (by decide +kernel), zg3 132 (by decide +kernel) (by decide +kernel)⟩, ?_⟩
  refine List.forall_mem_cons.mpr ⟨⟨zg5 119 (by decide +kernel) (by decide +kernel), zg5 120 (by decide +kernel) (by decide +kernel), zg5 121 (by decide +kernel) (by decide +kernel)⟩, ?_⟩
  refine List.forall_mem_cons.mpr ⟨⟨zg3 134 (by decide +kernel) (by decide +kernel), zg3 135 (by decide +kernel) (by decide +kernel), zg3 136 (by decide +kernel) (by decide +kernel)⟩, ?_⟩
  refine List.forall_mem_cons.mpr ⟨⟨zg5 158 (by decide +kernel) (by decide +kernel), zg5 159 (by decide +kernel) (by decide +kernel), zg5 160 (by decide +kernel) (by decide +kernel)⟩, ?_⟩
  refine List.forall_mem_cons.mpr ⟨⟨zg3 153 (by decide +kernel) (by decide +kernel), zg3 154 (by decide +kernel) (by decide +kernel), zg3 155 (by decide +kernel) (by decide +kernel)⟩, ?_⟩
  refine List.forall_mem_cons.mpr ⟨⟨zg5 168 (by decide +kernel) (by decide +kernel), zg5 169 (by decide +kernel) (by decide +kernel), zg5 170 (by decide +kernel) (by decide +kernel)⟩, ?_⟩
  refine List.forall_mem_cons.mpr ⟨⟨zg3 170 (by decide +kernel) (by decide +kernel), zg3 171 (by decide +kernel) (by decide +kernel), zg3 172 (by decide +kernel) (by decide +kernel)⟩, ?_⟩
  refine List.forall_mem_cons.mpr ⟨⟨zg5 180 (by decide +kernel) (by decide +kernel), zg5 181 (by decide +kernel) (by decide +kernel), zg5 182 (by decide +kernel) (by decide +kernel)⟩, ?_⟩
  refine List.forall_mem_cons.mpr ⟨⟨zg3 186 (by decide +kernel) (by decide +kernel), zg3 187 (by decide +kernel) (by decide +kernel), zg3 188 (by decide +kernel) (by decide +kernel)⟩, ?_⟩
  refine List.forall_mem_cons.mpr ⟨⟨zg5 195 (by decide +kernel) (by decide +kernel), zg5 196 (by decide +kernel) (by decide +kernel), zg5 197 (by decide +kernel) (by decide +kernel)⟩, ?_⟩
  refine List.forall_mem_cons.mpr ⟨⟨zg3 194 (by decide +kernel) (by decide +kernel), zg3 195 (by decide +kernel) (by decide +kernel), zg3 196 (by decide +kernel) (by decide +kernel)⟩, ?_⟩
  refine List.forall_mem_cons.mpr ⟨⟨zg5 203 (by decide +kernel) (by decide +kernel), zg5 204 (by decide +kernel) (by decide +kernel), zg5 205 (by decide +kernel) (by decide +kernel)⟩, ?_⟩
  refine List.forall_mem_cons.mpr ⟨⟨zg3 202 (by decide +kernel) (by decide +kernel), zg3 203 (by decide +kernel) (by decide +kernel), zg3 204 (by decide +kernel) (by decide +kernel)⟩, ?_⟩
  refine List.forall_mem_cons.mpr ⟨⟨zg5 211 (by decide +kernel) (by decide +kernel), zg5 212 (by decide +kernel) (by decide +kernel), zg5 213 (by decide +kernel) (by decide +kernel)⟩, ?_⟩
  refine List.forall_mem_cons.mpr ⟨⟨zg3 210 (by decide +kernel) (by decide +kernel), zg3 211 (by decide +kernel) (by decide +kernel), zg3 212 (by decide +kernel) (by decide +kernel)⟩, ?_⟩
  refine List.forall_mem_cons.mpr ⟨⟨zg5 215 (by decide +kernel) (by decide +kernel), zg5 216 (by decide +kernel) (by decide +kernel), zg5 217 (by decide +kernel) (by decide +kernel)⟩, ?_⟩
  refine List.forall_mem_cons.mpr ⟨⟨zg3 214 (by decide +kernel) (by decide +kernel), zg3 215 (by decide +kernel) (by decide +kernel), zg3 216 (by decide +kernel) (by decide +kernel)⟩, ?_⟩
  refine List.forall_mem_cons.mpr ⟨⟨zg5 219 (by decide +kernel) (by decide +kernel), zg5 220 (by decide +kernel) (by decide +kernel), zg5 221 (by decide +kernel) (by decide +kernel)⟩, ?_⟩
  refine List.forall_mem_cons.mpr ⟨⟨zg3 225 (by decide +kernel) (by decide +kernel), zg3 226 (by decide +kernel) (by decide +kernel), zg3 227 (by decide +kernel) (by decide +kernel)⟩, ?_⟩
  refine List.forall_mem_cons.mpr ⟨⟨zg5 227 (by decide +kernel) (by decide +kernel), zg5 228 (by decide +kernel) (by decide +kernel), zg5 229 (by decide +kernel) (by decide +kernel)⟩, ?_⟩
  refine List.forall_mem_cons.mpr ⟨⟨zg4 1 (by decide +kernel) (by decide +kernel), zg4 2 (by decide +kernel) (by decide +kernel), zg4 3 (by decide +kernel) (by decide +kernel)⟩, ?_⟩
  refine List.forall_mem_cons.mpr ⟨⟨zg5 239 (by decide +kernel) (by decide +kernel), zg6 0 (by decide +kernel) (by decide +kernel), zg6 1 (by decide +kernel) (by decide +kernel)⟩, ?_⟩
  refine List.forall_mem_cons.mpr ⟨⟨zg4 14 (by decide +kernel) (by decide +kernel), zg4 15 (by decide +kernel) (by decide +kernel), zg4 16 (by decide +kernel) (by decide +kernel)⟩, ?_⟩
  refine List.forall_mem_cons.mpr ⟨⟨zg6 9 (by decide +kernel) (by decide +kernel), zg6 10 (by decide +kernel) (by decide +kernel), zg6 11 (by decide +kernel) (by decide +kernel)⟩, ?_⟩
  refine List.forall_mem_cons.mpr ⟨⟨zg4 23 (by decide +kernel) (by decide +kernel), zg4 24 (by decide +kernel) (by decide +kernel), zg4 25 (by decide +kernel) (by decide +kernel)⟩, ?_⟩
  refine List.forall_mem_cons.mpr ⟨⟨zg6 19 (by decide +kernel) (by decide +kernel), zg6 20 (by decide +kernel) (by decide +kernel), zg6 21 (by decide +kernel) (by decide +kernel)⟩, ?_⟩
  refine List.forall_mem_cons.mpr ⟨⟨zg4 27 (by decide +kernel) (by decide +kernel), zg4 28 (by decide +kernel) (by decide +kernel), zg4 29 (by decide +kernel) (by decide +kernel)⟩, ?_⟩
  refine List.forall_mem_cons.mpr ⟨⟨zg6 23 (by decide +kernel) (by decide +kernel), zg6 24 (by decide +kernel) (by decide +kernel), zg6 25 (by decide +kernel) (by decide +kernel)⟩, ?_⟩
  refine List.forall_mem_cons.mpr ⟨⟨zg4 31 (by decide +kernel) (by decide +kernel), zg4 32 (by decide +kernel) (by decide +kernel), zg4 33 (by decide +kernel) (by decide +kernel)⟩, ?_⟩
  refine List.forall_mem_cons.mpr ⟨⟨zg6 27 (by decide +kernel) (by decide +kernel), zg6 28 (by decide +kernel) (by decide +kernel), zg6 29 (by decide +kernel) (by decide +kernel)⟩, ?_⟩
  refine List.forall_mem_cons.mpr ⟨⟨zg4 35 (by decide +kernel) (by decide +kernel), zg4 36 (by decide +kernel) (by decide +kernel), zg4 37 (by decide +kernel) (by decide +kernel)⟩, ?_⟩
  refine List.forall_mem_cons.mpr ⟨⟨zg6 31 (by decide +kernel) (by decide +kernel), zg6 32 (by decide +kernel) (by decide +kernel), zg6 33 (by decide +kernel) (by decide +kernel)⟩, ?_⟩
  refine List.forall_mem_cons.mpr ⟨⟨zg4 39 (by decide +kernel) (by decide +kernel), zg4 40 (by decide +kernel) (by decide +kernel), zg4 41 (by decide +kernel) (by decide +kernel)⟩, ?_⟩
  refine List.forall_mem_cons.mpr ⟨⟨zg6 35 (by decide +kernel) (by decide +kernel), zg6 4 (by decide +kernel) (by decide +kernel), zg6 5 (by decide +kernel) (by decide +kernel)⟩, ?_⟩
  refine List.forall_mem_cons.mpr ⟨⟨zg4 43 (by decide +kernel) (by decide +kernel), zg4 44 (by decide +kernel) (by decide +kernel), zg4 45 (by decide +kernel) (by decide +kernel)⟩, ?_⟩
  refine List.forall_mem_cons.mpr ⟨⟨zg6 36 (by decide +kernel) (by decide +kernel), zg6 37 (by decide +kernel) (by decide +kernel), zg6 38 (by decide +kernel) (by decide +kernel)⟩, ?_⟩
  refine List.forall_mem_cons.mpr ⟨⟨zg4 51 (by decide +kernel) (by decide +kernel), zg4 52 (by decide +kernel) (by decide +kernel), zg4 53 (by decide +kernel) (by decide +kernel)⟩, ?_⟩
  refine List.forall_mem_cons.mpr ⟨⟨zg6 40 (by decide +kernel) (by decide +kernel), zg6 41 (by decide +kernel) (by decide +kernel), zg6 42 (by decide +kernel) (by decide +kernel)⟩, ?_⟩
  refine List.forall_mem_cons.mpr ⟨⟨zg4 58 (by decide +kernel) (by decide +kernel), zg4 59 (by decide +kernel) (by decide +kernel), zg4 60 (by decide +kernel) (by decide +kernel)⟩, ?_⟩
  refine List.forall_mem_cons.mpr ⟨⟨zg6 44 (by decide +kernel) (by decide +kernel), zg6 45 (by decide +kernel) (by decide +kernel), zg6 46 (by decide +kernel) (by decide +kernel)⟩, ?_⟩
  refine List.forall_mem_cons.mpr ⟨⟨zg4 63 (by decide +kernel) (by decide +kernel), zg4 64 (by decide +kernel) (by decide +kernel), zg4 65 (by decide +kernel) (by decide +kernel)⟩, ?_⟩
  refine List.forall_mem_cons.mpr ⟨⟨zg6 49 (by decide +kernel) (by decide +kernel), zg6 50 (by decide +kernel) (by decide +kernel), zg6 51 (by decide +kernel) (by decide +kernel)⟩, ?_⟩
  exact List.forall_mem_nil _
theorem zWT_ok : ∀ q ∈ zWT, Cond.methodLink (zR q.1) q.2.1 (zY q.2.2.2.2.2) ∈ zGL ∧ Cond.sameMethod (zY q.2.2.2.2.2).cls (zY q.2.2.2.2.2).cls (zY q.2.2.2.2.2).name (zY q.2.2.2.2.2).desc ∈ zGL ∧ Cond.instanceMethod (zY q.2.2.2.2.2) ∈ zGL ∧ Cond.selects (zR q.2.2.1) (zY q.2.2.2.2.2) (zY q.2.2.2.1) ∈ zGL ∧ Cond.instanceMethod (zY q.2.2.2.1) ∈ zGL := by
  unfold zWT
  refine List.forall_mem_cons.mpr ⟨⟨zg3 20 (by decide +kernel) (by decide +kernel), zg3 23 (by decide +kernel) (by decide +kernel), zg3 21 (by decide +kernel) (by decide +kernel), zg3 24 (by decide +kernel) (by decide +kernel), zg3 25 (by decide +kernel) (by decide +kernel)⟩, ?_⟩
  refine List.forall_mem_cons.mpr ⟨⟨zg3 20 (by decide +kernel) (by decide +kernel), zg3 23 (by decide +kernel) (by decide +kernel), zg3 21 (by decide +kernel) (by decide +kernel), zg3 28 (by decide +kernel) (by decide +kernel), zg3 29 (by decide +kernel) (by decide +kernel)⟩, ?_⟩
  refine List.forall_mem_cons.mpr ⟨⟨zg3 20 (by decide +kernel) (by decide +kernel), zg3 23 (by decide +kernel) (by decide +kernel), zg3 21 (by decide +kernel) (by decide +kernel), zg3 32 (by decide +kernel) (by decide +kernel), zg3 29 (by decide +kernel) (by decide +kernel)⟩, ?_⟩
  refine List.forall_mem_cons.mpr ⟨⟨zg3 20 (by decide +kernel) (by decide +kernel), zg3 23 (by decide +kernel) (by decide +kernel), zg3 21 (by decide +kernel) (by decide +kernel), zg3 33 (by decide +kernel) (by decide +kernel), zg3 34 (by decide +kernel) (by decide +kernel)⟩, ?_⟩
  refine List.forall_mem_cons.mpr ⟨⟨zg3 20 (by decide +kernel) (by decide +kernel), zg3 23 (by decide +kernel) (by decide +kernel), zg3 21 (by decide +kernel) (by decide +kernel), zg3 37 (by decide +kernel) (by decide +kernel), zg3 38 (by decide +kernel) (by decide +kernel)⟩, ?_⟩
  refine List.forall_mem_cons.mpr ⟨⟨zg3 43 (by decide +kernel) (by decide +kernel), zg3 46 (by decide +kernel) (by decide +kernel), zg3 44 (by decide +kernel) (by decide +kernel), zg3 47 (by decide +kernel) (by decide +kernel), zg3 48 (by decide +kernel) (by decide +kernel)⟩, ?_⟩
  refine List.forall_mem_cons.mpr ⟨⟨zg3 43 (by decide +kernel) (by decide +kernel), zg3 46 (by decide +kernel) (by decide +kernel), zg3 44 (by decide +kernel) (by decide +kernel), zg3 51 (by decide +kernel) (by decide +kernel), zg3 52 (by decide +kernel) (by decide +kernel)⟩, ?_⟩
  refine List.forall_mem_cons.mpr ⟨⟨zg3 43 (by decide +kernel) (by decide +kernel), zg3 46 (by decide +kernel) (by decide +kernel), zg3 44 (by decide +kernel) (by decide +kernel), zg3 55 (by decide +kernel) (by decide +kernel), zg3 56 (by decide +kernel) (by decide +kernel)⟩, ?_⟩
  refine List.forall_mem_cons.mpr ⟨⟨zg3 43 (by decide +kernel) (by decide +kernel), zg3 46 (by decide +kernel) (by decide +kernel), zg3 44 (by decide +kernel) (by decide +kernel), zg3 59 (by decide +kernel) (by decide +kernel), zg3 60 (by decide +kernel) (by decide +kernel)⟩, ?_⟩
  refine List.forall_mem_cons.mpr ⟨⟨zg3 43 (by decide +kernel) (by decide +kernel), zg3 46 (by decide +kernel) (by decide +kernel), zg3 44 (by decide +kernel) (by decide +kernel), zg3 66 (by decide +kernel) (by decide +kernel), zg3 67 (by decide +kernel) (by decide +kernel)⟩, ?_⟩
  refine List.forall_mem_cons.mpr ⟨⟨zg3 76 (by decide +kernel) (by decide +kernel), zg3 79 (by decide +kernel) (by decide +kernel), zg3 77 (by decide +kernel) (by decide +kernel), zg3 80 (by decide +kernel) (by decide +kernel), zg3 81 (by decide +kernel) (by decide +kernel)⟩, ?_⟩
  refine List.forall_mem_cons.mpr ⟨⟨zg3 76 (by decide +kernel) (by decide +kernel), zg3 79 (by decide +kernel) (by decide +kernel), zg3 77 (by decide +kernel) (by decide +kernel), zg3 84 (by decide +kernel) (by decide +kernel), zg3 85 (by decide +kernel) (by decide +kernel)⟩, ?_⟩
  refine List.forall_mem_cons.mpr ⟨⟨zg3 76 (by decide +kernel) (by decide +kernel), zg3 79 (by decide +kernel) (by decide +kernel), zg3 77 (by decide +kernel) (by decide +kernel), zg3 87 (by decide +kernel) (by decide +kernel), zg3 88 (by decide +kernel) (by decide +kernel)⟩, ?_⟩
  refine List.forall_mem_cons.mpr ⟨⟨zg3 76 (by decide +kernel) (by decide +kernel), zg3 79 (by decide +kernel) (by decide +kernel), zg3 77 (by decide +kernel) (by decide +kernel), zg3 90 (by decide +kernel) (by decide +kernel), zg3 91 (by decide +kernel) (by decide +kernel)⟩, ?_⟩
  refine List.forall_mem_cons.mpr ⟨⟨zg3 76 (by decide +kernel) (by decide +kernel), zg3 79 (by decide +kernel) (by decide +kernel), zg3 77 (by decide +kernel) (by decide +kernel), zg3 94 (by decide +kernel) (by decide +kernel), zg3 95 (by decide +kernel) (by decide +kernel)⟩, ?_⟩
  refine List.forall_mem_cons.mpr ⟨⟨zg3 103 (by decide +kernel) (by decide +kernel), zg3 106 (by decide +kernel) (by decide +kernel), zg3 104 (by decide +kernel) (by decide +kernel), zg3 107 (by decide +kernel) (by decide +kernel), zg3 108 (by decide +kernel) (by decide +kernel)⟩, ?_⟩
  refine List.forall_mem_cons.mpr ⟨⟨zg3 103 (by decide +kernel) (by decide +kernel), zg3 106 (by decide +kernel) (by decide +kernel), zg3 104 (by decide +kernel) (by decide +kernel), zg3 111 (by decide +kernel) (by decide +kernel), zg3 112 (by decide +kernel) (by decide +kernel)⟩, ?_⟩
  refine List.forall_mem_cons.mpr ⟨⟨zg3 103 (by decide +kernel) (by decide +kernel), zg3 106 (by decide +kernel) (by decide +kernel), zg3 104 (by decide +kernel) (by decide +kernel), zg3 114 (by decide +kernel) (by decide +kernel), zg3 115 (by decide +kernel) (by decide +kernel)⟩, ?_⟩
  refine List.forall_mem_cons.mpr ⟨⟨zg3 103 (by decide +kernel) (by decide +kernel), zg3 106 (by decide +kernel) (by decide +kernel), zg3 104 (by decide +kernel) (by decide +kernel), zg3 117 (by decide +kernel) (by decide +kernel), zg3 108 (by decide +kernel) (by decide +kernel)⟩, ?_⟩
  refine List.forall_mem_cons.mpr ⟨⟨zg3 103 (by decide +kernel) (by decide +kernel), zg3 106 (by decide +kernel) (by decide +kernel), zg3 104 (by decide +kernel) (by decide +kernel), zg3 118 (by decide +kernel) (by decide +kernel), zg3 119 (by decide +kernel) (by decide +kernel)⟩, ?_⟩
  refine List.forall_mem_cons.mpr ⟨⟨zg4 67 (by decide +kernel) (by decide +kernel), zg4 70 (by decide +kernel) (by decide +kernel), zg4 68 (by decide +kernel) (by decide +kernel), zg4 71 (by decide +kernel) (by decide +kernel), zg4 72 (by decide +kernel) (by decide +kernel)⟩, ?_⟩
  refine List.forall_mem_cons.mpr ⟨⟨zg4 67 (by decide +kernel) (by decide +kernel), zg4 70 (by decide +kernel) (by decide +kernel), zg4 68 (by decide +kernel) (by decide +kernel), zg4 75 (by decide +kernel) (by decide +kernel), zg4 76 (by decide +kernel) (by decide +kernel)⟩, ?_⟩
  refine List.forall_mem_cons.mpr ⟨⟨zg4 67 (by decide +kernel) (by decide +kernel), zg4 70 (by decide +kernel) (by decide +kernel), zg4 68 (by decide +kernel) (by decide +kernel), zg4 79 (by decide +kernel) (by decide +kernel), zg4 80 (by decide +kernel) (by decide +kernel)⟩, ?_⟩
  refine List.forall_mem_cons.mpr ⟨⟨zg4 67 (by decide +kernel) (by decide +kernel), zg4 70 (by decide +kernel) (by decide +kernel), zg4 68 (by decide +kernel) (by decide +kernel), zg4 83 (by decide +kernel) (by decide +kernel), zg4 84 (by decide +kernel) (by decide +kernel)⟩, ?_⟩
  refine List.forall_mem_cons.mpr ⟨⟨zg4 67 (by decide +kernel) (by decide +kernel), zg4 70 (by decide +kernel) (by decide +kernel), zg4 68 (by decide +kernel) (by decide +kernel), zg4 87 (by decide +kernel) (by decide +kernel), zg4 88 (by decide +kernel) (by decide +kernel)⟩, ?_⟩
  exact List.forall_mem_nil _
theorem zCT_ok : ∀ q ∈ zCT, Cond.classLink (zR q.1) q.2.1 (zR q.2.2) ∈ zGL ∧ Cond.instantiable (zR q.2.2) (zNF q.2.2) ∈ zGL ∧ Cond.initialized (zR q.2.2) ∈ zGL := by
  unfold zCT
  refine List.forall_mem_cons.mpr ⟨⟨zg1 37 (by decide +kernel) (by decide +kernel), zg1 39 (by decide +kernel) (by decide +kernel), zg1 3 (by decide +kernel) (by decide +kernel)⟩, ?_⟩
  refine List.forall_mem_cons.mpr ⟨⟨zg1 31 (by decide +kernel) (by decide +kernel), zg1 32 (by decide +kernel) (by decide +kernel), zg1 2 (by decide +kernel) (by decide +kernel)⟩, ?_⟩
  refine List.forall_mem_cons.mpr ⟨⟨zg1 29 (by decide +kernel) (by decide +kernel), zg1 108 (by decide +kernel) (by decide +kernel), zg1 4 (by decide +kernel) (by decide +kernel)⟩, ?_⟩
  refine List.forall_mem_cons.mpr ⟨⟨zg1 114 (by decide +kernel) (by decide +kernel), zg1 115 (by decide +kernel) (by decide +kernel), zg1 5 (by decide +kernel) (by decide +kernel)⟩, ?_⟩
  refine List.forall_mem_cons.mpr ⟨⟨zg1 121 (by decide +kernel) (by decide +kernel), zg1 122 (by decide +kernel) (by decide +kernel), zg1 6 (by decide +kernel) (by decide +kernel)⟩, ?_⟩
  refine List.forall_mem_cons.mpr ⟨⟨zg1 128 (by decide +kernel) (by decide +kernel), zg1 129 (by decide +kernel) (by decide +kernel), zg1 7 (by decide +kernel) (by decide +kernel)⟩, ?_⟩
  refine List.forall_mem_cons.mpr ⟨⟨zg1 135 (by decide +kernel) (by decide +kernel), zg1 136 (by decide +kernel) (by decide +kernel), zg1 8 (by decide +kernel) (by decide +kernel)⟩, ?_⟩
  refine List.forall_mem_cons.mpr ⟨⟨zg1 142 (by decide +kernel) (by decide +kernel), zg1 143 (by decide +kernel) (by decide +kernel), zg1 9 (by decide +kernel) (by decide +kernel)⟩, ?_⟩
  refine List.forall_mem_cons.mpr ⟨⟨zg1 106 (by decide +kernel) (by decide +kernel), zg1 149 (by decide +kernel) (by decide +kernel), zg1 10 (by decide +kernel) (by decide +kernel)⟩, ?_⟩
  refine List.forall_mem_cons.mpr ⟨⟨zg1 104 (by decide +kernel) (by decide +kernel), zg1 167 (by decide +kernel) (by decide +kernel), zg1 11 (by decide +kernel) (by decide +kernel)⟩, ?_⟩
  refine List.forall_mem_cons.mpr ⟨⟨zg1 184 (by decide +kernel) (by decide +kernel), zg1 185 (by decide +kernel) (by decide +kernel), zg1 12 (by decide +kernel) (by decide +kernel)⟩, ?_⟩
  refine List.forall_mem_cons.mpr ⟨⟨zg1 21 (by decide +kernel) (by decide +kernel), zg1 22 (by decide +kernel) (by decide +kernel), zg1 1 (by decide +kernel) (by decide +kernel)⟩, ?_⟩
  refine List.forall_mem_cons.mpr ⟨⟨zg4 92 (by decide +kernel) (by decide +kernel), zg4 93 (by decide +kernel) (by decide +kernel), zg1 18 (by decide +kernel) (by decide +kernel)⟩, ?_⟩
  exact List.forall_mem_nil _
def zAc (t : Nat) : Nat := zgt 0 [0, 0, 5, 8, 9, 10] t
theorem zAT_ok : ∀ q ∈ zAT, Cond.classLink (zR q.1) q.2.1 (zR (zAc q.2.2)) ∈ zGL := by
  unfold zAT
  refine List.forall_mem_cons.mpr ⟨zg1 37 (by decide +kernel) (by decide +kernel), ?_⟩
  refine List.forall_mem_cons.mpr ⟨zg1 29 (by decide +kernel) (by decide +kernel), ?_⟩
  refine List.forall_mem_cons.mpr ⟨zg1 104 (by decide +kernel) (by decide +kernel), ?_⟩
  refine List.forall_mem_cons.mpr ⟨zg1 106 (by decide +kernel) (by decide +kernel), ?_⟩
  exact List.forall_mem_nil _
theorem zAO_ok : ∀ c ∈ [5, 8, 9, 10], Cond.arrayOver (.object (zR c)) ∈ lw_tbl := by
  refine List.forall_mem_cons.mpr ⟨zt1 38 (by decide +kernel), ?_⟩
  refine List.forall_mem_cons.mpr ⟨zt1 107 (by decide +kernel), ?_⟩
  refine List.forall_mem_cons.mpr ⟨zt1 30 (by decide +kernel), ?_⟩
  refine List.forall_mem_cons.mpr ⟨zt1 105 (by decide +kernel), ?_⟩
  exact List.forall_mem_nil _
theorem zCA_ok : ∀ c ∈ [1, 2, 3, 4, 6], Cond.castable (zR c) RX9 ∈ lw_tbl := by
  refine List.forall_mem_cons.mpr ⟨zt6 63 (by decide +kernel), ?_⟩
  refine List.forall_mem_cons.mpr ⟨zt6 62 (by decide +kernel), ?_⟩
  refine List.forall_mem_cons.mpr ⟨zt6 64 (by decide +kernel), ?_⟩
  refine List.forall_mem_cons.mpr ⟨zt6 65 (by decide +kernel), ?_⟩
  refine List.forall_mem_cons.mpr ⟨zt6 66 (by decide +kernel), ?_⟩
  exact List.forall_mem_nil _
theorem zAI_ok : Cond.arrayClass .int ∈ zGL ∧ Cond.arrayClass .boolean ∈ zGL := ⟨zg1 74 (by decide +kernel) (by decide +kernel), zg4 237 (by decide +kernel) (by decide +kernel)⟩
def zSK : List (Nat × Nat) := [(11, 74), (7, 121), (7, 127), (7, 129), (7, 131), (7, 133), (7, 135), (7, 137), (7, 139), (7, 141), (7, 143), (7, 145), (7, 147)]
def zSX : List String := ["keeps memory ; tires 0 ; learns 0 ;", "words", "memory", "number", "day", "parts", "said", "keeps", "tires", "learns", "or", "and", "not"]
theorem zSR_ok : ∀ i, i < 13 → Cond.stringRef (zR (zgt (0, 0) zSK i).1) (zgt (0, 0) zSK i).2 (zgt "" zSX i) ∈ lw_tbl := by
  intro i hi
  match i, hi with
  | 0, _ => exact zt1 222 (by decide +kernel)
  | 1, _ => exact zt2 55 (by decide +kernel)
  | 2, _ => exact zt2 62 (by decide +kernel)
  | 3, _ => exact zt2 63 (by decide +kernel)
  | 4, _ => exact zt2 64 (by decide +kernel)
  | 5, _ => exact zt2 65 (by decide +kernel)
  | 6, _ => exact zt2 66 (by decide +kernel)
  | 7, _ => exact zt2 71 (by decide +kernel)
  | 8, _ => exact zt2 72 (by decide +kernel)
  | 9, _ => exact zt2 73 (by decide +kernel)
  | 10, _ => exact zt2 74 (by decide +kernel)
  | 11, _ => exact zt2 75 (by decide +kernel)
  | 12, _ => exact zt2 76 (by decide +kernel)
  | i + 13, h => exact absurd h (by omega)
theorem zGTs : ∀ q ∈ zGT, q.2.2 < 13 ∧ (q.1, q.2.1) = zgt (0, 0) zSK q.2.2 := by decide +kernel
theorem zKT_ok : ∀ q ∈ zKT, Cond.constant (zR q.1) q.2.1 (Int32.ofInt q.2.2) ∈ zGL := by
  unfold zKT
  refine List.forall_mem_cons.mpr ⟨zg4 22 (by decide +kernel) (by decide +kernel), ?_⟩
  refine List.forall_mem_cons.mpr ⟨zg6 18 (by decide +kernel) (by decide +kernel), ?_⟩
  refine List.forall_mem_cons.mpr ⟨zg3 4 (by decide +kernel) (by decide +kernel), ?_⟩
  refine List.forall_mem_cons.mpr ⟨zg3 5 (by decide +kernel) (by decide +kernel), ?_⟩
  refine List.forall_mem_cons.mpr ⟨zg3 6 (by decide +kernel) (by decide +kernel), ?_⟩
  exact List.forall_mem_nil _
theorem zLT_ok : ∀ q ∈ zLT, Cond.constantLong (zR q.1) q.2.1 (Int64.ofInt q.2.2) ∈ zGL := by
  unfold zLT
  refine List.forall_mem_cons.mpr ⟨zg3 218 (by decide +kernel) (by decide +kernel), ?_⟩
  refine List.forall_mem_cons.mpr ⟨zg5 2 (by decide +kernel) (by decide +kernel), ?_⟩
  refine List.forall_mem_cons.mpr ⟨zg5 30 (by decide +kernel) (by decide +kernel), ?_⟩
  refine List.forall_mem_cons.mpr ⟨zg5 31 (by decide +kernel) (by decide +kernel), ?_⟩
  refine List.forall_mem_cons.mpr ⟨zg5 32 (by decide +kernel) (by decide +kernel), ?_⟩
  refine List.forall_mem_cons.mpr ⟨zg5 33 (by decide +kernel) (by decide +kernel), ?_⟩
  refine List.forall_mem_cons.mpr ⟨zg5 21 (by decide +kernel) (by decide +kernel), ?_⟩
  refine List.forall_mem_cons.mpr ⟨zg5 43 (by decide +kernel) (by decide +kernel), ?_⟩
  refine List.forall_mem_cons.mpr ⟨zg5 60 (by decide +kernel) (by decide +kernel), ?_⟩
  refine List.forall_mem_cons.mpr ⟨zg5 61 (by decide +kernel) (by decide +kernel), ?_⟩
  refine List.forall_mem_cons.mpr ⟨zg5 62 (by decide +kernel) (by decide +kernel), ?_⟩
  refine List.forall_mem_cons.mpr ⟨zg5 63 (by decide +kernel) (by decide +kernel), ?_⟩
  refine List.forall_mem_cons.mpr ⟨zg5 64 (by decide +kernel) (by decide +kernel), ?_⟩
  refine List.forall_mem_cons.mpr ⟨zg5 117 (by decide +kernel) (by decide +kernel), ?_⟩
  refine List.forall_mem_cons.mpr ⟨zg5 118 (by decide +kernel) (by decide +kernel), ?_⟩
  refine List.forall_mem_cons.mpr ⟨zg5 127 (by decide +kernel) (by decide +kernel), ?_⟩
  refine List.forall_mem_cons.mpr ⟨zg5 184 (by decide +kernel) (by decide +kernel), ?_⟩
  refine List.forall_mem_cons.mpr ⟨zg5 185 (by decide +kernel) (by decide +kernel), ?_⟩
  refine List.forall_mem_cons.mpr ⟨zg5 186 (by decide +kernel) (by decide +kernel), ?_⟩
  refine List.forall_mem_cons.mpr ⟨zg5 223 (by decide +kernel) (by decide +kernel), ?_⟩
  refine List.forall_mem_cons.mpr ⟨zg6 13 (by decide +kernel) (by decide +kernel), ?_⟩
  refine List.forall_mem_cons.mpr ⟨zg6 7 (by decide +kernel) (by decide +kernel), ?_⟩
  refine List.forall_mem_cons.mpr ⟨zg6 8 (by decide +kernel) (by decide +kernel), ?_⟩
  exact List.forall_mem_nil _
theorem zKTr : ∀ q ∈ zKT, -2147483648 ≤ q.2.2 ∧ q.2.2 ≤ 2147483647 := by decide +kernel
theorem zLTr : ∀ q ∈ zLT, -9223372036854775808 ≤ q.2.2 ∧ q.2.2 ≤ 9223372036854775807 := by decide +kernel
theorem zYT_ok : ∀ q ∈ zYT, Cond.methodLink (zR q.1) q.2 arraycopyName ∈ zGL := by
  unfold zYT
  refine List.forall_mem_cons.mpr ⟨zg4 55 (by decide +kernel) (by decide +kernel), ?_⟩
  exact List.forall_mem_nil _
theorem zAY_ok : Cond.native arraycopyName ∈ zGL ∧ Cond.static arraycopyName ∈ zGL ∧ Cond.initialized "java/lang/System" ∈ zGL := ⟨zg4 57 (by decide +kernel) (by decide +kernel), zg4 56 (by decide +kernel) (by decide +kernel), zg1 20 (by decide +kernel) (by decide +kernel)⟩
theorem zMT_ok : ∀ k, k < 205 → Cond.code (zY k) (zB k) (zL k) (zTr k) ∈ zGL ∧ Cond.initialized (zY k).cls ∈ zGL := by
  intro k hk
  match k, hk with
  | 0, _ => exact ⟨zg1 35 (by decide +kernel) (by decide +kernel), zg1 2 (by decide +kernel) (by decide +kernel)⟩
  | 1, _ => exact ⟨zg2 187 (by decide +kernel) (by decide +kernel), zg1 2 (by decide +kernel) (by decide +kernel)⟩
  | 2, _ => exact ⟨zg3 164 (by decide +kernel) (by decide +kernel), zg1 2 (by decide +kernel) (by decide +kernel)⟩
  | 3, _ => exact ⟨zg3 181 (by decide +kernel) (by decide +kernel), zg1 2 (by decide +kernel) (by decide +kernel)⟩
  | 4, _ => exact ⟨zg1 125 (by decide +kernel) (by decide +kernel), zg1 6 (by decide +kernel) (by decide +kernel)⟩
  | 5, _ => exact ⟨zg4 73 (by decide +kernel) (by decide +kernel), zg1 6 (by decide +kernel) (by decide +kernel)⟩
  | 6, _ => exact ⟨zg3 26 (by decide +kernel) (by decide +kernel), zg1 6 (by decide +kernel) (by decide +kernel)⟩
  | 7, _ => exact ⟨zg3 49 (by decide +kernel) (by decide +kernel), zg1 6 (by decide +kernel) (by decide +kernel)⟩
  | 8, _ => exact ⟨zg3 82 (by decide +kernel) (by decide +kernel), zg1 6 (by decide +kernel) (by decide +kernel)⟩
  | 9, _ => exact ⟨zg3 109 (by decide +kernel) (by decide +kernel), zg1 6 (by decide +kernel) (by decide +kernel)⟩
  | 10, _ => exact ⟨zg1 118 (by decide +kernel) (by decide +kernel), zg1 5 (by decide +kernel) (by decide +kernel)⟩
  | 11, _ => exact ⟨zg4 77 (by decide +kernel) (by decide +kernel), zg1 5 (by decide +kernel) (by decide +kernel)⟩
  | 12, _ => exact ⟨zg3 30 (by decide +kernel) (by decide +kernel), zg1 5 (by decide +kernel) (by decide +kernel)⟩
  | 13, _ => exact ⟨zg3 53 (by decide +kernel) (by decide +kernel), zg1 5 (by decide +kernel) (by decide +kernel)⟩
  | 14, _ => exact ⟨zg3 86 (by decide +kernel) (by decide +kernel), zg1 5 (by decide +kernel) (by decide +kernel)⟩
  | 15, _ => exact ⟨zg3 113 (by decide +kernel) (by decide +kernel), zg1 5 (by decide +kernel) (by decide +kernel)⟩
  | 16, _ => exact ⟨zg1 132 (by decide +kernel) (by decide +kernel), zg1 7 (by decide +kernel) (by decide +kernel)⟩
  | 17, _ => exact ⟨zg4 81 (by decide +kernel) (by decide +kernel), zg1 7 (by decide +kernel) (by decide +kernel)⟩
  | 18, _ => exact ⟨zg3 57 (by decide +kernel) (by decide +kernel), zg1 7 (by decide +kernel) (by decide +kernel)⟩
  | 19, _ => exact ⟨zg3 89 (by decide +kernel) (by decide +kernel), zg1 7 (by decide +kernel) (by decide +kernel)⟩
  | 20, _ => exact ⟨zg3 116 (by decide +kernel) (by decide +kernel), zg1 7 (by decide +kernel) (by decide +kernel)⟩
  | 21, _ => exact ⟨zg1 139 (by decide +kernel) (by decide +kernel), zg1 8 (by decide +kernel) (by decide +kernel)⟩
  | 22, _ => exact ⟨zg4 85 (by decide +kernel) (by decide +kernel), zg1 8 (by decide +kernel) (by decide +kernel)⟩
  | 23, _ => exact ⟨zg3 35 (by decide +kernel) (by decide +kernel), zg1 8 (by decide +kernel) (by decide +kernel)⟩
  | 24, _ => exact ⟨zg3 61 (by decide +kernel) (by decide +kernel), zg1 8 (by decide +kernel) (by decide +kernel)⟩
  | 25, _ => exact ⟨zg3 92 (by decide +kernel) (by decide +kernel), zg1 8 (by decide +kernel) (by decide +kernel)⟩
  | 26, _ => exact ⟨zg1 42 (by decide +kernel) (by decide +kernel), zg1 3 (by decide +kernel) (by decide +kernel)⟩
  | 27, _ => exact ⟨zg2 194 (by decide +kernel) (by decide +kernel), zg1 3 (by decide +kernel) (by decide +kernel)⟩
  | 28, _ => exact ⟨zg2 198 (by decide +kernel) (by decide +kernel), zg1 3 (by decide +kernel) (by decide +kernel)⟩
  | 29, _ => exact ⟨zg3 185 (by decide +kernel) (by decide +kernel), zg1 3 (by decide +kernel) (by decide +kernel)⟩
  | 30, _ => exact ⟨zg1 146 (by decide +kernel) (by decide +kernel), zg1 9 (by decide +kernel) (by decide +kernel)⟩
  | 31, _ => exact ⟨zg4 89 (by decide +kernel) (by decide +kernel), zg1 9 (by decide +kernel) (by decide +kernel)⟩
  | 32, _ => exact ⟨zg3 39 (by decide +kernel) (by decide +kernel), zg1 9 (by decide +kernel) (by decide +kernel)⟩
  | 33, _ => exact ⟨zg3 68 (by decide +kernel) (by decide +kernel), zg1 9 (by decide +kernel) (by decide +kernel)⟩
  | 34, _ => exact ⟨zg3 96 (by decide +kernel) (by decide +kernel), zg1 9 (by decide +kernel) (by decide +kernel)⟩
  | 35, _ => exact ⟨zg3 120 (by decide +kernel) (by decide +kernel), zg1 9 (by decide +kernel) (by decide +kernel)⟩
  | 36, _ => exact ⟨zg1 188 (by decide +kernel) (by decide +kernel), zg1 12 (by decide +kernel) (by decide +kernel)⟩
  | 37, _ => exact ⟨zg2 34 (by decide +kernel) (by decide +kernel), zg1 12 (by decide +kernel) (by decide +kernel)⟩
  | 38, _ => exact ⟨zg2 38 (by decide +kernel) (by decide +kernel), zg1 12 (by decide +kernel) (by decide +kernel)⟩
  | 39, _ => exact ⟨zg2 94 (by decide +kernel) (by decide +kernel), zg1 12 (by decide +kernel) (by decide +kernel)⟩
  | 40, _ => exact ⟨zg2 110 (by decide +kernel) (by decide +kernel), zg1 12 (by decide +kernel) (by decide +kernel)⟩
  | 41, _ => exact ⟨zg2 114 (by decide +kernel) (by decide +kernel), zg1 12 (by decide +kernel) (by decide +kernel)⟩
  | 42, _ => exact ⟨zg2 118 (by decide +kernel) (by decide +kernel), zg1 12 (by decide +kernel) (by decide +kernel)⟩
  | 43, _ => exact ⟨zg2 130 (by decide +kernel) (by decide +kernel), zg1 12 (by decide +kernel) (by decide +kernel)⟩
  | 44, _ => exact ⟨zg2 134 (by decide +kernel) (by decide +kernel), zg1 12 (by decide +kernel) (by decide +kernel)⟩
  | 45, _ => exact ⟨zg2 138 (by decide +kernel) (by decide +kernel), zg1 12 (by decide +kernel) (by decide +kernel)⟩
  | 46, _ => exact ⟨zg2 122 (by decide +kernel) (by decide +kernel), zg1 12 (by decide +kernel) (by decide +kernel)⟩
  | 47, _ => exact ⟨zg2 98 (by decide +kernel) (by decide +kernel), zg1 12 (by decide +kernel) (by decide +kernel)⟩
  | 48, _ => exact ⟨zg2 106 (by decide +kernel) (by decide +kernel), zg1 12 (by decide +kernel) (by decide +kernel)⟩
  | 49, _ => exact ⟨zg2 102 (by decide +kernel) (by decide +kernel), zg1 12 (by decide +kernel) (by decide +kernel)⟩
  | 50, _ => exact ⟨zg2 42 (by decide +kernel) (by decide +kernel), zg1 12 (by decide +kernel) (by decide +kernel)⟩
  | 51, _ => exact ⟨zg2 80 (by decide +kernel) (by decide +kernel), zg1 12 (by decide +kernel) (by decide +kernel)⟩
  | 52, _ => exact ⟨zg2 46 (by decide +kernel) (by decide +kernel), zg1 12 (by decide +kernel) (by decide +kernel)⟩
  | 53, _ => exact ⟨zg2 50 (by decide +kernel) (by decide +kernel), zg1 12 (by decide +kernel) (by decide +kernel)⟩
  | 54, _ => exact ⟨zg2 84 (by decide +kernel) (by decide +kernel), zg1 12 (by decide +kernel) (by decide +kernel)⟩
  | 55, _ => exact ⟨zg2 87 (by decide +kernel) (by decide +kernel), zg1 12 (by decide +kernel) (by decide +kernel)⟩
  | 56, _ => exact ⟨zg2 54 (by decide +kernel) (by decide +kernel), zg1 12 (by decide +kernel) (by decide +kernel)⟩
  | 57, _ => exact ⟨zg2 70 (by decide +kernel) (by decide +kernel), zg1 12 (by decide +kernel) (by decide +kernel)⟩
  | 58, _ => exact ⟨zg2 59 (by decide +kernel) (by decide +kernel), zg1 12 (by decide +kernel) (by decide +kernel)⟩
  | 59, _ => exact ⟨zg1 152 (by decide +kernel) (by decide +kernel), zg1 10 (by decide +kernel) (by decide +kernel)⟩
  | 60, _ => exact ⟨zg3 144 (by decide +kernel) (by decide +kernel), zg1 10 (by decide +kernel) (by decide +kernel)⟩
  | 61, _ => exact ⟨zg4 50 (by decide +kernel) (by decide +kernel), zg1 10 (by decide +kernel) (by decide +kernel)⟩
  | 62, _ => exact ⟨zg4 8 (by decide +kernel) (by decide +kernel), zg1 10 (by decide +kernel) (by decide +kernel)⟩
  | 63, _ => exact ⟨zg4 13 (by decide +kernel) (by decide +kernel), zg1 10 (by decide +kernel) (by decide +kernel)⟩
  | 64, _ => exact ⟨zg1 111 (by decide +kernel) (by decide +kernel), zg1 4 (by decide +kernel) (by decide +kernel)⟩
  | 65, _ => exact ⟨zg4 91 (by decide +kernel) (by decide +kernel), zg1 4 (by decide +kernel) (by decide +kernel)⟩
  | 66, _ => exact ⟨zg3 41 (by decide +kernel) (by decide +kernel), zg1 4 (by decide +kernel) (by decide +kernel)⟩
  | 67, _ => exact ⟨zg3 70 (by decide +kernel) (by decide +kernel), zg1 4 (by decide +kernel) (by decide +kernel)⟩
  | 68, _ => exact ⟨zg3 98 (by decide +kernel) (by decide +kernel), zg1 4 (by decide +kernel) (by decide +kernel)⟩
  | 69, _ => exact ⟨zg3 121 (by decide +kernel) (by decide +kernel), zg1 4 (by decide +kernel) (by decide +kernel)⟩
  | 70, _ => exact ⟨zg1 170 (by decide +kernel) (by decide +kernel), zg1 11 (by decide +kernel) (by decide +kernel)⟩
  | 71, _ => exact ⟨zg2 126 (by decide +kernel) (by decide +kernel), zg1 11 (by decide +kernel) (by decide +kernel)⟩
  | 72, _ => exact ⟨zg2 237 (by decide +kernel) (by decide +kernel), zg1 11 (by decide +kernel) (by decide +kernel)⟩
  | 73, _ => exact ⟨zg3 0 (by decide +kernel) (by decide +kernel), zg1 11 (by decide +kernel) (by decide +kernel)⟩
  | 74, _ => exact ⟨zg3 9 (by decide +kernel) (by decide +kernel), zg1 11 (by decide +kernel) (by decide +kernel)⟩
  | 75, _ => exact ⟨zg3 12 (by decide +kernel) (by decide +kernel), zg1 11 (by decide +kernel) (by decide +kernel)⟩
  | 76, _ => exact ⟨zg1 25 (by decide +kernel) (by decide +kernel), zg1 1 (by decide +kernel) (by decide +kernel)⟩
  | 77, _ => exact ⟨zg2 183 (by decide +kernel) (by decide +kernel), zg1 1 (by decide +kernel) (by decide +kernel)⟩
  | 78, _ => exact ⟨zg2 202 (by decide +kernel) (by decide +kernel), zg1 1 (by decide +kernel) (by decide +kernel)⟩
  | 79, _ => exact ⟨zg2 209 (by decide +kernel) (by decide +kernel), zg1 1 (by decide +kernel) (by decide +kernel)⟩
  | 80, _ => exact ⟨zg2 213 (by decide +kernel) (by decide +kernel), zg1 1 (by decide +kernel) (by decide +kernel)⟩
  | 81, _ => exact ⟨zg2 217 (by decide +kernel) (by decide +kernel), zg1 1 (by decide +kernel) (by decide +kernel)⟩
  | 82, _ => exact ⟨zg2 190 (by decide +kernel) (by decide +kernel), zg1 1 (by decide +kernel) (by decide +kernel)⟩
  | 83, _ => exact ⟨zg2 205 (by decide +kernel) (by decide +kernel), zg1 1 (by decide +kernel) (by decide +kernel)⟩
  | 84, _ => exact ⟨zg3 125 (by decide +kernel) (by decide +kernel), zg1 1 (by decide +kernel) (by decide +kernel)⟩
  | 85, _ => exact ⟨zg3 129 (by decide +kernel) (by decide +kernel), zg1 1 (by decide +kernel) (by decide +kernel)⟩
  | 86, _ => exact ⟨zg3 133 (by decide +kernel) (by decide +kernel), zg1 1 (by decide +kernel) (by decide +kernel)⟩
  | 87, _ => exact ⟨zg2 233 (by decide +kernel) (by decide +kernel), zg1 1 (by decide +kernel) (by decide +kernel)⟩
  | 88, _ => exact ⟨zg3 137 (by decide +kernel) (by decide +kernel), zg1 1 (by decide +kernel) (by decide +kernel)⟩
  | 89, _ => exact ⟨zg3 156 (by decide +kernel) (by decide +kernel), zg1 1 (by decide +kernel) (by decide +kernel)⟩
  | 90, _ => exact ⟨zg3 173 (by decide +kernel) (by decide +kernel), zg1 1 (by decide +kernel) (by decide +kernel)⟩
  | 91, _ => exact ⟨zg3 177 (by decide +kernel) (by decide +kernel), zg1 1 (by decide +kernel) (by decide +kernel)⟩
  | 92, _ => exact ⟨zg2 225 (by decide +kernel) (by decide +kernel), zg1 1 (by decide +kernel) (by decide +kernel)⟩
  | 93, _ => exact ⟨zg2 229 (by decide +kernel) (by decide +kernel), zg1 1 (by decide +kernel) (by decide +kernel)⟩
  | 94, _ => exact ⟨zg2 221 (by decide +kernel) (by decide +kernel), zg1 1 (by decide +kernel) (by decide +kernel)⟩
  | 95, _ => exact ⟨zg3 75 (by decide +kernel) (by decide +kernel), zg1 1 (by decide +kernel) (by decide +kernel)⟩
  | 96, _ => exact ⟨zg3 102 (by decide +kernel) (by decide +kernel), zg1 1 (by decide +kernel) (by decide +kernel)⟩
  | 97, _ => exact ⟨zg3 193 (by decide +kernel) (by decide +kernel), zg1 1 (by decide +kernel) (by decide +kernel)⟩
  | 98, _ => exact ⟨zg3 148 (by decide +kernel) (by decide +kernel), zg1 1 (by decide +kernel) (by decide +kernel)⟩
  | 99, _ => exact ⟨zg3 160 (by decide +kernel) (by decide +kernel), zg1 1 (by decide +kernel) (by decide +kernel)⟩
  | 100, _ => exact ⟨zg3 168 (by decide +kernel) (by decide +kernel), zg1 1 (by decide +kernel) (by decide +kernel)⟩
  | 101, _ => exact ⟨zg3 151 (by decide +kernel) (by decide +kernel), zg1 1 (by decide +kernel) (by decide +kernel)⟩
  | 102, _ => exact ⟨zg3 65 (by decide +kernel) (by decide +kernel), zg1 1 (by decide +kernel) (by decide +kernel)⟩
  | 103, _ => exact ⟨zg3 15 (by decide +kernel) (by decide +kernel), zg1 1 (by decide +kernel) (by decide +kernel)⟩
  | 104, _ => exact ⟨zg3 189 (by decide +kernel) (by decide +kernel), zg1 1 (by decide +kernel) (by decide +kernel)⟩
  | 105, _ => exact ⟨zg3 197 (by decide +kernel) (by decide +kernel), zg1 1 (by decide +kernel) (by decide +kernel)⟩
  | 106, _ => exact ⟨zg3 201 (by decide +kernel) (by decide +kernel), zg1 1 (by decide +kernel) (by decide +kernel)⟩
  | 107, _ => exact ⟨zg3 205 (by decide +kernel) (by decide +kernel), zg1 1 (by decide +kernel) (by decide +kernel)⟩
  | 108, _ => exact ⟨zg3 209 (by decide +kernel) (by decide +kernel), zg1 1 (by decide +kernel) (by decide +kernel)⟩
  | 109, _ => exact ⟨zg3 213 (by decide +kernel) (by decide +kernel), zg1 1 (by decide +kernel) (by decide +kernel)⟩
  | 110, _ => exact ⟨zg3 217 (by decide +kernel) (by decide +kernel), zg1 1 (by decide +kernel) (by decide +kernel)⟩
  | 111, _ => exact ⟨zg3 221 (by decide +kernel) (by decide +kernel), zg1 1 (by decide +kernel) (by decide +kernel)⟩
  | 112, _ => exact ⟨zg3 224 (by decide +kernel) (by decide +kernel), zg1 1 (by decide +kernel) (by decide +kernel)⟩
  | 113, _ => exact ⟨zg3 228 (by decide +kernel) (by decide +kernel), zg1 1 (by decide +kernel) (by decide +kernel)⟩
  | 114, _ => exact ⟨zg3 236 (by decide +kernel) (by decide +kernel), zg1 1 (by decide +kernel) (by decide +kernel)⟩
  | 115, _ => exact ⟨zg4 0 (by decide +kernel) (by decide +kernel), zg1 1 (by decide +kernel) (by decide +kernel)⟩
  | 116, _ => exact ⟨zg3 232 (by decide +kernel) (by decide +kernel), zg1 1 (by decide +kernel) (by decide +kernel)⟩
  | 117, _ => exact ⟨zg4 4 (by decide +kernel) (by decide +kernel), zg1 1 (by decide +kernel) (by decide +kernel)⟩
  | 118, _ => exact ⟨zg4 17 (by decide +kernel) (by decide +kernel), zg1 1 (by decide +kernel) (by decide +kernel)⟩
  | 119, _ => exact ⟨zg4 26 (by decide +kernel) (by decide +kernel), zg1 1 (by decide +kernel) (by decide +kernel)⟩
  | 120, _ => exact ⟨zg4 21 (by decide +kernel) (by decide +kernel), zg1 1 (by decide +kernel) (by decide +kernel)⟩
  | 121, _ => exact ⟨zg4 30 (by decide +kernel) (by decide +kernel), zg1 1 (by decide +kernel) (by decide +kernel)⟩
  | 122, _ => exact ⟨zg4 34 (by decide +kernel) (by decide +kernel), zg1 1 (by decide +kernel) (by decide +kernel)⟩
  | 123, _ => exact ⟨zg4 38 (by decide +kernel) (by decide +kernel), zg1 1 (by decide +kernel) (by decide +kernel)⟩
  | 124, _ => exact ⟨zg4 42 (by decide +kernel) (by decide +kernel), zg1 1 (by decide +kernel) (by decide +kernel)⟩
  | 125, _ => exact ⟨zg4 46 (by decide +kernel) (by decide +kernel), zg1 1 (by decide +kernel) (by decide +kernel)⟩
  | 126, _ => exact ⟨zg4 54 (by decide +kernel) (by decide +kernel), zg1 1 (by decide +kernel) (by decide +kernel)⟩
  | 127, _ => exact ⟨zg4 61 (by decide +kernel) (by decide +kernel), zg1 1 (by decide +kernel) (by decide +kernel)⟩
  | 128, _ => exact ⟨zg4 66 (by decide +kernel) (by decide +kernel), zg1 1 (by decide +kernel) (by decide +kernel)⟩
  | 129, _ => exact ⟨zg3 140 (by decide +kernel) (by decide +kernel), zg1 1 (by decide +kernel) (by decide +kernel)⟩
  | 130, _ => exact ⟨zg5 5 (by decide +kernel) (by decide +kernel), zg1 18 (by decide +kernel) (by decide +kernel)⟩
  | 131, _ => exact ⟨zg5 149 (by decide +kernel) (by decide +kernel), zg1 18 (by decide +kernel) (by decide +kernel)⟩
  | 132, _ => exact ⟨zg4 96 (by decide +kernel) (by decide +kernel), zg1 18 (by decide +kernel) (by decide +kernel)⟩
  | 133, _ => exact ⟨zg4 101 (by decide +kernel) (by decide +kernel), zg1 18 (by decide +kernel) (by decide +kernel)⟩
  | 134, _ => exact ⟨zg5 13 (by decide +kernel) (by decide +kernel), zg1 18 (by decide +kernel) (by decide +kernel)⟩
  | 135, _ => exact ⟨zg5 9 (by decide +kernel) (by decide +kernel), zg1 18 (by decide +kernel) (by decide +kernel)⟩
  | 136, _ => exact ⟨zg5 16 (by decide +kernel) (by decide +kernel), zg1 18 (by decide +kernel) (by decide +kernel)⟩
  | 137, _ => exact ⟨zg5 1 (by decide +kernel) (by decide +kernel), zg1 18 (by decide +kernel) (by decide +kernel)⟩
  | 138, _ => exact ⟨zg5 25 (by decide +kernel) (by decide +kernel), zg1 18 (by decide +kernel) (by decide +kernel)⟩
  | 139, _ => exact ⟨zg5 29 (by decide +kernel) (by decide +kernel), zg1 18 (by decide +kernel) (by decide +kernel)⟩
  | 140, _ => exact ⟨zg5 20 (by decide +kernel) (by decide +kernel), zg1 18 (by decide +kernel) (by decide +kernel)⟩
  | 141, _ => exact ⟨zg5 38 (by decide +kernel) (by decide +kernel), zg1 18 (by decide +kernel) (by decide +kernel)⟩
  | 142, _ => exact ⟨zg5 42 (by decide +kernel) (by decide +kernel), zg1 18 (by decide +kernel) (by decide +kernel)⟩
  | 143, _ => exact ⟨zg5 59 (by decide +kernel) (by decide +kernel), zg1 18 (by decide +kernel) (by decide +kernel)⟩
  | 144, _ => exact ⟨zg5 55 (by decide +kernel) (by decide +kernel), zg1 18 (by decide +kernel) (by decide +kernel)⟩
  | 145, _ => exact ⟨zg5 80 (by decide +kernel) (by decide +kernel), zg1 18 (by decide +kernel) (by decide +kernel)⟩
  | 146, _ => exact ⟨zg5 72 (by decide +kernel) (by decide +kernel), zg1 18 (by decide +kernel) (by decide +kernel)⟩
  | 147, _ => exact ⟨zg5 68 (by decide +kernel) (by decide +kernel), zg1 18 (by decide +kernel) (by decide +kernel)⟩
  | 148, _ => exact ⟨zg5 112 (by decide +kernel) (by decide +kernel), zg1 18 (by decide +kernel) (by decide +kernel)⟩
  | 149, _ => exact ⟨zg5 96 (by decide +kernel) (by decide +kernel), zg1 18 (by decide +kernel) (by decide +kernel)⟩
  | 150, _ => exact ⟨zg5 116 (by decide +kernel) (by decide +kernel), zg1 18 (by decide +kernel) (by decide +kernel)⟩
  | 151, _ => exact ⟨zg5 108 (by decide +kernel) (by decide +kernel), zg1 18 (by decide +kernel) (by decide +kernel)⟩
  | 152, _ => exact ⟨zg5 104 (by decide +kernel) (by decide +kernel), zg1 18 (by decide +kernel) (by decide +kernel)⟩
  | 153, _ => exact ⟨zg5 100 (by decide +kernel) (by decide +kernel), zg1 18 (by decide +kernel) (by decide +kernel)⟩
  | 154, _ => exact ⟨zg5 92 (by decide +kernel) (by decide +kernel), zg1 18 (by decide +kernel) (by decide +kernel)⟩
  | 155, _ => exact ⟨zg5 88 (by decide +kernel) (by decide +kernel), zg1 18 (by decide +kernel) (by decide +kernel)⟩
  | 156, _ => exact ⟨zg5 84 (by decide +kernel) (by decide +kernel), zg1 18 (by decide +kernel) (by decide +kernel)⟩
  | 157, _ => exact ⟨zg5 76 (by decide +kernel) (by decide +kernel), zg1 18 (by decide +kernel) (by decide +kernel)⟩
  | 158, _ => exact ⟨zg5 51 (by decide +kernel) (by decide +kernel), zg1 18 (by decide +kernel) (by decide +kernel)⟩
  | 159, _ => exact ⟨zg5 47 (by decide +kernel) (by decide +kernel), zg1 18 (by decide +kernel) (by decide +kernel)⟩
  | 160, _ => exact ⟨zg5 122 (by decide +kernel) (by decide +kernel), zg1 18 (by decide +kernel) (by decide +kernel)⟩
  | 161, _ => exact ⟨zg5 146 (by decide +kernel) (by decide +kernel), zg1 18 (by decide +kernel) (by decide +kernel)⟩
  | 162, _ => exact ⟨zg5 135 (by decide +kernel) (by decide +kernel), zg1 18 (by decide +kernel) (by decide +kernel)⟩
  | 163, _ => exact ⟨zg5 143 (by decide +kernel) (by decide +kernel), zg1 18 (by decide +kernel) (by decide +kernel)⟩
  | 164, _ => exact ⟨zg5 139 (by decide +kernel) (by decide +kernel), zg1 18 (by decide +kernel) (by decide +kernel)⟩
  | 165, _ => exact ⟨zg5 131 (by decide +kernel) (by decide +kernel), zg1 18 (by decide +kernel) (by decide +kernel)⟩
  | 166, _ => exact ⟨zg5 153 (by decide +kernel) (by decide +kernel), zg1 18 (by decide +kernel) (by decide +kernel)⟩
  | 167, _ => exact ⟨zg5 157 (by decide +kernel) (by decide +kernel), zg1 18 (by decide +kernel) (by decide +kernel)⟩
  | 168, _ => exact ⟨zg5 126 (by decide +kernel) (by decide +kernel), zg1 18 (by decide +kernel) (by decide +kernel)⟩
  | 169, _ => exact ⟨zg5 202 (by decide +kernel) (by decide +kernel), zg1 18 (by decide +kernel) (by decide +kernel)⟩
  | 170, _ => exact ⟨zg5 167 (by decide +kernel) (by decide +kernel), zg1 18 (by decide +kernel) (by decide +kernel)⟩
  | 171, _ => exact ⟨zg5 161 (by decide +kernel) (by decide +kernel), zg1 18 (by decide +kernel) (by decide +kernel)⟩
  | 172, _ => exact ⟨zg5 179 (by decide +kernel) (by decide +kernel), zg1 18 (by decide +kernel) (by decide +kernel)⟩
  | 173, _ => exact ⟨zg5 175 (by decide +kernel) (by decide +kernel), zg1 18 (by decide +kernel) (by decide +kernel)⟩
  | 174, _ => exact ⟨zg5 171 (by decide +kernel) (by decide +kernel), zg1 18 (by decide +kernel) (by decide +kernel)⟩
  | 175, _ => exact ⟨zg5 190 (by decide +kernel) (by decide +kernel), zg1 18 (by decide +kernel) (by decide +kernel)⟩
  | 176, _ => exact ⟨zg5 194 (by decide +kernel) (by decide +kernel), zg1 18 (by decide +kernel) (by decide +kernel)⟩
  | 177, _ => exact ⟨zg5 183 (by decide +kernel) (by decide +kernel), zg1 18 (by decide +kernel) (by decide +kernel)⟩
  | 178, _ => exact ⟨zg5 198 (by decide +kernel) (by decide +kernel), zg1 18 (by decide +kernel) (by decide +kernel)⟩
  | 179, _ => exact ⟨zg5 210 (by decide +kernel) (by decide +kernel), zg1 18 (by decide +kernel) (by decide +kernel)⟩
  | 180, _ => exact ⟨zg5 206 (by decide +kernel) (by decide +kernel), zg1 18 (by decide +kernel) (by decide +kernel)⟩
  | 181, _ => exact ⟨zg5 214 (by decide +kernel) (by decide +kernel), zg1 18 (by decide +kernel) (by decide +kernel)⟩
  | 182, _ => exact ⟨zg5 218 (by decide +kernel) (by decide +kernel), zg1 18 (by decide +kernel) (by decide +kernel)⟩
  | 183, _ => exact ⟨zg5 226 (by decide +kernel) (by decide +kernel), zg1 18 (by decide +kernel) (by decide +kernel)⟩
  | 184, _ => exact ⟨zg5 222 (by decide +kernel) (by decide +kernel), zg1 18 (by decide +kernel) (by decide +kernel)⟩
  | 185, _ => exact ⟨zg5 234 (by decide +kernel) (by decide +kernel), zg1 18 (by decide +kernel) (by decide +kernel)⟩
  | 186, _ => exact ⟨zg5 238 (by decide +kernel) (by decide +kernel), zg1 18 (by decide +kernel) (by decide +kernel)⟩
  | 187, _ => exact ⟨zg5 230 (by decide +kernel) (by decide +kernel), zg1 18 (by decide +kernel) (by decide +kernel)⟩
  | 188, _ => exact ⟨zg6 2 (by decide +kernel) (by decide +kernel), zg1 18 (by decide +kernel) (by decide +kernel)⟩
  | 189, _ => exact ⟨zg6 17 (by decide +kernel) (by decide +kernel), zg1 18 (by decide +kernel) (by decide +kernel)⟩
  | 190, _ => exact ⟨zg6 12 (by decide +kernel) (by decide +kernel), zg1 18 (by decide +kernel) (by decide +kernel)⟩
  | 191, _ => exact ⟨zg6 22 (by decide +kernel) (by decide +kernel), zg1 18 (by decide +kernel) (by decide +kernel)⟩
  | 192, _ => exact ⟨zg6 26 (by decide +kernel) (by decide +kernel), zg1 18 (by decide +kernel) (by decide +kernel)⟩
  | 193, _ => exact ⟨zg6 30 (by decide +kernel) (by decide +kernel), zg1 18 (by decide +kernel) (by decide +kernel)⟩
  | 194, _ => exact ⟨zg6 34 (by decide +kernel) (by decide +kernel), zg1 18 (by decide +kernel) (by decide +kernel)⟩
  | 195, _ => exact ⟨zg5 164 (by decide +kernel) (by decide +kernel), zg1 18 (by decide +kernel) (by decide +kernel)⟩
  | 196, _ => exact ⟨zg6 6 (by decide +kernel) (by decide +kernel), zg1 18 (by decide +kernel) (by decide +kernel)⟩
  | 197, _ => exact ⟨zg6 39 (by decide +kernel) (by decide +kernel), zg1 18 (by decide +kernel) (by decide +kernel)⟩
  | 198, _ => exact ⟨zg6 43 (by decide +kernel) (by decide +kernel), zg1 18 (by decide +kernel) (by decide +kernel)⟩
  | 199, _ => exact ⟨zg6 47 (by decide +kernel) (by decide +kernel), zg1 18 (by decide +kernel) (by decide +kernel)⟩
  | 200, _ => exact ⟨zg6 55 (by decide +kernel) (by decide +kernel), zg1 18 (by decide +kernel) (by decide +kernel)⟩
  | 201, _ => exact ⟨zg6 52 (by decide +kernel) (by decide +kernel), zg1 18 (by decide +kernel) (by decide +kernel)⟩
  | 202, _ => exact ⟨zg3 3 (by decide +kernel) (by decide +kernel), zg1 19 (by decide +kernel) (by decide +kernel)⟩
  | 203, _ => exact ⟨zg2 90 (by decide +kernel) (by decide +kernel), zg1 17 (by decide +kernel) (by decide +kernel)⟩
  | 204, _ => exact ⟨zg3 18 (by decide +kernel) (by decide +kernel), zg1 17 (by decide +kernel) (by decide +kernel)⟩
  | k + 205, h => exact absurd h (by omega)
end
section
/-! what is checked of each resolved instruction, and that all are so; written by wip/whole/gen5.py -/
def zXL : List (Nat × Nat) := [(7, 149), (11, 76)]
def zXA : List (Nat × Nat) := [(7, 155), (11, 82)]
def zXM : List (Nat × Nat) := [(7, 96), (11, 238)]
def zXN : List (Nat × Nat) := [(11, 243)]
theorem zXL_ok : ∀ q ∈ zXL, Cond.methodLink (zR q.1) q.2 yJ0_length_8abf5 ∈ zGL := by
  unfold zXL
  refine List.forall_mem_cons.mpr ⟨zg2 60 (by decide +kernel) (by decide +kernel), ?_⟩
  refine List.forall_mem_cons.mpr ⟨zg1 223 (by decide +kernel) (by decide +kernel), ?_⟩
  exact List.forall_mem_nil _
theorem zXA_ok : ∀ q ∈ zXA, Cond.methodLink (zR q.1) q.2 yJ0_charAt_5068e ∈ zGL := by
  unfold zXA
  refine List.forall_mem_cons.mpr ⟨zg2 61 (by decide +kernel) (by decide +kernel), ?_⟩
  refine List.forall_mem_cons.mpr ⟨zg1 233 (by decide +kernel) (by decide +kernel), ?_⟩
  exact List.forall_mem_nil _
theorem zXM_ok : ∀ q ∈ zXM, Cond.methodLink (zR q.1) q.2 Lib.Math.max.name ∈ zGL := by
  unfold zXM
  refine List.forall_mem_cons.mpr ⟨zg2 88 (by decide +kernel) (by decide +kernel), ?_⟩
  refine List.forall_mem_cons.mpr ⟨zg3 19 (by decide +kernel) (by decide +kernel), ?_⟩
  exact List.forall_mem_nil _
theorem zXN_ok : ∀ q ∈ zXN, Cond.methodLink (zR q.1) q.2 Lib.Math.min.name ∈ zGL := by
  unfold zXN
  refine List.forall_mem_cons.mpr ⟨zg3 16 (by decide +kernel) (by decide +kernel), ?_⟩
  exact List.forall_mem_nil _
theorem zMM_ok : (Cond.static Lib.Math.max.name ∈ zGL ∧ Cond.code Lib.Math.max.name Lib.Math.max.code 2 (some .int) ∈ zGL) ∧ (Cond.static Lib.Math.min.name ∈ zGL ∧ Cond.code Lib.Math.min.name Lib.Math.min.code 2 (some .int) ∈ zGL) ∧ Cond.initialized "java/lang/Math" ∈ zGL := ⟨⟨zg2 89 (by decide +kernel) (by decide +kernel), zg2 90 (by decide +kernel) (by decide +kernel)⟩, ⟨zg3 17 (by decide +kernel) (by decide +kernel), zg3 18 (by decide +kernel) (by decide +kernel)⟩, zg1 17 (by decide +kernel) (by decide +kernel)⟩
def zswT (pc : Nat) : Int → List Int → List (Int × Nat) → Bool
  | lo, o :: os, (c, t) :: l => decide (c = lo) && (decide ((pc : Int) + o = (t : Int)) && zswT pc (lo + 1) os l)
  | _, [], [] => true
  | _, _, _ => false
def zswL (pc : Nat) : List (Int × Int) → List (Int × Nat) → Bool
  | (a, o) :: ps, (c, t) :: l => decide (c = a) && (decide ((pc : Int) + o = (t : Int)) && zswL pc ps l)
  | [], [] => true
  | _, _ => false
def zdc (k pc : Nat) (i : Instr) (n : Nat) : Bool := decide (decode (zB k) pc = .ok (i, n))
def zdw (k pc : Nat) (i : Instr) : Bool := match decode (zB k) pc with
  | .ok q => decide (q.1 = i)
  | _ => false
def zpn (y n : Nat) : Bool := Nat.blt y 203 && (decide ((parseMethodDescriptor (zY y).desc).map (fun d => d.parameters.length) = some n) && (decide ((zY y).cls ≠ "java/lang/invoke/MethodHandle") && decide ((zY y).cls ≠ "java/lang/invoke/VarHandle")))
def zokV (k i n : Nat) (q : Int × Nat) : Bool := zpn q.2 n && (decide (0 ≤ q.1) && ((zVT.contains (zO k, i, q.1.toNat, q.2, n) && decide ((zY q.2).cls = zR q.1.toNat)) || zWT.any (fun w => decide ((w.1, w.2.1, w.2.2.1, w.2.2.2.1, w.2.2.2.2.1) = (zO k, i, q.1.toNat, q.2, n)) && zpn w.2.2.2.2.2 n)))
def zokB (k pc : Nat) (e : zE) : Bool := match e.1 with
  | .nop => true
  | .iconst n => zdc k pc (.iconst n) 1 && decide (-1 ≤ n ∧ n ≤ 5)
  | .bipush n => zdc k pc (.bipush n) 2 && decide (-128 ≤ n ∧ n ≤ 127)
  | .sipush n => zdc k pc (.sipush n) 3 && decide (-32768 ≤ n ∧ n ≤ 32767)
  | .lconst n => zdc k pc (.lconst n) 1
  | .ldc i => zdc k pc (.ldc i) 2 && match e.2.1 with
    | 0 => zKT.contains (zO k, i, zhd e.2.2.2)
    | _ => zGT.contains (zO k, i, e.2.2.1)
  | .ldc_w i => zdc k pc (.ldc_w i) 3 && zKT.contains (zO k, i, zhd e.2.2.2)
  | .ldc2_w i => zdc k pc (.ldc2_w i) 3 && zLT.contains (zO k, i, zhd e.2.2.2)
  | .iload_n f => zdc k pc (.iload_n f) 1 && decide (f.val = e.2.1)
  | .iload f => zdc k pc (.iload f) 2 && decide (f = e.2.1)
  | .lload_n f => zdc k pc (.lload_n f) 1 && decide (f.val = e.2.1)
  | .lload f => zdc k pc (.lload f) 2 && decide (f = e.2.1)
  | .aload_n f => zdc k pc (.aload_n f) 1 && decide (f.val = e.2.1)
  | .aload f => zdc k pc (.aload f) 2 && decide (f = e.2.1)
  | .istore_n f => zdc k pc (.istore_n f) 1 && (decide (f.val = e.2.1) && decide (e.2.1 < zL k))
  | .istore f => zdc k pc (.istore f) 2 && (decide (f = e.2.1) && decide (e.2.1 < zL k))
  | .lstore_n f => zdc k pc (.lstore_n f) 1 && (decide (f.val = e.2.1) && decide (e.2.1 + 1 < zL k))
  | .lstore f => zdc k pc (.lstore f) 2 && (decide (f = e.2.1) && decide (e.2.1 + 1 < zL k))
  | .astore_n f => zdc k pc (.astore_n f) 1 && (decide (f.val = e.2.1) && decide (e.2.1 < zL k))
  | .astore f => zdc k pc (.astore f) 2 && (decide (f = e.2.1) && decide (e.2.1 < zL k))
  | .iinc f d => zdc k pc (.iinc f d) 3 && (decide (f = e.2.1) && decide (e.2.1 < zL k))
  | .iadd => zdc k pc .iadd 1
  | .isub => zdc k pc .isub 1
  | .imul => zdc k pc .imul 1
  | .idiv => zdc k pc .idiv 1
  | .irem => zdc k pc .irem 1
  | .ineg => zdc k pc .ineg 1
  | .iand => zdc k pc .iand 1
  | .ior => zdc k pc .ior 1
  | .ixor => zdc k pc .ixor 1
  | .ishl => zdc k pc .ishl 1
  | .ishr => zdc k pc .ishr 1
  | .iushr => zdc k pc .iushr 1
  | .i2b => zdc k pc .i2b 1
  | .i2s => zdc k pc .i2s 1
  | .i2l => zdc k pc .i2l 1
  | .l2i => zdc k pc .l2i 1
  | .ladd => zdc k pc .ladd 1
  | .lsub => zdc k pc .lsub 1
  | .lmul => zdc k pc .lmul 1
  | .ldiv => zdc k pc .ldiv 1
  | .lrem => zdc k pc .lrem 1
  | .lcmp => zdc k pc .lcmp 1
  | .dup => zdc k pc .dup 1
  | .dup2 => zdc k pc .dup2 1
  | .dup_x1 => zdc k pc .dup_x1 1
  | .pop => zdc k pc .pop 1
  | .ifCond c d => zdc k pc (.ifCond c d) 3 && decide ((pc : Int) + d = (e.2.1 : Int))
  | .if_icmp c d => zdc k pc (.if_icmp c d) 3 && decide ((pc : Int) + d = (e.2.1 : Int))
  | .goto d => zdc k pc (.goto d) 3 && decide ((pc : Int) + d = (e.2.1 : Int))
  | .tableswitch d lo hi offs => zdw k pc (.tableswitch d lo hi offs) && (decide ((pc : Int) + d = (e.2.1 : Int)) && (decide (hi = lo + (offs.toList.length : Int) - 1) && zswT pc lo offs.toList e.2.2.2))
  | .lookupswitch d ps => zdw k pc (.lookupswitch d ps) && (decide ((pc : Int) + d = (e.2.1 : Int)) && ((ps.toList.zip (ps.toList.drop 1)).all (fun (a, next) => a.1 < next.1) && zswL pc ps.toList e.2.2.2))
  | .getfield i => zdc k pc (.getfield i) 3 && (zFT.contains (zO k, i, e.2.1, e.2.2.1) && (decide (e.2.2.1 < zNF e.2.1) && decide (e.2.1 < 13)))
  | .putfield i => zdc k pc (.putfield i) 3 && (zFT.contains (zO k, i, e.2.1, e.2.2.1) && (decide (e.2.2.1 < zNF e.2.1) && (decide (e.2.1 < 13) && (!(zT e.2.1 e.2.2.1).2.2.2 || (decide ((zY k).name = "<init>") && decide ((zT e.2.1 e.2.2.1).1 = zR (zO k)))))))
  | .iaload => zdc k pc .iaload 1
  | .baload => zdc k pc .baload 1
  | .aaload => zdc k pc .aaload 1
  | .iastore => zdc k pc .iastore 1
  | .bastore => zdc k pc .bastore 1
  | .aastore => zdc k pc .aastore 1
  | .arraylength => zdc k pc .arraylength 1
  | .new i => zdc k pc (.new i) 3 && (zCT.contains (zO k, i, e.2.1) && decide (e.2.1 < 13))
  | .newarray t => zdc k pc (.newarray t) 2 && ((decide (t = .int) && decide (e.2.1 = 0)) || (decide (t = .boolean) && decide (e.2.1 = 1)))
  | .anewarray i => zdc k pc (.anewarray i) 3 && (zAT.contains (zO k, i, e.2.1) && decide (2 ≤ e.2.1 ∧ e.2.1 ≤ 5))
  | .invokestatic i => zdc k pc (.invokestatic i) 3 && match e.2.1 with
    | 1000 => zYT.contains (zO k, i)
    | 1004 => zXM.contains (zO k, i)
    | 1005 => zXN.contains (zO k, i)
    | y => zpn y e.2.2.1 && (zST.contains (zO k, i, y, e.2.2.1) || zSN.contains (zO k, i, y, e.2.2.1))
  | .invokespecial i => zdc k pc (.invokespecial i) 3 && match e.2.1 with
    | 1003 => zOT.contains (zO k, i)
    | y => zpn y e.2.2.1 && (((zIT.contains (zO k, i, y, e.2.2.1) || zIN.contains (zO k, i, y, e.2.2.1)) && (decide ((zY y).name = "<init>") && decide (zTr y = none))) || (zUT.contains (zO k, i, y, e.2.2.1) && decide ((zY y).name ≠ "<init>")))
  | .invokevirtual i => zdc k pc (.invokevirtual i) 3 && match e.2.1 with
    | 1001 => zXL.contains (zO k, i)
    | 1002 => zXA.contains (zO k, i)
    | _ => e.2.2.2.all (zokV k i e.2.2.1)
  | .ireturn => zdc k pc .ireturn 1 && match e.2.1 with
    | 0 => decide (zTr k = some .int)
    | _ => decide (zTr k = some .boolean)
  | .lreturn => zdc k pc .lreturn 1 && decide (zTr k = some .long)
  | .areturn => zdc k pc .areturn 1 && match zTr k with
    | some (.object _) => true
    | _ => false
  | .return_ => zdc k pc .return_ 1 && decide (zTr k = none)
  | _ => false
def zokM (k : Nat) : Bool := (List.range (16 * (zCode k).length)).all (fun pc => zokB k pc (zF k pc))
theorem zokc0 : (List.range 16).all (fun i => zokM (16 * 0 + i)) = true := by decide +kernel
theorem zokc1 : (List.range 16).all (fun i => zokM (16 * 1 + i)) = true := by decide +kernel
theorem zokc2 : (List.range 16).all (fun i => zokM (16 * 2 + i)) = true := by decide +kernel
theorem zokc3 : (List.range 16).all (fun i => zokM (16 * 3 + i)) = true := by decide +kernel
theorem zokc4 : (List.range 16).all (fun i => zokM (16 * 4 + i)) = true := by decide +kernel
theorem zokc5 : (List.range 16).all (fun i => zokM (16 * 5 + i)) = true := by decide +kernel
theorem zokc6 : (List.range 16).all (fun i => zokM (16 * 6 + i)) = true := by decide +kernel
theorem zokc7 : (List.range 16).all (fun i => zokM (16 * 7 + i)) = true := by decide +kernel
theorem zokc8 : (List.range 16).all (fun i => zokM (16 * 8 + i)) = true := by decide +kernel
theorem zokc9 : (List.range 16).all (fun i => zokM (16 * 9 + i)) = true := by decide +kernel
theorem zokc10 : (List.range 16).all (fun i => zokM (16 * 10 + i)) = true := by decide +kernel
theorem zokc11 : (List.range 16).all (fun i => zokM (16 * 11 + i)) = true := by decide +kernel
theorem zokc12 : (List.range 13).all (fun i => zokM (192 + i)) = true := by decide +kernel
theorem zokl0 : (List.range 64).all (fun i => zokB 205 (64 * 0 + i) (zF 205 (64 * 0 + i))) = true := by decide +kernel
theorem zokl1 : (List.range 64).all (fun i => zokB 205 (64 * 1 + i) (zF 205 (64 * 1 + i))) = true := by decide +kernel
theorem zokl2 : (List.range 64).all (fun i => zokB 205 (64 * 2 + i) (zF 205 (64 * 2 + i))) = true := by decide +kernel
theorem zokl3 : (List.range 64).all (fun i => zokB 205 (64 * 3 + i) (zF 205 (64 * 3 + i))) = true := by decide +kernel
theorem zokl4 : (List.range 64).all (fun i => zokB 205 (64 * 4 + i) (zF 205 (64 * 4 + i))) = true := by decide +kernel
theorem zokl5 : (List.range 64).all (fun i => zokB 205 (64 * 5 + i) (zF 205 (64 * 5 + i))) = true := by decide +kernel
theorem zokl6 : (List.range 64).all (fun i => zokB 205 (64 * 6 + i) (zF 205 (64 * 6 + i))) = true := by decide +kernel
theorem zokl7 : (List.range 64).all (fun i => zokB 205 (64 * 7 + i) (zF 205 (64 * 7 + i))) = true := by decide +kernel
theorem zokl8 : (List.range 64).all (fun i => zokB 205 (64 * 8 + i) (zF 205 (64 * 8 + i))) = true := by decide +kernel
theorem zokl9 : (List.range 64).all (fun i => zokB 205 (64 * 9 + i) (zF 205 (64 * 9 + i))) = true := by decide +kernel
theorem zokl10 : (List.range 64).all (fun i => zokB 205 (64 * 10 + i) (zF 205 (64 * 10 + i))) = true := by decide +kernel
theorem zokl11 : (List.range 64).all (fun i => zokB 205 (64 * 11 + i) (zF 205 (64 * 11 + i))) = true := by decide +kernel
theorem zokl12 : (List.range 64).all (fun i => zokB 205 (64 * 12 + i) (zF 205 (64 * 12 + i))) = true := by decide +kernel
theorem zokl13 : (List.range 64).all (fun i => zokB 205 (64 * 13 + i) (zF 205 (64 * 13 + i))) = true := by decide +kernel
theorem zokl14 : (List.range 64).all (fun i => zokB 205 (64 * 14 + i) (zF 205 (64 * 14 + i))) = true := by decide +kernel
theorem zokl15 : (List.range 64).all (fun i => zokB 205 (64 * 15 + i) (zF 205 (64 * 15 + i))) = true := by decide +kernel
theorem zokl16 : (List.range 64).all (fun i => zokB 205 (64 * 16 + i) (zF 205 (64 * 16 + i))) = true := by decide +kernel
theorem zokl17 : (List.range 64).all (fun i => zokB 205 (64 * 17 + i) (zF 205 (64 * 17 + i))) = true := by decide +kernel
theorem zgt_big {α : Type} (d : α) : ∀ (l : List α) (n : Nat), l.length ≤ n → zgt d l n = d
  | [], _, _ => rfl
  | _ :: l, 0, h => absurd h (by simp)
  | _ :: l, n + 1, h => zgt_big d l n (by simpa using h)
theorem zokM_all (k : Nat) (hk : k < 205) : zokM k = true := by
  have key : ∀ j, (List.range 16).all (fun i => zokM (16 * j + i)) = true → k / 16 = j → zokM k = true := by
    intro j hj e
    have := List.all_eq_true.mp hj (k % 16) (List.mem_range.mpr (Nat.mod_lt _ (by decide)))
    rwa [← e, Nat.div_add_mod] at this
  have h : k / 16 < 13 := by omega
  generalize hq : k / 16 = q at h
  match q, h, hq with
  | 0, _, hq => exact key 0 zokc0 hq
  | 1, _, hq => exact key 1 zokc1 hq
  | 2, _, hq => exact key 2 zokc2 hq
  | 3, _, hq => exact key 3 zokc3 hq
  | 4, _, hq => exact key 4 zokc4 hq
  | 5, _, hq => exact key 5 zokc5 hq
  | 6, _, hq => exact key 6 zokc6 hq
  | 7, _, hq => exact key 7 zokc7 hq
  | 8, _, hq => exact key 8 zokc8 hq
  | 9, _, hq => exact key 9 zokc9 hq
  | 10, _, hq => exact key 10 zokc10 hq
  | 11, _, hq => exact key 11 zokc11 hq
  | 12, _, hq =>
    have := List.all_eq_true.mp zokc12 (k - 192) (List.mem_range.mpr (by omega))
    rwa [show 192 + (k - 192) = k by omega] at this
  | q + 13, h, _ => exact absurd h (by omega)
theorem zcode205 : (zCode 205).length = 71 := by decide +kernel
theorem zokL_all (pc : Nat) (h : pc < 1136) : zokB 205 pc (zF 205 pc) = true := by
  have key : ∀ j, (List.range 64).all (fun i => zokB 205 (64 * j + i) (zF 205 (64 * j + i))) = true → pc / 64 = j → zokB 205 pc (zF 205 pc) = true := by
    intro j hj e
    have := List.all_eq_true.mp hj (pc % 64) (List.mem_range.mpr (Nat.mod_lt _ (by decide)))
    rwa [← e, Nat.div_add_mod] at this
  have h : pc / 64 < 18 := by omega
  generalize hq : pc / 64 = q at h
  match q, h, hq with
  | 0, _, hq => exact key 0 zokl0 hq
  | 1, _, hq => exact key 1 zokl1 hq
  | 2, _, hq => exact key 2 zokl2 hq
  | 3, _, hq => exact key 3 zokl3 hq
  | 4, _, hq => exact key 4 zokl4 hq
  | 5, _, hq => exact key 5 zokl5 hq
  | 6, _, hq => exact key 6 zokl6 hq
  | 7, _, hq => exact key 7 zokl7 hq
  | 8, _, hq => exact key 8 zokl8 hq
  | 9, _, hq => exact key 9 zokl9 hq
  | 10, _, hq => exact key 10 zokl10 hq
  | 11, _, hq => exact key 11 zokl11 hq
  | 12, _, hq => exact key 12 zokl12 hq
  | 13, _, hq => exact key 13 zokl13 hq
  | 14, _, hq => exact key 14 zokl14 hq
  | 15, _, hq => exact key 15 zokl15 hq
  | 16, _, hq => exact key 16 zokl16 hq
  | 17, _, hq => exact key 17 zokl17 hq
  | q + 18, h, _ => exact absurd h (by omega)
theorem zok_all {k : Nat} (hk : k < 206) (pc : Nat) : zokB k pc (zF k pc) = true := by
  by_cases h : pc < 16 * (zCode k).length
  · by_cases hk5 : k < 205
    · exact List.all_eq_true.mp (zokM_all k hk5) pc (List.mem_range.mpr h)
    · obtain rfl : k = 205 := by omega
      rw [zcode205] at h
      exact zokL_all pc (by omega)
  · have e : zF k pc = zN := by
      unfold zF
      rw [zgt_big [] (zCode k) (pc / 16) (by omega)]
      rfl
    rw [e]
    rfl
end
section
/-! the machine over logical cells (numbers in the order of their making), as a transformer of predicates: ints are Int in their range -/
abbrev zV : Type := Int ⊕ (Int ⊕ Option Nat)
abbrev zi (x : Int) : zV := .inl x
abbrev zl (x : Int) : zV := .inr (.inl x)
abbrev zr (x : Nat) : zV := .inr (.inr (some x))
/-- cells made, slots made, the script's length; ints and longs; references -/
abbrev zH : Type := (Nat × Nat × Nat) × (Nat → Nat → Int) × (Nat → Nat → Option Nat)
abbrev zLv : Type := List (Option zV)
abbrev zK : Type := Nat → zLv → List zV → zH → Prop
abbrev zQ : Type := Option zV → zH → Prop
abbrev zCt : Type := Nat → Nat → Nat → List zV → zH → zQ → Prop
def zwr (x : Int) : Int := (x + 2147483648) % 4294967296 - 2147483648
def zwl (x : Int) : Int := (x + 9223372036854775808) % 18446744073709551616 - 9223372036854775808
def z2 {α : Type} (f : Nat → Nat → α) (a j : Nat) (x : α) : Nat → Nat → α := fun b k => if b = a ∧ k = j then x else f b k
def z1 {α : Type} (f : Nat → Nat → α) (a : Nat) (x : α) : Nat → Nat → α := fun b k => if b = a then x else f b k
/-- n values of cell a from place i on come to cell b's place j on -/
def zcp {α : Type} (f : Nat → Nat → α) (a i b j n : Nat) : Nat → Nat → α := fun x k => if x = b ∧ j ≤ k ∧ k < j + n then f a (i + (k - j)) else f x k
def zsu {α : Type} : List α → Nat → α → List α | [], _, _ => [] | _ :: l, 0, v => v :: l | a :: l, n + 1, v => a :: zsu l n v
/-- a long stands just ahead of that place -/
def zlg (ls : zLv) : Nat → Bool
  | 0 => false
  | j + 1 => match zgt none ls j with
    | some (.inr (.inl _)) => true
    | _ => false
def zva (v : Option zV) (r : List zV) : List zV := match v with
  | some v => v :: r
  | none => r
def zvsLen (x : Nat) : Nat := (zgt [] zVS (x - 1000)).length
def zvsAt (x i : Nat) : Int := zgt 0 (zgt [] zVS (x - 1000)) i
-- bits
def zand (x y : Int) : Int := (Int32.ofInt x &&& Int32.ofInt y).toInt
def zor (x y : Int) : Int := (Int32.ofInt x ||| Int32.ofInt y).toInt
def zxor (x y : Int) : Int := (Int32.ofInt x ^^^ Int32.ofInt y).toInt
def zshl (x y : Int) : Int := (Int32.ofInt x <<< (Int32.ofInt y &&& 31)).toInt
def zshr (x y : Int) : Int := (Int32.ofInt x >>> (Int32.ofInt y &&& 31)).toInt
def zushr (x y : Int) : Int := ((Int32.ofInt x).toUInt32 >>> ((Int32.ofInt y).toUInt32 &&& Int32.toUInt32 31)).toInt32.toInt
def zi2b (x : Int) : Int := (Int32.ofInt x).toInt8.toInt32.toInt
def zi2s (x : Int) : Int := (Int32.ofInt x).toInt16.toInt32.toInt
def zcmp (x y : Int) : Int := if x < y then -1 else if x = y then 0 else 1
-- operations
def zo_li (i n : Nat) (K : zK) (pc : Nat) (ls : zLv) (st : List zV) (h : zH) : Prop := match zgt none ls i with
  | some (.inl x) => K (pc + n) ls (.inl x :: st) h
  | _ => False
def zo_ll (i n : Nat) (K : zK) (pc : Nat) (ls : zLv) (st : List zV) (h : zH) : Prop := match zgt none ls i with
  | some (.inr (.inl x)) => K (pc + n) ls (.inr (.inl x) :: st) h
  | _ => False
def zo_lr (i n : Nat) (K : zK) (pc : Nat) (ls : zLv) (st : List zV) (h : zH) : Prop := match zgt none ls i with
  | some (.inr (.inr (some x))) => K (pc + n) ls (.inr (.inr (some x)) :: st) h
  | _ => False
def zo_si (i n : Nat) (K : zK) (pc : Nat) (ls : zLv) (st : List zV) (h : zH) : Prop := match st with
  | .inl x :: r => match zlg ls i with
    | true => False
    | false => K (pc + n) (zsu ls i (some (.inl x))) r h
  | _ => False
def zo_sr (i n : Nat) (K : zK) (pc : Nat) (ls : zLv) (st : List zV) (h : zH) : Prop := match st with
  | .inr (.inr (some x)) :: r => match zlg ls i with
    | true => False
    | false => K (pc + n) (zsu ls i (some (.inr (.inr (some x))))) r h
  | _ => False
def zo_sl (i n : Nat) (K : zK) (pc : Nat) (ls : zLv) (st : List zV) (h : zH) : Prop := match st with
  | .inr (.inl x) :: r => match zlg ls i with
    | true => False
    | false => K (pc + n) (zsu (zsu ls i (some (.inr (.inl x)))) (i + 1) none) r h
  | _ => False
def zo_inc (i : Nat) (d : Int) (K : zK) (pc : Nat) (ls : zLv) (st : List zV) (h : zH) : Prop := match zgt none ls i with
  | some (.inl x) => match zlg ls i with
    | true => False
    | false => K (pc + 3) (zsu ls i (some (.inl (zwr (x + d))))) st h
  | _ => False
def zo_i2 (f : Int → Int → Int) (K : zK) (pc : Nat) (ls : zLv) (st : List zV) (h : zH) : Prop := match st with
  | .inl y :: .inl x :: r => K (pc + 1) ls (.inl (f x y) :: r) h
  | _ => False
def zo_i2n (f : Int → Int → Int) (K : zK) (pc : Nat) (ls : zLv) (st : List zV) (h : zH) : Prop := match st with
  | .inl y :: .inl x :: r => y ≠ 0 ∧ K (pc + 1) ls (.inl (f x y) :: r) h
  | _ => False
def zo_i1 (f : Int → Int) (K : zK) (pc : Nat) (ls : zLv) (st : List zV) (h : zH) : Prop := match st with
  | .inl x :: r => K (pc + 1) ls (.inl (f x) :: r) h
  | _ => False
def zo_l2 (f : Int → Int → Int) (K : zK) (pc : Nat) (ls : zLv) (st : List zV) (h : zH) : Prop := match st with
  | .inr (.inl y) :: .inr (.inl x) :: r => K (pc + 1) ls (.inr (.inl (f x y)) :: r) h
  | _ => False
def zo_l2n (f : Int → Int → Int) (K : zK) (pc : Nat) (ls : zLv) (st : List zV) (h : zH) : Prop := match st with
  | .inr (.inl y) :: .inr (.inl x) :: r => y ≠ 0 ∧ K (pc + 1) ls (.inr (.inl (f x y)) :: r) h
  | _ => False
def zo_lcmp (K : zK) (pc : Nat) (ls : zLv) (st : List zV) (h : zH) : Prop := match st with
  | .inr (.inl y) :: .inr (.inl x) :: r => K (pc + 1) ls (.inl (zcmp x y) :: r) h
  | _ => False
def zo_i2l (K : zK) (pc : Nat) (ls : zLv) (st : List zV) (h : zH) : Prop := match st with
  | .inl x :: r => K (pc + 1) ls (.inr (.inl x) :: r) h
  | _ => False
def zo_l2i (K : zK) (pc : Nat) (ls : zLv) (st : List zV) (h : zH) : Prop := match st with
  | .inr (.inl x) :: r => K (pc + 1) ls (.inl (zwr x) :: r) h
  | _ => False
def zo_dup (K : zK) (pc : Nat) (ls : zLv) (st : List zV) (h : zH) : Prop := match st with
  | .inl x :: r => K (pc + 1) ls (.inl x :: .inl x :: r) h
  | .inr (.inr x) :: r => K (pc + 1) ls (.inr (.inr x) :: .inr (.inr x) :: r) h
  | _ => False
def zo_dup2 (K : zK) (pc : Nat) (ls : zLv) (st : List zV) (h : zH) : Prop := match st with
  | .inl x :: .inr (.inr y) :: r => K (pc + 1) ls (.inl x :: .inr (.inr y) :: .inl x :: .inr (.inr y) :: r) h
  | _ => False
def zo_dupx (K : zK) (pc : Nat) (ls : zLv) (st : List zV) (h : zH) : Prop := match st with
  | .inl x :: .inr (.inr y) :: r => K (pc + 1) ls (.inl x :: .inr (.inr y) :: .inl x :: r) h
  | .inl x :: .inl y :: r => K (pc + 1) ls (.inl x :: .inl y :: .inl x :: r) h
  | _ => False
def zo_pop (K : zK) (pc : Nat) (ls : zLv) (st : List zV) (h : zH) : Prop := match st with
  | .inl _ :: r => K (pc + 1) ls r h
  | .inr (.inr _) :: r => K (pc + 1) ls r h
  | _ => False
def zo_c1 (c : Jvm.ClassFile.Cond) (t : Nat) (K : zK) (pc : Nat) (ls : zLv) (st : List zV) (h : zH) : Prop := match st with
  | .inl x :: r => match c with
    | .eq => (x = 0 → K t ls r h) ∧ (¬ x = 0 → K (pc + 3) ls r h)
    | .ne => (x ≠ 0 → K t ls r h) ∧ (¬ x ≠ 0 → K (pc + 3) ls r h)
    | .lt => (x < 0 → K t ls r h) ∧ (¬ x < 0 → K (pc + 3) ls r h)
    | .ge => (0 ≤ x → K t ls r h) ∧ (¬ 0 ≤ x → K (pc + 3) ls r h)
    | .gt => (0 < x → K t ls r h) ∧ (¬ 0 < x → K (pc + 3) ls r h)
    | .le => (x ≤ 0 → K t ls r h) ∧ (¬ x ≤ 0 → K (pc + 3) ls r h)
  | _ => False
def zo_c2 (c : Jvm.ClassFile.Cond) (t : Nat) (K : zK) (pc : Nat) (ls : zLv) (st : List zV) (h : zH) : Prop := match st with
  | .inl y :: .inl x :: r => match c with
    | .eq => (x = y → K t ls r h) ∧ (¬ x = y → K (pc + 3) ls r h)
    | .ne => (x ≠ y → K t ls r h) ∧ (¬ x ≠ y → K (pc + 3) ls r h)
    | .lt => (x < y → K t ls r h) ∧ (¬ x < y → K (pc + 3) ls r h)
    | .ge => (y ≤ x → K t ls r h) ∧ (¬ y ≤ x → K (pc + 3) ls r h)
    | .gt => (y < x → K t ls r h) ∧ (¬ y < x → K (pc + 3) ls r h)
    | .le => (x ≤ y → K t ls r h) ∧ (¬ x ≤ y → K (pc + 3) ls r h)
  | _ => False
def zsw (x : Int) (d : Nat) (K : Nat → Prop) : List (Int × Nat) → Prop
  | [] => K d
  | (c, t) :: l => (x = c → K t) ∧ (¬ x = c → zsw x d K l)
def zo_sw (d : Nat) (l : List (Int × Nat)) (K : zK) (ls : zLv) (st : List zV) (h : zH) : Prop := match st with
  | .inl x :: r => zsw x d (fun t => K t ls r h) l
  | _ => False
def zo_gf (c j : Nat) (K : zK) (pc : Nat) (ls : zLv) (st : List zV) (h : zH) : Prop := match st with
  | .inr (.inr (some x)) :: r => (zSh x).1 = c ∧ match zKd c j with
    | 1 => K (pc + 3) ls (.inr (.inl (h.2.1 x j)) :: r) h
    | 2 => ∃ v, h.2.2 x j = v ∧ K (pc + 3) ls (.inr (.inr v) :: r) h
    | _ => K (pc + 3) ls (.inl (h.2.1 x j) :: r) h
  | _ => False
def zo_pf (c j : Nat) (K : zK) (pc : Nat) (ls : zLv) (st : List zV) (h : zH) : Prop := match st with
  | v :: .inr (.inr (some x)) :: r => (zSh x).1 = c ∧ match zKd c j, v with
    | 0, .inl y => K (pc + 3) ls r (h.1, z2 h.2.1 x j y, h.2.2)
    | 1, .inr (.inl y) => K (pc + 3) ls r (h.1, z2 h.2.1 x j y, h.2.2)
    | 2, .inr (.inr (some y)) => K (pc + 3) ls r (h.1, h.2.1, z2 h.2.2 x j (some y))
    | 3, .inl y => (y = 0 ∨ y = 1) ∧ K (pc + 3) ls r (h.1, z2 h.2.1 x j y, h.2.2)
    | _, _ => False
  | _ => False
def zo_ild (t : Nat) (K : zK) (pc : Nat) (ls : zLv) (st : List zV) (h : zH) : Prop := match st with
  | .inl i :: .inr (.inr (some x)) :: r => (zSh x).1 = t ∧ (0 ≤ i ∧ i < ((zSh x).2 : Nat)) ∧ K (pc + 1) ls (.inl (h.2.1 x i.toNat) :: r) h
  | _ => False
/-- the script's own element -/
def zo_sld (K : zK) (pc : Nat) (ls : zLv) (st : List zV) (h : zH) : Prop := match st with
  | .inl i :: .inr (.inr (some x)) :: r => x = 2000 ∧ (0 ≤ i ∧ i < (h.1.2.2 : Nat)) ∧ K (pc + 1) ls (.inl (h.2.1 2000 i.toNat) :: r) h
  | _ => False
def zo_ist (t : Nat) (K : zK) (pc : Nat) (ls : zLv) (st : List zV) (h : zH) : Prop := match st with
  | .inl y :: .inl i :: .inr (.inr (some x)) :: r => (zSh x).1 = t ∧ (0 ≤ i ∧ i < ((zSh x).2 : Nat)) ∧ K (pc + 1) ls r (h.1, z2 h.2.1 x i.toNat y, h.2.2)
  | _ => False
def zo_zst (K : zK) (pc : Nat) (ls : zLv) (st : List zV) (h : zH) : Prop := match st with
  | .inl y :: .inl i :: .inr (.inr (some x)) :: r => (zSh x).1 = 101 ∧ (0 ≤ i ∧ i < ((zSh x).2 : Nat)) ∧ (y = 0 ∨ y = 1) ∧ K (pc + 1) ls r (h.1, z2 h.2.1 x i.toNat y, h.2.2)
  | _ => False
def zo_ald (K : zK) (pc : Nat) (ls : zLv) (st : List zV) (h : zH) : Prop := match st with
  | .inl i :: .inr (.inr (some x)) :: r => (102 ≤ (zSh x).1 ∧ (zSh x).1 ≤ 105) ∧ (0 ≤ i ∧ i < ((zSh x).2 : Nat)) ∧ ∃ v, h.2.2 x i.toNat = v ∧ K (pc + 1) ls (.inr (.inr v) :: r) h
  | _ => False
/-- the classes whose objects a row of references of that type takes -/
def zfit (t c : Nat) : Bool := (t == 102 && c == 5) || (t == 103 && c == 8) || (t == 105 && c == 10) || (t == 104 && (c == 9 || c == 1 || c == 2 || c == 3 || c == 4 || c == 6))
def zo_ast (K : zK) (pc : Nat) (ls : zLv) (st : List zV) (h : zH) : Prop := match st with
  | .inr (.inr (some y)) :: .inl i :: .inr (.inr (some x)) :: r => zfit (zSh x).1 (zSh y).1 = true ∧ (0 ≤ i ∧ i < ((zSh x).2 : Nat)) ∧ K (pc + 1) ls r (h.1, h.2.1, z2 h.2.2 x i.toNat (some y))
  | _ => False
def zo_len (K : zK) (pc : Nat) (ls : zLv) (st : List zV) (h : zH) : Prop := match st with
  | .inr (.inr (some x)) :: r => (100 ≤ (zSh x).1 ∧ (zSh x).1 ≤ 105) ∧ K (pc + 1) ls (.inl ((zSh x).2 : Nat) :: r) h
  | _ => False
def zo_slen (K : zK) (pc : Nat) (ls : zLv) (st : List zV) (h : zH) : Prop := match st with
  | .inr (.inr (some x)) :: r => x = 2000 ∧ K (pc + 1) ls (.inl (h.1.2.2 : Nat) :: r) h
  | _ => False
/-- a new cell; B: how many cells and slots there may be -/
def zo_new (c n : Nat) (B : Nat × Nat) (K : zK) (pc : Nat) (ls : zLv) (st : List zV) (h : zH) : Prop :=
  zSh h.1.1 = (c, n) ∧ h.1.1 + 1 ≤ B.1 ∧ h.1.2.1 + n ≤ B.2 ∧ h.1.1 < 1000 ∧ K pc ls (.inr (.inr (some h.1.1)) :: st) ((h.1.1 + 1, h.1.2.1 + n, h.1.2.2), z1 h.2.1 h.1.1 0, z1 h.2.2 h.1.1 none)
def zo_newa (t : Nat) (B : Nat × Nat) (K : zK) (pc : Nat) (ls : zLv) (st : List zV) (h : zH) : Prop := match st with
  | .inl n :: r => (0 ≤ n ∧ n < 1000) ∧ zo_new (100 + t) n.toNat B K pc ls r h
  | _ => False
def zcs : List zV → Nat
  | [] => 0
  | .inr (.inl _) :: l => zcs l + 2
  | _ :: l => zcs l + 1
def zo_call (C : zCt) (B : Nat × Nat) (k : Nat) (As r : List zV) (K : zK) (pc : Nat) (ls : zLv) (h : zH) : Prop :=
  zcs r ≤ 8 ∧ ∃ mc ms : Nat, (mc = 0 ∨ h.1.1 + mc ≤ B.1) ∧ (ms = 0 ∨ h.1.2.1 + ms ≤ B.2) ∧ C k mc ms As h (fun v h1 => K (pc + 3) ls (zva v r) h1)
def ztk (n : Nat) (st acc : List zV) : List zV × List zV := match n, st with
  | 0, st => (acc, st)
  | n + 1, v :: st => ztk n st (v :: acc)
  | _, [] => ([], [])
def zsel (c : Int) : List (Int × Nat) → Option Nat
  | [] => none
  | (a, k) :: l => match decide (a = c) with
    | true => some k
    | false => zsel c l
def zo_slenS (K : zK) (pc : Nat) (ls : zLv) (st : List zV) (h : zH) : Prop := match st with
  | .inr (.inr (some x)) :: r => zcs r ≤ 8 ∧ (1000 ≤ x ∧ x < 1013) ∧ K (pc + 3) ls (.inl (zvsLen x : Nat) :: r) h
  | _ => False
def zo_satS (K : zK) (pc : Nat) (ls : zLv) (st : List zV) (h : zH) : Prop := match st with
  | .inl i :: .inr (.inr (some x)) :: r => zcs r ≤ 8 ∧ (1000 ≤ x ∧ x < 1013) ∧ (0 ≤ i ∧ i < (zvsLen x : Nat)) ∧ K (pc + 3) ls (.inl (zvsAt x i.toNat) :: r) h
  | _ => False
def zo_acp (K : zK) (pc : Nat) (ls : zLv) (st : List zV) (h : zH) : Prop := match st with
  | .inl n :: .inl j :: .inr (.inr (some b)) :: .inl i :: .inr (.inr (some a)) :: r => zcs r ≤ 8 ∧ (zSh a).1 = 100 ∧ (zSh b).1 = 100 ∧ (0 ≤ n ∧ 0 ≤ i ∧ 0 ≤ j ∧ i + n ≤ ((zSh a).2 : Nat) ∧ j + n ≤ ((zSh b).2 : Nat)) ∧ K (pc + 3) ls r (h.1, zcp h.2.1 a i.toNat b j.toNat n.toNat, h.2.2)
  | _ => False
def zmx (x y : Int) : Int := if x < y then y else x
def zmn (x y : Int) : Int := if y < x then y else x
def zo_mm (f : Int → Int → Int) (K : zK) (pc : Nat) (ls : zLv) (st : List zV) (h : zH) : Prop := match st with
  | .inl y :: .inl x :: r => zcs r ≤ 8 ∧ K (pc + 3) ls (.inl (f x y) :: r) h
  | _ => False
def zo_stat (C : zCt) (B : Nat × Nat) (k n : Nat) (K : zK) (pc : Nat) (ls : zLv) (st : List zV) (h : zH) : Prop := match ztk n st [] with
  | (As, r) => As.length = n ∧ zo_call C B k As r K pc ls h
def zo_spec (C : zCt) (B : Nat × Nat) (k n : Nat) (K : zK) (pc : Nat) (ls : zLv) (st : List zV) (h : zH) : Prop := match ztk n st [] with
  | (As, .inr (.inr (some x)) :: r) => (zSh x).1 < 13 ∧ zo_call C B k (.inr (.inr (some x)) :: As) r K pc ls h
  | _ => False
def zo_virt (C : zCt) (B : Nat × Nat) (l : List (Int × Nat)) (n : Nat) (K : zK) (pc : Nat) (ls : zLv) (st : List zV) (h : zH) : Prop := match ztk n st [] with
  | (As, .inr (.inr (some x)) :: r) => ∃ k, zsel ((zSh x).1 : Nat) l = some k ∧ zo_call C B k (.inr (.inr (some x)) :: As) r K pc ls h
  | _ => False
def zo_oi (K : zK) (pc : Nat) (ls : zLv) (st : List zV) (h : zH) : Prop := match st with
  | .inr (.inr (some _)) :: r => zcs r ≤ 8 ∧ K (pc + 3) ls r h
  | _ => False
def zo_ri (Q : zQ) (st : List zV) (h : zH) : Prop := match st with
  | [.inl x] => Q (some (.inl x)) h
  | _ => False
def zo_rz (Q : zQ) (st : List zV) (h : zH) : Prop := match st with
  | [.inl x] => (x = 0 ∨ x = 1) ∧ Q (some (.inl x)) h
  | _ => False
def zo_rl (Q : zQ) (st : List zV) (h : zH) : Prop := match st with
  | [.inr (.inl x)] => Q (some (.inr (.inl x))) h
  | _ => False
def zo_rr (Q : zQ) (st : List zV) (h : zH) : Prop := match st with
  | [.inr (.inr (some x))] => Q (some (.inr (.inr (some x)))) h
  | _ => False
def zo_rv (Q : zQ) (st : List zV) (h : zH) : Prop := match st with
  | [] => Q none h
  | _ => False
def zstep (C : zCt) (B : Nat × Nat) (Q : zQ) (K : zK) (e : zE) (pc : Nat) (ls : zLv) (st : List zV) (h : zH) : Prop :=
  match e.1 with
  | .iconst n => K (pc + 1) ls (.inl n :: st) h
  | .bipush n => K (pc + 2) ls (.inl n :: st) h
  | .sipush n => K (pc + 3) ls (.inl n :: st) h
  | .lconst n => K (pc + 1) ls (.inr (.inl (n.val : Nat)) :: st) h
  | .ldc _ => match e.2.1 with
    | 0 => K (pc + 2) ls (.inl (zhd e.2.2.2) :: st) h
    | _ => K (pc + 2) ls (.inr (.inr (some (1000 + e.2.2.1))) :: st) h
  | .ldc_w _ => K (pc + 3) ls (.inl (zhd e.2.2.2) :: st) h
  | .ldc2_w _ => K (pc + 3) ls (.inr (.inl (zhd e.2.2.2)) :: st) h
  | .iload_n _ => zo_li e.2.1 1 K pc ls st h
  | .iload _ => zo_li e.2.1 2 K pc ls st h
  | .lload_n _ => zo_ll e.2.1 1 K pc ls st h
  | .lload _ => zo_ll e.2.1 2 K pc ls st h
  | .aload_n _ => zo_lr e.2.1 1 K pc ls st h
  | .aload _ => zo_lr e.2.1 2 K pc ls st h
  | .istore_n _ => zo_si e.2.1 1 K pc ls st h
  | .istore _ => zo_si e.2.1 2 K pc ls st h
  | .lstore_n _ => zo_sl e.2.1 1 K pc ls st h
  | .lstore _ => zo_sl e.2.1 2 K pc ls st h
  | .astore_n _ => zo_sr e.2.1 1 K pc ls st h
  | .astore _ => zo_sr e.2.1 2 K pc ls st h
  | .iinc _ d => zo_inc e.2.1 d K pc ls st h
  | .iadd => zo_i2 (fun x y => zwr (x + y)) K pc ls st h
  | .isub => zo_i2 (fun x y => zwr (x - y)) K pc ls st h
  | .imul => zo_i2 (fun x y => zwr (x * y)) K pc ls st h
  | .idiv => zo_i2n (fun x y => zwr (x.tdiv y)) K pc ls st h
  | .irem => zo_i2n (fun x y => zwr (x.tmod y)) K pc ls st h
  | .ineg => zo_i1 (fun x => zwr (-x)) K pc ls st h
  | .iand => zo_i2 zand K pc ls st h
  | .ior => zo_i2 zor K pc ls st h
  | .ixor => zo_i2 zxor K pc ls st h
  | .ishl => zo_i2 zshl K pc ls st h
  | .ishr => zo_i2 zshr K pc ls st h
  | .iushr => zo_i2 zushr K pc ls st h
  | .i2b => zo_i1 zi2b K pc ls st h
  | .i2s => zo_i1 zi2s K pc ls st h
  | .i2l => zo_i2l K pc ls st h
  | .l2i => zo_l2i K pc ls st h
  | .ladd => zo_l2 (fun x y => zwl (x + y)) K pc ls st h
  | .lsub => zo_l2 (fun x y => zwl (x - y)) K pc ls st h
  | .lmul => zo_l2 (fun x y => zwl (x * y)) K pc ls st h
  | .ldiv => zo_l2n (fun x y => zwl (x.tdiv y)) K pc ls st h
  | .lrem => zo_l2n (fun x y => zwl (x.tmod y)) K pc ls st h
  | .lcmp => zo_lcmp K pc ls st h
  | .dup => zo_dup K pc ls st h
  | .dup2 => zo_dup2 K pc ls st h
  | .dup_x1 => zo_dupx K pc ls st h
  | .pop => zo_pop K pc ls st h
  | .ifCond c _ => zo_c1 c e.2.1 K pc ls st h
  | .if_icmp c _ => zo_c2 c e.2.1 K pc ls st h
  | .goto _ => K e.2.1 ls st h
  | .tableswitch _ _ _ _ => zo_sw e.2.1 e.2.2.2 K ls st h
  | .lookupswitch _ _ => zo_sw e.2.1 e.2.2.2 K ls st h
  | .getfield _ => zo_gf e.2.1 e.2.2.1 K pc ls st h
  | .putfield _ => zo_pf e.2.1 e.2.2.1 K pc ls st h
  | .iaload => match e.2.1 with
    | 0 => zo_ild 100 K pc ls st h
    | _ => zo_sld K pc ls st h
  | .baload => zo_ild 101 K pc ls st h
  | .aaload => zo_ald K pc ls st h
  | .iastore => zo_ist 100 K pc ls st h
  | .bastore => zo_zst K pc ls st h
  | .aastore => zo_ast K pc ls st h
  | .arraylength => match e.2.1 with
    | 0 => zo_len K pc ls st h
    | _ => zo_slen K pc ls st h
  | .new _ => zo_new e.2.1 (zNF e.2.1) B K (pc + 3) ls st h
  | .newarray _ => zo_newa e.2.1 B K (pc + 2) ls st h
  | .anewarray _ => zo_newa e.2.1 B K (pc + 3) ls st h
  | .invokestatic _ => match e.2.1 with
    | 1000 => zo_acp K pc ls st h
    | 1004 => zo_mm zmx K pc ls st h
    | 1005 => zo_mm zmn K pc ls st h
    | k => zo_stat C B k e.2.2.1 K pc ls st h
  | .invokespecial _ => match e.2.1 with
    | 1003 => zo_oi K pc ls st h
    | k => zo_spec C B k e.2.2.1 K pc ls st h
  | .invokevirtual _ => match e.2.1 with
    | 1001 => zo_slenS K pc ls st h
    | 1002 => zo_satS K pc ls st h
    | _ => zo_virt C B e.2.2.2 e.2.2.1 K pc ls st h
  | .ireturn => match e.2.1 with
    | 0 => zo_ri Q st h
    | _ => zo_rz Q st h
  | .lreturn => zo_rl Q st h
  | .areturn => zo_rr Q st h
  | .return_ => zo_rv Q st h
  | _ => False
/-- from here the machine comes to its end with Q: the least such -/
def zRn (C : zCt) (k : Nat) (B : Nat × Nat) (Q : zQ) (pc : Nat) (ls : zLv) (st : List zV) (h : zH) : Prop :=
  ∀ P : zK, (∀ pc ls st h, zstep C B Q P (zF k pc) pc ls st h → P pc ls st h) → P pc ls st h
/-- the places of cells that there are -/
def zEq (h h1 : zH) : Prop := h.1 = h1.1 ∧ (∀ x, (x < h.1.1 ∨ x = 2000) → ∀ j, h.2.1 x j = h1.2.1 x j) ∧ ∀ x, x < h.1.1 → ∀ j, j < (zSh x).2 → h.2.2 x j = h1.2.2 x j
def zens : Nat → List zV → zLv
  | n, [] => List.replicate n none
  | n + 2, .inr (.inl x) :: l => some (.inr (.inl x)) :: none :: zens n l
  | n + 1, v :: l => some v :: zens n l
  | _, _ => []
def zcl : Nat → zCt
  | 0 => fun _ _ _ _ _ _ => False
  | d + 1 => fun k mc ms As h Q => zcs As ≤ zL k ∧ ∃ h1, zEq h h1 ∧ zRn (zcl d) k (h.1.1 + mc, h.1.2.1 + ms) (fun v h2 => h2.1 = (h.1.1 + mc, h.1.2.1 + ms, h.1.2.2) ∧ Q v h2) 0 (zens (zL k) As) [] h1
-- monotone
theorem zsw_mono {x : Int} {d : Nat} {K K1 : Nat → Prop} (hK : ∀ t, K t → K1 t) : ∀ l, zsw x d K l → zsw x d K1 l
  | [], h => hK _ h
  | (_, _) :: l, h => ⟨fun e => hK _ (h.1 e), fun e => zsw_mono hK l (h.2 e)⟩
section
variable {C : zCt} {B : Nat × Nat} {Q Q2 : zQ} {K K1 : zK}
theorem zo_call_mono (hK : ∀ pc ls st h, K pc ls st h → K1 pc ls st h) (hC : ∀ k mc ms As h Q Q1, (∀ v h, Q v h → Q1 v h) → C k mc ms As h Q → C k mc ms As h Q1) {k : Nat} {As r : List zV} {pc : Nat} {ls : zLv} {h : zH} (H : zo_call C B k As r K pc ls h) : zo_call C B k As r K1 pc ls h := by
  obtain ⟨h0, mc, ms, h1, h2, h3⟩ := H
  exact ⟨h0, mc, ms, h1, h2, hC _ _ _ _ _ _ _ (fun v h => hK _ _ _ _) h3⟩
set_option maxHeartbeats 4000000 in
theorem zstep_mono (hK : ∀ pc ls st h, K pc ls st h → K1 pc ls st h) (hQ : ∀ v h, Q v h → Q2 v h) (hC : ∀ k mc ms As h Q Q1, (∀ v h, Q v h → Q1 v h) → C k mc ms As h Q → C k mc ms As h Q1) (e : zE) (pc : Nat) (ls : zLv) (st : List zV) (h : zH) : zstep C B Q K e pc ls st h → zstep C B Q2 K1 e pc ls st h := by
  intro H
  unfold zstep at H ⊢
  split at H
  all_goals first
    | exact hK _ _ _ _ H
    | (unfold zo_li at H ⊢; split at H <;> first | exact hK _ _ _ _ H | exact H)
    | (unfold zo_ll at H ⊢; split at H <;> first | exact hK _ _ _ _ H | exact H)
    | (unfold zo_lr at H ⊢; split at H <;> first | exact hK _ _ _ _ H | exact H)
    | (unfold zo_i2 at H ⊢; split at H <;> first | exact hK _ _ _ _ H | exact H)
    | (unfold zo_i2n at H ⊢; split at H <;> first | exact ⟨H.1, hK _ _ _ _ H.2⟩ | exact H)
    | (unfold zo_i1 at H ⊢; split at H <;> first | exact hK _ _ _ _ H | exact H)
    | (unfold zo_l2 at H ⊢; split at H <;> first | exact hK _ _ _ _ H | exact H)
    | (unfold zo_l2n at H ⊢; split at H <;> first | exact ⟨H.1, hK _ _ _ _ H.2⟩ | exact H)
    | (unfold zo_lcmp at H ⊢; split at H <;> first | exact hK _ _ _ _ H | exact H)
    | (unfold zo_i2l at H ⊢; split at H <;> first | exact hK _ _ _ _ H | exact H)
    | (unfold zo_l2i at H ⊢; split at H <;> first | exact hK _ _ _ _ H | exact H)
    | (unfold zo_dup at H ⊢; split at H <;> first | exact hK _ _ _ _ H | exact H)
    | (unfold zo_dup2 at H ⊢; split at H <;> first | exact hK _ _ _ _ H | exact H)
    | (unfold zo_dupx at H ⊢; split at H <;> first | exact hK _ _ _ _ H | exact H)
    | (unfold zo_pop at H ⊢; split at H <;> first | exact hK _ _ _ _ H | exact H)
    | (unfold zo_c1 at H ⊢; split at H <;> first | (split at H <;> exact ⟨fun e => hK _ _ _ _ (H.1 e), fun e => hK _ _ _ _ (H.2 e)⟩) | exact H)
    | (unfold zo_c2 at H ⊢; split at H <;> first | (split at H <;> exact ⟨fun e => hK _ _ _ _ (H.1 e), fun e => hK _ _ _ _ (H.2 e)⟩) | exact H)
    | (unfold zo_si at H ⊢; split at H <;> first | (split at H <;> first | exact hK _ _ _ _ H | exact H) | exact H)
    | (unfold zo_sr at H ⊢; split at H <;> first | (split at H <;> first | exact hK _ _ _ _ H | exact H) | exact H)
    | (unfold zo_sl at H ⊢; split at H <;> first | (split at H <;> first | exact hK _ _ _ _ H | exact H) | exact H)
    | (unfold zo_inc at H ⊢; split at H <;> first | (split at H <;> first | exact hK _ _ _ _ H | exact H) | exact H)
    | (unfold zo_sw at H ⊢; split at H <;> first | exact zsw_mono (fun t => hK _ _ _ _) _ H | exact H)
    | (unfold zo_gf at H ⊢; split at H <;> first | (refine ⟨H.1, ?_⟩; have H2 := H.2; split at H2 <;> first | exact hK _ _ _ _ H2 | exact ⟨H2.choose, H2.choose_spec.1, hK _ _ _ _ H2.choose_spec.2⟩) | exact H)
    | (unfold zo_pf at H ⊢; split at H <;> first | (refine ⟨H.1, ?_⟩; have H2 := H.2; split at H2 <;> first | exact hK _ _ _ _ H2 | exact ⟨H2.1, hK _ _ _ _ H2.2⟩ | exact H2) | exact H)
    | (unfold zo_ild at H ⊢; split at H <;> first | exact ⟨H.1, H.2.1, hK _ _ _ _ H.2.2⟩ | exact H)
    | (unfold zo_ist at H ⊢; split at H <;> first | exact ⟨H.1, H.2.1, hK _ _ _ _ H.2.2⟩ | exact H)
    | (unfold zo_ast at H ⊢; split at H <;> first | exact ⟨H.1, H.2.1, hK _ _ _ _ H.2.2⟩ | exact H)
    | (unfold zo_zst at H ⊢; split at H <;> first | exact ⟨H.1, H.2.1, H.2.2.1, hK _ _ _ _ H.2.2.2⟩ | exact H)
    | (unfold zo_ald at H ⊢; split at H <;> first | exact ⟨H.1, H.2.1, H.2.2.choose, H.2.2.choose_spec.1, hK _ _ _ _ H.2.2.choose_spec.2⟩ | exact H)
    | (unfold zo_new at H ⊢; exact ⟨H.1, H.2.1, H.2.2.1, H.2.2.2.1, hK _ _ _ _ H.2.2.2.2⟩)
    | (unfold zo_newa zo_new at H ⊢; split at H <;> first | exact ⟨H.1, H.2.1, H.2.2.1, H.2.2.2.1, H.2.2.2.2.1, hK _ _ _ _ H.2.2.2.2.2⟩ | exact H)
    | (split at H <;> first
        | exact hK _ _ _ _ H
        | (unfold zo_ild at H ⊢; split at H <;> first | exact ⟨H.1, H.2.1, hK _ _ _ _ H.2.2⟩ | exact H)
        | (unfold zo_sld at H ⊢; split at H <;> first | exact ⟨H.1, H.2.1, hK _ _ _ _ H.2.2⟩ | exact H)
        | (unfold zo_len at H ⊢; split at H <;> first | exact ⟨H.1, hK _ _ _ _ H.2⟩ | exact H)
        | (unfold zo_slen at H ⊢; split at H <;> first | exact ⟨H.1, hK _ _ _ _ H.2⟩ | exact H)
        | (unfold zo_acp at H ⊢; split at H <;> first | exact ⟨H.1, H.2.1, H.2.2.1, H.2.2.2.1, hK _ _ _ _ H.2.2.2.2⟩ | exact H)
        | (unfold zo_mm at H ⊢; split at H <;> first | exact ⟨H.1, hK _ _ _ _ H.2⟩ | exact H)
        | (unfold zo_oi at H ⊢; split at H <;> first | exact ⟨H.1, hK _ _ _ _ H.2⟩ | exact H)
        | (unfold zo_slenS at H ⊢; split at H <;> first | exact ⟨H.1, H.2.1, hK _ _ _ _ H.2.2⟩ | exact H)
        | (unfold zo_satS at H ⊢; split at H <;> first | exact ⟨H.1, H.2.1, H.2.2.1, hK _ _ _ _ H.2.2.2⟩ | exact H)
        | (unfold zo_stat at H ⊢; split at H; exact ⟨H.1, zo_call_mono hK hC H.2⟩)
        | (unfold zo_spec at H ⊢; split at H <;> first | exact ⟨H.1, zo_call_mono hK hC H.2⟩ | exact H)
        | (unfold zo_virt at H ⊢; split at H <;> first | exact ⟨H.choose, H.choose_spec.1, zo_call_mono hK hC H.choose_spec.2⟩ | exact H))
    | (split at H <;> first | (unfold zo_ri at H ⊢; split at H <;> first | exact hQ _ _ H | exact H) | (unfold zo_rz at H ⊢; split at H <;> first | exact ⟨H.1, hQ _ _ H.2⟩ | exact H))
    | (unfold zo_rl at H ⊢; split at H <;> first | exact hQ _ _ H | exact H)
    | (unfold zo_rr at H ⊢; split at H <;> first | exact hQ _ _ H | exact H)
    | (unfold zo_rv at H ⊢; split at H <;> first | exact hQ _ _ H | exact H)
    | exact H
end
end
section
/-! the least runs: how they are entered, left, and gone through to stops -/
theorem zRn_monoQ {C : zCt} {k : Nat} {B : Nat × Nat} {Q Q1 : zQ} (hC : ∀ k mc ms As h Q Q1, (∀ v h, Q v h → Q1 v h) → C k mc ms As h Q → C k mc ms As h Q1) (hQ : ∀ v h, Q v h → Q1 v h) {pc : Nat} {ls : zLv} {st : List zV} {h : zH} (H : zRn C k B Q pc ls st h) : zRn C k B Q1 pc ls st h :=
  fun P hP => H P (fun pc ls st h hs => hP pc ls st h (zstep_mono (fun _ _ _ _ x => x) hQ hC _ pc ls st h hs))
theorem zcl_mono : ∀ (d k mc ms : Nat) (As : List zV) (h : zH) (Q Q1 : zQ), (∀ v h, Q v h → Q1 v h) → zcl d k mc ms As h Q → zcl d k mc ms As h Q1
  | 0, _, _, _, _, _, _, _, _, H => H
  | d + 1, k, mc, ms, As, h, Q, Q1, hQ, H => by
    obtain ⟨h0, h1, e, H⟩ := H
    exact ⟨h0, h1, e, zRn_monoQ (zcl_mono d) (fun v h2 q => ⟨q.1, hQ _ _ q.2⟩) H⟩
theorem zRn_in {C : zCt} (hC : ∀ k mc ms As h Q Q1, (∀ v h, Q v h → Q1 v h) → C k mc ms As h Q → C k mc ms As h Q1) {k : Nat} {B : Nat × Nat} {Q : zQ} {pc : Nat} {ls : zLv} {st : List zV} {h : zH} (H : zstep C B Q (zRn C k B Q) (zF k pc) pc ls st h) : zRn C k B Q pc ls st h :=
  fun P hP => hP pc ls st h (zstep_mono (fun _ _ _ _ x => x P hP) (fun _ _ x => x) hC _ pc ls st h H)
def zmem (p : Nat) : List Nat → Bool
  | [] => false
  | a :: l => match Nat.beq p a with
    | true => true
    | false => zmem p l
/-- at most n steps, to one of the stops -/
def zRs (C : zCt) (k : Nat) (B : Nat × Nat) (Q : zQ) (s : List Nat) : Nat → zK
  | 0 => zRn C k B Q
  | n + 1 => fun pc ls st h => match zmem pc s with
    | true => zRn C k B Q pc ls st h
    | false => zstep C B Q (zRs C k B Q s n) (zF k pc) pc ls st h
theorem zRs_in {C : zCt} (hC : ∀ k mc ms As h Q Q1, (∀ v h, Q v h → Q1 v h) → C k mc ms As h Q → C k mc ms As h Q1) {k : Nat} {B : Nat × Nat} {Q : zQ} (s : List Nat) : ∀ (n : Nat) (pc : Nat) (ls : zLv) (st : List zV) (h : zH), zRs C k B Q s n pc ls st h → zRn C k B Q pc ls st h
  | 0, _, _, _, _, H => H
  | n + 1, pc, ls, st, h, H => by
    unfold zRs at H
    cases hm : zmem pc s with
    | true => rw [hm] at H; exact H
    | false =>
      rw [hm] at H
      exact zRn_in hC (zstep_mono (zRs_in hC s n) (fun _ _ x => x) hC _ _ _ _ _ H)
/-- the first step, then at most n more to a stop -/
theorem zgo (s : List Nat) (n : Nat) {d k : Nat} {B : Nat × Nat} {Q : zQ} {pc : Nat} {ls : zLv} {st : List zV} {h : zH} (H : zstep (zcl d) B Q (zRs (zcl d) k B Q s n) (zF k pc) pc ls st h) : zRn (zcl d) k B Q pc ls st h :=
  zRn_in (zcl_mono d) (zstep_mono (zRs_in (zcl_mono d) s n) (fun _ _ x => x) (zcl_mono d) _ _ _ _ _ H)
theorem zEq.rf (h : zH) : zEq h h := ⟨rfl, fun _ _ _ => rfl, fun _ _ _ _ => rfl⟩
/-- a method is entered -/
theorem zent {d k mc ms : Nat} {As : List zV} {h : zH} {Q : zQ} {ls : zLv} (hl : zens (zL k) As = ls) (hz : zcs As ≤ zL k) (H : zRn (zcl d) k (h.1.1 + mc, h.1.2.1 + ms) (fun v h2 => h2.1 = (h.1.1 + mc, h.1.2.1 + ms, h.1.2.2) ∧ Q v h2) 0 ls [] h) : zcl (d + 1) k mc ms As h Q := ⟨hz, h, zEq.rf h, by rw [hl]; exact H⟩
theorem zcl_eq {d k mc ms : Nat} {As : List zV} {h h1 : zH} {Q : zQ} (e : zEq h h1) (H : zcl d k mc ms As h1 Q) : zcl d k mc ms As h Q := by
  cases d with
  | zero => exact H
  | succ d =>
    obtain ⟨h0, h2, e2, H⟩ := H
    refine ⟨h0, h2, ⟨e.1.trans e2.1, fun x hx j => ?_, fun x hx j hj => ?_⟩, ?_⟩
    · rw [e.2.1 x hx j]; exact e2.2.1 x (by rw [← e.1]; exact hx) j
    · rw [e.2.2 x hx j hj]; exact e2.2.2 x (by rw [← e.1]; exact hx) j hj
    · rw [e.1]; exact H
end
section
/-! Int in its range, and Int32, Int64 -/
abbrev zIn (x : Int) : Prop := -2147483648 ≤ x ∧ x ≤ 2147483647
abbrev zIm (x : Int) : Prop := -9223372036854775808 ≤ x ∧ x ≤ 9223372036854775807
abbrev zo (x : Int) : Int32 := Int32.ofInt x
abbrev zp (x : Int) : Int64 := Int64.ofInt x
theorem zwr_in (x : Int) : zIn (zwr x) := by unfold zwr; omega
theorem zwl_in (x : Int) : zIm (zwl x) := by unfold zwl; omega
theorem zwr_eq {x : Int} (h : zIn x) : zwr x = x := by unfold zwr; omega
theorem zwl_eq {x : Int} (h : zIm x) : zwl x = x := by unfold zwl; omega
theorem zto {x : Int} (h : zIn x) : (zo x).toInt = x := Int32.toInt_ofInt_of_le (by omega) (by omega)
theorem ztp {x : Int} (h : zIm x) : (zp x).toInt = x := Int64.toInt_ofInt_of_le (by omega) (by omega)
theorem ztI (x : Int32) : zIn x.toInt := ⟨by have := x.le_toInt; omega, by have := x.toInt_lt; omega⟩
theorem ztM (x : Int64) : zIm x.toInt := ⟨by have := x.le_toInt; omega, by have := x.toInt_lt; omega⟩
theorem zoI (x : Int32) : zo x.toInt = x := Int32.ofInt_toInt x
theorem zo_wr (x : Int) : zo (zwr x) = zo x := by
  apply Int32.toInt_inj.mp
  rw [zto (zwr_in x), Int32.toInt_ofInt]
  show zwr x = x.bmod 4294967296
  unfold zwr Int.bmod
  simp only [show ((4294967296 : Nat) : Int) = 4294967296 from rfl]
  split <;> omega
theorem zp_wl (x : Int) : zp (zwl x) = zp x := by
  apply Int64.toInt_inj.mp
  rw [ztp (zwl_in x), Int64.toInt_ofInt]
  show zwl x = x.bmod 18446744073709551616
  unfold zwl Int.bmod
  simp only [show ((18446744073709551616 : Nat) : Int) = 18446744073709551616 from rfl]
  split <;> omega
theorem zo_inj {x y : Int} (hx : zIn x) (hy : zIn y) : zo x = zo y ↔ x = y := ⟨fun h => by rw [← zto hx, ← zto hy, h], fun h => by rw [h]⟩
theorem zo_le {x y : Int} (hx : zIn x) (hy : zIn y) : zo x ≤ zo y ↔ x ≤ y := by rw [Int32.le_iff_toInt_le, zto hx, zto hy]
theorem zo_lt {x y : Int} (hx : zIn x) (hy : zIn y) : zo x < zo y ↔ x < y := by rw [Int32.lt_iff_toInt_lt, zto hx, zto hy]
theorem zp_inj {x y : Int} (hx : zIm x) (hy : zIm y) : zp x = zp y ↔ x = y := ⟨fun h => by rw [← ztp hx, ← ztp hy, h], fun h => by rw [h]⟩
theorem zp_lt {x y : Int} (hx : zIm x) (hy : zIm y) : zp x < zp y ↔ x < y := by rw [Int64.lt_iff_toInt_lt, ztp hx, ztp hy]
theorem zo_0 : zo 0 = 0 := rfl
theorem zp_0 : zp 0 = 0 := rfl
theorem zIn0 : zIn 0 := by omega
theorem zIm0 : zIm 0 := by omega
theorem zo_add (x y : Int) : zo (zwr (x + y)) = zo x + zo y := by rw [zo_wr]; exact Int32.ofInt_add x y
theorem zo_sub (x y : Int) : zo (zwr (x - y)) = zo x - zo y := by rw [zo_wr]; exact Int32.ofInt_sub x y
theorem zo_mul (x y : Int) : zo (zwr (x * y)) = zo x * zo y := by rw [zo_wr]; exact Int32.ofInt_mul x y
theorem zo_neg (x : Int) : zo (zwr (-x)) = -zo x := by rw [zo_wr]; exact Int32.ofInt_neg x
theorem zp_add (x y : Int) : zp (zwl (x + y)) = zp x + zp y := by rw [zp_wl]; exact Int64.ofInt_add x y
theorem zp_sub (x y : Int) : zp (zwl (x - y)) = zp x - zp y := by rw [zp_wl]; exact Int64.ofInt_sub x y
theorem zp_mul (x y : Int) : zp (zwl (x * y)) = zp x * zp y := by rw [zp_wl]; exact Int64.ofInt_mul x y
theorem zo_div {x y : Int} (hx : zIn x) (hy : zIn y) : zo (zwr (x.tdiv y)) = zo x / zo y := by
  apply Int32.toInt_inj.mp
  rw [zo_wr, Int32.toInt_div, zto hx, zto hy, Int32.toInt_ofInt]
theorem zp_div {x y : Int} (hx : zIm x) (hy : zIm y) : zp (zwl (x.tdiv y)) = zp x / zp y := by
  apply Int64.toInt_inj.mp
  rw [zp_wl, Int64.toInt_div, ztp hx, ztp hy, Int64.toInt_ofInt]
theorem zo_rem {x y : Int} (hx : zIn x) (hy : zIn y) : zo (zwr (x.tmod y)) = zo x - zo x / zo y * zo y := by
  rw [← zo_div hx hy, ← zo_mul, ← zo_sub, zo_wr, zo_wr]
  apply Int32.toInt_inj.mp
  rw [Int32.toInt_ofInt, Int32.toInt_ofInt]
  have e : ∀ a b : Int, (x - zwr (zwr a * b)).bmod 4294967296 = (x - a * b).bmod 4294967296 := by
    intro a b
    have h1 : ∃ k : Int, zwr a = a + 4294967296 * k := ⟨-((a + 2147483648) / 4294967296), by unfold zwr; omega⟩
    obtain ⟨k, hk⟩ := h1
    have h2 : ∃ j : Int, zwr (zwr a * b) = zwr a * b + 4294967296 * j := ⟨-((zwr a * b + 2147483648) / 4294967296), by unfold zwr; omega⟩
    obtain ⟨j, hj⟩ := h2
    rw [hj, hk, Int.add_mul, show x - (a * b + 4294967296 * k * b + 4294967296 * j) = x - a * b + 4294967296 * (-(k * b) - j) by rw [Int.mul_sub, Int.mul_neg, Int.mul_assoc]; omega]
    exact Int.add_mul_bmod_self_left ..
  show (x.tmod y).bmod 4294967296 = (x - zwr (zwr (x.tdiv y) * y)).bmod 4294967296
  rw [e, Int.tmod_def, Int.mul_comm y]
theorem zp_rem {x y : Int} (hx : zIm x) (hy : zIm y) : zp (zwl (x.tmod y)) = zp x - zp x / zp y * zp y := by
  rw [← zp_div hx hy, ← zp_mul, ← zp_sub, zp_wl, zp_wl]
  apply Int64.toInt_inj.mp
  rw [Int64.toInt_ofInt, Int64.toInt_ofInt]
  have e : ∀ a b : Int, (x - zwl (zwl a * b)).bmod 18446744073709551616 = (x - a * b).bmod 18446744073709551616 := by
    intro a b
    have h1 : ∃ k : Int, zwl a = a + 18446744073709551616 * k := ⟨-((a + 9223372036854775808) / 18446744073709551616), by unfold zwl; omega⟩
    obtain ⟨k, hk⟩ := h1
    have h2 : ∃ j : Int, zwl (zwl a * b) = zwl a * b + 18446744073709551616 * j := ⟨-((zwl a * b + 9223372036854775808) / 18446744073709551616), by unfold zwl; omega⟩
    obtain ⟨j, hj⟩ := h2
    rw [hj, hk, Int.add_mul, show x - (a * b + 18446744073709551616 * k * b + 18446744073709551616 * j) = x - a * b + 18446744073709551616 * (-(k * b) - j) by rw [Int.mul_sub, Int.mul_neg, Int.mul_assoc]; omega]
    exact Int.add_mul_bmod_self_left ..
  show (x.tmod y).bmod 18446744073709551616 = (x - zwl (zwl (x.tdiv y) * y)).bmod 18446744073709551616
  rw [e, Int.tmod_def, Int.mul_comm y]
theorem zn_i2l {x : Int} (h : zIn x) : (zo x).toInt64 = zp x := by
  apply Int64.toInt_inj.mp
  rw [Int32.toInt_toInt64, zto h, ztp (by omega)]
theorem zn_l2i {x : Int} (h : zIm x) : (zp x).toInt32 = zo (zwr x) := by
  apply Int32.toInt_inj.mp
  rw [zo_wr, Int64.toInt_toInt32, ztp h, Int32.toInt_ofInt]
theorem zIn_m {x : Int} (h : zIn x) : zIm x := by omega
/-- an index -/
theorem zix {i : Int} {n : Nat} (h : 0 ≤ i ∧ i < (n : Int)) (hi : zIn i) : vp_in (zo i) n ∧ (zo i).toNatClampNeg = i.toNat := by
  have e : (zo i).toNatClampNeg = i.toNat := by
    show (zo i).toInt.toNat = _
    rw [zto hi]
  refine ⟨?_, e⟩
  unfold vp_in
  rw [e]
  rintro (h1 | h1)
  · have := (zo_lt hi zIn0).mp h1
    omega
  · omega
theorem zn_cl {i : Int} (hi : zIn i) : (zo i).toNatClampNeg = i.toNat := by
  show (zo i).toInt.toNat = _
  rw [zto hi]
theorem zcmp_lg {x y : Int} (hx : zIm x) (hy : zIm y) : lg_cmp (zp x) (zp y) = zo (zcmp x y) := by
  unfold lg_cmp zcmp
  have h1 : (zp x > zp y) ↔ y < x := zp_lt hy hx
  have h2 : (zp x = zp y) ↔ x = y := zp_inj hx hy
  by_cases a : y < x
  · rw [if_pos (h1.mpr a), if_neg (by omega), if_neg (by omega)]; rfl
  · rw [if_neg (fun q => a (h1.mp q))]
    by_cases b : x = y
    · rw [if_pos (h2.mpr b), if_neg (by omega), if_pos b]; rfl
    · rw [if_neg (fun q => b (h2.mp q)), if_pos (by omega)]; rfl
end
section
/-! the layouts' words and the shapes' facts; written by wip/whole/gen6.py -/
theorem zWS0 : ∀ w ∈ u_ws (zR 0) (zT 0) (zNF 0), w ∈ zGL := by
  intro w h
  obtain ⟨k, hk, rfl⟩ := List.mem_map.mp h
  have hk : k < 7 := List.mem_range.mp hk
  match k, hk with
  | 0, _ => exact zg1 89 (by decide +kernel) (by decide +kernel)
  | 1, _ => exact zg1 91 (by decide +kernel) (by decide +kernel)
  | 2, _ => exact zg1 93 (by decide +kernel) (by decide +kernel)
  | 3, _ => exact zg1 95 (by decide +kernel) (by decide +kernel)
  | 4, _ => exact zg1 97 (by decide +kernel) (by decide +kernel)
  | 5, _ => exact zg1 99 (by decide +kernel) (by decide +kernel)
  | 6, _ => exact zg1 101 (by decide +kernel) (by decide +kernel)
  | k + 7, h => exact absurd h (by omega)
theorem zWS1 : ∀ w ∈ u_ws (zR 1) (zT 1) (zNF 1), w ∈ zGL := by
  intro w h
  exact absurd h (by simp [u_ws, zNF, zgt])
theorem zWS2 : ∀ w ∈ u_ws (zR 2) (zT 2) (zNF 2), w ∈ zGL := by
  intro w h
  exact absurd h (by simp [u_ws, zNF, zgt])
theorem zWS3 : ∀ w ∈ u_ws (zR 3) (zT 3) (zNF 3), w ∈ zGL := by
  intro w h
  exact absurd h (by simp [u_ws, zNF, zgt])
theorem zWS4 : ∀ w ∈ u_ws (zR 4) (zT 4) (zNF 4), w ∈ zGL := by
  intro w h
  exact absurd h (by simp [u_ws, zNF, zgt])
theorem zWS5 : ∀ w ∈ u_ws (zR 5) (zT 5) (zNF 5), w ∈ zGL := by
  intro w h
  obtain ⟨k, hk, rfl⟩ := List.mem_map.mp h
  have hk : k < 5 := List.mem_range.mp hk
  match k, hk with
  | 0, _ => exact zg1 63 (by decide +kernel) (by decide +kernel)
  | 1, _ => exact zg1 65 (by decide +kernel) (by decide +kernel)
  | 2, _ => exact zg1 67 (by decide +kernel) (by decide +kernel)
  | 3, _ => exact zg1 69 (by decide +kernel) (by decide +kernel)
  | 4, _ => exact zg1 71 (by decide +kernel) (by decide +kernel)
  | k + 5, h => exact absurd h (by omega)
theorem zWS6 : ∀ w ∈ u_ws (zR 6) (zT 6) (zNF 6), w ∈ zGL := by
  intro w h
  exact absurd h (by simp [u_ws, zNF, zgt])
theorem zWS7 : ∀ w ∈ u_ws (zR 7) (zT 7) (zNF 7), w ∈ zGL := by
  intro w h
  obtain ⟨k, hk, rfl⟩ := List.mem_map.mp h
  have hk : k < 10 := List.mem_range.mp hk
  match k, hk with
  | 0, _ => exact zg1 201 (by decide +kernel) (by decide +kernel)
  | 1, _ => exact zg1 203 (by decide +kernel) (by decide +kernel)
  | 2, _ => exact zg1 205 (by decide +kernel) (by decide +kernel)
  | 3, _ => exact zg1 207 (by decide +kernel) (by decide +kernel)
  | 4, _ => exact zg1 209 (by decide +kernel) (by decide +kernel)
  | 5, _ => exact zg1 211 (by decide +kernel) (by decide +kernel)
  | 6, _ => exact zg1 213 (by decide +kernel) (by decide +kernel)
  | 7, _ => exact zg1 215 (by decide +kernel) (by decide +kernel)
  | 8, _ => exact zg1 217 (by decide +kernel) (by decide +kernel)
  | 9, _ => exact zg1 219 (by decide +kernel) (by decide +kernel)
  | k + 10, h => exact absurd h (by omega)
theorem zWS8 : ∀ w ∈ u_ws (zR 8) (zT 8) (zNF 8), w ∈ zGL := by
  intro w h
  obtain ⟨k, hk, rfl⟩ := List.mem_map.mp h
  have hk : k < 3 := List.mem_range.mp hk
  match k, hk with
  | 0, _ => exact zg1 160 (by decide +kernel) (by decide +kernel)
  | 1, _ => exact zg1 162 (by decide +kernel) (by decide +kernel)
  | 2, _ => exact zg1 164 (by decide +kernel) (by decide +kernel)
  | k + 3, h => exact absurd h (by omega)
theorem zWS9 : ∀ w ∈ u_ws (zR 9) (zT 9) (zNF 9), w ∈ zGL := by
  intro w h
  exact absurd h (by simp [u_ws, zNF, zgt])
theorem zWS10 : ∀ w ∈ u_ws (zR 10) (zT 10) (zNF 10), w ∈ zGL := by
  intro w h
  obtain ⟨k, hk, rfl⟩ := List.mem_map.mp h
  have hk : k < 3 := List.mem_range.mp hk
  match k, hk with
  | 0, _ => exact zg1 177 (by decide +kernel) (by decide +kernel)
  | 1, _ => exact zg1 179 (by decide +kernel) (by decide +kernel)
  | 2, _ => exact zg1 181 (by decide +kernel) (by decide +kernel)
  | k + 3, h => exact absurd h (by omega)
theorem zWS11 : ∀ w ∈ u_ws (zR 11) (zT 11) (zNF 11), w ∈ zGL := by
  intro w h
  obtain ⟨k, hk, rfl⟩ := List.mem_map.mp h
  have hk : k < 13 := List.mem_range.mp hk
  match k, hk with
  | 0, _ => exact zg2 152 (by decide +kernel) (by decide +kernel)
  | 1, _ => exact zg2 154 (by decide +kernel) (by decide +kernel)
  | 2, _ => exact zg2 156 (by decide +kernel) (by decide +kernel)
  | 3, _ => exact zg2 158 (by decide +kernel) (by decide +kernel)
  | 4, _ => exact zg2 160 (by decide +kernel) (by decide +kernel)
  | 5, _ => exact zg2 162 (by decide +kernel) (by decide +kernel)
  | 6, _ => exact zg2 164 (by decide +kernel) (by decide +kernel)
  | 7, _ => exact zg2 166 (by decide +kernel) (by decide +kernel)
  | 8, _ => exact zg2 168 (by decide +kernel) (by decide +kernel)
  | 9, _ => exact zg2 170 (by decide +kernel) (by decide +kernel)
  | 10, _ => exact zg2 172 (by decide +kernel) (by decide +kernel)
  | 11, _ => exact zg2 174 (by decide +kernel) (by decide +kernel)
  | 12, _ => exact zg2 176 (by decide +kernel) (by decide +kernel)
  | k + 13, h => exact absurd h (by omega)
theorem zWS12 : ∀ w ∈ u_ws (zR 12) (zT 12) (zNF 12), w ∈ zGL := by
  intro w h
  obtain ⟨k, hk, rfl⟩ := List.mem_map.mp h
  have hk : k < 45 := List.mem_range.mp hk
  match k, hk with
  | 0, _ => exact zg4 146 (by decide +kernel) (by decide +kernel)
  | 1, _ => exact zg4 148 (by decide +kernel) (by decide +kernel)
  | 2, _ => exact zg4 150 (by decide +kernel) (by decide +kernel)
  | 3, _ => exact zg4 152 (by decide +kernel) (by decide +kernel)
  | 4, _ => exact zg4 154 (by decide +kernel) (by decide +kernel)
  | 5, _ => exact zg4 156 (by decide +kernel) (by decide +kernel)
  | 6, _ => exact zg4 158 (by decide +kernel) (by decide +kernel)
  | 7, _ => exact zg4 160 (by decide +kernel) (by decide +kernel)
  | 8, _ => exact zg4 162 (by decide +kernel) (by decide +kernel)
  | 9, _ => exact zg4 164 (by decide +kernel) (by decide +kernel)
  | 10, _ => exact zg4 166 (by decide +kernel) (by decide +kernel)
  | 11, _ => exact zg4 168 (by decide +kernel) (by decide +kernel)
  | 12, _ => exact zg4 170 (by decide +kernel) (by decide +kernel)
  | 13, _ => exact zg4 172 (by decide +kernel) (by decide +kernel)
  | 14, _ => exact zg4 174 (by decide +kernel) (by decide +kernel)
  | 15, _ => exact zg4 176 (by decide +kernel) (by decide +kernel)
  | 16, _ => exact zg4 178 (by decide +kernel) (by decide +kernel)
  | 17, _ => exact zg4 180 (by decide +kernel) (by decide +kernel)
  | 18, _ => exact zg4 182 (by decide +kernel) (by decide +kernel)
  | 19, _ => exact zg4 184 (by decide +kernel) (by decide +kernel)
  | 20, _ => exact zg4 186 (by decide +kernel) (by decide +kernel)
  | 21, _ => exact zg4 188 (by decide +kernel) (by decide +kernel)
  | 22, _ => exact zg4 190 (by decide +kernel) (by decide +kernel)
  | 23, _ => exact zg4 192 (by decide +kernel) (by decide +kernel)
  | 24, _ => exact zg4 194 (by decide +kernel) (by decide +kernel)
  | 25, _ => exact zg4 196 (by decide +kernel) (by decide +kernel)
  | 26, _ => exact zg4 198 (by decide +kernel) (by decide +kernel)
  | 27, _ => exact zg4 200 (by decide +kernel) (by decide +kernel)
  | 28, _ => exact zg4 202 (by decide +kernel) (by decide +kernel)
  | 29, _ => exact zg4 204 (by decide +kernel) (by decide +kernel)
  | 30, _ => exact zg4 206 (by decide +kernel) (by decide +kernel)
  | 31, _ => exact zg4 208 (by decide +kernel) (by decide +kernel)
  | 32, _ => exact zg4 210 (by decide +kernel) (by decide +kernel)
  | 33, _ => exact zg4 212 (by decide +kernel) (by decide +kernel)
  | 34, _ => exact zg4 214 (by decide +kernel) (by decide +kernel)
  | 35, _ => exact zg4 216 (by decide +kernel) (by decide +kernel)
  | 36, _ => exact zg4 218 (by decide +kernel) (by decide +kernel)
  | 37, _ => exact zg4 220 (by decide +kernel) (by decide +kernel)
  | 38, _ => exact zg4 222 (by decide +kernel) (by decide +kernel)
  | 39, _ => exact zg4 224 (by decide +kernel) (by decide +kernel)
  | 40, _ => exact zg4 226 (by decide +kernel) (by decide +kernel)
  | 41, _ => exact zg4 228 (by decide +kernel) (by decide +kernel)
  | 42, _ => exact zg4 230 (by decide +kernel) (by decide +kernel)
  | 43, _ => exact zg4 232 (by decide +kernel) (by decide +kernel)
  | 44, _ => exact zg4 234 (by decide +kernel) (by decide +kernel)
  | k + 45, h => exact absurd h (by omega)
theorem zWS_ok : ∀ c, c < 13 → ∀ w ∈ u_ws (zR c) (zT c) (zNF c), w ∈ zGL
  | 0, _ => zWS0
  | 1, _ => zWS1
  | 2, _ => zWS2
  | 3, _ => zWS3
  | 4, _ => zWS4
  | 5, _ => zWS5
  | 6, _ => zWS6
  | 7, _ => zWS7
  | 8, _ => zWS8
  | 9, _ => zWS9
  | 10, _ => zWS10
  | 11, _ => zWS11
  | 12, _ => zWS12
  | c + 13, h => absurd h (by omega)
theorem zty_ok : ∀ c, c < 13 → ∀ k, k < zNF c → parseFieldDescriptor (zT c k).2.2.1 = some (zTy c k)
  | 0, _ => tyX0_ok
  | 1, _ => tyX1_ok
  | 2, _ => tyX2_ok
  | 3, _ => tyX3_ok
  | 4, _ => tyX4_ok
  | 5, _ => tyX5_ok
  | 6, _ => tyX6_ok
  | 7, _ => tyX7_ok
  | 8, _ => tyX8_ok
  | 9, _ => tyX9_ok
  | 10, _ => tyX10_ok
  | 11, _ => tyX11_ok
  | 12, _ => tyX12_ok
  | c + 13, h => absurd h (by omega)
theorem znm_ok : ∀ c, c < 13 → ∀ a, a < zNF c → ∀ b, b < zNF c → a ≠ b → (zT c a).2.1 ≠ (zT c b).2.1
  | 0, _ => nmX0
  | 1, _ => nmX1
  | 2, _ => nmX2
  | 3, _ => nmX3
  | 4, _ => nmX4
  | 5, _ => nmX5
  | 6, _ => nmX6
  | 7, _ => nmX7
  | 8, _ => nmX8
  | 9, _ => nmX9
  | 10, _ => nmX10
  | 11, _ => nmX11
  | 12, _ => nmX12
  | c + 13, h => absurd h (by omega)
theorem zcl_ok : ∀ c, c < 13 → vwCl[c]? = some (zR c, zT c, zNF c)
  | 0, _ => rfl
  | 1, _ => rfl
  | 2, _ => rfl
  | 3, _ => rfl
  | 4, _ => rfl
  | 5, _ => rfl
  | 6, _ => rfl
  | 7, _ => rfl
  | 8, _ => rfl
  | 9, _ => rfl
  | 10, _ => rfl
  | 11, _ => rfl
  | 12, _ => rfl
  | c + 13, h => absurd h (by omega)
def zKc (k : Nat) (t : FieldType) : Bool := match k, t with
  | 0, .int => true
  | 1, .long => true
  | 3, .boolean => true
  | 2, .object _ => true
  | 2, .array _ => true
  | _, _ => false
theorem zKc_all : (List.range 13).all (fun c => (List.range (zNF c)).all (fun k => zKc (zKd c k) (zTy c k))) = true := by decide +kernel
theorem zKc_ok {c k : Nat} (hc : c < 13) (hk : k < zNF c) : zKc (zKd c k) (zTy c k) = true :=
  List.all_eq_true.mp (List.all_eq_true.mp zKc_all c (List.mem_range.mpr hc)) k (List.mem_range.mpr hk)
theorem zSh_big {x : Nat} (h : 81 ≤ x) : zSh x = (999, 0) := by
  unfold zSh
  by_cases h6 : 6 ≤ x / 16
  · rw [zgt_big [] zSs (x / 16) (by show zSs.length ≤ _; have : zSs.length = 6 := by decide +kernel
                                    omega)]
    rfl
  · have h5 : x / 16 = 5 := by omega
    rw [h5]
    show zgt (999, 0) [(100, 160)] (x % 16) = _
    exact zgt_big _ _ _ (by simp; omega)
theorem zSh_all : (List.range 81).all (fun x => (Nat.blt 99 (zSh x).1 && Nat.blt (zSh x).1 106) || (Nat.blt (zSh x).1 13 && Nat.beq (zSh x).2 (zNF (zSh x).1))) = true := by decide +kernel
theorem zSh_ok {x : Nat} (h : x < 81) : (100 ≤ (zSh x).1 ∧ (zSh x).1 ≤ 105) ∨ ((zSh x).1 < 13 ∧ (zSh x).2 = zNF (zSh x).1) := by
  have := List.all_eq_true.mp zSh_all x (List.mem_range.mpr h)
  simp only [Bool.or_eq_true, Bool.and_eq_true, Nat.blt_eq, Nat.beq_eq] at this
  omega
theorem zSh_lt {x : Nat} (h : (zSh x).1 ≠ 999) : x < 81 := by
  by_cases q : x < 81
  · exact q
  · rw [zSh_big (by omega)] at h
    exact absurd rfl h
theorem zSh_len2 : (List.range 81).all (fun x => Nat.blt (zSh x).2 2000) = true := by decide +kernel
theorem zSh_small (x : Nat) : (zSh x).2 < 2000 := by
  by_cases q : x < 81
  · have := List.all_eq_true.mp zSh_len2 x (List.mem_range.mpr q)
    simpa using this
  · rw [zSh_big (by omega)]
    decide
end
section
/-! how a logical state lies in the machine's -/
def zEv (ad : Nat → Nat) : zV → Value
  | .inl x => .int (zo x)
  | .inr (.inl x) => .long (zp x)
  | .inr (.inr r) => va_rf (r.map ad)
def zVd (N : Nat) : zV → Prop
  | .inl x => zIn x
  | .inr (.inl x) => zIm x
  | .inr (.inr r) => ∀ y, r = some y → y < N ∨ 1000 ≤ y
def zFv (ad : Nat → Nat) (h : zH) (x c j : Nat) : Value := match zKd c j with
  | 1 => .long (zp (h.2.1 x j))
  | 2 => va_rf ((h.2.2 x j).map ad)
  | _ => .int (zo (h.2.1 x j))
def zCe (dA : Nat → ClassId) (ad : Nat → Nat) (h : zH) (x : Nat) : va_E := match Nat.blt (zSh x).1 100 with
  | true => .inr ((zSh x).1, (List.range (zSh x).2).map (zFv ad h x (zSh x).1))
  | false => match Nat.blt (zSh x).1 102 with
    | true => .inl (dA ((zSh x).1 - 100), (zSh x).2, .inl (fun j => zo (h.2.1 x j)))
    | false => .inl (dA ((zSh x).1 - 100), (zSh x).2, .inr (.inr (.inr (.inr (fun j => if j < (zSh x).2 then (h.2.2 x j).map ad else none)))))
def zWs (dA : Nat → ClassId) (ad : Nat → Nat) (h : zH) : va_W := (List.range h.1.1).map (fun x => (ad x, zCe dA ad h x))
def zTys (dA : Nat → ClassId) : List (ClassId × FieldType) := (List.range 6).map (fun t => (dA t, zgt .int zTyL t))
theorem zTys_at (dA : Nat → ClassId) {t : Nat} (h : t < 6) : (zTys dA)[t]? = some (dA t, zgt .int zTyL t) := by simp [zTys, h]
theorem zWs_at (dA : Nat → ClassId) (ad : Nat → Nat) {h : zH} {x : Nat} (hx : x < h.1.1) : (zWs dA ad h)[x]? = some (ad x, zCe dA ad h x) := by simp [zWs, hx]
theorem zWs_set (dA : Nat → ClassId) (ad : Nat → Nat) {h h1 : zH} {x : Nat} (hN : h1.1.1 = h.1.1) (he : ∀ y, y ≠ x → zCe dA ad h1 y = zCe dA ad h y) : (zWs dA ad h).set x (ad x, zCe dA ad h1 x) = zWs dA ad h1 := by
  apply List.ext_getElem?
  intro i
  rw [List.getElem?_set]
  simp only [zWs, List.getElem?_map, List.length_map, List.length_range, hN]
  by_cases hi : i < h.1.1
  · rw [List.getElem?_range hi]
    by_cases e : x = i
    · subst e
      rw [if_pos rfl, if_pos hi]
      rfl
    · rw [if_neg e]
      simp only [Option.map_some]
      rw [he i (fun q => e q.symm)]
  · have hn : (List.range h.1.1)[i]? = none := by simp; omega
    rw [hn]
    by_cases e : x = i
    · subst e
      rw [if_pos rfl, if_neg hi]
      rfl
    · rw [if_neg e]
      rfl
theorem zmap_set {α : Type} {f g : Nat → α} {n j : Nat} {v : α} (hv : g j = v) (hne : ∀ i, i ≠ j → g i = f i) : ((List.range n).map f).set j v = (List.range n).map g := by
  apply List.ext_getElem?
  intro i
  rw [List.getElem?_set]
  simp only [List.getElem?_map, List.length_map, List.length_range]
  by_cases hi : i < n
  · rw [List.getElem?_range hi]
    by_cases e : j = i
    · subst e
      rw [if_pos rfl, if_pos hi, ← hv]
      rfl
    · rw [if_neg e]
      simp only [Option.map_some]
      rw [hne i (fun q => e q.symm)]
  · have hn : (List.range n)[i]? = none := by simp; omega
    rw [hn]
    by_cases e : j = i
    · subst e
      rw [if_pos rfl, if_neg hi]
      rfl
    · rw [if_neg e]
      rfl
/-- a long's place -/
def zIl (x j : Nat) : Bool := Nat.blt (zSh x).1 100 && Nat.beq (zKd (zSh x).1 j) 1
def zVal (h : zH) : Prop := h.1.1 ≤ 1000 ∧ (∀ x, x < h.1.1 → ∀ j, match zIl x j with | true => zIm (h.2.1 x j) | false => zIn (h.2.1 x j)) ∧ ∀ x, x < h.1.1 → ∀ j, j < (zSh x).2 → ∀ y, h.2.2 x j = some y → y < h.1.1 ∨ 1000 ≤ y
/-- the locals -/
def zLo (ad : Nat → Nat) (N nL : Nat) (ls : zLv) (A : Array Slot) : Prop := A.size = nL ∧ lv_wf A ∧ ∀ (i : Nat) (v : zV), zgt none ls i = some v → zVd N v ∧ A[i]? = some (.val (zEv ad v))
theorem zEv_cat1 {ad : Nat → Nat} (v : zV) (h : ∀ x, v ≠ .inr (.inl x)) : (zEv ad v).category = 1 := by
  rcases v with x | x | r
  · rfl
  · exact absurd rfl (h x)
  · cases r <;> rfl
theorem zgt_su {α : Type} (d : α) : ∀ (l : List α) (i j : Nat) (v : α), zgt d (zsu l i v) j = if j = i ∧ i < l.length then v else zgt d l j
  | [], _, _, _ => by simp [zsu, zgt]
  | a :: l, 0, 0, v => by simp [zsu, zgt]
  | a :: l, 0, j + 1, v => by simp [zsu, zgt]
  | a :: l, i + 1, 0, v => by simp [zsu, zgt]
  | a :: l, i + 1, j + 1, v => by
    show zgt d (zsu l i v) j = _
    rw [zgt_su d l i j v]
    show _ = if j + 1 = i + 1 ∧ i + 1 < (a :: l).length then v else zgt d l j
    simp
theorem zLo.list {ad : Nat → Nat} {N nL : Nat} {ls : zLv} {A : Array Slot} (h : zLo ad N nL ls A) : lv_has A nL ((List.range ls.length).filterMap (fun i => (zgt none ls i).map (fun v => (i, zEv ad v)))) := by
  refine ⟨h.1, h.2.1, fun q hq => ?_⟩
  obtain ⟨i, -, hi⟩ := List.mem_filterMap.mp hq
  cases hv : zgt none ls i with
  | none => rw [hv] at hi; cases hi
  | some v =>
    rw [hv] at hi
    cases hi
    exact (h.2.2 i v hv).2
theorem zgt_lt {ls : zLv} {i : Nat} {v : zV} (h : zgt none ls i = some v) : i < ls.length := by
  by_cases q : i < ls.length
  · exact q
  · rw [zgt_big none ls i (by omega)] at h
    cases h
theorem zLo.st1 {ad : Nat → Nat} {N nL i : Nat} {ls : zLv} {A A' : Array Slot} {v : zV} (h : zLo ad N nL ls A) (hg : zlg ls i = false) (hvd : zVd N v)
    (hA : lv_has A' nL ((i, zEv ad v) :: ((List.range ls.length).filterMap (fun i => (zgt none ls i).map (fun v => (i, zEv ad v)))).filter (fun q => !(q.1 == i) && !(q.1 + 1 == i && q.2.category == 2)))) : zLo ad N nL (zsu ls i (some v)) A' := by
  refine ⟨hA.1, hA.2.1, fun j w hj => ?_⟩
  rw [zgt_su] at hj
  by_cases hji : j = i ∧ i < ls.length
  · rw [if_pos hji] at hj
    cases hj
    obtain ⟨rfl, -⟩ := hji
    exact ⟨hvd, hA.2.2 _ List.mem_cons_self⟩
  · rw [if_neg hji] at hj
    have hl := zgt_lt hj
    have hne : j ≠ i := fun e => hji ⟨e, e ▸ hl⟩
    refine ⟨(h.2.2 j w hj).1, hA.2.2 (j, zEv ad w) (List.mem_cons_of_mem _ (List.mem_filter.mpr ⟨List.mem_filterMap.mpr ⟨j, List.mem_range.mpr hl, by rw [hj]; rfl⟩, ?_⟩))⟩
    have h2 : ¬ (j + 1 = i ∧ (zEv ad w).category = 2) := by
      rintro ⟨rfl, hc⟩
      rcases w with x | x | r
      · simp [zEv, Value.category] at hc
      · simp only [zlg, hj] at hg
        cases hg
      · cases r <;> simp [zEv, va_rf, Value.category] at hc
    simp only [Bool.and_eq_true, Bool.not_eq_true', beq_eq_false_iff_ne, ne_eq, Bool.and_eq_false_iff]
    refine ⟨hne, ?_⟩
    by_cases e : j + 1 = i
    · exact Or.inr (fun q => h2 ⟨e, q⟩)
    · exact Or.inl e
theorem zLo.st2 {ad : Nat → Nat} {N nL i : Nat} {ls : zLv} {A A' : Array Slot} {x : Int} (h : zLo ad N nL ls A) (hg : zlg ls i = false) (hvd : zIm x)
    (hA : lv_has A' nL ((i, zEv ad (.inr (.inl x))) :: ((List.range ls.length).filterMap (fun i => (zgt none ls i).map (fun v => (i, zEv ad v)))).filter (fun q => !(q.1 == i) && (!(q.1 == i + 1) && !(q.1 + 1 == i && q.2.category == 2))))) : zLo ad N nL (zsu (zsu ls i (some (.inr (.inl x)))) (i + 1) none) A' := by
  refine ⟨hA.1, hA.2.1, fun j w hj => ?_⟩
  rw [zgt_su] at hj
  by_cases hji1 : j = i + 1 ∧ i + 1 < (zsu ls i (some (.inr (.inl x)))).length
  · rw [if_pos hji1] at hj
    cases hj
  rw [if_neg hji1, zgt_su] at hj
  by_cases hji : j = i ∧ i < ls.length
  · rw [if_pos hji] at hj
    cases hj
    obtain ⟨rfl, -⟩ := hji
    exact ⟨hvd, hA.2.2 _ List.mem_cons_self⟩
  · rw [if_neg hji] at hj
    have hl := zgt_lt hj
    have hne : j ≠ i := fun e => hji ⟨e, e ▸ hl⟩
    have hlen : ∀ (l : zLv) (n : Nat) (v : Option zV), (zsu l n v).length = l.length := by
      intro l
      induction l with
      | nil => intro n v; cases n <;> rfl
      | cons a l ih =>
        intro n v
        cases n with
        | zero => rfl
        | succ n => show (zsu l n v).length + 1 = _; rw [ih]; rfl
    have hne1 : j ≠ i + 1 := fun e => hji1 ⟨e, by rw [hlen]; omega⟩
    refine ⟨(h.2.2 j w hj).1, hA.2.2 (j, zEv ad w) (List.mem_cons_of_mem _ (List.mem_filter.mpr ⟨List.mem_filterMap.mpr ⟨j, List.mem_range.mpr hl, by rw [hj]; rfl⟩, ?_⟩))⟩
    have h2 : ¬ (j + 1 = i ∧ (zEv ad w).category = 2) := by
      rintro ⟨rfl, hc⟩
      rcases w with x | x | r
      · simp [zEv, Value.category] at hc
      · simp only [zlg, hj] at hg
        cases hg
      · cases r <;> simp [zEv, va_rf, Value.category] at hc
    simp only [Bool.and_eq_true, Bool.not_eq_true', beq_eq_false_iff_ne, ne_eq, Bool.and_eq_false_iff]
    refine ⟨hne, hne1, ?_⟩
    by_cases e : j + 1 = i
    · exact Or.inr (fun q => h2 ⟨e, q⟩)
    · exact Or.inl e
theorem zLo.at {ad : Nat → Nat} {N nL i : Nat} {ls : zLv} {A : Array Slot} {v : zV} (h : zLo ad N nL ls A) (hv : zgt none ls i = some v) : A[i]? = some (.val (zEv ad v)) := (h.2.2 i v hv).2
/-- what doesn't change: classes, links, Strings, the script -/
def zGb (D : va_G) (dA : Nat → ClassId) (A : Nat → Prop) (aC aV : Nat → Nat) (L : Nat) (xs : Nat → Int32) (U : State) (H : Heap) : Prop :=
  va_K D vwCl (zTys dA) U ∧ (∀ q ∈ zSN ++ zIN, va_Nw (.methodLinkNest (zR q.1) q.2.1 (zY q.2.2.1) RX11) U) ∧ (∀ c ∈ [1, 2, 3, 4, 6], va_Nw (.castable (zR c) RX9) U) ∧ (∀ c ∈ [5, 8, 9, 10], va_AO (zR c) U) ∧
  (∀ i, i < 13 → vk_R (zR (zgt (0, 0) zSK i).1) (zgt (0, 0) zSK i).2 (zgt "" zSX i) (aC (1000 + i)) U) ∧ vk_S 13 (zVS.map List.length) (zVS.map (List.map zo)) (fun i => aC (1000 + i)) aV A U H ∧
  va_X (aC 2000) L xs U H ∧ aC 2000 < H.size ∧ ¬ A (aC 2000) ∧ va_Z "java/lang/String" "COMPACT_STRINGS" "Z" (.int 1) A U H ∧ va_Zq "jdk/internal/util/Preconditions" "SIOOBE_FORMATTER" "Ljava/util/function/BiFunction;" A U H
/-- where a run stands -/
def zSt (D : va_G) (dA : Nat → ClassId) (A : Nat → Prop) (aC : Nat → Nat) (L : Nat) (xs : Nat → Int32) (s : State) (N0 S0 : Nat) (R : Room) (ad : Nat → Nat) (h : zH) (H : Heap) (locs : List Loc) (cells slots : Nat) : Prop :=
  va_P D vwCl (zWs dA ad h) H ∧ va_D A (zWs dA ad h) ∧ va_S A s.heap H locs ∧ zVal h ∧ (∀ i, (i < N0 ∨ 1000 ≤ i) → ad i = aC i) ∧ (h.1.1 = N0 + cells ∧ h.1.2.1 = S0 + slots) ∧ (cells ≤ R.cells ∧ slots ≤ R.slots) ∧ h.1.2.2 = L ∧ ∀ j, j < L → h.2.1 2000 j = (xs j).toInt
theorem zdc_d {k pc : Nat} {i : Instr} {n : Nat} (h : zdc k pc i n = true) : decode (zB k) pc = .ok (i, n) := of_decide_eq_true h
end
section
/-! each operation is the machine's; written out of wip/whole/12.src -/
section
variable {p : Program} {l : Launch} {e : Env} {R : Room} {s : State} {m : MethodId} {args : Array Value} {below : List Frame} {meth : Method} {c : Code} {Qf : State → Prop} {D : va_G} {dA : Nat → ClassId} {A : Nat → Prop} {aC aV : Nat → Nat} {L : Nat} {xs : Nat → Int32} {N0 S0 k : Nat}
def zPp (p : Program) (l : Launch) (e : Env) (R : Room) (s : State) (m : MethodId) (args : Array Value) (below : List Frame) (meth : Method) (c : Code) (Qf : State → Prop) (D : va_G) (dA : Nat → ClassId) (A : Nat → Prop) (aC : Nat → Nat) (L : Nat) (xs : Nat → Int32) (N0 S0 k : Nat) : zK := fun pc ls st h =>
  ∀ (ad : Nat → Nat) (H : Heap) (lsA : Array Slot) (locs : List Loc) (cells slots : Nat), zSt D dA A aC L xs s N0 S0 R ad h H locs cells slots → zLo ad h.1.1 (zL k) ls lsA → (∀ v ∈ st, zVd h.1.1 v) → W p l e R s m args below meth c H locs cells slots Qf (F0 m pc lsA (st.map (zEv ad)))
theorem zst_cons {N : Nat} {v : zV} {st : List zV} (h : ∀ w ∈ v :: st, zVd N w) : zVd N v ∧ ∀ w ∈ st, zVd N w := List.forall_mem_cons.mp h
theorem zst_mk {N : Nat} {v : zV} {st : List zV} (h1 : zVd N v) (h : ∀ w ∈ st, zVd N w) : ∀ w ∈ v :: st, zVd N w := List.forall_mem_cons.mpr ⟨h1, h⟩
theorem zs_push {v : zV} {pc pc1 : Nat} {ls : zLv} {st : List zV} {h : zH} (hv : zVd h.1.1 v) (row : ∀ {ad : Nat → Nat} {H : Heap} {lsA : Array Slot} {rest : List Value} {locs : List Loc} {cells slots : Nat}, (∀ i, 1000 ≤ i → ad i = aC i) → W p l e R s m args below meth c H locs cells slots Qf (F0 m pc1 lsA (zEv ad v :: rest)) → W p l e R s m args below meth c H locs cells slots Qf (F0 m pc lsA rest)) (H : zPp p l e R s m args below meth c Qf D dA A aC L xs N0 S0 k pc1 ls (v :: st) h) : zPp p l e R s m args below meth c Qf D dA A aC L xs N0 S0 k pc ls st h := by
  intro ad Hp lsA locs cells slots hS hL hst
  exact row (fun i hi => hS.2.2.2.2.1 i (Or.inr hi)) (H ad Hp lsA locs cells slots hS hL (zst_mk hv hst))
theorem zs_i2 {f : Int → Int → Int} {g : Int32 → Int32 → Int32} (hf : ∀ x y, zIn x → zIn y → zIn (f x y) ∧ zo (f x y) = g (zo x) (zo y)) {pc : Nat} (row : ∀ {x y : Int32} {H : Heap} {lsA : Array Slot} {rest : List Value} {locs : List Loc} {cells slots : Nat}, W p l e R s m args below meth c H locs cells slots Qf (F0 m (pc + 1) lsA (.int (g x y) :: rest)) → W p l e R s m args below meth c H locs cells slots Qf (F0 m pc lsA (.int y :: .int x :: rest))) {ls : zLv} {st : List zV} {h : zH} (H : zo_i2 f (zPp p l e R s m args below meth c Qf D dA A aC L xs N0 S0 k) pc ls st h) : zPp p l e R s m args below meth c Qf D dA A aC L xs N0 S0 k pc ls st h := by
  unfold zo_i2 at H
  split at H
  · rename_i y x r
    intro ad Hp lsA locs cells slots hS hL hst
    obtain ⟨hy, hst⟩ := zst_cons hst
    obtain ⟨hx, hst⟩ := zst_cons hst
    obtain ⟨f1, f2⟩ := hf x y hx hy
    refine row ?_
    have := H ad Hp lsA locs cells slots hS hL (zst_mk f1 hst)
    rw [show (.inl (f x y) :: r : List zV).map (zEv ad) = .int (zo (f x y)) :: r.map (zEv ad) from rfl, f2] at this
    exact this
  · exact H.elim
theorem zs_i2n {f : Int → Int → Int} {g : Int32 → Int32 → Int32} (hf : ∀ x y, zIn x → zIn y → zIn (f x y) ∧ zo (f x y) = g (zo x) (zo y)) {pc : Nat} (row : ∀ {x y : Int32} {H : Heap} {lsA : Array Slot} {rest : List Value} {locs : List Loc} {cells slots : Nat}, ¬ y = 0 → W p l e R s m args below meth c H locs cells slots Qf (F0 m (pc + 1) lsA (.int (g x y) :: rest)) → W p l e R s m args below meth c H locs cells slots Qf (F0 m pc lsA (.int y :: .int x :: rest))) {ls : zLv} {st : List zV} {h : zH} (H : zo_i2n f (zPp p l e R s m args below meth c Qf D dA A aC L xs N0 S0 k) pc ls st h) : zPp p l e R s m args below meth c Qf D dA A aC L xs N0 S0 k pc ls st h := by
  unfold zo_i2n at H
  split at H
  · rename_i y x r
    intro ad Hp lsA locs cells slots hS hL hst
    obtain ⟨hy, hst⟩ := zst_cons hst
    obtain ⟨hx, hst⟩ := zst_cons hst
    obtain ⟨f1, f2⟩ := hf x y hx hy
    refine row (fun q => H.1 ((zo_inj hy zIn0).mp q)) ?_
    have := H.2 ad Hp lsA locs cells slots hS hL (zst_mk f1 hst)
    rw [show (.inl (f x y) :: r : List zV).map (zEv ad) = .int (zo (f x y)) :: r.map (zEv ad) from rfl, f2] at this
    exact this
  · exact H.elim
theorem zs_i1 {f : Int → Int} {g : Int32 → Int32} (hf : ∀ x, zIn x → zIn (f x) ∧ zo (f x) = g (zo x)) {pc : Nat} (row : ∀ {x : Int32} {H : Heap} {lsA : Array Slot} {rest : List Value} {locs : List Loc} {cells slots : Nat}, W p l e R s m args below meth c H locs cells slots Qf (F0 m (pc + 1) lsA (.int (g x) :: rest)) → W p l e R s m args below meth c H locs cells slots Qf (F0 m pc lsA (.int x :: rest))) {ls : zLv} {st : List zV} {h : zH} (H : zo_i1 f (zPp p l e R s m args below meth c Qf D dA A aC L xs N0 S0 k) pc ls st h) : zPp p l e R s m args below meth c Qf D dA A aC L xs N0 S0 k pc ls st h := by
  unfold zo_i1 at H
  split at H
  · rename_i x r
    intro ad Hp lsA locs cells slots hS hL hst
    obtain ⟨hx, hst⟩ := zst_cons hst
    obtain ⟨f1, f2⟩ := hf x hx
    refine row ?_
    have := H ad Hp lsA locs cells slots hS hL (zst_mk f1 hst)
    rw [show (.inl (f x) :: r : List zV).map (zEv ad) = .int (zo (f x)) :: r.map (zEv ad) from rfl, f2] at this
    exact this
  · exact H.elim
theorem zs_l2 {f : Int → Int → Int} {g : Int64 → Int64 → Int64} (hf : ∀ x y, zIm x → zIm y → zIm (f x y) ∧ zp (f x y) = g (zp x) (zp y)) {pc : Nat} (row : ∀ {x y : Int64} {H : Heap} {lsA : Array Slot} {rest : List Value} {locs : List Loc} {cells slots : Nat}, W p l e R s m args below meth c H locs cells slots Qf (F0 m (pc + 1) lsA (.long (g x y) :: rest)) → W p l e R s m args below meth c H locs cells slots Qf (F0 m pc lsA (.long y :: .long x :: rest))) {ls : zLv} {st : List zV} {h : zH} (H : zo_l2 f (zPp p l e R s m args below meth c Qf D dA A aC L xs N0 S0 k) pc ls st h) : zPp p l e R s m args below meth c Qf D dA A aC L xs N0 S0 k pc ls st h := by
  unfold zo_l2 at H
  split at H
  · rename_i y x r
    intro ad Hp lsA locs cells slots hS hL hst
    obtain ⟨hy, hst⟩ := zst_cons hst
    obtain ⟨hx, hst⟩ := zst_cons hst
    obtain ⟨f1, f2⟩ := hf x y hx hy
    refine row ?_
    have := H ad Hp lsA locs cells slots hS hL (zst_mk f1 hst)
    rw [show (.inr (.inl (f x y)) :: r : List zV).map (zEv ad) = .long (zp (f x y)) :: r.map (zEv ad) from rfl, f2] at this
    exact this
  · exact H.elim
theorem zs_l2n {f : Int → Int → Int} {g : Int64 → Int64 → Int64} (hf : ∀ x y, zIm x → zIm y → zIm (f x y) ∧ zp (f x y) = g (zp x) (zp y)) {pc : Nat} (row : ∀ {x y : Int64} {H : Heap} {lsA : Array Slot} {rest : List Value} {locs : List Loc} {cells slots : Nat}, ¬ y = 0 → W p l e R s m args below meth c H locs cells slots Qf (F0 m (pc + 1) lsA (.long (g x y) :: rest)) → W p l e R s m args below meth c H locs cells slots Qf (F0 m pc lsA (.long y :: .long x :: rest))) {ls : zLv} {st : List zV} {h : zH} (H : zo_l2n f (zPp p l e R s m args below meth c Qf D dA A aC L xs N0 S0 k) pc ls st h) : zPp p l e R s m args below meth c Qf D dA A aC L xs N0 S0 k pc ls st h := by
  unfold zo_l2n at H
  split at H
  · rename_i y x r
    intro ad Hp lsA locs cells slots hS hL hst
    obtain ⟨hy, hst⟩ := zst_cons hst
    obtain ⟨hx, hst⟩ := zst_cons hst
    obtain ⟨f1, f2⟩ := hf x y hx hy
    refine row (fun q => H.1 ((zp_inj hy zIm0).mp q)) ?_
    have := H.2 ad Hp lsA locs cells slots hS hL (zst_mk f1 hst)
    rw [show (.inr (.inl (f x y)) :: r : List zV).map (zEv ad) = .long (zp (f x y)) :: r.map (zEv ad) from rfl, f2] at this
    exact this
  · exact H.elim
theorem zs_lcmp {pc : Nat} {ls : zLv} {st : List zV} {h : zH} (hx : p.tables.exec = Jvm.exec) (hb : c.code = zB k) (hd : decode (zB k) pc = .ok (.lcmp, 1)) (H : zo_lcmp (zPp p l e R s m args below meth c Qf D dA A aC L xs N0 S0 k) pc ls st h) : zPp p l e R s m args below meth c Qf D dA A aC L xs N0 S0 k pc ls st h := by
  unfold zo_lcmp at H
  split at H
  · rename_i y x r
    intro ad Hp lsA locs cells slots hS hL hst
    obtain ⟨hy, hst⟩ := zst_cons hst
    obtain ⟨hx', hst⟩ := zst_cons hst
    refine W.lcmp hx hb hd ?_
    rw [zcmp_lg hx' hy]
    exact H ad Hp lsA locs cells slots hS hL (zst_mk (v := .inl _) (by show zIn _; unfold zcmp; split <;> first | omega | (split <;> omega)) hst)
  · exact H.elim
theorem zs_i2l {pc : Nat} {ls : zLv} {st : List zV} {h : zH} (hx : p.tables.exec = Jvm.exec) (hb : c.code = zB k) (hd : decode (zB k) pc = .ok (.i2l, 1)) (H : zo_i2l (zPp p l e R s m args below meth c Qf D dA A aC L xs N0 S0 k) pc ls st h) : zPp p l e R s m args below meth c Qf D dA A aC L xs N0 S0 k pc ls st h := by
  unfold zo_i2l at H
  split at H
  · rename_i x r
    intro ad Hp lsA locs cells slots hS hL hst
    obtain ⟨hx', hst⟩ := zst_cons hst
    exact lv_i2l hx hb hd (zn_i2l hx') (H ad Hp lsA locs cells slots hS hL (zst_mk (v := .inr (.inl _)) (zIn_m hx') hst))
  · exact H.elim
theorem zs_l2i {pc : Nat} {ls : zLv} {st : List zV} {h : zH} (hx : p.tables.exec = Jvm.exec) (hb : c.code = zB k) (hd : decode (zB k) pc = .ok (.l2i, 1)) (H : zo_l2i (zPp p l e R s m args below meth c Qf D dA A aC L xs N0 S0 k) pc ls st h) : zPp p l e R s m args below meth c Qf D dA A aC L xs N0 S0 k pc ls st h := by
  unfold zo_l2i at H
  split at H
  · rename_i x r
    intro ad Hp lsA locs cells slots hS hL hst
    obtain ⟨hx', hst⟩ := zst_cons hst
    exact lv_l2i hx hb hd (zn_l2i hx') (H ad Hp lsA locs cells slots hS hL (zst_mk (v := .inl _) (zwr_in x) hst))
  · exact H.elim
theorem zs_dup {pc : Nat} {ls : zLv} {st : List zV} {h : zH} (hx : p.tables.exec = Jvm.exec) (hb : c.code = zB k) (hd : decode (zB k) pc = .ok (.dup, 1)) (H : zo_dup (zPp p l e R s m args below meth c Qf D dA A aC L xs N0 S0 k) pc ls st h) : zPp p l e R s m args below meth c Qf D dA A aC L xs N0 S0 k pc ls st h := by
  unfold zo_dup at H
  split at H
  · intro ad Hp lsA locs cells slots hS hL hst
    obtain ⟨h1, hst⟩ := zst_cons hst
    exact lv_dup hx hb hd rfl (H ad Hp lsA locs cells slots hS hL (zst_mk h1 (zst_mk h1 hst)))
  · intro ad Hp lsA locs cells slots hS hL hst
    obtain ⟨h1, hst⟩ := zst_cons hst
    exact lv_dup hx hb hd (zEv_cat1 _ (fun _ q => by cases q)) (H ad Hp lsA locs cells slots hS hL (zst_mk h1 (zst_mk h1 hst)))
  · exact H.elim
theorem zs_dup2 {pc : Nat} {ls : zLv} {st : List zV} {h : zH} (hx : p.tables.exec = Jvm.exec) (hb : c.code = zB k) (hd : decode (zB k) pc = .ok (.dup2, 1)) (H : zo_dup2 (zPp p l e R s m args below meth c Qf D dA A aC L xs N0 S0 k) pc ls st h) : zPp p l e R s m args below meth c Qf D dA A aC L xs N0 S0 k pc ls st h := by
  unfold zo_dup2 at H
  split at H
  · intro ad Hp lsA locs cells slots hS hL hst
    obtain ⟨h1, hst⟩ := zst_cons hst
    obtain ⟨h2, hst⟩ := zst_cons hst
    exact lv_dup2_11 hx hb hd rfl (zEv_cat1 _ (fun _ q => by cases q)) (H ad Hp lsA locs cells slots hS hL (zst_mk h1 (zst_mk h2 (zst_mk h1 (zst_mk h2 hst)))))
  · exact H.elim
theorem zs_dupx {pc : Nat} {ls : zLv} {st : List zV} {h : zH} (hx : p.tables.exec = Jvm.exec) (hb : c.code = zB k) (hd : decode (zB k) pc = .ok (.dup_x1, 1)) (H : zo_dupx (zPp p l e R s m args below meth c Qf D dA A aC L xs N0 S0 k) pc ls st h) : zPp p l e R s m args below meth c Qf D dA A aC L xs N0 S0 k pc ls st h := by
  unfold zo_dupx at H
  split at H
  · intro ad Hp lsA locs cells slots hS hL hst
    obtain ⟨h1, hst⟩ := zst_cons hst
    obtain ⟨h2, hst⟩ := zst_cons hst
    exact lv_dup_x1 hx hb hd rfl (zEv_cat1 _ (fun _ q => by cases q)) (H ad Hp lsA locs cells slots hS hL (zst_mk h1 (zst_mk h2 (zst_mk h1 hst))))
  · intro ad Hp lsA locs cells slots hS hL hst
    obtain ⟨h1, hst⟩ := zst_cons hst
    obtain ⟨h2, hst⟩ := zst_cons hst
    exact lv_dup_x1 hx hb hd rfl rfl (H ad Hp lsA locs cells slots hS hL (zst_mk h1 (zst_mk h2 (zst_mk h1 hst))))
  · exact H.elim
theorem zs_pop {pc : Nat} {ls : zLv} {st : List zV} {h : zH} (hx : p.tables.exec = Jvm.exec) (hb : c.code = zB k) (hd : decode (zB k) pc = .ok (.pop, 1)) (H : zo_pop (zPp p l e R s m args below meth c Qf D dA A aC L xs N0 S0 k) pc ls st h) : zPp p l e R s m args below meth c Qf D dA A aC L xs N0 S0 k pc ls st h := by
  unfold zo_pop at H
  split at H
  · intro ad Hp lsA locs cells slots hS hL hst
    obtain ⟨h1, hst⟩ := zst_cons hst
    exact lv_pop hx hb hd rfl (H ad Hp lsA locs cells slots hS hL hst)
  · intro ad Hp lsA locs cells slots hS hL hst
    obtain ⟨h1, hst⟩ := zst_cons hst
    exact lv_pop hx hb hd (zEv_cat1 _ (fun _ q => by cases q)) (H ad Hp lsA locs cells slots hS hL hst)
  · exact H.elim
theorem zs_goto {pc t : Nat} {o : Int} {ls : zLv} {st : List zV} {h : zH} (hx : p.tables.exec = Jvm.exec) (hb : c.code = zB k) (hd : decode (zB k) pc = .ok (.goto o, 3)) (ht : (pc : Int) + o = (t : Int)) (H : zPp p l e R s m args below meth c Qf D dA A aC L xs N0 S0 k t ls st h) : zPp p l e R s m args below meth c Qf D dA A aC L xs N0 S0 k pc ls st h := by
  intro ad Hp lsA locs cells slots hS hL hst
  exact lv_goto hx hb hd ht (H ad Hp lsA locs cells slots hS hL hst)
theorem zs_c1 {cn : Jvm.ClassFile.Cond} {pc t : Nat} {o : Int} {ls : zLv} {st : List zV} {h : zH} (hx : p.tables.exec = Jvm.exec) (hb : c.code = zB k) (hd : decode (zB k) pc = .ok (.ifCond cn o, 3)) (ht : (pc : Int) + o = (t : Int)) (H : zo_c1 cn t (zPp p l e R s m args below meth c Qf D dA A aC L xs N0 S0 k) pc ls st h) : zPp p l e R s m args below meth c Qf D dA A aC L xs N0 S0 k pc ls st h := by
  unfold zo_c1 at H
  split at H
  · rename_i x r
    intro ad Hp lsA locs cells slots hS hL hst
    obtain ⟨h1, hst⟩ := zst_cons hst
    have go : ∀ {c1 : Prop} {pc1 : Nat}, (c1 → zPp p l e R s m args below meth c Qf D dA A aC L xs N0 S0 k pc1 ls r h) → c1 → W p l e R s m args below meth c Hp locs cells slots Qf (F0 m pc1 lsA (r.map (zEv ad))) := fun h q => h q ad Hp lsA locs cells slots hS hL hst
    cases cn
    · exact lv_if_eq hx hb hd ht (fun q => go H.1 ((zo_inj h1 zIn0).mp q)) (fun q => go H.2 (fun z => q ((zo_inj h1 zIn0).mpr z)))
    · exact lv_if_ne hx hb hd ht (fun q => go H.1 (fun z => q ((zo_inj h1 zIn0).mpr z))) (fun q => go H.2 (fun z => z ((zo_inj h1 zIn0).mp q)))
    · exact lv_if_lt hx hb hd ht (fun q => go H.1 ((zo_lt h1 zIn0).mp q)) (fun q => go H.2 (fun z => q ((zo_lt h1 zIn0).mpr z)))
    · exact lv_if_ge hx hb hd ht (fun q => go H.1 ((zo_le zIn0 h1).mp q)) (fun q => go H.2 (fun z => q ((zo_le zIn0 h1).mpr z)))
    · exact lv_if_gt hx hb hd ht (fun q => go H.1 ((zo_lt zIn0 h1).mp q)) (fun q => go H.2 (fun z => q ((zo_lt zIn0 h1).mpr z)))
    · exact lv_if_le hx hb hd ht (fun q => go H.1 ((zo_le h1 zIn0).mp q)) (fun q => go H.2 (fun z => q ((zo_le h1 zIn0).mpr z)))
  · exact H.elim
theorem zs_c2 {cn : Jvm.ClassFile.Cond} {pc t : Nat} {o : Int} {ls : zLv} {st : List zV} {h : zH} (hx : p.tables.exec = Jvm.exec) (hb : c.code = zB k) (hd : decode (zB k) pc = .ok (.if_icmp cn o, 3)) (ht : (pc : Int) + o = (t : Int)) (H : zo_c2 cn t (zPp p l e R s m args below meth c Qf D dA A aC L xs N0 S0 k) pc ls st h) : zPp p l e R s m args below meth c Qf D dA A aC L xs N0 S0 k pc ls st h := by
  unfold zo_c2 at H
  split at H
  · rename_i y x r
    intro ad Hp lsA locs cells slots hS hL hst
    obtain ⟨h2, hst⟩ := zst_cons hst
    obtain ⟨h1, hst⟩ := zst_cons hst
    have go : ∀ {c1 : Prop} {pc1 : Nat}, (c1 → zPp p l e R s m args below meth c Qf D dA A aC L xs N0 S0 k pc1 ls r h) → c1 → W p l e R s m args below meth c Hp locs cells slots Qf (F0 m pc1 lsA (r.map (zEv ad))) := fun h q => h q ad Hp lsA locs cells slots hS hL hst
    cases cn
    · exact lv_icmp_eq hx hb hd ht (fun q => go H.1 ((zo_inj h1 h2).mp q)) (fun q => go H.2 (fun z => q ((zo_inj h1 h2).mpr z)))
    · exact lv_icmp_ne hx hb hd ht (fun q => go H.1 (fun z => q ((zo_inj h1 h2).mpr z))) (fun q => go H.2 (fun z => z ((zo_inj h1 h2).mp q)))
    · exact lv_icmp_lt hx hb hd ht (fun q => go H.1 ((zo_lt h1 h2).mp q)) (fun q => go H.2 (fun z => q ((zo_lt h1 h2).mpr z)))
    · exact lv_icmp_ge hx hb hd ht (fun q => go H.1 ((zo_le h2 h1).mp q)) (fun q => go H.2 (fun z => q ((zo_le h2 h1).mpr z)))
    · exact lv_icmp_gt hx hb hd ht (fun q => go H.1 ((zo_lt h2 h1).mp q)) (fun q => go H.2 (fun z => q ((zo_lt h2 h1).mpr z)))
    · exact lv_icmp_le hx hb hd ht (fun q => go H.1 ((zo_le h1 h2).mp q)) (fun q => go H.2 (fun z => q ((zo_le h1 h2).mpr z)))
  · exact H.elim
theorem zs_li {i n pc : Nat} {ls : zLv} {st : List zV} {h : zH} (row : ∀ {x : Int32} {H : Heap} {lsA : Array Slot} {rest : List Value} {locs : List Loc} {cells slots : Nat}, lsA[i]? = some (.val (.int x)) → W p l e R s m args below meth c H locs cells slots Qf (F0 m (pc + n) lsA (.int x :: rest)) → W p l e R s m args below meth c H locs cells slots Qf (F0 m pc lsA rest)) (H : zo_li i n (zPp p l e R s m args below meth c Qf D dA A aC L xs N0 S0 k) pc ls st h) : zPp p l e R s m args below meth c Qf D dA A aC L xs N0 S0 k pc ls st h := by
  unfold zo_li at H
  split at H
  · rename_i x hv
    intro ad Hp lsA locs cells slots hS hL hst
    exact row (hL.at hv) (H ad Hp lsA locs cells slots hS hL (zst_mk (hL.2.2 _ _ hv).1 hst))
  · exact H.elim
theorem zs_ll {i n pc : Nat} {ls : zLv} {st : List zV} {h : zH} (row : ∀ {x : Int64} {H : Heap} {lsA : Array Slot} {rest : List Value} {locs : List Loc} {cells slots : Nat}, lsA[i]? = some (.val (.long x)) → W p l e R s m args below meth c H locs cells slots Qf (F0 m (pc + n) lsA (.long x :: rest)) → W p l e R s m args below meth c H locs cells slots Qf (F0 m pc lsA rest)) (H : zo_ll i n (zPp p l e R s m args below meth c Qf D dA A aC L xs N0 S0 k) pc ls st h) : zPp p l e R s m args below meth c Qf D dA A aC L xs N0 S0 k pc ls st h := by
  unfold zo_ll at H
  split at H
  · rename_i x hv
    intro ad Hp lsA locs cells slots hS hL hst
    exact row (hL.at hv) (H ad Hp lsA locs cells slots hS hL (zst_mk (hL.2.2 _ _ hv).1 hst))
  · exact H.elim
theorem zs_lr {i n pc : Nat} {ls : zLv} {st : List zV} {h : zH} (row : ∀ {x : Nat} {H : Heap} {lsA : Array Slot} {rest : List Value} {locs : List Loc} {cells slots : Nat}, lsA[i]? = some (.val (.ref x)) → W p l e R s m args below meth c H locs cells slots Qf (F0 m (pc + n) lsA (.ref x :: rest)) → W p l e R s m args below meth c H locs cells slots Qf (F0 m pc lsA rest)) (H : zo_lr i n (zPp p l e R s m args below meth c Qf D dA A aC L xs N0 S0 k) pc ls st h) : zPp p l e R s m args below meth c Qf D dA A aC L xs N0 S0 k pc ls st h := by
  unfold zo_lr at H
  split at H
  · rename_i x hv
    intro ad Hp lsA locs cells slots hS hL hst
    exact row (x := ad x) (hL.at hv) (H ad Hp lsA locs cells slots hS hL (zst_mk (hL.2.2 _ _ hv).1 hst))
  · exact H.elim
theorem zs_si {i n pc : Nat} {ls : zLv} {st : List zV} {h : zH} (hi : i < zL k) (row : ∀ {x : Int32} {H : Heap} {lsA : Array Slot} {rest : List Value} {locs : List Loc} {cells slots : Nat} {lv : List (Nat × Value)}, lv_has lsA (zL k) lv → i < zL k → (∀ ls', lv_has ls' (zL k) ((i, Value.int x) :: lv.filter (fun q => !(q.1 == i) && !(q.1 + 1 == i && q.2.category == 2))) → W p l e R s m args below meth c H locs cells slots Qf (F0 m (pc + n) ls' rest)) → W p l e R s m args below meth c H locs cells slots Qf (F0 m pc lsA (.int x :: rest))) (H : zo_si i n (zPp p l e R s m args below meth c Qf D dA A aC L xs N0 S0 k) pc ls st h) : zPp p l e R s m args below meth c Qf D dA A aC L xs N0 S0 k pc ls st h := by
  unfold zo_si at H
  split at H
  · rename_i x r
    split at H
    · exact H.elim
    · rename_i hg
      intro ad Hp lsA locs cells slots hS hL hst
      obtain ⟨h1, hst⟩ := zst_cons hst
      exact row hL.list hi (fun ls' h' => H ad Hp ls' locs cells slots hS (hL.st1 (v := .inl x) hg h1 h') hst)
  · exact H.elim
theorem zs_sr {i n pc : Nat} {ls : zLv} {st : List zV} {h : zH} (hi : i < zL k) (row : ∀ {x : Nat} {H : Heap} {lsA : Array Slot} {rest : List Value} {locs : List Loc} {cells slots : Nat} {lv : List (Nat × Value)}, lv_has lsA (zL k) lv → i < zL k → (∀ ls', lv_has ls' (zL k) ((i, Value.ref x) :: lv.filter (fun q => !(q.1 == i) && !(q.1 + 1 == i && q.2.category == 2))) → W p l e R s m args below meth c H locs cells slots Qf (F0 m (pc + n) ls' rest)) → W p l e R s m args below meth c H locs cells slots Qf (F0 m pc lsA (.ref x :: rest))) (H : zo_sr i n (zPp p l e R s m args below meth c Qf D dA A aC L xs N0 S0 k) pc ls st h) : zPp p l e R s m args below meth c Qf D dA A aC L xs N0 S0 k pc ls st h := by
  unfold zo_sr at H
  split at H
  · rename_i x r
    split at H
    · exact H.elim
    · rename_i hg
      intro ad Hp lsA locs cells slots hS hL hst
      obtain ⟨h1, hst⟩ := zst_cons hst
      exact row (x := ad x) hL.list hi (fun ls' h' => H ad Hp ls' locs cells slots hS (hL.st1 (v := .inr (.inr (some x))) hg h1 h') hst)
  · exact H.elim
theorem zs_sl {i n pc : Nat} {ls : zLv} {st : List zV} {h : zH} (hi : i + 1 < zL k) (row : ∀ {x : Int64} {H : Heap} {lsA : Array Slot} {rest : List Value} {locs : List Loc} {cells slots : Nat} {lv : List (Nat × Value)}, lv_has lsA (zL k) lv → i + 1 < zL k → (∀ ls', lv_has ls' (zL k) ((i, Value.long x) :: lv.filter (fun q => !(q.1 == i) && (!(q.1 == i + 1) && !(q.1 + 1 == i && q.2.category == 2)))) → W p l e R s m args below meth c H locs cells slots Qf (F0 m (pc + n) ls' rest)) → W p l e R s m args below meth c H locs cells slots Qf (F0 m pc lsA (.long x :: rest))) (H : zo_sl i n (zPp p l e R s m args below meth c Qf D dA A aC L xs N0 S0 k) pc ls st h) : zPp p l e R s m args below meth c Qf D dA A aC L xs N0 S0 k pc ls st h := by
  unfold zo_sl at H
  split at H
  · rename_i x r
    split at H
    · exact H.elim
    · rename_i hg
      intro ad Hp lsA locs cells slots hS hL hst
      obtain ⟨h1, hst⟩ := zst_cons hst
      exact row hL.list hi (fun ls' h' => H ad Hp ls' locs cells slots hS (hL.st2 hg h1 h') hst)
  · exact H.elim
theorem zs_inc {i pc : Nat} {d : Int} {ls : zLv} {st : List zV} {h : zH} (hx : p.tables.exec = Jvm.exec) (hb : c.code = zB k) (hd : decode (zB k) pc = .ok (.iinc i d, 3)) (hi : i < zL k) (H : zo_inc i d (zPp p l e R s m args below meth c Qf D dA A aC L xs N0 S0 k) pc ls st h) : zPp p l e R s m args below meth c Qf D dA A aC L xs N0 S0 k pc ls st h := by
  unfold zo_inc at H
  split at H
  · rename_i x hv
    split at H
    · exact H.elim
    · rename_i hg
      intro ad Hp lsA locs cells slots hS hL hst
      obtain ⟨j, hj⟩ := List.getElem?_of_mem (List.mem_filterMap.mpr ⟨i, List.mem_range.mpr (zgt_lt hv), by rw [hv]; rfl⟩ : (i, zEv ad (.inl x)) ∈ (List.range ls.length).filterMap (fun i => (zgt none ls i).map (fun v => (i, zEv ad v))))
      exact lv_iinc hx hb hd hL.list (k := j) hj (v := zo (zwr (x + d))) (zo_add x d).symm hi rfl (fun ls' h' => H ad Hp ls' locs cells slots hS (hL.st1 (v := .inl _) hg (zwr_in _) h') hst)
  · exact H.elim
theorem zsw_out {x : Int} {d : Nat} {K : Nat → Prop} : ∀ {l : List (Int × Nat)}, zsw x d K l → (∃ (i t : Nat), l[i]? = some (x, t) ∧ K t ∧ ∀ (j : Nat) (q : Int × Nat), j < i → l[j]? = some q → q.1 ≠ x) ∨ ((∀ q ∈ l, q.1 ≠ x) ∧ K d)
  | [], h => Or.inr ⟨fun _ q => absurd q (by simp), h⟩
  | (a, t) :: l, h => by
    by_cases e : x = a
    · exact Or.inl ⟨0, t, by rw [e]; rfl, h.1 e, fun j q hj => absurd hj (Nat.not_lt_zero j)⟩
    · rcases zsw_out (h.2 e) with ⟨i, u, h1, h2, h3⟩ | ⟨h1, h2⟩
      · refine Or.inl ⟨i + 1, u, h1, h2, fun j q hj hq => ?_⟩
        cases j with
        | zero => cases hq; exact fun z => e z.symm
        | succ j => exact h3 j q (by omega) hq
      · exact Or.inr ⟨fun q hq => by rcases List.mem_cons.mp hq with rfl | hq; exact fun z => e z.symm; exact h1 q hq, h2⟩
theorem zswT_at {pc : Nat} : ∀ {os : List Int} {l : List (Int × Nat)} {lo : Int}, zswT pc lo os l = true → l.length = os.length ∧ ∀ (i : Nat) (q : Int × Nat), l[i]? = some q → q.1 = lo + i ∧ ∃ o, os[i]? = some o ∧ (pc : Int) + o = (q.2 : Int)
  | [], [], lo, _ => ⟨rfl, fun i q h => by simp at h⟩
  | o :: os, (a, t) :: l, lo, h => by
    simp only [zswT, Bool.and_eq_true, decide_eq_true_eq] at h
    obtain ⟨h1, h2, h3⟩ := h
    obtain ⟨g1, g2⟩ := zswT_at h3
    refine ⟨by simp [g1], fun i q hq => ?_⟩
    cases i with
    | zero => cases hq; exact ⟨by show a = _; omega, o, rfl, h2⟩
    | succ i =>
      obtain ⟨e1, o', e2, e3⟩ := g2 i q hq
      exact ⟨by rw [e1]; omega, o', e2, e3⟩
  | [], _ :: _, _, h => by simp [zswT] at h
  | _ :: _, [], _, h => by simp [zswT] at h
theorem zs_tsw {pc t len : Nat} {d lo hi : Int} {offs : Array Int} {lz : List (Int × Nat)} {ls : zLv} {st : List zV} {h : zH} (hx : p.tables.exec = Jvm.exec) (hb : c.code = zB k) (hd : decode (zB k) pc = .ok (.tableswitch d lo hi offs, len)) (ht : (pc : Int) + d = (t : Int)) (hhi : hi = lo + (offs.toList.length : Int) - 1) (hz : zswT pc lo offs.toList lz = true) (H : zo_sw t lz (zPp p l e R s m args below meth c Qf D dA A aC L xs N0 S0 k) ls st h) : zPp p l e R s m args below meth c Qf D dA A aC L xs N0 S0 k pc ls st h := by
  unfold zo_sw at H
  split at H
  · rename_i x r
    intro ad Hp lsA locs cells slots hS hL hst
    obtain ⟨h1, hst⟩ := zst_cons hst
    obtain ⟨g1, g2⟩ := zswT_at hz
    rcases zsw_out H with ⟨i, u, a1, a2, -⟩ | ⟨a1, a2⟩
    · obtain ⟨b1, o, b2, b3⟩ := g2 i _ a1
      have b1 : x = lo + i := b1
      have hil : i < offs.toList.length := (List.getElem?_eq_some_iff.mp b2).1
      refine lv_tableIn hx hb hd (by rw [zto h1]; omega) (by rw [zto h1]; omega) (off := o) (tgt := u) (by rw [zto h1, show (x - lo).toNat = i by omega, ← Array.getElem?_toList]; exact b2) b3 (a2 ad Hp lsA locs cells slots hS hL hst)
    · refine lv_tableOut hx hb hd ?_ ht (a2 ad Hp lsA locs cells slots hS hL hst)
      rw [zto h1]
      by_cases q1 : x < lo
      · exact Or.inl q1
      · refine Or.inr ?_
        apply Int.not_le.mp
        intro q2
        have hlt : (x - lo).toNat < lz.length := by omega
        have hg : lz[(x - lo).toNat]? = some lz[(x - lo).toNat] := List.getElem?_eq_getElem hlt
        have e1 := (g2 _ _ hg).1
        exact a1 _ (List.mem_of_getElem? hg) (by rw [e1]; omega)
  · exact H.elim
theorem zswL_off {pc t : Nat} {d x : Int} {K : Nat → Prop} (hd : (pc : Int) + d = (t : Int)) : ∀ {ps : List (Int × Int)} {l : List (Int × Nat)}, zswL pc ps l = true → zsw x t K l → ∃ u : Nat, (pc : Int) + Op.lookupswitch.offset ps d x = (u : Int) ∧ K u
  | [], [], _, h => ⟨t, hd, h⟩
  | (a, o) :: ps, (b, u) :: l, hz, h => by
    simp only [zswL, Bool.and_eq_true, decide_eq_true_eq] at hz
    obtain ⟨h1, h2, h3⟩ := hz
    subst h1
    rw [Op.lookupswitch.offset_cons]
    by_cases e : x = b
    · rw [if_pos e.symm]
      exact ⟨u, h2, h.1 e⟩
    · rw [if_neg (fun q => e q.symm)]
      exact zswL_off hd h3 (h.2 e)
  | [], _ :: _, hz, _ => by simp [zswL] at hz
  | _ :: _, [], hz, _ => by simp [zswL] at hz
theorem zs_lsw {pc t len : Nat} {d : Int} {ps : Array (Int × Int)} {lz : List (Int × Nat)} {ls : zLv} {st : List zV} {h : zH} (hx : p.tables.exec = Jvm.exec) (hb : c.code = zB k) (hd : decode (zB k) pc = .ok (.lookupswitch d ps, len)) (ht : (pc : Int) + d = (t : Int)) (hso : (ps.toList.zip (ps.toList.drop 1)).all (fun (a, next) => a.1 < next.1) = true) (hz : zswL pc ps.toList lz = true) (H : zo_sw t lz (zPp p l e R s m args below meth c Qf D dA A aC L xs N0 S0 k) ls st h) : zPp p l e R s m args below meth c Qf D dA A aC L xs N0 S0 k pc ls st h := by
  unfold zo_sw at H
  split at H
  · rename_i x r
    intro ad Hp lsA locs cells slots hS hL hst
    obtain ⟨h1, hst⟩ := zst_cons hst
    obtain ⟨u, a1, a2⟩ := zswL_off ht hz H
    exact lv_lookup hx hb hd hso (off := Op.lookupswitch.offset ps.toList d x) (by rw [zto h1]) a1 (a2 ad Hp lsA locs cells slots hS hL hst)
  · exact H.elim
end
end
section
/-! operations on the heap are the machine's; written out of wip/whole/13.src -/
theorem z2_ne {α : Type} {f : Nat → Nat → α} {a j y : Nat} {v : α} (h : y ≠ a) : z2 f a j v y = f y := by
  funext k
  unfold z2
  rw [if_neg (fun q => h q.1)]
theorem z2_eq {α : Type} {f : Nat → Nat → α} {a j : Nat} {v : α} : z2 f a j v a j = v := by
  unfold z2
  rw [if_pos ⟨rfl, rfl⟩]
theorem z2_nj {α : Type} {f : Nat → Nat → α} {a j y i : Nat} {v : α} (h : i ≠ j) : z2 f a j v y i = f y i := by
  unfold z2
  rw [if_neg (fun q => h q.2)]
theorem z2_if {α : Type} (f : Nat → Nat → α) (a j y i : Nat) (v : α) : z2 f a j v y i = if y = a ∧ i = j then v else f y i := rfl
theorem zCe_congr {dA : Nat → ClassId} {ad : Nat → Nat} {h h1 : zH} {y : Nat} (e1 : h1.2.1 y = h.2.1 y) (e2 : h1.2.2 y = h.2.2 y) : zCe dA ad h1 y = zCe dA ad h y := by
  have e3 : ∀ c, zFv ad h1 y c = zFv ad h y c := by
    intro c
    funext j
    unfold zFv
    rw [e1, e2]
  unfold zCe
  rw [e1, e2, e3]
theorem zCe_obj {dA : Nat → ClassId} {ad : Nat → Nat} {h : zH} {x c n : Nat} (hs : zSh x = (c, n)) (hc : c < 100) : zCe dA ad h x = .inr (c, (List.range n).map (zFv ad h x c)) := by
  unfold zCe
  have : Nat.blt (zSh x).1 100 = true := by rw [hs]; exact Nat.blt_eq.mpr hc
  rw [this, hs]
theorem zCe_ia {dA : Nat → ClassId} {ad : Nat → Nat} {h : zH} {x n : Nat} (hs : zSh x = (100, n)) : zCe dA ad h x = .inl (dA 0, n, .inl (fun j => zo (h.2.1 x j))) := by
  unfold zCe
  rw [hs]
  rfl
theorem zCe_za {dA : Nat → ClassId} {ad : Nat → Nat} {h : zH} {x n : Nat} (hs : zSh x = (101, n)) : zCe dA ad h x = .inl (dA 1, n, .inl (fun j => zo (h.2.1 x j))) := by
  unfold zCe
  rw [hs]
  rfl
theorem zCe_ra {dA : Nat → ClassId} {ad : Nat → Nat} {h : zH} {x t n : Nat} (hs : zSh x = (t, n)) (h1 : 102 ≤ t) : zCe dA ad h x = .inl (dA (t - 100), n, .inr (.inr (.inr (.inr (fun j => if j < n then (h.2.2 x j).map ad else none))))) := by
  unfold zCe
  have a1 : Nat.blt (zSh x).1 100 = false := by
    rw [hs]
    cases q : Nat.blt t 100 with
    | false => rfl
    | true => have := Nat.blt_eq.mp q; omega
  have a2 : Nat.blt (zSh x).1 102 = false := by
    rw [hs]
    cases q : Nat.blt t 102 with
    | false => rfl
    | true => have := Nat.blt_eq.mp q; omega
  rw [a1, a2, hs]
theorem zVal.setI {h : zH} (hv : zVal h) {x j : Nat} {v : Int} (hok : match zIl x j with | true => zIm v | false => zIn v) : zVal (h.1, z2 h.2.1 x j v, h.2.2) := by
  refine ⟨hv.1, fun y hy i => ?_, hv.2.2⟩
  show match zIl y i with | true => zIm (z2 h.2.1 x j v y i) | false => zIn (z2 h.2.1 x j v y i)
  rw [z2_if]
  by_cases q : y = x ∧ i = j
  · rw [if_pos q]
    obtain ⟨rfl, rfl⟩ := q
    exact hok
  · rw [if_neg q]
    exact hv.2.1 y hy i
theorem zVal.setR {h : zH} (hv : zVal h) {x j z : Nat} (hz : z < h.1.1 ∨ 1000 ≤ z) : zVal (h.1, h.2.1, z2 h.2.2 x j (some z)) := by
  refine ⟨hv.1, hv.2.1, fun y hy i hi w hw => ?_⟩
  have hw : z2 h.2.2 x j (some z) y i = some w := hw
  rw [z2_if] at hw
  by_cases q : y = x ∧ i = j
  · rw [if_pos q] at hw
    cases hw
    exact hz
  · rw [if_neg q] at hw
    exact hv.2.2 y hy i hi w hw
theorem zSh_pair {x c : Nat} (h : (zSh x).1 = c) (hc : c < 13) : zSh x = (c, zNF c) ∧ x < 81 := by
  have hl : x < 81 := zSh_lt (by rw [h]; omega)
  refine ⟨?_, hl⟩
  rcases zSh_ok hl with q | q
  · omega
  · rw [← h, ← q.2]
theorem zSh_arr {x t : Nat} (h : (zSh x).1 = t) (ht : t ≠ 999) : zSh x = (t, (zSh x).2) ∧ x < 81 := ⟨by rw [← h], zSh_lt (by rw [h]; exact ht)⟩
theorem zxN {x N c : Nat} (h : zVd N (.inr (.inr (some x)))) (hs : (zSh x).1 = c) (hc : c ≠ 999) : x < N := by
  rcases h x rfl with q | q
  · exact q
  · rw [zSh_big (by omega)] at hs
    exact absurd hs.symm hc
section
variable {p : Program} {l : Launch} {e : Env} {R : Room} {s : State} {m : MethodId} {args : Array Value} {below : List Frame} {meth : Method} {c : Code} {Qf : State → Prop} {D : va_G} {dA : Nat → ClassId} {A : Nat → Prop} {aC aV : Nat → Nat} {L : Nat} {xs : Nat → Int32} {N0 S0 k : Nat}
theorem zSt.upd {ad : Nat → Nat} {h h1 : zH} {H H1 : Heap} {locs locs1 : List Loc} {cells slots x : Nat} (hS : zSt D dA A aC L xs s N0 S0 R ad h H locs cells slots) (e1 : h1.1 = h.1) (he : ∀ y, y ≠ x → zCe dA ad h1 y = zCe dA ad h y) (hv : zVal h1) (hI : ∀ j, h1.2.1 2000 j = h.2.1 2000 j)
    (p1 : va_P D vwCl ((zWs dA ad h).set x (ad x, zCe dA ad h1 x)) H1) (d1 : va_D A ((zWs dA ad h).set x (ad x, zCe dA ad h1 x))) (s1 : va_S A s.heap H1 locs1) : zSt D dA A aC L xs s N0 S0 R ad h1 H1 locs1 cells slots := by
  have e : (zWs dA ad h).set x (ad x, zCe dA ad h1 x) = zWs dA ad h1 := zWs_set dA ad (by rw [e1]) he
  rw [e] at p1 d1
  obtain ⟨-, -, -, -, a5, a6, a7, a8, a9⟩ := hS
  exact ⟨p1, d1, s1, hv, a5, by rw [e1]; exact a6, a7, by rw [e1]; exact a8, fun j hj => by rw [hI]; exact a9 j hj⟩
theorem zs_gf {i a b pc : Nat} {ls : zLv} {st : List zV} {h : zH} (hx : p.tables.exec = Jvm.exec) (hb : c.code = zB k) (hts : ∀ w ∈ zGL, w.before args s = true) (hown : s.vm.findClass (zR (zO k)) = some m.cls) (hK : va_K D vwCl (zTys dA) s) (hd : decode (zB k) pc = .ok (.getfield i, 3)) (hf : (zO k, i, a, b) ∈ zFT) (hbn : b < zNF a) (ha : a < 13) (H : zo_gf a b (zPp p l e R s m args below meth c Qf D dA A aC L xs N0 S0 k) pc ls st h) : zPp p l e R s m args below meth c Qf D dA A aC L xs N0 S0 k pc ls st h := by
  unfold zo_gf at H
  split at H
  · rename_i x r
    intro ad Hp lsA locs cells slots hS hL hst
    obtain ⟨h1, hst⟩ := zst_cons hst
    obtain ⟨g1, H⟩ := H
    have hN := zxN h1 g1 (by omega)
    obtain ⟨g2, -⟩ := zSh_pair g1 ha
    have hv := hS.2.2.2.1
    have row : ∀ {v : Value}, zFv ad h x a b = v → W p l e R s m args below meth c Hp locs cells slots Qf (F0 m (pc + 3) lsA (v :: r.map (zEv ad))) → W p l e R s m args below meth c Hp locs cells slots Qf (F0 m pc lsA (.ref (ad x) :: r.map (zEv ad))) := by
      intro v hv2 kk
      refine va_get hx hb hts (zWS_ok a ha) hown hK hS.1 x (ci := a) (fs := (List.range (zNF a)).map (zFv ad h x a)) ?_ (zcl_ok a ha) b hbn (hts _ (zFT_ok _ hf)) (fun _ q => q) (v := v) ?_ hd kk
      · rw [zWs_at dA ad hN, zCe_obj g2 (by omega)]
      · rw [List.getElem?_map, List.getElem?_range hbn]
        exact congrArg some hv2
    have hil : zIl x b = Nat.beq (zKd a b) 1 := by
      unfold zIl
      rw [g1, show Nat.blt a 100 = true from Nat.blt_eq.mpr (by omega)]
      rfl
    have hv2 := hv.2.1 x hN b
    rw [hil] at hv2
    split at H
    · rename_i hk
      rw [hk] at hv2
      exact row (by unfold zFv; rw [hk]; rfl) (H ad Hp lsA locs cells slots hS hL (zst_mk (v := .inr (.inl _)) hv2 hst))
    · rename_i hk
      obtain ⟨v, e1, H⟩ := H
      exact row (by unfold zFv; rw [hk, e1]; rfl) (H ad Hp lsA locs cells slots hS hL (zst_mk (v := .inr (.inr v)) (fun y hy => hv.2.2 x hN b (by rw [g2]; exact hbn) y (e1.trans hy)) hst))
    · rename_i k1 k2
      have hk1 : Nat.beq (zKd a b) 1 = false := by
        cases q : Nat.beq (zKd a b) 1 with
        | false => rfl
        | true => exact absurd (Nat.eq_of_beq_eq_true q) k1
      rw [hk1] at hv2
      refine row ?_ (H ad Hp lsA locs cells slots hS hL (zst_mk (v := .inl _) hv2 hst))
      unfold zFv
      split
      · rename_i q; exact absurd q k1
      · rename_i q; exact absurd q k2
      · rfl
  · exact H.elim
theorem zs_pf {i a b pc : Nat} {ls : zLv} {st : List zV} {h : zH} (hx : p.tables.exec = Jvm.exec) (hb : c.code = zB k) (hts : ∀ w ∈ zGL, w.before args s = true) (hown : s.vm.findClass (zR (zO k)) = some m.cls) (hK : va_K D vwCl (zTys dA) s) (hnm : (zY k).name = "<init>" → meth.name = "<init>") (hd : decode (zB k) pc = .ok (.putfield i, 3)) (hf : (zO k, i, a, b) ∈ zFT) (hbn : b < zNF a) (ha : a < 13) (hfin : (zT a b).2.2.2 = false ∨ ((zY k).name = "<init>" ∧ (zT a b).1 = zR (zO k))) (H : zo_pf a b (zPp p l e R s m args below meth c Qf D dA A aC L xs N0 S0 k) pc ls st h) : zPp p l e R s m args below meth c Qf D dA A aC L xs N0 S0 k pc ls st h := by
  unfold zo_pf at H
  split at H
  · rename_i v x r
    intro ad Hp lsA locs cells slots hS hL hst
    obtain ⟨h0, hst1⟩ := zst_cons hst
    obtain ⟨h1, hr⟩ := zst_cons hst1
    obtain ⟨g1, H⟩ := H
    have hN := zxN h1 g1 (by omega)
    obtain ⟨g2, -⟩ := zSh_pair g1 ha
    have hv := hS.2.2.2.1
    have hN2 : x ≠ 2000 := by have := hv.1; omega
    have hil : zIl x b = Nat.beq (zKd a b) 1 := by
      unfold zIl
      rw [g1, show Nat.blt a 100 = true from Nat.blt_eq.mpr (by omega)]
      rfl
    have hws : (zWs dA ad h)[x]? = some (ad x, .inr (a, (List.range (zNF a)).map (zFv ad h x a))) := by rw [zWs_at dA ad hN, zCe_obj g2 (by omega)]
    have row : ∀ {vv : Value}, narrow (zTy a b) vv = vv → fits (zTy a b) vv = true → (∀ (H1 : Heap) (locs1 : List Loc), va_P D vwCl ((zWs dA ad h).set x (ad x, .inr (a, ((List.range (zNF a)).map (zFv ad h x a)).set b vv))) H1 → va_D A ((zWs dA ad h).set x (ad x, .inr (a, ((List.range (zNF a)).map (zFv ad h x a)).set b vv))) → va_S A s.heap H1 locs1 → W p l e R s m args below meth c H1 locs1 cells slots Qf (F0 m (pc + 3) lsA (r.map (zEv ad)))) → W p l e R s m args below meth c Hp locs cells slots Qf (F0 m pc lsA (vv :: .ref (ad x) :: r.map (zEv ad))) := by
      intro vv n1 n2 kk
      rcases hfin with hfin | ⟨f1, f2⟩
      · exact va_put hx hb hts (zWS_ok a ha) (zTy a) (zty_ok a ha) (znm_ok a ha) hown hK hS.1 hS.2.1 hS.2.2.1 x hws (zcl_ok a ha) b hbn (hts _ (zFT_ok _ hf)) (fun _ q => q) hfin (zty_ok a ha b hbn) n1 n2 (by simpa using hbn) hd kk
      · cases hfl : (zT a b).2.2.2 with
        | false => exact va_put hx hb hts (zWS_ok a ha) (zTy a) (zty_ok a ha) (znm_ok a ha) hown hK hS.1 hS.2.1 hS.2.2.1 x hws (zcl_ok a ha) b hbn (hts _ (zFT_ok _ hf)) (fun _ q => q) hfl (zty_ok a ha b hbn) n1 n2 (by simpa using hbn) hd kk
        | true => exact va_putF hx hb hts (zWS_ok a ha) (zTy a) (zty_ok a ha) (znm_ok a ha) hown hK hS.1 hS.2.1 hS.2.2.1 x hws (zcl_ok a ha) b hbn (hts _ (zFT_ok _ hf)) (fun _ q => q) hfl (hnm f1) f2 (zty_ok a ha b hbn) n1 n2 (by simpa using hbn) hd kk
    have hkc := zKc_ok ha hbn
    have goI : ∀ {y : Int} {vv : Value}, (match Nat.beq (zKd a b) 1 with | true => zIm y | false => zIn y) → zFv ad (h.1, z2 h.2.1 x b y, h.2.2) x a b = vv → narrow (zTy a b) vv = vv → fits (zTy a b) vv = true → zPp p l e R s m args below meth c Qf D dA A aC L xs N0 S0 k (pc + 3) ls r (h.1, z2 h.2.1 x b y, h.2.2) → W p l e R s m args below meth c Hp locs cells slots Qf (F0 m pc lsA (vv :: .ref (ad x) :: r.map (zEv ad))) := by
      intro y vv o1 o2 n1 n2 HP
      refine row n1 n2 (fun H1 locs1 p1 d1 s1 => ?_)
      have ec : zCe dA ad (h.1, z2 h.2.1 x b y, h.2.2) x = .inr (a, ((List.range (zNF a)).map (zFv ad h x a)).set b vv) := by
        rw [zCe_obj g2 (by omega)]
        refine congrArg (fun z => Sum.inr (a, z)) (Eq.symm (zmap_set o2 (fun j hj => ?_)))
        unfold zFv
        rw [show (h.1, z2 h.2.1 x b y, h.2.2).2.1 x j = h.2.1 x j from z2_nj hj]
      rw [← ec] at p1 d1
      exact HP ad H1 lsA locs1 cells slots (hS.upd rfl (fun z hz => zCe_congr (z2_ne hz) rfl) (hv.setI (by rw [hil]; exact o1)) (fun j => by rw [show (h.1, z2 h.2.1 x b y, h.2.2).2.1 2000 = h.2.1 2000 from z2_ne (Ne.symm hN2)]) p1 d1 s1) hL hr
    split at H
    · rename_i y hk
      rw [hk] at hkc
      have ht : zTy a b = .int := by
        generalize zTy a b = t at hkc
        cases t <;> simp [zKc] at hkc
        rfl
      exact goI (by rw [hk]; exact h0) (by unfold zFv; rw [hk]; show Value.int (zo (z2 h.2.1 x b y x b)) = _; rw [z2_eq]; rfl) (by rw [ht]; rfl) (by rw [ht]; rfl) H
    · rename_i y hk
      rw [hk] at hkc
      have ht : zTy a b = .long := by
        generalize zTy a b = t at hkc
        cases t <;> simp [zKc] at hkc
        rfl
      exact goI (by rw [hk]; exact h0) (by unfold zFv; rw [hk]; show Value.long (zp (z2 h.2.1 x b y x b)) = _; rw [z2_eq]; rfl) (by rw [ht]; rfl) (by rw [ht]; rfl) H
    · rename_i y hk
      rw [hk] at hkc
      have hn : narrow (zTy a b) (.ref (ad y)) = .ref (ad y) ∧ fits (zTy a b) (.ref (ad y)) = true := by
        generalize zTy a b = t at hkc
        cases t <;> simp [zKc] at hkc <;> exact ⟨rfl, rfl⟩
      refine row hn.1 hn.2 (fun H1 locs1 p1 d1 s1 => ?_)
      have ec : zCe dA ad (h.1, h.2.1, z2 h.2.2 x b (some y)) x = .inr (a, ((List.range (zNF a)).map (zFv ad h x a)).set b (zEv ad (.inr (.inr (some y))))) := by
        rw [zCe_obj g2 (by omega)]
        refine congrArg (fun z => Sum.inr (a, z)) (Eq.symm (zmap_set ?_ (fun j hj => ?_)))
        · unfold zFv
          rw [hk]
          show va_rf ((z2 h.2.2 x b (some y) x b).map ad) = _
          rw [z2_eq]
          rfl
        · unfold zFv
          rw [show (h.1, h.2.1, z2 h.2.2 x b (some y)).2.2 x j = h.2.2 x j from z2_nj hj]
      rw [← ec] at p1 d1
      exact H ad H1 lsA locs1 cells slots (hS.upd rfl (fun z hz => zCe_congr rfl (z2_ne hz)) (hv.setR (h0 y rfl)) (fun j => rfl) p1 d1 s1) hL hr
    · rename_i y hk
      rw [hk] at hkc
      have ht : zTy a b = .boolean := by
        generalize zTy a b = t at hkc
        cases t <;> simp [zKc] at hkc
        rfl
      refine goI (by rw [hk]; exact h0) (by unfold zFv; rw [hk]; show Value.int (zo (z2 h.2.1 x b y x b)) = _; rw [z2_eq]; rfl) ?_ ?_ H.2
      · rw [ht]; rcases H.1 with rfl | rfl <;> rfl
      · rw [ht]; rcases H.1 with rfl | rfl <;> rfl
    · exact H.elim
  · exact H.elim
theorem zs_ild {t pc : Nat} {ls : zLv} {st : List zV} {h : zH} (hx : p.tables.exec = Jvm.exec) (hb : c.code = zB k) (hK : va_K D vwCl (zTys dA) s) (ht : (t = 100 ∧ decode (zB k) pc = .ok (.iaload, 1)) ∨ (t = 101 ∧ decode (zB k) pc = .ok (.baload, 1))) (H : zo_ild t (zPp p l e R s m args below meth c Qf D dA A aC L xs N0 S0 k) pc ls st h) : zPp p l e R s m args below meth c Qf D dA A aC L xs N0 S0 k pc ls st h := by
  unfold zo_ild at H
  split at H
  · rename_i i x r
    intro ad Hp lsA locs cells slots hS hL hst
    obtain ⟨h0, hst⟩ := zst_cons hst
    obtain ⟨h1, hst⟩ := zst_cons hst
    obtain ⟨g1, gi, H⟩ := H
    have hN := zxN h1 g1 (by rcases ht with q | q <;> omega)
    obtain ⟨g2, -⟩ := zSh_arr g1 (by rcases ht with q | q <;> omega)
    have hv := hS.2.2.2.1.2.1 x hN i.toNat
    rw [show zIl x i.toNat = false by unfold zIl; rw [g1, show Nat.blt t 100 = false by rcases ht with ⟨rfl, -⟩ | ⟨rfl, -⟩ <;> rfl]; rfl] at hv
    have kk := H ad Hp lsA locs cells slots hS hL (zst_mk (v := .inl _) hv hst)
    obtain ⟨i1, i2⟩ := zix gi h0
    rcases ht with ⟨rfl, hd⟩ | ⟨rfl, hd⟩
    · refine va_iald hx hb hK hS.1 x 0 (n := (zSh x).2) (f := fun j => zo (h.2.1 x j)) (by rw [zWs_at dA ad hN, zCe_ia g2]) (zTys_at dA (by omega)) i1 hd ?_
      rw [i2]
      exact kk
    · refine va_zald hx hb hK hS.1 x 1 (n := (zSh x).2) (f := fun j => zo (h.2.1 x j)) (by rw [zWs_at dA ad hN, zCe_za g2]) (zTys_at dA (by omega)) i1 hd ?_
      rw [i2]
      exact kk
  · exact H.elim
theorem zs_ist {pc : Nat} {ls : zLv} {st : List zV} {h : zH} (hx : p.tables.exec = Jvm.exec) (hb : c.code = zB k) (hK : va_K D vwCl (zTys dA) s) (hd : decode (zB k) pc = .ok (.iastore, 1)) (H : zo_ist 100 (zPp p l e R s m args below meth c Qf D dA A aC L xs N0 S0 k) pc ls st h) : zPp p l e R s m args below meth c Qf D dA A aC L xs N0 S0 k pc ls st h := by
  unfold zo_ist at H
  split at H
  · rename_i y i x r
    intro ad Hp lsA locs cells slots hS hL hst
    obtain ⟨hy, hst⟩ := zst_cons hst
    obtain ⟨h0, hst⟩ := zst_cons hst
    obtain ⟨h1, hst⟩ := zst_cons hst
    obtain ⟨g1, gi, H⟩ := H
    have hN := zxN h1 g1 (by omega)
    obtain ⟨g2, -⟩ := zSh_arr g1 (by omega)
    have hv := hS.2.2.2.1
    have hN2 : x ≠ 2000 := by have := hv.1; omega
    obtain ⟨i1, i2⟩ := zix gi h0
    refine va_iast hx hb hK hS.1 hS.2.1 hS.2.2.1 x 0 (n := (zSh x).2) (f := fun j => zo (h.2.1 x j)) (by rw [zWs_at dA ad hN, zCe_ia g2]) (zTys_at dA (by omega)) i1 hd (fun H1 locs1 p1 d1 s1 => ?_)
    have ec : zCe dA ad (h.1, z2 h.2.1 x i.toNat y, h.2.2) x = .inl (dA 0, (zSh x).2, .inl (upd (fun j => zo (h.2.1 x j)) (zo i).toNatClampNeg (zo y))) := by
      rw [zCe_ia g2, i2]
      refine congrArg (fun z => Sum.inl (dA 0, (zSh x).2, Sum.inl z)) ?_
      funext j
      show zo (z2 h.2.1 x i.toNat y x j) = upd _ _ _ j
      unfold upd
      rw [z2_if]
      by_cases q : j = i.toNat
      · rw [if_pos ⟨rfl, q⟩, if_pos q]
      · rw [if_neg (fun z => q z.2), if_neg q]
    rw [← ec] at p1 d1
    refine H ad H1 lsA locs1 cells slots (hS.upd rfl (fun z hz => zCe_congr (z2_ne hz) rfl) (hv.setI ?_) (fun j => by rw [show (h.1, z2 h.2.1 x i.toNat y, h.2.2).2.1 2000 = h.2.1 2000 from z2_ne (Ne.symm hN2)]) p1 d1 s1) hL hst
    rw [show zIl x i.toNat = false by unfold zIl; rw [g1]; rfl]
    exact hy
  · exact H.elim
theorem zs_zst {pc : Nat} {ls : zLv} {st : List zV} {h : zH} (hx : p.tables.exec = Jvm.exec) (hb : c.code = zB k) (hK : va_K D vwCl (zTys dA) s) (hd : decode (zB k) pc = .ok (.bastore, 1)) (H : zo_zst (zPp p l e R s m args below meth c Qf D dA A aC L xs N0 S0 k) pc ls st h) : zPp p l e R s m args below meth c Qf D dA A aC L xs N0 S0 k pc ls st h := by
  unfold zo_zst at H
  split at H
  · rename_i y i x r
    intro ad Hp lsA locs cells slots hS hL hst
    obtain ⟨hy, hst⟩ := zst_cons hst
    obtain ⟨h0, hst⟩ := zst_cons hst
    obtain ⟨h1, hst⟩ := zst_cons hst
    obtain ⟨g1, gi, hy2, H⟩ := H
    have hN := zxN h1 g1 (by omega)
    obtain ⟨g2, -⟩ := zSh_arr g1 (by omega)
    have hv := hS.2.2.2.1
    have hN2 : x ≠ 2000 := by have := hv.1; omega
    obtain ⟨i1, i2⟩ := zix gi h0
    refine va_zast hx hb hK hS.1 hS.2.1 hS.2.2.1 x 1 (n := (zSh x).2) (f := fun j => zo (h.2.1 x j)) (by rw [zWs_at dA ad hN, zCe_za g2]) (zTys_at dA (by omega)) i1 hd (fun H1 locs1 p1 d1 s1 => ?_)
    have ec : zCe dA ad (h.1, z2 h.2.1 x i.toNat y, h.2.2) x = .inl (dA 1, (zSh x).2, .inl (upd (fun j => zo (h.2.1 x j)) (zo i).toNatClampNeg (vp_nar .boolean (zo y)))) := by
      rw [zCe_za g2, i2, show vp_nar .boolean (zo y) = zo y by rcases hy2 with rfl | rfl <;> rfl]
      refine congrArg (fun z => Sum.inl (dA 1, (zSh x).2, Sum.inl z)) ?_
      funext j
      show zo (z2 h.2.1 x i.toNat y x j) = upd _ _ _ j
      unfold upd
      rw [z2_if]
      by_cases q : j = i.toNat
      · rw [if_pos ⟨rfl, q⟩, if_pos q]
      · rw [if_neg (fun z => q z.2), if_neg q]
    rw [← ec] at p1 d1
    refine H ad H1 lsA locs1 cells slots (hS.upd rfl (fun z hz => zCe_congr (z2_ne hz) rfl) (hv.setI ?_) (fun j => by rw [show (h.1, z2 h.2.1 x i.toNat y, h.2.2).2.1 2000 = h.2.1 2000 from z2_ne (Ne.symm hN2)]) p1 d1 s1) hL hst
    rw [show zIl x i.toNat = false by unfold zIl; rw [g1]; rfl]
    exact hy
  · exact H.elim
theorem zTy_ref {t : Nat} (h : 2 ≤ t) (h2 : t ≤ 5) : zgt .int zTyL t = .object (zR (zAc t)) := by
  match t, h, h2 with
  | 2, _, _ => rfl
  | 3, _, _ => rfl
  | 4, _, _ => rfl
  | 5, _, _ => rfl
  | 0, h, _ => exact absurd h (by omega)
  | 1, h, _ => exact absurd h (by omega)
  | t + 6, _, h => exact absurd h (by omega)
theorem zs_ald {pc : Nat} {ls : zLv} {st : List zV} {h : zH} (hx : p.tables.exec = Jvm.exec) (hb : c.code = zB k) (hK : va_K D vwCl (zTys dA) s) (hd : decode (zB k) pc = .ok (.aaload, 1)) (H : zo_ald (zPp p l e R s m args below meth c Qf D dA A aC L xs N0 S0 k) pc ls st h) : zPp p l e R s m args below meth c Qf D dA A aC L xs N0 S0 k pc ls st h := by
  unfold zo_ald at H
  split at H
  · rename_i i x r
    intro ad Hp lsA locs cells slots hS hL hst
    obtain ⟨h0, hst⟩ := zst_cons hst
    obtain ⟨h1, hst⟩ := zst_cons hst
    obtain ⟨⟨g0, g1⟩, gi, v, e1, H⟩ := H
    have hN := zxN h1 rfl (by omega)
    have hlt : i.toNat < (zSh x).2 := by omega
    have kk := H ad Hp lsA locs cells slots hS hL (zst_mk (v := .inr (.inr v)) (fun y hy => hS.2.2.2.1.2.2 x hN i.toNat hlt y (e1.trans hy)) hst)
    obtain ⟨i1, i2⟩ := zix gi h0
    refine va_aldq hx hb hK hS.1 x ((zSh x).1 - 100) (C := zR (zAc ((zSh x).1 - 100))) (n := (zSh x).2) (f := fun j => if j < (zSh x).2 then (h.2.2 x j).map ad else none) (by rw [zWs_at dA ad hN, zCe_ra (t := (zSh x).1) (n := (zSh x).2) rfl g0]) (by rw [zTys_at dA (by omega), zTy_ref (by omega) (by omega)]) i1 hd ?_
    rw [i2, if_pos hlt, e1]
    exact kk
  · exact H.elim
theorem zs_ast {pc : Nat} {ls : zLv} {st : List zV} {h : zH} (hx : p.tables.exec = Jvm.exec) (hb : c.code = zB k) (hK : va_K D vwCl (zTys dA) s) (hca : ∀ c ∈ [1, 2, 3, 4, 6], va_Nw (.castable (zR c) RX9) s) (hd : decode (zB k) pc = .ok (.aastore, 1)) (H : zo_ast (zPp p l e R s m args below meth c Qf D dA A aC L xs N0 S0 k) pc ls st h) : zPp p l e R s m args below meth c Qf D dA A aC L xs N0 S0 k pc ls st h := by
  unfold zo_ast at H
  split at H
  · rename_i y i x r
    intro ad Hp lsA locs cells slots hS hL hst
    obtain ⟨hy, hst⟩ := zst_cons hst
    obtain ⟨h0, hst⟩ := zst_cons hst
    obtain ⟨h1, hst⟩ := zst_cons hst
    obtain ⟨gf, gi, H⟩ := H
    have gf2 : ((zSh x).1 = 102 ∧ (zSh y).1 = 5) ∨ ((zSh x).1 = 103 ∧ (zSh y).1 = 8) ∨ ((zSh x).1 = 105 ∧ (zSh y).1 = 10) ∨ ((zSh x).1 = 104 ∧ ((zSh y).1 = 9 ∨ (zSh y).1 ∈ [1, 2, 3, 4, 6])) := by
      simp only [zfit, Bool.or_eq_true, Bool.and_eq_true, beq_iff_eq] at gf
      simp only [List.mem_cons, List.not_mem_nil, or_false]
      omega
    have hN := zxN h1 rfl (by omega)
    have hx2 : 102 ≤ (zSh x).1 := by omega
    have hyc : (zSh y).1 < 13 := by
      simp only [List.mem_cons, List.not_mem_nil, or_false] at gf2
      omega
    have hNy := zxN hy rfl (by omega)
    obtain ⟨gy, -⟩ := zSh_pair (x := y) rfl hyc
    have hv := hS.2.2.2.1
    obtain ⟨i1, i2⟩ := zix gi h0
    have hlt : i.toNat < (zSh x).2 := by omega
    have hwx : (zWs dA ad h)[x]? = some (ad x, .inl (dA ((zSh x).1 - 100), (zSh x).2, .inr (.inr (.inr (.inr (fun j => if j < (zSh x).2 then (h.2.2 x j).map ad else none)))))) := by rw [zWs_at dA ad hN, zCe_ra (t := (zSh x).1) (n := (zSh x).2) rfl hx2]
    have hwy : (zWs dA ad h)[y]? = some (ad y, .inr ((zSh y).1, (List.range (zNF (zSh y).1)).map (zFv ad h y (zSh y).1))) := by rw [zWs_at dA ad hNy, zCe_obj gy (by omega)]
    have ec : zCe dA ad (h.1, h.2.1, z2 h.2.2 x i.toNat (some y)) x = .inl (dA ((zSh x).1 - 100), (zSh x).2, .inr (.inr (.inr (.inr (va_up (fun j => if j < (zSh x).2 then (h.2.2 x j).map ad else none) (zo i).toNatClampNeg (some (ad y))))))) := by
      rw [zCe_ra (t := (zSh x).1) (n := (zSh x).2) rfl hx2, i2]
      refine congrArg (fun z => Sum.inl (dA ((zSh x).1 - 100), (zSh x).2, Sum.inr (Sum.inr (Sum.inr (Sum.inr z))))) ?_
      funext j
      show (if j < (zSh x).2 then (z2 h.2.2 x i.toNat (some y) x j).map ad else none) = va_up _ _ _ j
      unfold va_up
      rw [z2_if]
      by_cases q : j = i.toNat
      · subst q
        simp [hlt]
      · simp [q]
    have fin : ∀ (H1 : Heap) (locs1 : List Loc), va_P D vwCl ((zWs dA ad h).set x (ad x, .inl (dA ((zSh x).1 - 100), (zSh x).2, .inr (.inr (.inr (.inr (va_up (fun j => if j < (zSh x).2 then (h.2.2 x j).map ad else none) (zo i).toNatClampNeg (some (ad y)))))))) ) H1 → va_D A ((zWs dA ad h).set x (ad x, .inl (dA ((zSh x).1 - 100), (zSh x).2, .inr (.inr (.inr (.inr (va_up (fun j => if j < (zSh x).2 then (h.2.2 x j).map ad else none) (zo i).toNatClampNeg (some (ad y)))))))) ) → va_S A s.heap H1 locs1 → W p l e R s m args below meth c H1 locs1 cells slots Qf (F0 m (pc + 1) lsA (r.map (zEv ad))) := by
      intro H1 locs1 p1 d1 s1
      rw [← ec] at p1 d1
      exact H ad H1 lsA locs1 cells slots (hS.upd rfl (fun z hz => zCe_congr rfl (z2_ne hz)) (hv.setR (Or.inl hNy)) (fun j => rfl) p1 d1 s1) hL hst
    have htt := zTys_at dA (t := (zSh x).1 - 100) (by omega)
    by_cases q : (zSh x).1 = 104 ∧ (zSh y).1 ∈ [1, 2, 3, 4, 6]
    · exact va_astqO hx hb hK hS.1 hS.2.1 hS.2.2.1 x ((zSh x).1 - 100) y (zSh y).1 (E := RX9) hwx (by rw [htt, q.1]; rfl) (hca _ q.2) hwy (zcl_ok _ hyc) i1 hd fin
    · refine va_astq hx hb hK hS.1 hS.2.1 hS.2.2.1 x ((zSh x).1 - 100) y (zSh y).1 (r := (zR (zSh y).1, zT (zSh y).1, zNF (zSh y).1)) hwx ?_ hwy (zcl_ok _ hyc) i1 hd fin
      rw [htt]
      rcases gf2 with ⟨q1, q2⟩ | ⟨q1, q2⟩ | ⟨q1, q2⟩ | ⟨q1, q2 | q2⟩
      · rw [q1, q2]; rfl
      · rw [q1, q2]; rfl
      · rw [q1, q2]; rfl
      · rw [q1, q2]; rfl
      · exact absurd ⟨q1, q2⟩ q
  · exact H.elim
theorem zs_len {pc : Nat} {ls : zLv} {st : List zV} {h : zH} (hx : p.tables.exec = Jvm.exec) (hb : c.code = zB k) (hK : va_K D vwCl (zTys dA) s) (hd : decode (zB k) pc = .ok (.arraylength, 1)) (H : zo_len (zPp p l e R s m args below meth c Qf D dA A aC L xs N0 S0 k) pc ls st h) : zPp p l e R s m args below meth c Qf D dA A aC L xs N0 S0 k pc ls st h := by
  unfold zo_len at H
  split at H
  · rename_i x r
    intro ad Hp lsA locs cells slots hS hL hst
    obtain ⟨h1, hst⟩ := zst_cons hst
    obtain ⟨⟨g0, g1⟩, H⟩ := H
    have hN := zxN h1 rfl (by omega)
    have hsm := zSh_small x
    have kk := H ad Hp lsA locs cells slots hS hL (zst_mk (v := .inl _) (by show zIn _; omega) hst)
    have hc : ∃ z, zCe dA ad h x = .inl (dA ((zSh x).1 - 100), (zSh x).2, z) := by
      by_cases q : (zSh x).1 = 100
      · obtain ⟨g2, -⟩ := zSh_arr q (by omega)
        exact ⟨_, by rw [zCe_ia g2, q]⟩
      · by_cases q1 : (zSh x).1 = 101
        · obtain ⟨g2, -⟩ := zSh_arr q1 (by omega)
          exact ⟨_, by rw [zCe_za g2, q1]⟩
        · exact ⟨_, zCe_ra (t := (zSh x).1) (n := (zSh x).2) rfl (by omega)⟩
    obtain ⟨z, hz⟩ := hc
    exact va_alen hx hb hK hS.1 x ((zSh x).1 - 100) (x := ((zSh x).2, z)) (by rw [zWs_at dA ad hN, hz]) (zTys_at dA (by omega)) (v := zo ((zSh x).2 : Nat)) (by show Int32.ofNat _ = _; exact (Int32.ofInt_eq_ofNat).symm) hd kk
  · exact H.elim
theorem zs_sld {pc : Nat} {ls : zLv} {st : List zV} {h : zH} (hx : p.tables.exec = Jvm.exec) (hb : c.code = zB k) (hX : va_X (aC 2000) L xs s s.heap) (hbl : aC 2000 < s.heap.size) (hbA : ¬ A (aC 2000)) (hd : decode (zB k) pc = .ok (.iaload, 1)) (H : zo_sld (zPp p l e R s m args below meth c Qf D dA A aC L xs N0 S0 k) pc ls st h) : zPp p l e R s m args below meth c Qf D dA A aC L xs N0 S0 k pc ls st h := by
  unfold zo_sld at H
  split at H
  · rename_i i x r
    intro ad Hp lsA locs cells slots hS hL hst
    obtain ⟨h0, hst⟩ := zst_cons hst
    obtain ⟨h1, hr⟩ := zst_cons hst
    obtain ⟨rfl, gi, H⟩ := H
    obtain ⟨-, -, s1, -, a5, -, -, a8, a9⟩ := id hS
    rw [a8] at gi
    obtain ⟨i1, i2⟩ := zix gi h0
    have e1 := a9 i.toNat (by omega)
    have kk := H ad Hp lsA locs cells slots hS hL (zst_mk (v := .inl _) (by rw [e1]; exact ztI _) hr)
    show W p l e R s m args below meth c Hp locs cells slots Qf (F0 m pc lsA (.int (zo i) :: .ref (ad 2000) :: r.map (zEv ad)))
    rw [a5 2000 (Or.inr (by omega))]
    refine va_sld hx hb hX hbl hbA s1 i1 hd ?_
    rw [i2, ← zoI (xs i.toNat), ← e1]
    exact kk
  · exact H.elim
theorem zs_slen {pc : Nat} {ls : zLv} {st : List zV} {h : zH} (hx : p.tables.exec = Jvm.exec) (hb : c.code = zB k) (hX : va_X (aC 2000) L xs s s.heap) (hbl : aC 2000 < s.heap.size) (hbA : ¬ A (aC 2000)) (hLL : L ≤ 3072) (hd : decode (zB k) pc = .ok (.arraylength, 1)) (H : zo_slen (zPp p l e R s m args below meth c Qf D dA A aC L xs N0 S0 k) pc ls st h) : zPp p l e R s m args below meth c Qf D dA A aC L xs N0 S0 k pc ls st h := by
  unfold zo_slen at H
  split at H
  · rename_i x r
    intro ad Hp lsA locs cells slots hS hL hst
    obtain ⟨h1, hr⟩ := zst_cons hst
    obtain ⟨rfl, H⟩ := H
    obtain ⟨-, -, s1, -, a5, -, -, a8, a9⟩ := id hS
    have kk := H ad Hp lsA locs cells slots hS hL (zst_mk (v := .inl _) (by show zIn _; rw [a8]; omega) hr)
    show W p l e R s m args below meth c Hp locs cells slots Qf (F0 m pc lsA (.ref (ad 2000) :: r.map (zEv ad)))
    rw [a5 2000 (Or.inr (by omega))]
    refine va_slen hx hb hX hbl hbA s1 hd ?_
    rw [show Int32.ofNat L = zo ((h.1.2.2 : Nat) : Int) by rw [a8]; exact (Int32.ofInt_eq_ofNat).symm]
    exact kk
  · exact H.elim
end
end
section
/-! new cells; written out of wip/whole/14.src -/
theorem zEv_ext {ad ad1 : Nat → Nat} {N : Nat} (ea : ∀ y, (y < N ∨ 1000 ≤ y) → ad1 y = ad y) {v : zV} (h : zVd N v) : zEv ad1 v = zEv ad v := by
  rcases v with x | x | r
  · rfl
  · rfl
  · cases r with
    | none => rfl
    | some y => exact congrArg Value.ref (ea y (h y rfl))
theorem zVd_up {N N1 : Nat} (hN : N ≤ N1) {v : zV} (h : zVd N v) : zVd N1 v := by
  rcases v with x | x | r
  · exact h
  · exact h
  · exact fun y hy => by rcases h y hy with q | q; exact Or.inl (by omega); exact Or.inr q
theorem zst_ext {ad ad1 : Nat → Nat} {N : Nat} (ea : ∀ y, (y < N ∨ 1000 ≤ y) → ad1 y = ad y) : ∀ {st : List zV}, (∀ v ∈ st, zVd N v) → st.map (zEv ad1) = st.map (zEv ad)
  | [], _ => rfl
  | v :: st, h => by
    rw [List.map_cons, List.map_cons, zEv_ext ea (h v List.mem_cons_self), zst_ext ea (fun w hw => h w (List.mem_cons_of_mem _ hw))]
theorem zLo.ext {ad ad1 : Nat → Nat} {N N1 nL : Nat} {ls : zLv} {A : Array Slot} (ea : ∀ y, (y < N ∨ 1000 ≤ y) → ad1 y = ad y) (hN : N ≤ N1) (h : zLo ad N nL ls A) : zLo ad1 N1 nL ls A :=
  ⟨h.1, h.2.1, fun i v hv => ⟨zVd_up hN (h.2.2 i v hv).1, by rw [zEv_ext ea (h.2.2 i v hv).1]; exact (h.2.2 i v hv).2⟩⟩
theorem zopt_ext {ad ad1 : Nat → Nat} {N : Nat} (ea : ∀ y, (y < N ∨ 1000 ≤ y) → ad1 y = ad y) {r : Option Nat} (h : ∀ y, r = some y → y < N ∨ 1000 ≤ y) : r.map ad1 = r.map ad := by
  cases r with
  | none => rfl
  | some y => exact congrArg some (ea y (h y rfl))
theorem zCe_ext {dA : Nat → ClassId} {ad ad1 : Nat → Nat} {h h1 : zH} {x : Nat} (hv : zVal h) (hx : x < h.1.1) (e1 : h1.2.1 x = h.2.1 x) (e2 : h1.2.2 x = h.2.2 x) (ea : ∀ y, (y < h.1.1 ∨ 1000 ≤ y) → ad1 y = ad y) : zCe dA ad1 h1 x = zCe dA ad h x := by
  have hr : ∀ j, j < (zSh x).2 → (h.2.2 x j).map ad1 = (h.2.2 x j).map ad := fun j hj => zopt_ext ea (fun y hy => hv.2.2 x hx j hj y hy)
  unfold zCe
  rw [e1, e2]
  have a1 : (List.range (zSh x).2).map (zFv ad1 h1 x (zSh x).1) = (List.range (zSh x).2).map (zFv ad h x (zSh x).1) := by
    apply List.map_congr_left
    intro j hj
    unfold zFv
    rw [e1, e2, hr j (List.mem_range.mp hj)]
  have a2 : (fun j => if j < (zSh x).2 then (h.2.2 x j).map ad1 else none) = (fun j => if j < (zSh x).2 then (h.2.2 x j).map ad else none) := by
    funext j
    by_cases q : j < (zSh x).2
    · rw [if_pos q, if_pos q, hr j q]
    · rw [if_neg q, if_neg q]
  rw [a1, a2]
def znh (h : zH) (n : Nat) : zH := ((h.1.1 + 1, h.1.2.1 + n, h.1.2.2), z1 h.2.1 h.1.1 0, z1 h.2.2 h.1.1 none)
def zna (ad : Nat → Nat) (N q : Nat) : Nat → Nat := fun y => if y = N then q else ad y
theorem zna_ext {ad : Nat → Nat} {N q : Nat} (hN : N < 1000) : ∀ y, (y < N ∨ 1000 ≤ y) → zna ad N q y = ad y := fun y hy => by
  unfold zna
  rw [if_neg (by omega)]
theorem z1_ne {α : Type} {f : Nat → Nat → α} {a y : Nat} {v : α} (h : y ≠ a) : z1 f a v y = f y := by
  funext k
  unfold z1
  rw [if_neg h]
theorem z1_eq {α : Type} {f : Nat → Nat → α} {a j : Nat} {v : α} : z1 f a v a j = v := by
  unfold z1
  rw [if_pos rfl]
theorem zWs_push {dA : Nat → ClassId} {ad : Nat → Nat} {h : zH} {n q : Nat} (hv : zVal h) (hN : h.1.1 < 1000) : zWs dA (zna ad h.1.1 q) (znh h n) = zWs dA ad h ++ [(q, zCe dA (zna ad h.1.1 q) (znh h n) h.1.1)] := by
  unfold zWs
  show (List.range (h.1.1 + 1)).map _ = _
  rw [List.range_succ, List.map_append]
  congr 1
  · apply List.map_congr_left
    intro x hx
    have hx := List.mem_range.mp hx
    rw [zna_ext hN x (Or.inl hx), zCe_ext hv hx (z1_ne (by omega)) (z1_ne (by omega)) (zna_ext hN)]
  · show [(zna ad h.1.1 q h.1.1, _)] = _
    rw [show zna ad h.1.1 q h.1.1 = q from if_pos rfl]
theorem zVal.push {h : zH} {n : Nat} (hv : zVal h) (hN : h.1.1 < 1000) : zVal (znh h n) := by
  refine ⟨by show h.1.1 + 1 ≤ 1000; omega, fun x hx j => ?_, fun x hx j hj y hy => ?_⟩
  · have hx : x < h.1.1 + 1 := hx
    show match zIl x j with | true => zIm (z1 h.2.1 h.1.1 0 x j) | false => zIn (z1 h.2.1 h.1.1 0 x j)
    by_cases q : x = h.1.1
    · rw [q, z1_eq]
      cases zIl h.1.1 j
      · exact zIn0
      · exact zIm0
    · rw [z1_ne q]
      exact hv.2.1 x (by omega) j
  · have hx : x < h.1.1 + 1 := hx
    have hy : z1 h.2.2 h.1.1 none x j = some y := hy
    by_cases q : x = h.1.1
    · rw [q, z1_eq] at hy
      cases hy
    · rw [z1_ne q] at hy
      rcases hv.2.2 x (by omega) j hj y hy with z | z
      · exact Or.inl (by show y < h.1.1 + 1; omega)
      · exact Or.inr z
section
variable {p : Program} {l : Launch} {e : Env} {R : Room} {s : State} {m : MethodId} {args : Array Value} {below : List Frame} {meth : Method} {c : Code} {Qf : State → Prop} {D : va_G} {dA : Nat → ClassId} {A : Nat → Prop} {aC aV : Nat → Nat} {L : Nat} {xs : Nat → Int32} {N0 S0 k : Nat}
theorem zSt.push {ad : Nat → Nat} {h : zH} {H H1 : Heap} {locs : List Loc} {cells slots n q : Nat} (hS : zSt D dA A aC L xs s N0 S0 R ad h H locs cells slots) (hN : h.1.1 < 1000) (hc : cells + 1 ≤ R.cells) (hs : slots + n ≤ R.slots)
    {ce : va_E} (hce : zCe dA (zna ad h.1.1 q) (znh h n) h.1.1 = ce) (p1 : va_P D vwCl (zWs dA ad h ++ [(q, ce)]) H1) (d1 : va_D A (zWs dA ad h ++ [(q, ce)])) (s1 : va_S A s.heap H1 locs) : zSt D dA A aC L xs s N0 S0 R (zna ad h.1.1 q) (znh h n) H1 locs (cells + 1) (slots + n) := by
  obtain ⟨-, -, -, a4, a5, a6, a7, a8, a9⟩ := hS
  rw [← hce, ← zWs_push a4 hN] at p1 d1
  refine ⟨p1, d1, s1, a4.push hN, fun i hi => by rw [zna_ext hN i (by omega)]; exact a5 i hi, ⟨?_, ?_⟩, ⟨hc, hs⟩, a8, fun j hj => ?_⟩
  · show h.1.1 + 1 = _; omega
  · show h.1.2.1 + n = _; omega
  · show z1 h.2.1 h.1.1 0 2000 j = _
    rw [z1_ne (by omega)]
    exact a9 j hj
theorem zs_newgo {ad : Nat → Nat} {h : zH} {H H1 : Heap} {locs : List Loc} {cells slots n q pc1 : Nat} {ls : zLv} {st : List zV} {lsA : Array Slot} (hS : zSt D dA A aC L xs s N0 S0 R ad h H locs cells slots) (hL : zLo ad h.1.1 (zL k) ls lsA) (hst : ∀ v ∈ st, zVd h.1.1 v) (hN : h.1.1 < 1000) (hc : cells + 1 ≤ R.cells) (hs : slots + n ≤ R.slots)
    {ce : va_E} (hce : zCe dA (zna ad h.1.1 q) (znh h n) h.1.1 = ce) (p1 : va_P D vwCl (zWs dA ad h ++ [(q, ce)]) H1) (d1 : va_D A (zWs dA ad h ++ [(q, ce)])) (s1 : va_S A s.heap H1 locs) (HP : zPp p l e R s m args below meth c Qf D dA A aC L xs N0 S0 k pc1 ls (.inr (.inr (some h.1.1)) :: st) (znh h n)) : W p l e R s m args below meth c H1 locs (cells + 1) (slots + n) Qf (F0 m pc1 lsA (.ref q :: st.map (zEv ad))) := by
  have := HP (zna ad h.1.1 q) H1 lsA locs (cells + 1) (slots + n) (hS.push hN hc hs hce p1 d1 s1) (hL.ext (zna_ext hN) (Nat.le_succ _)) (zst_mk (fun y hy => by cases hy; exact Or.inl (Nat.lt_succ_self _)) (fun v hv => zVd_up (Nat.le_succ _) (hst v hv)))
  rw [List.map_cons, zst_ext (zna_ext hN) hst, show zEv (zna ad h.1.1 q) (.inr (.inr (some h.1.1))) = .ref q from congrArg Value.ref (if_pos rfl)] at this
  exact this
theorem zs_new {i a pc : Nat} {B : Nat × Nat} {ls : zLv} {st : List zV} {h : zH} (hx : p.tables.exec = Jvm.exec) (hb : c.code = zB k) (hts : ∀ w ∈ zGL, w.before args s = true) (hown : s.vm.findClass (zR (zO k)) = some m.cls) (hK : va_K D vwCl (zTys dA) s) (hA : ∀ q, s.heap.size ≤ q → A q) (hB : B.1 ≤ N0 + R.cells ∧ B.2 ≤ S0 + R.slots) (hd : decode (zB k) pc = .ok (.new i, 3)) (hct : (zO k, i, a) ∈ zCT) (ha : a < 13) (H : zo_new a (zNF a) B (zPp p l e R s m args below meth c Qf D dA A aC L xs N0 S0 k) (pc + 3) ls st h) : zPp p l e R s m args below meth c Qf D dA A aC L xs N0 S0 k pc ls st h := by
  unfold zo_new at H
  obtain ⟨g1, g2, g3, hN, HP⟩ := H
  intro ad Hp lsA locs cells slots hS hL hst
  obtain ⟨c1, c2, c3⟩ := zCT_ok _ hct
  have hcnt := hS.2.2.2.2.2.1
  have hfs : ∀ j, j < zNF a → defaultValue (zTy a j) = vp_V ((List.range (zNF a)).map (fun j => match zKd a j with | 1 => Value.long (zp 0) | 2 => va_rf none | _ => .int (zo 0))) j := by
    intro j hj
    unfold vp_V
    rw [List.getD_eq_getElem?_getD, List.getElem?_map, List.getElem?_range hj]
    show _ = (match zKd a j with | 1 => Value.long (zp 0) | 2 => va_rf none | _ => .int (zo 0))
    have hk := zKc_ok ha hj
    generalize zTy a j = t at hk
    generalize zKd a j = kd at hk
    unfold zKc at hk
    split at hk
    · rfl
    · rfl
    · rfl
    · rfl
    · rfl
    · cases hk
  refine va_new hx hb hts (zWS_ok a ha) (zTy a) (zty_ok a ha) hown (hts _ c1) (hts _ c2) (hts _ c3) hK hS.1 hS.2.1 hS.2.2.1 hA (zcl_ok a ha) hfs (by omega) (by omega) hd (fun q H1 p1 d1 s1 => ?_)
  refine zs_newgo hS hL hst hN (by omega) (by omega) ?_ p1 d1 s1 HP
  rw [zCe_obj g1 (by omega)]
  refine congrArg (fun z => Sum.inr (a, z)) (List.map_congr_left (fun j _ => ?_))
  unfold zFv
  show (match zKd a j with | 1 => Value.long (zp (z1 h.2.1 h.1.1 0 h.1.1 j)) | 2 => va_rf ((z1 h.2.2 h.1.1 none h.1.1 j).map _) | _ => .int (zo (z1 h.2.1 h.1.1 0 h.1.1 j))) = _
  rw [z1_eq, z1_eq]
  rfl
theorem zRA_eq {s : State} {cA cB : ClassId} {t : FieldType} (h1 : va_RA s cA t) (h2 : va_RA s cB t) (ht : t = .int ∨ t = .boolean ∨ ∃ C, t = .object C) : cA = cB := by
  rcases ht with rfl | rfl | ⟨C, rfl⟩
  · exact Option.some.inj (Eq.trans (Eq.symm h1) h2)
  · exact Option.some.inj (Eq.trans (Eq.symm h1) h2)
  · obtain ⟨_, _, _, _, _, a⟩ := h1
    obtain ⟨_, _, _, _, _, b⟩ := h2
    exact Option.some.inj (a.symm.trans b)
theorem zs_newa {a pc : Nat} {at1 : ArrayType} {B : Nat × Nat} {ls : zLv} {st : List zV} {h : zH} (hx : p.tables.exec = Jvm.exec) (hb : c.code = zB k) (hts : ∀ w ∈ zGL, w.before args s = true) (hK : va_K D vwCl (zTys dA) s) (hA : ∀ q, s.heap.size ≤ q → A q) (hB : B.1 ≤ N0 + R.cells ∧ B.2 ≤ S0 + R.slots) (hd : decode (zB k) pc = .ok (.newarray at1, 2)) (ht : (at1 = .int ∧ a = 0) ∨ (at1 = .boolean ∧ a = 1)) (H : zo_newa a B (zPp p l e R s m args below meth c Qf D dA A aC L xs N0 S0 k) (pc + 2) ls st h) : zPp p l e R s m args below meth c Qf D dA A aC L xs N0 S0 k pc ls st h := by
  unfold zo_newa at H
  split at H
  · rename_i n r
    obtain ⟨hn, H⟩ := H
    unfold zo_new at H
    obtain ⟨g1, g2, g3, hN, HP⟩ := H
    intro ad Hp lsA locs cells slots hS hL hst
    obtain ⟨h0, hr⟩ := zst_cons hst
    have hcnt := hS.2.2.2.2.2.1
    have hn0 : ¬ zo n < 0 := fun q => by have := (zo_lt h0 zIn0).mp q; omega
    rcases ht with ⟨rfl, rfl⟩ | ⟨rfl, rfl⟩
    · refine va_newa (atype := .int) hx hb (hts _ zAI_ok.1) (ty := .int) rfl hK hS.1 hS.2.1 hS.2.2.1 hA (N' := n.toNat) (a0 := (n.toNat, .inl (fun _ => 0))) (fun _ => rfl) hn0 (zn_cl h0) (by show n.toNat * 4 ≤ _; omega) (by omega) (by omega) hd (fun q cA H1 k1 p1 d1 s1 => ?_)
      have e : cA = dA 0 := zRA_eq (k1.2 6 (cA, .int) rfl).2 (hK.2 0 (dA 0, .int) (zTys_at dA (by omega))).2 (Or.inl rfl)
      subst e
      refine zs_newgo hS hL hr hN (by omega) (by omega) ?_ p1 d1 s1 HP
      rw [zCe_ia g1]
      refine congrArg (fun z => Sum.inl (dA 0, n.toNat, Sum.inl z)) ?_
      funext j
      show zo (z1 h.2.1 h.1.1 0 h.1.1 j) = 0
      rw [z1_eq]
      rfl
    · refine va_newa (atype := .boolean) hx hb (hts _ zAI_ok.2) (ty := .boolean) rfl hK hS.1 hS.2.1 hS.2.2.1 hA (N' := n.toNat) (a0 := (n.toNat, .inl (fun _ => 0))) (fun _ => rfl) hn0 (zn_cl h0) (by show n.toNat * 1 ≤ _; omega) (by omega) (by omega) hd (fun q cA H1 k1 p1 d1 s1 => ?_)
      have e : cA = dA 1 := zRA_eq (k1.2 6 (cA, .boolean) rfl).2 (hK.2 1 (dA 1, .boolean) (zTys_at dA (by omega))).2 (Or.inr (Or.inl rfl))
      subst e
      refine zs_newgo hS hL hr hN (by omega) (by omega) ?_ p1 d1 s1 HP
      rw [zCe_za g1]
      refine congrArg (fun z => Sum.inl (dA 1, n.toNat, Sum.inl z)) ?_
      funext j
      show zo (z1 h.2.1 h.1.1 0 h.1.1 j) = 0
      rw [z1_eq]
      rfl
  · exact H.elim
theorem zAc_mem {a : Nat} (h : 2 ≤ a ∧ a ≤ 5) : zAc a ∈ [5, 8, 9, 10] := by
  match a, h with
  | 2, _ => decide
  | 3, _ => decide
  | 4, _ => decide
  | 5, _ => decide
  | 0, h => exact absurd h (by omega)
  | 1, h => exact absurd h (by omega)
  | a + 6, h => exact absurd h (by omega)
theorem zs_newq {i a pc : Nat} {B : Nat × Nat} {ls : zLv} {st : List zV} {h : zH} (hx : p.tables.exec = Jvm.exec) (hb : c.code = zB k) (hts : ∀ w ∈ zGL, w.before args s = true) (hown : s.vm.findClass (zR (zO k)) = some m.cls) (hK : va_K D vwCl (zTys dA) s) (hO : ∀ c ∈ [5, 8, 9, 10], va_AO (zR c) s) (hA : ∀ q, s.heap.size ≤ q → A q) (hB : B.1 ≤ N0 + R.cells ∧ B.2 ≤ S0 + R.slots) (hd : decode (zB k) pc = .ok (.anewarray i, 3)) (hct : (zO k, i, a) ∈ zAT) (ha : 2 ≤ a ∧ a ≤ 5) (H : zo_newa a B (zPp p l e R s m args below meth c Qf D dA A aC L xs N0 S0 k) (pc + 3) ls st h) : zPp p l e R s m args below meth c Qf D dA A aC L xs N0 S0 k pc ls st h := by
  unfold zo_newa at H
  split at H
  · rename_i n r
    obtain ⟨hn, H⟩ := H
    unfold zo_new at H
    obtain ⟨g1, g2, g3, hN, HP⟩ := H
    intro ad Hp lsA locs cells slots hS hL hst
    obtain ⟨h0, hr⟩ := zst_cons hst
    have hcnt := hS.2.2.2.2.2.1
    have hn0 : ¬ zo n < 0 := fun q => by have := (zo_lt h0 zIn0).mp q; omega
    refine va_newq hx hb hown (hts _ (zAT_ok _ hct)) (hO _ (zAc_mem ha)) hK hS.1 hS.2.1 hS.2.2.1 hA (N' := n.toNat) hn0 (zn_cl h0) (by omega) (by omega) (by omega) hd (fun q cA H1 k1 p1 d1 s1 => ?_)
    have e : cA = dA a := zRA_eq (k1.2 6 (cA, .object (zR (zAc a))) rfl).2 (hK.2 a (dA a, .object (zR (zAc a))) (by rw [zTys_at dA (by omega), zTy_ref ha.1 ha.2])).2 (Or.inr (Or.inr ⟨_, rfl⟩))
    subst e
    refine zs_newgo hS hL hr hN (by omega) (by omega) ?_ p1 d1 s1 HP
    rw [zCe_ra g1 (by omega), show 100 + a - 100 = a by omega]
    refine congrArg (fun z => Sum.inl (dA a, n.toNat, Sum.inr (Sum.inr (Sum.inr (Sum.inr z))))) ?_
    funext j
    show (if j < n.toNat then (z1 h.2.2 h.1.1 none h.1.1 j).map _ else none) = none
    rw [z1_eq]
    split <;> rfl
  · exact H.elim
theorem zcs_sum (ad : Nat → Nat) : ∀ r : List zV, ((r.map (zEv ad)).map fun v => v.category).sum = zcs r
  | [] => rfl
  | .inl x :: r => by
    rw [List.map_cons, List.map_cons, List.sum_cons, zcs_sum ad r]
    show 1 + _ = zcs r + 1
    omega
  | .inr (.inl x) :: r => by
    rw [List.map_cons, List.map_cons, List.sum_cons, zcs_sum ad r]
    show 2 + _ = zcs r + 2
    omega
  | .inr (.inr x) :: r => by
    rw [List.map_cons, List.map_cons, List.sum_cons, zcs_sum ad r, zEv_cat1 _ (fun _ q => by cases q)]
    show 1 + _ = zcs r + 1
    omega
theorem znfw : nativeFrameWords "java/lang/System" "arraycopy" 5 ≤ 30 := by decide +kernel
theorem zs_acp {i pc : Nat} {ls : zLv} {st : List zV} {h : zH} (hx : p.tables.exec = Jvm.exec) (hb : c.code = zB k) (hml : c.maxLocals = zL k) (hts : ∀ w ∈ zGL, w.before args s = true) (hown : s.vm.findClass (zR (zO k)) = some m.cls) (hK : va_K D vwCl (zTys dA) s) (hR : 1 ≤ R.frames ∧ 64 ≤ R.locals) (hd : decode (zB k) pc = .ok (.invokestatic i, 3)) (hy : (zO k, i) ∈ zYT) (H : zo_acp (zPp p l e R s m args below meth c Qf D dA A aC L xs N0 S0 k) pc ls st h) : zPp p l e R s m args below meth c Qf D dA A aC L xs N0 S0 k pc ls st h := by
  unfold zo_acp at H
  split at H
  · rename_i n j b i a r
    obtain ⟨hz, ga, gb, ⟨q1, q2, q3, q4, q5⟩, HP⟩ := H
    intro ad Hp lsA locs cells slots hS hL hst
    obtain ⟨hn, hst⟩ := zst_cons hst
    obtain ⟨hj, hst⟩ := zst_cons hst
    obtain ⟨hb', hst⟩ := zst_cons hst
    obtain ⟨hi, hst⟩ := zst_cons hst
    obtain ⟨ha', hr⟩ := zst_cons hst
    have hNa := zxN ha' ga (by omega)
    have hNb := zxN hb' gb (by omega)
    obtain ⟨ga2, -⟩ := zSh_arr ga (by omega)
    obtain ⟨gb2, -⟩ := zSh_arr gb (by omega)
    have hv := hS.2.2.2.1
    have hb2 : b ≠ 2000 := by have := hv.1; omega
    have neg : ∀ {z : Int}, zIn z → 0 ≤ z → ¬ zo z < 0 := fun hz h q => by have := (zo_lt hz zIn0).mp q; omega
    refine va_copyi hx hb (hml.trans hL.1.symm) hown (hts _ (zYT_ok _ hy)) (hts _ zAY_ok.1) (hts _ zAY_ok.2.1) (hts _ zAY_ok.2.2) hK hS.1 hS.2.1 hS.2.2.1 a b 0 0 (ty := .int) (n0 := (zSh a).2) (n1 := (zSh b).2) (f := fun j => zo (h.2.1 a j)) (g := fun j => zo (h.2.1 b j))
      (by rw [zWs_at dA ad hNa, zCe_ia ga2]) (by rw [zWs_at dA ad hNb, zCe_ia gb2]) (zTys_at dA (by omega)) (zTys_at dA (by omega)) rfl (neg hi q2) (neg hj q3) (neg hn q1) (by rw [zn_cl hi, zn_cl hn]; omega) (by rw [zn_cl hj, zn_cl hn]; omega) (fun _ _ => rfl) hR.1 ?_ hd (fun H1 locs1 p1 d1 s1 => ?_)
    · rw [zcs_sum]
      have := znfw
      omega
    have ec : zCe dA ad (h.1, zcp h.2.1 a i.toNat b j.toNat n.toNat, h.2.2) b = .inl (dA 0, (zSh b).2, .inl (va_cpy (fun j => zo (h.2.1 a j)) (fun j => zo (h.2.1 b j)) (zo i).toNatClampNeg (zo j).toNatClampNeg (zo n).toNatClampNeg)) := by
      rw [zCe_ia gb2, zn_cl hi, zn_cl hj, zn_cl hn]
      refine congrArg (fun z => Sum.inl (dA 0, (zSh b).2, Sum.inl z)) ?_
      funext t
      show zo (zcp h.2.1 a i.toNat b j.toNat n.toNat b t) = va_cpy _ _ _ _ _ t
      unfold zcp va_cpy
      by_cases q : j.toNat ≤ t ∧ t < j.toNat + n.toNat
      · rw [if_pos ⟨rfl, q⟩, if_pos q]
      · rw [if_neg (fun z => q z.2), if_neg q]
    rw [← ec] at p1 d1
    have ne : ∀ y, y ≠ b → zcp h.2.1 a i.toNat b j.toNat n.toNat y = h.2.1 y := by
      intro y hy
      funext t
      unfold zcp
      rw [if_neg (fun z => hy z.1)]
    have ila : ∀ t, zIl a t = false := fun t => by unfold zIl; rw [ga]; rfl
    have hvn : zVal (h.1, zcp h.2.1 a i.toNat b j.toNat n.toNat, h.2.2) := by
      refine ⟨hv.1, fun y hy t => ?_, hv.2.2⟩
      show match zIl y t with | true => zIm (zcp h.2.1 a i.toNat b j.toNat n.toNat y t) | false => zIn (zcp h.2.1 a i.toNat b j.toNat n.toNat y t)
      by_cases q : y = b ∧ j.toNat ≤ t ∧ t < j.toNat + n.toNat
      · obtain ⟨rfl, q⟩ := q
        have h1 := hv.2.1 a hNa (i.toNat + (t - j.toNat))
        rw [ila] at h1
        rw [show zIl y t = false by unfold zIl; rw [gb]; rfl]
        show zIn (zcp _ _ _ _ _ _ _ _)
        unfold zcp
        rw [if_pos ⟨rfl, q⟩]
        exact h1
      · have e : zcp h.2.1 a i.toNat b j.toNat n.toNat y t = h.2.1 y t := by unfold zcp; rw [if_neg q]
        rw [e]
        exact hv.2.1 y hy t
    exact HP ad H1 lsA locs1 cells slots (hS.upd rfl (fun z hz => zCe_congr (ne z hz) rfl) hvn (fun t => by rw [show (h.1, zcp h.2.1 a i.toNat b j.toNat n.toNat, h.2.2).2.1 2000 = h.2.1 2000 from ne _ (Ne.symm hb2)]) p1 d1 s1) hL hr
  · exact H.elim
end
end
section
/-! calls; written out of wip/whole/15.src -/
def zW (k : Nat) : List Cond := Cond.code (zY k) (zB k) (zL k) (zTr k) :: zGL
theorem zMT (k : Nat) (h : k < 203) : Cond.code (zY k) (zB k) (zL k) (zTr k) ∈ zGL ∧ Cond.initialized (zY k).cls ∈ zGL := zMT_ok k (by omega)
theorem zW_good {y : Nat} (hy : y < 203) : GoodIn zGL (zW y) := by
  intro w hw
  rcases List.mem_cons.mp hw with rfl | hw
  · exact ⟨(zMT y hy).1, good_of_word (zgl_good _ (zMT y hy).1)⟩
  · exact ⟨hw, good_of_word (zgl_good _ hw)⟩
theorem zGL_good {w : Cond} (h : w ∈ zGL) : w ∈ zGL ∧ ((w.onTables && w.keeps) = true ∨ ∃ ty, w = .arrayClass ty) := ⟨h, good_of_word (zgl_good _ h)⟩
/-- where a method begins, and where it ends -/
def zPre (D : va_G) (dA : Nat → ClassId) (aC aV : Nat → Nat) (L : Nat) (xs : Nat → Int32) (sz : Nat) (ad : Nat → Nat) (h : zH) (U : State) : Prop :=
  U.heap.size = sz ∧ va_P D vwCl (zWs dA ad h) U.heap ∧ va_D (fun _ => True) (zWs dA ad h) ∧ zGb D dA (va_A (zWs dA ad h) sz) aC aV L xs U U.heap
def zPost (D : va_G) (dA : Nat → ClassId) (L : Nat) (xs : Nat → Int32) (A : Nat → Prop) (mc ms : Nat) (Q : zQ) (h : zH) (ad : Nat → Nat) : Array Value → State → Outcome → State → Prop := fun _ st oc t =>
  (∃ (v : Option zV) (h1 : zH) (ad1 : Nat → Nat), oc = .returned (v.map (zEv ad1)) ∧ Q v h1 ∧ h1.1 = (h.1.1 + mc, h.1.2.1 + ms, h.1.2.2) ∧ (∀ w, v = some w → zVd h1.1.1 w) ∧ va_P D vwCl (zWs dA ad1 h1) t.heap ∧ va_D A (zWs dA ad1 h1) ∧ zVal h1 ∧ (∀ y, (y < h.1.1 ∨ 1000 ≤ y) → ad1 y = ad y) ∧ ∀ j, j < L → h1.2.1 2000 j = (xs j).toInt) ∧ va_F A st t
theorem zGb.moved {D : va_G} {dA : Nat → ClassId} {A : Nat → Prop} {aC aV : Nat → Nat} {L : Nat} {xs : Nat → Int32} {U V : State} {H : Heap} (hv : V.vm = U.vm) (h : zGb D dA A aC aV L xs U H) : zGb D dA A aC aV L xs V H := by
  obtain ⟨h1, h2, h3, h4, h5, h6, h7, h8, h9, h10, h11⟩ := h
  have ha : U.vm.Alike V.vm := by rw [hv]; exact Vm.Alike.refl _
  exact ⟨va_K.moved ha h1, fun q hq => va_Nw.same rfl hv.symm (h2 q hq), fun q hq => va_Nw.same rfl hv.symm (h3 q hq), fun q hq => va_AO.moved ha (h4 q hq), fun i hi => vk_R.same hv (h5 i hi), vk_S.moved ha h6, va_X.moved ha h7, h8, h9, h10.moved ha, h11.moved ha⟩
theorem zGb.warm {D : va_G} {dA : Nat → ClassId} {A A1 : Nat → Prop} {aC aV : Nat → Nat} {L : Nat} {xs : Nat → Int32} {s U : State} {H : Heap} {locs : List Loc} (hW : s.WarmedH U.vm) (hS : va_S A s.heap H locs) (hA : ∀ q, A1 q → A q) (h : zGb D dA A aC aV L xs s s.heap) : zGb D dA A1 aC aV L xs U H := by
  obtain ⟨h1, h2, h3, h4, h5, h6, h7, h8, h9, h10, h11⟩ := h
  have hk : ∀ a : Nat, a < s.heap.size → ¬ A a → H[a]? = s.heap[a]? := fun a ha hn => hS.2.1 a ha hn
  exact ⟨va_K.moved hW.alike h1, fun q hq => va_Nw.warmM hW (h2 q hq), fun q hq => va_Nw.warmC hW (h3 q hq), fun q hq => va_AO.moved hW.alike (h4 q hq), fun i hi => vk_R.warm hW (h5 i hi),
    vk_S.narrow (vk_S.kept (vk_S.moved hW.alike h6) hk) hA, va_X.kept (va_X.moved hW.alike h7) (hS.2.1 _ h8 h9), Nat.lt_of_lt_of_le h8 hS.1, fun q => h9 (hA _ q), ((h10.moved hW.alike).kept hk).narrow hA, ((h11.moved hW.alike).kept hk).narrow hA⟩
theorem zPre.blind {D : va_G} {dA : Nat → ClassId} {aC aV : Nat → Nat} {L : Nat} {xs : Nat → Int32} {sz : Nat} {ad : Nat → Nat} {h : zH} {av : List Value} : FrameBlind (va_Pc av (zPre D dA aC aV L xs sz ad h)) := by
  intro a U g mk hp
  obtain ⟨e, h1, h2, h3, h4⟩ := hp
  exact ⟨e, h1, h2, h3, h4.moved rfl⟩
section
variable {p : Program} {l : Launch} {e : Env} {R : Room} {s : State} {m : MethodId} {args : Array Value} {below : List Frame} {meth : Method} {c : Code} {Qf : State → Prop} {D : va_G} {dA : Nat → ClassId} {A : Nat → Prop} {aC aV : Nat → Nat} {L : Nat} {xs : Nat → Int32} {N0 S0 k : Nat}
/-- what is known of the called methods -/
def zHC (l : Launch) (R : Room) (D : va_G) (dA : Nat → ClassId) (aC aV : Nat → Nat) (L : Nat) (xs : Nat → Int32) (C : zCt) : Prop :=
  ∀ (y mc ms : Nat) (As : List zV) (h : zH) (Q : zQ), C y mc ms As h Q → y < 203 → ∀ (ad : Nat → Nat) (sz : Nat), zVal h → (∀ i, 1000 ≤ i → ad i = aC i) → h.1.2.2 = L → (∀ j, j < L → h.2.1 2000 j = (xs j).toInt) → (∀ v ∈ As, zVd h.1.1 v) →
    ∃ rm : Room, (rm.cells = mc ∧ rm.slots = ms) ∧ (rm.frames + 1 ≤ R.frames ∧ 8 + (zL y + 11) + rm.locals ≤ R.locals) ∧ Met l (zY y) (zW y) rm (va_Pc (As.map (zEv ad)) (zPre D dA aC aV L xs sz ad h)) (zPost D dA L xs (va_A (zWs dA ad h) sz) mc ms Q h ad) mc ms (va_A (zWs dA ad h) sz)
theorem zs_free {ad : Nat → Nat} {h : zH} {H : Heap} {locs : List Loc} {cells slots : Nat} (hA : ∀ q, s.heap.size ≤ q → A q) (hS : zSt D dA A aC L xs s N0 S0 R ad h H locs cells slots) : ∀ q, va_A (zWs dA ad h) H.size q → A q := by
  intro q hq
  rcases hq with ⟨i, e, hq⟩ | hq
  · exact hS.2.1.2 i (q, e) hq
  · exact hA q (Nat.le_trans hS.2.2.1.1 hq)
theorem zs_back {ad : Nat → Nat} {h : zH} {H : Heap} {lsA : Array Slot} {locs : List Loc} {cells slots mc ms pc : Nat} {ls : zLv} {r : List zV} {st0 : List Value} {a : Array Value} {Q : zQ} (hA : ∀ q, s.heap.size ≤ q → A q) (hS : zSt D dA A aC L xs s N0 S0 R ad h H locs cells slots) (hL : zLo ad h.1.1 (zL k) ls lsA) (hr : ∀ v ∈ r, zVd h.1.1 v)
    (hc : cells + mc ≤ R.cells) (hs : slots + ms ≤ R.slots) (run : va_Run p l e R s m args below meth c H locs cells slots mc ms (F0 m pc lsA st0) (r.map (zEv ad)) (zPost D dA L xs (va_A (zWs dA ad h) H.size) mc ms Q h ad a) (va_A (zWs dA ad h) H.size))
    (HP : ∀ v h1, Q v h1 → zPp p l e R s m args below meth c Qf D dA A aC L xs N0 S0 k (pc + 3) ls (zva v r) h1) : W p l e R s m args below meth c H locs cells slots Qf (F0 m pc lsA st0) := by
  have hF := zs_free hA hS
  intro T hT X
  obtain ⟨v0, st₀, t, T', LL, h0, X', hLL, e1, e2, ⟨⟨v, h1, ad1, q1, q2, q3, q4, q5, q6, q7, q8, q9⟩, qF⟩, st⟩ := run T hT X
  rw [show v0 = v.map (zEv ad1) from Outcome.returned.inj q1] at st
  have h0' : st₀.heap.size = H.size := by rw [h0]
  have hN : h1.1.1 = h.1.1 + mc := by rw [q3]
  have hSn : zSt D dA A aC L xs s N0 S0 R ad1 h1 T'.heap (locs ++ LL) (cells + mc) (slots + ms) := by
    obtain ⟨-, -, s1, s4, s5, s6, s7, s8, s9⟩ := hS
    refine ⟨by rw [e1]; exact q5, q6.weaken (fun _ _ _ z => hF _ z), ⟨?_, fun q g1 g2 => ?_, fun q hq => ?_⟩, q7, fun i hi => (q8 i (by omega)).trans (s5 i hi), ⟨?_, ?_⟩, ⟨hc, hs⟩, ?_, q9⟩
    · rw [e1]
      exact Nat.le_trans s1.1 (by have := qF.1; omega)
    · rw [e1, qF.2 q (by rw [h0]; exact Nat.lt_of_lt_of_le g1 s1.1) (fun z => g2 (hF q z)), h0]
      exact s1.2.1 q g1 g2
    · rcases List.mem_append.mp hq with z | z
      · exact s1.2.2 q z
      · exact hF _ (hLL q z)
    · rw [hN]; omega
    · rw [q3]; show h.1.2.1 + ms = _; omega
    · rw [q3]; exact s8
  have hea : ∀ y, (y < h.1.1 ∨ 1000 ≤ y) → ad1 y = ad y := q8
  have hrn : ∀ w ∈ zva v r, zVd h1.1.1 w := by
    intro w hw
    cases v with
    | none => exact zVd_up (by omega) (hr w hw)
    | some v =>
      rcases List.mem_cons.mp hw with rfl | hw
      · exact q4 _ rfl
      · exact zVd_up (by omega) (hr w hw)
  have kk := HP v h1 q2 ad1 T'.heap lsA (locs ++ LL) (cells + mc) (slots + ms) hSn (hL.ext hea (by omega)) hrn
  rw [show (zva v r).map (zEv ad1) = (v.map (zEv ad1)).toList ++ r.map (zEv ad) by
    rw [← zst_ext hea hr]
    cases v <;> rfl] at kk
  obtain ⟨t2, a1, b1⟩ := kk T' rfl X'
  exact ⟨t2, st t2 a1, b1⟩
/-- a call, whatever links it -/
theorem zs_call {C : zCt} {B : Nat × Nat} {y pc : Nat} {As r : List zV} {ls : zLv} {h : zH} (hC : zHC l R D dA aC aV L xs C) (hA : ∀ q, s.heap.size ≤ q → A q) (hB : B.1 ≤ N0 + R.cells ∧ B.2 ≤ S0 + R.slots) (hG : zGb D dA A aC aV L xs s s.heap) (hy : y < 203)
    {ad : Nat → Nat} {H : Heap} {lsA : Array Slot} {locs : List Loc} {cells slots : Nat} (hS : zSt D dA A aC L xs s N0 S0 R ad h H locs cells slots) (hL : zLo ad h.1.1 (zL k) ls lsA) (hr : ∀ v ∈ r, zVd h.1.1 v) (hAs : ∀ v ∈ As, zVd h.1.1 v) (H0 : zo_call C B y As r (zPp p l e R s m args below meth c Qf D dA A aC L xs N0 S0 k) pc ls h) {st0 : List Value}
    (run : ∀ (mc ms : Nat) (rm : Room) (Q : Array Value → State → Outcome → State → Prop) (free : Addr → Prop), rm.cells = mc → rm.slots = ms → rm.frames + 1 ≤ R.frames ∧ 8 + (zL y + 11) + rm.locals ≤ R.locals → Met l (zY y) (zW y) rm (va_Pc (As.map (zEv ad)) (zPre D dA aC aV L xs H.size ad h)) Q mc ms free → (∀ U : State, U.heap = H → s.WarmedH U.vm → va_Pc (As.map (zEv ad)) (zPre D dA aC aV L xs H.size ad h) (As.map (zEv ad)).toArray U) → 2 * (F0 m pc lsA st0).monitorRoom + ((r.map (zEv ad)).map fun v => v.category).sum ≤ 8 → cells + mc ≤ R.cells ∧ slots + ms ≤ R.slots → va_Run p l e R s m args below meth c H locs cells slots mc ms (F0 m pc lsA st0) (r.map (zEv ad)) (Q (As.map (zEv ad)).toArray) free) : W p l e R s m args below meth c H locs cells slots Qf (F0 m pc lsA st0) := by
  obtain ⟨hz, mc, ms, b1, b2, HC⟩ := H0
  have s6 := hS.2.2.2.2.2.1
  have s7 := hS.2.2.2.2.2.2.1
  obtain ⟨rm, r1, r2, hM⟩ := hC y mc ms As h _ HC hy ad H.size hS.2.2.2.1 (fun i hi => hS.2.2.2.2.1 i (Or.inr hi)) hS.2.2.2.2.2.2.2.1 hS.2.2.2.2.2.2.2.2 hAs
  have hc : cells + mc ≤ R.cells := by rcases b1 with q | q <;> omega
  have hs : slots + ms ≤ R.slots := by rcases b2 with q | q <;> omega
  refine zs_back hA hS hL hr hc hs (run mc ms rm _ _ r1.1 r1.2 r2 hM (fun U hU hW => ?_) ?_ ⟨hc, hs⟩) (fun v h1 q => q)
  · refine ⟨rfl, by rw [hU], by rw [hU]; exact hS.1, hS.2.1.weaken (fun _ _ _ _ => trivial), ?_⟩
    rw [hU]
    exact hG.warm hW hS.2.2.1 (zs_free hA hS)
  · rw [zcs_sum]
    show 2 * 0 + _ ≤ 8
    omega
theorem ztk_len : ∀ (n : Nat) (st acc As r : List zV), ztk n st acc = (As, r) → (∃ u, st = u ++ r ∧ As = u.reverse ++ acc ∧ u.length = n) ∨ (As = [] ∧ r = [])
  | 0, st, acc, As, r, h => by
    cases h
    exact Or.inl ⟨[], rfl, rfl, rfl⟩
  | n + 1, [], acc, As, r, h => by
    cases h
    exact Or.inr ⟨rfl, rfl⟩
  | n + 1, v :: st, acc, As, r, h => by
    rcases ztk_len n st (v :: acc) As r h with ⟨u, e1, e2, e3⟩ | q
    · exact Or.inl ⟨v :: u, by rw [e1]; rfl, by rw [e2]; simp, by simp [e3]⟩
    · exact Or.inr q
theorem zpn_ok {y n : Nat} (h : zpn y n = true) : y < 203 ∧ (zY y).cls ≠ "java/lang/invoke/MethodHandle" ∧ (zY y).cls ≠ "java/lang/invoke/VarHandle" ∧ (parseMethodDescriptor (zY y).desc).map (fun d => d.parameters.length) = some n := by
  simp only [zpn, Bool.and_eq_true, decide_eq_true_eq, Nat.blt_eq] at h
  exact ⟨h.1, h.2.2.1, h.2.2.2, h.2.1⟩
theorem zs_stat {C : zCt} {B : Nat × Nat} {i y n pc : Nat} {ls : zLv} {st : List zV} {h : zH} (hx : p.tables.exec = Jvm.exec) (hb : c.code = zB k) (hml : c.maxLocals = zL k) (hts : ∀ w ∈ zGL, w.before args s = true) (hown : s.vm.findClass (zR (zO k)) = some m.cls) (hA : ∀ q, s.heap.size ≤ q → A q) (hG : zGb D dA A aC aV L xs s s.heap) (hB : B.1 ≤ N0 + R.cells ∧ B.2 ≤ S0 + R.slots) (hC : zHC l R D dA aC aV L xs C) (hd : decode (zB k) pc = .ok (.invokestatic i, 3)) (hy : zpn y n = true) (hl : (zO k, i, y, n) ∈ zST ∨ (zO k, i, y, n) ∈ zSN) (H : zo_stat C B y n (zPp p l e R s m args below meth c Qf D dA A aC L xs N0 S0 k) pc ls st h) : zPp p l e R s m args below meth c Qf D dA A aC L xs N0 S0 k pc ls st h := by
  obtain ⟨hy1, hy2, hy3, hy4⟩ := zpn_ok hy
  unfold zo_stat at H
  generalize ht : ztk n st [] = q at H
  obtain ⟨As, r⟩ := q
  obtain ⟨Hn, H⟩ := H
  have hu : ∃ u, st = u ++ r ∧ As = u.reverse ++ [] ∧ u.length = n := by
    rcases ztk_len n st [] As r ht with q | ⟨rfl, rfl⟩
    · exact q
    · have hn0 : n = 0 := Hn.symm
      subst hn0
      cases ht
      exact ⟨[], rfl, rfl, rfl⟩
  obtain ⟨u, rfl, rfl, hu⟩ := hu
  · intro ad Hp lsA locs cells slots hS hL hst
    have hr : ∀ v ∈ r, zVd h.1.1 v := fun v hv => hst v (List.mem_append_right _ hv)
    have hAs : ∀ v ∈ u.reverse ++ [], zVd h.1.1 v := fun v hv => hst v (List.mem_append_left _ (by simpa using hv))
    refine zs_call hC hA hB hG hy1 hS hL hr hAs H (fun mc ms rm Q free r1 r2 r3 hM hp hz hf => ?_)
    have hstk : (F0 m pc lsA ((u ++ r).map (zEv ad))).stack = ((u.reverse ++ []).map (zEv ad)).reverse ++ r.map (zEv ad) := by
      show (u ++ r).map (zEv ad) = _
      simp
    have hn : ((u.reverse ++ []).map (zEv ad)).length = n := by simp [hu]
    rcases hl with hl | hl
    · obtain ⟨w1, w2⟩ := zST_ok _ hl
      exact va_runS (ret := zTr y) ⟨hx, hb, hml, hown, hts⟩ hM ⟨callB_of n hts (zW_good hy1) rfl r1 r2 (hts _ (zMT y hy1).2) (hts _ w1) ⟨hy2, hy3, hy4⟩ r3, hts _ w2⟩ ⟨zPre.blind, hp⟩ rfl hn hL.1 hstk hz hd hf
    · obtain ⟨w1, w2⟩ := zSN_ok _ hl
      exact va_runSN (ret := zTr y) (host := RX11) ⟨hx, hb, hml, hown, hts⟩ hM ⟨va_cnB n hts (zW_good hy1) rfl r1 r2 (hG.2.1 _ (List.mem_append_left _ hl)) (hts _ (zMT y hy1).2) ⟨hy2, hy3, hy4⟩ r3, hts _ w2, trivial⟩ ⟨zPre.blind, hp⟩ rfl hn hL.1 hstk hz hd hf
theorem zsp_split {n x : Nat} {st As r : List zV} (ht : ztk n st [] = (As, .inr (.inr (some x)) :: r)) : ∃ u, st = u ++ .inr (.inr (some x)) :: r ∧ As = u.reverse ∧ u.length = n := by
  rcases ztk_len n st [] As _ ht with ⟨u, e1, e2, e3⟩ | ⟨-, q⟩
  · exact ⟨u, e1, by rw [e2]; simp, e3⟩
  · cases q
theorem zs_spec {C : zCt} {B : Nat × Nat} {i y n pc : Nat} {ls : zLv} {st : List zV} {h : zH} (hx : p.tables.exec = Jvm.exec) (hb : c.code = zB k) (hml : c.maxLocals = zL k) (hts : ∀ w ∈ zGL, w.before args s = true) (hown : s.vm.findClass (zR (zO k)) = some m.cls) (hA : ∀ q, s.heap.size ≤ q → A q) (hG : zGb D dA A aC aV L xs s s.heap) (hB : B.1 ≤ N0 + R.cells ∧ B.2 ≤ S0 + R.slots) (hC : zHC l R D dA aC aV L xs C) (hd : decode (zB k) pc = .ok (.invokespecial i, 3)) (hy : zpn y n = true) (hl : (((zO k, i, y, n) ∈ zIT ∨ (zO k, i, y, n) ∈ zIN) ∧ (zY y).name = "<init>" ∧ zTr y = none) ∨ ((zO k, i, y, n) ∈ zUT ∧ (zY y).name ≠ "<init>")) (H : zo_spec C B y n (zPp p l e R s m args below meth c Qf D dA A aC L xs N0 S0 k) pc ls st h) : zPp p l e R s m args below meth c Qf D dA A aC L xs N0 S0 k pc ls st h := by
  obtain ⟨hy1, hy2, hy3, hy4⟩ := zpn_ok hy
  unfold zo_spec at H
  split at H
  · rename_i As x r ht
    obtain ⟨u, rfl, rfl, hu⟩ := zsp_split ht
    obtain ⟨hcx, H⟩ := H
    intro ad Hp lsA locs cells slots hS hL hst
    have hr : ∀ v ∈ r, zVd h.1.1 v := fun v hv => hst v (List.mem_append_right _ (List.mem_cons_of_mem _ hv))
    have hxv : zVd h.1.1 (.inr (.inr (some x))) := hst _ (List.mem_append_right _ List.mem_cons_self)
    have hAs : ∀ v ∈ (.inr (.inr (some x)) :: u.reverse : List zV), zVd h.1.1 v := fun v hv => by
      rcases List.mem_cons.mp hv with rfl | hv
      · exact hxv
      · exact hst v (List.mem_append_left _ (by simpa using hv))
    have hNx := zxN hxv rfl (by omega)
    refine zs_call hC hA hB hG hy1 hS hL hr hAs H (fun mc ms rm Q free r1 r2 r3 hM hp hz hf => ?_)
    have hstk : (F0 m pc lsA ((u ++ .inr (.inr (some x)) :: r).map (zEv ad))).stack = ((u.reverse).map (zEv ad)).reverse ++ .ref (ad x) :: r.map (zEv ad) := by
      show (u ++ .inr (.inr (some x)) :: r).map (zEv ad) = _
      simp [zEv, va_rf]
    have hn : ((u.reverse).map (zEv ad)).length = n := by simp [hu]
    rcases hl with ⟨hl, hi1, hi2⟩ | ⟨hl, hi1⟩
    · have hw : zW y = Cond.code (zY y) (zB y) (zL y) none :: zGL := by unfold zW; rw [hi2]
      rcases hl with hl | hl
      · obtain ⟨w1, w2⟩ := zIT_ok _ hl
        exact va_runI (y := zY y) (bytes := zB y) (maxL := zL y) ⟨hx, hb, hml, hown, hts⟩ hM (cwI n hts (zW_good hy1) hw r1 r2 (hts _ (zMT y hy1).2) (hts _ w1) (hts _ w2) hi1 ⟨hy2, hy3, hy4⟩ r3) ⟨zPre.blind, hp⟩ rfl hn hL.1 hstk hz hd hf
      · obtain ⟨w1, w2⟩ := zIN_ok _ hl
        exact va_runIN (y := zY y) (bytes := zB y) (maxL := zL y) (host := RX11) ⟨hx, hb, hml, hown, hts⟩ hM ⟨va_cnB n hts (zW_good hy1) hw r1 r2 (hG.2.1 _ (List.mem_append_right _ hl)) (hts _ (zMT y hy1).2) ⟨hy2, hy3, hy4⟩ r3, hi1, hts _ w2⟩ ⟨zPre.blind, hp⟩ rfl hn hL.1 hstk hz hd hf
    · obtain ⟨w1, w2, w3, w4⟩ := zUT_ok _ hl
      obtain ⟨gx, -⟩ := zSh_pair (x := x) rfl hcx
      have hG1 : GoodIn zGL (va_wsSU (zR (zO k)) i (zY y) (zW y)) := by
        intro w hw
        unfold va_wsSU at hw
        rcases List.mem_append.mp hw with hw | hw
        · simp only [List.mem_cons, List.not_mem_nil, or_false] at hw
          rcases hw with rfl | rfl | rfl | rfl | rfl
          · exact zGL_good w1
          · exact zGL_good w2
          · exact zGL_good w3
          · exact zGL_good w4
          · exact zGL_good (zMT y hy1).2
        · exact zW_good hy1 w hw
      have hrc := va_recv hG.1 hS.1 (zcl_ok _ hcx) (by rw [zWs_at dA ad hNx, zCe_obj gx (by omega)] : (zWs dA ad h)[x]? = some (ad x, .inr ((zSh x).1, (List.range (zNF (zSh x).1)).map (zFv ad h x (zSh x).1))))
      exact va_runSU (y := zY y) (bytes := zB y) (maxL := zL y) (ret := zTr y) (C := zR (zSh x).1) (hG.1.1 _ _ (zcl_ok _ hcx)).2 ⟨hx, hb, hml, hown, hts⟩ hM (va_cwSU n hts hG1 rfl r1 r2 ⟨hi1, hy4⟩ r3) ⟨zPre.blind, hrc, hp⟩ rfl hn hL.1 hstk hz hd hf
  · exact H.elim
theorem zVTc : ∀ q ∈ zVT, q.2.2.1 < 13 := by decide +kernel
theorem zWTc : ∀ q ∈ zWT, q.2.2.1 < 13 := by decide +kernel
theorem zsel_in {c : Int} : ∀ {l : List (Int × Nat)} {y : Nat}, zsel c l = some y → (c, y) ∈ l
  | [], y, h => by cases h
  | (a, z) :: l, y, h => by
    unfold zsel at h
    by_cases q : a = c
    · rw [show decide (a = c) = true from decide_eq_true q] at h
      cases h
      rw [q]
      exact List.mem_cons_self
    · rw [show decide (a = c) = false from decide_eq_false q] at h
      exact List.mem_cons_of_mem _ (zsel_in h)
theorem zs_virt {C : zCt} {B : Nat × Nat} {i n pc : Nat} {lz : List (Int × Nat)} {ls : zLv} {st : List zV} {h : zH} (hx : p.tables.exec = Jvm.exec) (hb : c.code = zB k) (hml : c.maxLocals = zL k) (hts : ∀ w ∈ zGL, w.before args s = true) (hown : s.vm.findClass (zR (zO k)) = some m.cls) (hA : ∀ q, s.heap.size ≤ q → A q) (hG : zGb D dA A aC aV L xs s s.heap) (hB : B.1 ≤ N0 + R.cells ∧ B.2 ≤ S0 + R.slots) (hC : zHC l R D dA aC aV L xs C) (hd : decode (zB k) pc = .ok (.invokevirtual i, 3)) (hl : lz.all (zokV k i n) = true) (H : zo_virt C B lz n (zPp p l e R s m args below meth c Qf D dA A aC L xs N0 S0 k) pc ls st h) : zPp p l e R s m args below meth c Qf D dA A aC L xs N0 S0 k pc ls st h := by
  unfold zo_virt at H
  split at H
  · rename_i As x r ht
    obtain ⟨u, rfl, rfl, hu⟩ := zsp_split ht
    obtain ⟨y, hsel, H⟩ := H
    have hq := List.all_eq_true.mp hl _ (zsel_in hsel)
    simp only [zokV, Bool.and_eq_true, Bool.or_eq_true, decide_eq_true_eq, List.any_eq_true, List.contains_iff_mem] at hq
    obtain ⟨hy, -, hq⟩ := hq
    rw [Int.toNat_natCast] at hq
    obtain ⟨hy1, hy2, hy3, hy4⟩ := zpn_ok hy
    have hcx : (zSh x).1 < 13 := by
      rcases hq with ⟨hq, -⟩ | ⟨w, hw, hq, -⟩
      · exact zVTc _ hq
      · have h1 := zWTc w hw
        have h2 : w.2.2.1 = (zSh x).1 := congrArg (fun q => q.2.2.1) hq
        omega
    obtain ⟨gx, -⟩ := zSh_pair (x := x) rfl hcx
    intro ad Hp lsA locs cells slots hS hL hst
    have hr : ∀ v ∈ r, zVd h.1.1 v := fun v hv => hst v (List.mem_append_right _ (List.mem_cons_of_mem _ hv))
    have hxv : zVd h.1.1 (.inr (.inr (some x))) := hst _ (List.mem_append_right _ List.mem_cons_self)
    have hAs : ∀ v ∈ (.inr (.inr (some x)) :: u.reverse : List zV), zVd h.1.1 v := fun v hv => by
      rcases List.mem_cons.mp hv with rfl | hv
      · exact hxv
      · exact hst v (List.mem_append_left _ (by simpa using hv))
    have hNx := zxN hxv rfl (by omega)
    have hrc := va_recv hG.1 hS.1 (zcl_ok _ hcx) (by rw [zWs_at dA ad hNx, zCe_obj gx (by omega)] : (zWs dA ad h)[x]? = some (ad x, .inr ((zSh x).1, (List.range (zNF (zSh x).1)).map (zFv ad h x (zSh x).1))))
    refine zs_call hC hA hB hG hy1 hS hL hr hAs H (fun mc ms rm Q free r1 r2 r3 hM hp hz hf => ?_)
    have hstk : (F0 m pc lsA ((u ++ .inr (.inr (some x)) :: r).map (zEv ad))).stack = ((u.reverse).map (zEv ad)).reverse ++ .ref (ad x) :: r.map (zEv ad) := by
      show (u ++ .inr (.inr (some x)) :: r).map (zEv ad) = _
      simp [zEv, va_rf]
    have hn : ((u.reverse).map (zEv ad)).length = n := by simp [hu]
    rcases hq with ⟨hq, hcl⟩ | ⟨w, hw, hq, hxp⟩
    · obtain ⟨w1, w2, w3⟩ := zVT_ok _ hq
      have hG1 : GoodIn zGL (wsV (zR (zO k)) i (zR (zSh x).1) (zY y) (zW y)) := by
        intro w hw
        unfold wsV at hw
        rcases List.mem_append.mp hw with hw | hw
        · simp only [List.mem_cons, List.not_mem_nil, or_false] at hw
          rcases hw with rfl | rfl | rfl | rfl
          · exact zGL_good w1
          · exact zGL_good w2
          · exact zGL_good w3
          · rw [← hcl]
            exact zGL_good (zMT y hy1).2
        · exact zW_good hy1 w hw
      exact va_runV (y := zY y) (bytes := zB y) (maxL := zL y) (ret := zTr y) ⟨hx, hb, hml, hown, hts⟩ hM (cwV n hts hG1 rfl r1 r2 ⟨hcl, hy2, hy3, hy4⟩ r3) ⟨zPre.blind, hrc, hp⟩ rfl hn hL.1 hstk hz hd hf
    · obtain ⟨w1, w2, w3, w4, w5⟩ := zWT_ok w hw
      obtain ⟨hx1, hx2, hx3, hx4⟩ := zpn_ok hxp
      obtain ⟨a1, a2, a3, a4, a5, x0⟩ := w
      simp only [Prod.mk.injEq] at hq
      obtain ⟨e1, e2, e3, e4, e5⟩ := hq
      subst e1
      subst e3
      have e2 := e2.symm
      have e4 := e4.symm
      have e5 := e5.symm
      subst e2
      subst e4
      subst e5
      have hG1 : GoodIn zGL (va_wsO (zR (zO k)) i (zR (zSh x).1) (zY x0).cls (zY x0) (zY y) (zW y)) := by
        intro w hw
        unfold va_wsO at hw
        rcases List.mem_append.mp hw with hw | hw
        · simp only [List.mem_cons, List.not_mem_nil, or_false] at hw
          rcases hw with rfl | rfl | rfl | rfl | rfl | rfl
          · exact zGL_good w1
          · exact zGL_good w2
          · exact zGL_good w3
          · exact zGL_good w4
          · exact zGL_good w5
          · exact zGL_good (zMT y hy1).2
        · exact zW_good hy1 w hw
      exact va_runU (x := zY x0) (y := zY y) (bytes := zB y) (maxL := zL y) (ret := zTr y) ⟨hx, hb, hml, hown, hts⟩ hM (va_cwO n hts hG1 rfl r1 r2 (zMT x0 hx1).1 ⟨hx2, hx3, hx4⟩ r3) ⟨zPre.blind, hrc, hp⟩ rfl hn hL.1 hstk hz hd hf
  · exact H.elim
end
end
section
/-! String.length and String.charAt on the constants; written out of wip/whole/14.src -/
def zWJ (y : MethodName) (b : ByteArray) (n : Nat) (r : Option FieldType) : List Cond := Cond.code y b n r :: zGL
def zRj (n : Nat) : Room := { frames := n + 1, cells := 0, slots := 0, locals := 40 * (n + 1) }
def zPj (D : va_G) (dA : Nat → ClassId) (aC aV : Nat → Nat) (L : Nat) (xs : Nat → Int32) (U : State) : Prop := zGb D dA (fun _ => False) aC aV L xs U U.heap
theorem zPj.blind {D : va_G} {dA : Nat → ClassId} {aC aV : Nat → Nat} {L : Nat} {xs : Nat → Int32} {av : List Value} : FrameBlind (va_Pc av (zPj D dA aC aV L xs)) := fun a U g mk hp => ⟨hp.1, zGb.moved (U := U) rfl hp.2⟩
def zQj (x : Int32) : Array Value → State → Outcome → State → Prop := va_Qi (fun r (_ : Unit) => r = x) (fun _ _ => True) (fun _ => False)
theorem zj_end {st t : State} {H : Heap} {locs : List Loc} {x : Int32} {a : Array Value} (hS : va_S (fun _ => False) st.heap H locs) (ht : t.heap = H) : zQj x a st (.returned (some (.int x))) t := ⟨⟨x, (), rfl, rfl, trivial⟩, hS.F ht⟩
theorem zj_good {y : MethodName} {b : ByteArray} {n : Nat} {r : Option FieldType} (h : Cond.code y b n r ∈ zGL) : GoodIn zGL (zWJ y b n r) := by
  intro w hw
  rcases List.mem_cons.mp hw with rfl | hw
  · exact zGL_good h
  · exact zGL_good hw
theorem zj_goodV {own C : String} {i n : Nat} {y : MethodName} {b : ByteArray} {r : Option FieldType} (h1 : Cond.methodLink own i y ∈ zGL) (h2 : Cond.instanceMethod y ∈ zGL) (h3 : Cond.selects C y y ∈ zGL) (h4 : Cond.initialized C ∈ zGL) (h5 : Cond.code y b n r ∈ zGL) : GoodIn zGL (wsV own i C y (zWJ y b n r)) := by
  intro w hw
  unfold wsV at hw
  rcases List.mem_append.mp hw with hw | hw
  · simp only [List.mem_cons, List.not_mem_nil, or_false] at hw
    rcases hw with rfl | rfl | rfl | rfl
    · exact zGL_good h1
    · exact zGL_good h2
    · exact zGL_good h3
    · exact zGL_good h4
  · exact zj_good h5 w hw
theorem zsh0 (x : Int32) : x >>> ((0 : Int32) &&& 31) = x := by
  apply Int32.toInt_inj.mp
  simp
section
variable {D : va_G} {dA : Nat → ClassId} {aC aV : Nat → Nat} {L : Nat} {xs : Nat → Int32}
set_option maxRecDepth 100000 in
theorem zJ_coder (l : Launch) {i : Nat} (hi : i < 13) : Met l yJ0_coder_7d493 (zWJ yJ0_coder_7d493 cJ0_coder_7d493 1 (some .byte)) (zRj 0) (va_Pc [.ref (aC (1000 + i))] (zPj D dA aC aV L xs)) (zQj 0) 0 0 (fun _ => False) := by
  refine Met.ofW (cc := cJ0_coder_7d493) (maxL := 1) (ret := some .byte) (by decide) rfl ?_
  intro p e s m args below meth c s₁ B hml hv
  obtain ⟨rfl, hG⟩ := hv
  have hx := B.exec
  have hb := B.bytes
  have hr := B.returns
  have hts := fun w hw => atoms_spec (ws := zWJ yJ0_coder_7d493 cJ0_coder_7d493 1 (some .byte)) B.pre w (List.mem_cons_of_mem _ hw)
  have hown : s.vm.findClass RJ0 = some m.cls := findClass_of_methodNamed B.named
  have hlocks := B.notSynchronized
  have hS : va_S (fun _ => False) s.heap s.heap [] := va_S.rf
  have hl := lv_entry ([.ref (aC (1000 + i))]) (n := 1) (Nat.le_of_ble_eq_true rfl)
  rw [lg_entry_eq]
  generalize (lg_sl ([.ref (aC (1000 + i))]) ++ List.replicate (1 - (lg_sl ([.ref (aC (1000 + i))])).length) Slot.unset).toArray = ls at hl ⊢
  have hl : lv_has ls 1 [(0, .ref (aC (1000 + i)))] := hl
  obtain ⟨-, -, -, -, -, g6, -, -, -, g10, -⟩ := id hG
  refine va_gets hx hb g10 hS hown (hts _ (zg1 231 (by decide +kernel) (by decide +kernel))) (fun _ q => q) (by decide +kernel : decode cJ0_coder_7d493 0 = .ok (.getstatic 38, 3)) ?_
  refine lv_if_eq (tgt := 13) hx hb (by decide +kernel : decode cJ0_coder_7d493 3 = .ok (.ifCond .eq 10, 3)) (by decide) (fun q => absurd q (by decide)) (fun _ => ?_)
  refine lv_aload_n hx hb (by decide +kernel : decode cJ0_coder_7d493 6 = .ok (.aload_n 0, 1)) rfl (lv_at hl 0 rfl) ?_
  refine vk_getf hx hb (g6.1 i hi).2.1 hS hown (hts _ (zg6 68 (by decide +kernel) (by decide +kernel))) (fun _ q => q) (by decide +kernel : decode cJ0_coder_7d493 7 = .ok (.getfield 15, 3)) ?_
  refine lv_goto (tgt := 14) hx hb (by decide +kernel : decode cJ0_coder_7d493 10 = .ok (.goto 4, 3)) (by decide) ?_
  exact W.zret hx hb hr rfl (fun t ht _ => zj_end hS ht) hS.2.2 (by decide +kernel : decode cJ0_coder_7d493 14 = .ok (.ireturn, 1)) hlocks
set_option maxRecDepth 100000 in
theorem zJ_isLatin1 (l : Launch) {i : Nat} (hi : i < 13) : Met l yJ0_isLatin1_aae02 (zWJ yJ0_isLatin1_aae02 cJ0_isLatin1_aae02 1 (some .boolean)) (zRj 0) (va_Pc [.ref (aC (1000 + i))] (zPj D dA aC aV L xs)) (zQj 1) 0 0 (fun _ => False) := by
  refine Met.ofW (cc := cJ0_isLatin1_aae02) (maxL := 1) (ret := some .boolean) (by decide) rfl ?_
  intro p e s m args below meth c s₁ B hml hv
  obtain ⟨rfl, hG⟩ := hv
  have hx := B.exec
  have hb := B.bytes
  have hr := B.returns
  have hts := fun w hw => atoms_spec (ws := zWJ yJ0_isLatin1_aae02 cJ0_isLatin1_aae02 1 (some .boolean)) B.pre w (List.mem_cons_of_mem _ hw)
  have hown : s.vm.findClass RJ0 = some m.cls := findClass_of_methodNamed B.named
  have hlocks := B.notSynchronized
  have hS : va_S (fun _ => False) s.heap s.heap [] := va_S.rf
  have hl := lv_entry ([.ref (aC (1000 + i))]) (n := 1) (Nat.le_of_ble_eq_true rfl)
  rw [lg_entry_eq]
  generalize (lg_sl ([.ref (aC (1000 + i))]) ++ List.replicate (1 - (lg_sl ([.ref (aC (1000 + i))])).length) Slot.unset).toArray = ls at hl ⊢
  have hl : lv_has ls 1 [(0, .ref (aC (1000 + i)))] := hl
  obtain ⟨-, -, -, -, -, g6, -, -, -, g10, -⟩ := id hG
  refine va_gets hx hb g10 hS hown (hts _ (zg1 231 (by decide +kernel) (by decide +kernel))) (fun _ q => q) (by decide +kernel : decode cJ0_isLatin1_aae02 0 = .ok (.getstatic 38, 3)) ?_
  refine lv_if_eq (tgt := 17) hx hb (by decide +kernel : decode cJ0_isLatin1_aae02 3 = .ok (.ifCond .eq 14, 3)) (by decide) (fun q => absurd q (by decide)) (fun _ => ?_)
  refine lv_aload_n hx hb (by decide +kernel : decode cJ0_isLatin1_aae02 6 = .ok (.aload_n 0, 1)) rfl (lv_at hl 0 rfl) ?_
  refine vk_getf hx hb (g6.1 i hi).2.1 hS hown (hts _ (zg6 68 (by decide +kernel) (by decide +kernel))) (fun _ q => q) (by decide +kernel : decode cJ0_isLatin1_aae02 7 = .ok (.getfield 15, 3)) ?_
  refine lv_if_ne (tgt := 17) hx hb (by decide +kernel : decode cJ0_isLatin1_aae02 10 = .ok (.ifCond .ne 7, 3)) (by decide) (fun q => absurd rfl q) (fun _ => ?_)
  refine lv_iconst (v := 1) hx hb (by decide +kernel : decode cJ0_isLatin1_aae02 13 = .ok (.iconst 1, 1)) (by decide) ?_
  refine lv_goto (tgt := 18) hx hb (by decide +kernel : decode cJ0_isLatin1_aae02 14 = .ok (.goto 4, 3)) (by decide) ?_
  exact W.zret hx hb hr rfl (fun t ht _ => zj_end hS ht) hS.2.2 (by decide +kernel : decode cJ0_isLatin1_aae02 18 = .ok (.ireturn, 1)) hlocks
set_option maxRecDepth 100000 in
theorem zJ_length (l : Launch) {i : Nat} (hi : i < 13) : Met l yJ0_length_8abf5 (zWJ yJ0_length_8abf5 cJ0_length_8abf5 1 (some .int)) (zRj 1) (va_Pc [.ref (aC (1000 + i))] (zPj D dA aC aV L xs)) (zQj (Int32.ofNat ((zVS.map List.length).getD i 0))) 0 0 (fun _ => False) := by
  refine Met.ofW (cc := cJ0_length_8abf5) (maxL := 1) (ret := some .int) (by decide) rfl ?_
  intro p e s m args below meth c s₁ B hml hv
  obtain ⟨rfl, hG⟩ := hv
  have hx := B.exec
  have hb := B.bytes
  have hr := B.returns
  have hts := fun w hw => atoms_spec (ws := zWJ yJ0_length_8abf5 cJ0_length_8abf5 1 (some .int)) B.pre w (List.mem_cons_of_mem _ hw)
  have hown : s.vm.findClass RJ0 = some m.cls := findClass_of_methodNamed B.named
  have hlocks := B.notSynchronized
  have hS : va_S (fun _ => False) s.heap s.heap [] := va_S.rf
  have hl := lv_entry ([.ref (aC (1000 + i))]) (n := 1) (Nat.le_of_ble_eq_true rfl)
  rw [lg_entry_eq]
  generalize (lg_sl ([.ref (aC (1000 + i))]) ++ List.replicate (1 - (lg_sl ([.ref (aC (1000 + i))])).length) Slot.unset).toArray = ls at hl ⊢
  have hl : lv_has ls 1 [(0, .ref (aC (1000 + i)))] := hl
  obtain ⟨-, -, -, -, -, g6, -⟩ := id hG
  refine lv_aload_n hx hb (by decide +kernel : decode cJ0_length_8abf5 0 = .ok (.aload_n 0, 1)) rfl (lv_at hl 0 rfl) ?_
  refine vk_getf hx hb (g6.1 i hi).2.2.1 hS hown (hts _ (zg6 67 (by decide +kernel) (by decide +kernel))) (fun _ q => q) (by decide +kernel : decode cJ0_length_8abf5 1 = .ok (.getfield 9, 3)) ?_
  refine va_tlen hx hb (g6.1 i hi).2.2.2 hS rfl (by decide +kernel : decode cJ0_length_8abf5 4 = .ok (.arraylength, 1)) ?_
  refine lv_aload_n hx hb (by decide +kernel : decode cJ0_length_8abf5 5 = .ok (.aload_n 0, 1)) rfl (lv_at hl 0 rfl) ?_
  refine va_calli (A0 := fun _ => False) (va_runV (As := []) ⟨hx, hb, hml, hown, hts⟩ (zJ_coder l hi) (cwV (C := RJ0) (own := RJ0) (index := 335) 0 hts (zj_goodV (zg1 227 (by decide +kernel) (by decide +kernel)) (zg1 228 (by decide +kernel) (by decide +kernel)) (zg1 229 (by decide +kernel) (by decide +kernel)) (zg1 13 (by decide +kernel) (by decide +kernel)) (zg1 230 (by decide +kernel) (by decide +kernel))) rfl rfl rfl ⟨rfl, by decide, by decide, by decide +kernel⟩ ⟨Nat.le_of_ble_eq_true rfl, Nat.le_of_ble_eq_true rfl⟩) ⟨zPj.blind, vk_recv g6 hi hS, fun U hU hW => ⟨rfl, hG.warm hW (by rw [hU]; exact va_S.rf) (fun _ q => q)⟩⟩ rfl rfl hl.1 rfl (lv_room (Nat.le_of_ble_eq_true rfl)) (by decide +kernel : decode cJ0_length_8abf5 6 = .ok (.invokevirtual 335, 3)) ⟨Nat.le_of_ble_eq_true rfl, Nat.le_of_ble_eq_true rfl⟩) hS (fun _ _ q => q) (fun _ q => q) (fun r u t H1 locs1 ht hvm hw hB hz hk hS => ?_)
  have hw : r = 0 := hw
  subst hw
  refine lv_ishr hx hb (by decide +kernel : decode cJ0_length_8abf5 9 = .ok (.ishr, 1)) ?_
  rw [zsh0]
  exact W.iret hx hb hr (fun t ht _ => zj_end hS ht) hS.2.2 (by decide +kernel : decode cJ0_length_8abf5 10 = .ok (.ireturn, 1)) hlocks
set_option maxRecDepth 100000 in
theorem zJ_checkP (l : Launch) {i n : Nat} (hi : i < n) (hn : n < 2 ^ 31) (v : Value) (hv : v = .null ∨ ∃ a, v = .ref a) : Met l yJ3_checkIndex_8e157 (zWJ yJ3_checkIndex_8e157 cJ3_checkIndex_8e157 3 (some .int)) (zRj 0) (va_Pc [.int (nI i), .int (nI n), v] (zPj D dA aC aV L xs)) (zQj (nI i)) 0 0 (fun _ => False) := by
  refine Met.ofW (cc := cJ3_checkIndex_8e157) (maxL := 3) (ret := some .int) (by decide) rfl ?_
  intro p e s m args below meth c s₁ B hml hv2
  obtain ⟨rfl, hG⟩ := hv2
  have hx := B.exec
  have hb := B.bytes
  have hr := B.returns
  have hlocks := B.notSynchronized
  have hS : va_S (fun _ => False) s.heap s.heap [] := va_S.rf
  have hcat : v.category = 1 := by rcases hv with rfl | ⟨a, rfl⟩ <;> rfl
  have hsl : (lg_sl ([.int (nI i), .int (nI n), v])).length ≤ 3 := by rcases hv with rfl | ⟨a, rfl⟩ <;> exact Nat.le_of_ble_eq_true rfl
  have hl := lv_entry ([.int (nI i), .int (nI n), v]) (n := 3) hsl
  rw [lg_entry_eq]
  generalize (lg_sl ([.int (nI i), .int (nI n), v]) ++ List.replicate (3 - (lg_sl ([.int (nI i), .int (nI n), v])).length) Slot.unset).toArray = ls at hl ⊢
  have hl : lv_has ls 3 [(0, .int (nI i)), (1, .int (nI n)), (2, v)] := by rcases hv with rfl | ⟨a, rfl⟩ <;> exact hl
  refine lv_iload_n hx hb (by decide +kernel : decode cJ3_checkIndex_8e157 0 = .ok (.iload_n 0, 1)) rfl (lv_at hl 0 rfl) ?_
  refine lv_if_lt (tgt := 9) hx hb (by decide +kernel : decode cJ3_checkIndex_8e157 1 = .ok (.ifCond .lt 8, 3)) (by decide) (fun q => absurd q (nI_pos (by omega))) (fun _ => ?_)
  refine lv_iload_n hx hb (by decide +kernel : decode cJ3_checkIndex_8e157 4 = .ok (.iload_n 0, 1)) rfl (lv_at hl 0 rfl) ?_
  refine lv_iload_n hx hb (by decide +kernel : decode cJ3_checkIndex_8e157 5 = .ok (.iload_n 1, 1)) rfl (lv_at hl 1 rfl) ?_
  refine lv_icmp_lt (tgt := 16) hx hb (by decide +kernel : decode cJ3_checkIndex_8e157 6 = .ok (.if_icmp .lt 10, 3)) (by decide) (fun _ => ?_) (fun q => absurd (nI_lt hi hn) q)
  refine lv_iload_n hx hb (by decide +kernel : decode cJ3_checkIndex_8e157 16 = .ok (.iload_n 0, 1)) rfl (lv_at hl 0 rfl) ?_
  exact W.iret hx hb hr (fun t ht _ => zj_end hS ht) hS.2.2 (by decide +kernel : decode cJ3_checkIndex_8e157 17 = .ok (.ireturn, 1)) hlocks
def zQv : Array Value → State → Outcome → State → Prop := va_Qv (fun (_ : Unit) => True) (fun _ _ => True) (fun _ => False)
theorem zj_goodS {own : String} {i n : Nat} {y : MethodName} {b : ByteArray} {r : Option FieldType} (h1 : Cond.methodLink own i y ∈ zGL) (h5 : Cond.code y b n r ∈ zGL) : GoodIn zGL (zWJ y b n r) := zj_good h5
set_option maxRecDepth 100000 in
theorem zJ_check (l : Launch) {i n : Nat} (hi : i < n) (hn : n < 2 ^ 31) : Met l yJ0_checkIndex_df160 (zWJ yJ0_checkIndex_df160 cJ0_checkIndex_df160 2 none) (zRj 1) (va_Pc [.int (nI i), .int (nI n)] (zPj D dA aC aV L xs)) zQv 0 0 (fun _ => False) := by
  refine Met.ofW (cc := cJ0_checkIndex_df160) (maxL := 2) (ret := none) (by decide) rfl ?_
  intro p e s m args below meth c s₁ B hml hv
  obtain ⟨rfl, hG⟩ := hv
  have hx := B.exec
  have hb := B.bytes
  have hr := B.returns
  have hts := fun w hw => atoms_spec (ws := zWJ yJ0_checkIndex_df160 cJ0_checkIndex_df160 2 none) B.pre w (List.mem_cons_of_mem _ hw)
  have hown : s.vm.findClass RJ0 = some m.cls := findClass_of_methodNamed B.named
  have hlocks := B.notSynchronized
  have hS : va_S (fun _ => False) s.heap s.heap [] := va_S.rf
  have hl := lv_entry ([.int (nI i), .int (nI n)]) (n := 2) (Nat.le_of_ble_eq_true rfl)
  rw [lg_entry_eq]
  generalize (lg_sl ([.int (nI i), .int (nI n)]) ++ List.replicate (2 - (lg_sl ([.int (nI i), .int (nI n)])).length) Slot.unset).toArray = ls at hl ⊢
  have hl : lv_has ls 2 [(0, .int (nI i)), (1, .int (nI n))] := hl
  obtain ⟨-, -, -, -, -, -, -, -, -, -, g11⟩ := id hG
  refine lv_iload_n hx hb (by decide +kernel : decode cJ0_checkIndex_df160 0 = .ok (.iload_n 0, 1)) rfl (lv_at hl 0 rfl) ?_
  refine lv_iload_n hx hb (by decide +kernel : decode cJ0_checkIndex_df160 1 = .ok (.iload_n 1, 1)) rfl (lv_at hl 1 rfl) ?_
  have go : ∀ v : Value, (v = .null ∨ ∃ a, v = .ref a) → va_Z "jdk/internal/util/Preconditions" "SIOOBE_FORMATTER" "Ljava/util/function/BiFunction;" v (fun _ => False) s s.heap → W p l e (zRj 1) s m #[.int (nI i), .int (nI n)] below meth c s.heap [] 0 0 (MQ below zQv #[.int (nI i), .int (nI n)] s 0 0 (fun _ => False)) (F0 m 2 ls [.int (nI n), .int (nI i)]) := by
    intro v hv hz
    refine va_gets hx hb hz hS hown (hts _ (zg2 7 (by decide +kernel) (by decide +kernel))) (fun _ q => q) (by decide +kernel : decode cJ0_checkIndex_df160 2 = .ok (.getstatic 1053, 3)) ?_
    refine va_calli (A0 := fun _ => False) (va_runS (As := [.int (nI i), .int (nI n), v]) ⟨hx, hb, hml, hown, hts⟩ (zJ_checkP l hi hn v hv) ⟨callB_of (own := RJ0) (index := 1059) 3 hts (zj_good (zg2 11 (by decide +kernel) (by decide +kernel))) rfl rfl rfl (hts _ (zg1 15 (by decide +kernel) (by decide +kernel))) (hts _ (zg2 9 (by decide +kernel) (by decide +kernel))) ⟨by decide, by decide, by decide +kernel⟩ ⟨Nat.le_of_ble_eq_true rfl, Nat.le_of_ble_eq_true rfl⟩, hts _ (zg2 10 (by decide +kernel) (by decide +kernel))⟩ ⟨zPj.blind, fun U hU hW => ⟨rfl, hG.warm hW (by rw [hU]; exact va_S.rf) (fun _ q => q)⟩⟩ rfl rfl hl.1 rfl (lv_room (Nat.le_of_ble_eq_true rfl)) (by decide +kernel : decode cJ0_checkIndex_df160 5 = .ok (.invokestatic 1059, 3)) ⟨Nat.le_of_ble_eq_true rfl, Nat.le_of_ble_eq_true rfl⟩) hS (fun _ _ q => q) (fun _ q => q) (fun r u t H1 locs1 ht hvm hw hB hz hk hS => ?_)
    refine lv_pop hx hb (by decide +kernel : decode cJ0_checkIndex_df160 8 = .ok (.pop, 1)) rfl ?_
    exact W.vret hx hb hr (fun t ht _ => ⟨⟨(), rfl, trivial, trivial⟩, hS.F ht⟩) hS.2.2 (by decide +kernel : decode cJ0_checkIndex_df160 9 = .ok (.return_, 1)) hlocks
  rcases g11 with g11 | ⟨t, g11⟩
  · exact go .null (Or.inl rfl) g11
  · exact go (.ref t) (Or.inr ⟨t, rfl⟩) g11
theorem zbyt {i j : Nat} (hi : i < 13) (hj : j < (zVS.map List.length).getD i 0) : 0 ≤ zgt 0 (zgt [] zVS i) j ∧ zgt 0 (zgt [] zVS i) j < 128 ∧ ((zVS.map (List.map zo)).getD i []).getD j 0 = zo (zgt 0 (zgt [] zVS i) j) := by
  have h : (List.range 13).all (fun i => (List.range ((zVS.map List.length).getD i 0)).all (fun j => decide (0 ≤ zgt 0 (zgt [] zVS i) j ∧ zgt 0 (zgt [] zVS i) j < 128 ∧ ((zVS.map (List.map zo)).getD i []).getD j 0 = zo (zgt 0 (zgt [] zVS i) j)))) = true := by decide +kernel
  exact of_decide_eq_true (List.all_eq_true.mp (List.all_eq_true.mp h i (List.mem_range.mpr hi)) j (List.mem_range.mpr hj))
theorem zmask {x : Int} (h : 0 ≤ x ∧ x < 128) : zo x &&& 255 = zo x := by
  have e : ∀ n : Nat, n < 128 → Int32.ofNat n &&& 255 = Int32.ofNat n := by decide +kernel
  have h2 := e x.toNat (by omega)
  rw [show zo x = Int32.ofNat x.toNat by rw [← Int32.ofInt_eq_ofNat]; exact congrArg Int32.ofInt (by omega)]
  exact h2
theorem zchr {x : Int} (h : 0 ≤ x ∧ x < 128) : narrow .char (.int (zo x)) = .int (zo x) ∧ (zo x).toUInt32.toUInt16.toUInt32.toInt32 = zo x ∧ ((zo x).toUInt32 % 65536).toInt32 = zo x := by
  have e : ∀ n : Nat, n < 128 → narrow .char (.int (Int32.ofNat n)) = .int (Int32.ofNat n) ∧ (Int32.ofNat n).toUInt32.toUInt16.toUInt32.toInt32 = Int32.ofNat n ∧ ((Int32.ofNat n).toUInt32 % 65536).toInt32 = Int32.ofNat n := by decide +kernel
  have h2 := e x.toNat (by omega)
  rw [show zo x = Int32.ofNat x.toNat by rw [← Int32.ofInt_eq_ofNat]; exact congrArg Int32.ofInt (by omega)]
  exact h2
set_option maxRecDepth 100000 in
theorem zJ_latin (l : Launch) {i j : Nat} (hi : i < 13) (hj : j < (zVS.map List.length).getD i 0) (hn : (zVS.map List.length).getD i 0 < 2 ^ 31) : Met l yJ1_charAt_3b067 (zWJ yJ1_charAt_3b067 cJ1_charAt_3b067 2 (some .char)) (zRj 2) (va_Pc [.ref (aV i), .int (nI j)] (zPj D dA aC aV L xs)) (zQj (zo (zgt 0 (zgt [] zVS i) j))) 0 0 (fun _ => False) := by
  refine Met.ofW (cc := cJ1_charAt_3b067) (maxL := 2) (ret := some .char) (by decide) rfl ?_
  intro p e s m args below meth c s₁ B hml hv
  obtain ⟨rfl, hG⟩ := hv
  have hx := B.exec
  have hb := B.bytes
  have hr := B.returns
  have hts := fun w hw => atoms_spec (ws := zWJ yJ1_charAt_3b067 cJ1_charAt_3b067 2 (some .char)) B.pre w (List.mem_cons_of_mem _ hw)
  have hown : s.vm.findClass RJ1 = some m.cls := findClass_of_methodNamed B.named
  have hlocks := B.notSynchronized
  have hS : va_S (fun _ => False) s.heap s.heap [] := va_S.rf
  have hl := lv_entry ([.ref (aV i), .int (nI j)]) (n := 2) (Nat.le_of_ble_eq_true rfl)
  rw [lg_entry_eq]
  generalize (lg_sl ([.ref (aV i), .int (nI j)]) ++ List.replicate (2 - (lg_sl ([.ref (aV i), .int (nI j)])).length) Slot.unset).toArray = ls at hl ⊢
  have hl : lv_has ls 2 [(0, .ref (aV i)), (1, .int (nI j))] := hl
  obtain ⟨-, -, -, -, -, g6, -⟩ := id hG
  obtain ⟨b1, b2, b3⟩ := zbyt hi hj
  refine lv_iload_n hx hb (by decide +kernel : decode cJ1_charAt_3b067 0 = .ok (.iload_n 1, 1)) rfl (lv_at hl 1 rfl) ?_
  refine lv_aload_n hx hb (by decide +kernel : decode cJ1_charAt_3b067 1 = .ok (.aload_n 0, 1)) rfl (lv_at hl 0 rfl) ?_
  refine va_tlen hx hb (g6.1 i hi).2.2.2 hS rfl (by decide +kernel : decode cJ1_charAt_3b067 2 = .ok (.arraylength, 1)) ?_
  refine va_callv (A0 := fun _ => False) (va_runS (As := [.int (nI j), .int (Int32.ofNat ((zVS.map List.length).getD i 0))]) ⟨hx, hb, hml, hown, hts⟩ (zJ_check l hj hn) ⟨callB_of (own := RJ1) (index := 9) 2 hts (zj_good (zg2 6 (by decide +kernel) (by decide +kernel))) rfl rfl rfl (hts _ (zg1 13 (by decide +kernel) (by decide +kernel))) (hts _ (zg2 4 (by decide +kernel) (by decide +kernel))) ⟨by decide, by decide, by decide +kernel⟩ ⟨Nat.le_of_ble_eq_true rfl, Nat.le_of_ble_eq_true rfl⟩, hts _ (zg2 5 (by decide +kernel) (by decide +kernel))⟩ ⟨zPj.blind, fun U hU hW => ⟨rfl, hG.warm hW (by rw [hU]; exact va_S.rf) (fun _ q => q)⟩⟩ rfl rfl hl.1 rfl (lv_room (Nat.le_of_ble_eq_true rfl)) (by decide +kernel : decode cJ1_charAt_3b067 3 = .ok (.invokestatic 9, 3)) ⟨Nat.le_of_ble_eq_true rfl, Nat.le_of_ble_eq_true rfl⟩) hS (fun _ _ q => q) (fun _ q => q) (fun u t H1 locs1 ht hvm hw hB hz hk hS => ?_)
  refine lv_aload_n hx hb (by decide +kernel : decode cJ1_charAt_3b067 6 = .ok (.aload_n 0, 1)) rfl (lv_at hl 0 rfl) ?_
  refine lv_iload_n hx hb (by decide +kernel : decode cJ1_charAt_3b067 7 = .ok (.iload_n 1, 1)) rfl (lv_at hl 1 rfl) ?_
  refine va_tb hx hb (g6.1 i hi).2.2.2 hS (vp_in_nI hj hn) (v := .int (zo (zgt 0 (zgt [] zVS i) j))) (by rw [nI_clamp (by omega), b3]) (by decide +kernel : decode cJ1_charAt_3b067 8 = .ok (.baload, 1)) ?_
  refine lv_sipush (v := 255) hx hb (by decide +kernel : decode cJ1_charAt_3b067 9 = .ok (.sipush 255, 3)) (by decide) ?_
  refine lv_iand hx hb (by decide +kernel : decode cJ1_charAt_3b067 12 = .ok (.iand, 1)) ?_
  rw [zmask ⟨b1, b2⟩]
  refine lv_i2c hx hb (by decide +kernel : decode cJ1_charAt_3b067 13 = .ok (.i2c, 1)) (v := zo (zgt 0 (zgt [] zVS i) j)) (by first | exact (zchr ⟨b1, b2⟩).2.1 | exact (zchr ⟨b1, b2⟩).2.2) ?_
  exact W.zret hx hb hr (zchr ⟨b1, b2⟩).1 (fun t ht _ => zj_end hS ht) hS.2.2 (by decide +kernel : decode cJ1_charAt_3b067 14 = .ok (.ireturn, 1)) hlocks
set_option maxRecDepth 100000 in
theorem zJ_charAt (l : Launch) {i j : Nat} (hi : i < 13) (hj : j < (zVS.map List.length).getD i 0) (hn : (zVS.map List.length).getD i 0 < 2 ^ 31) : Met l yJ0_charAt_5068e (zWJ yJ0_charAt_5068e cJ0_charAt_5068e 2 (some .char)) (zRj 3) (va_Pc [.ref (aC (1000 + i)), .int (nI j)] (zPj D dA aC aV L xs)) (zQj (zo (zgt 0 (zgt [] zVS i) j))) 0 0 (fun _ => False) := by
  refine Met.ofW (cc := cJ0_charAt_5068e) (maxL := 2) (ret := some .char) (by decide) rfl ?_
  intro p e s m args below meth c s₁ B hml hv
  obtain ⟨rfl, hG⟩ := hv
  have hx := B.exec
  have hb := B.bytes
  have hr := B.returns
  have hts := fun w hw => atoms_spec (ws := zWJ yJ0_charAt_5068e cJ0_charAt_5068e 2 (some .char)) B.pre w (List.mem_cons_of_mem _ hw)
  have hown : s.vm.findClass RJ0 = some m.cls := findClass_of_methodNamed B.named
  have hlocks := B.notSynchronized
  have hS : va_S (fun _ => False) s.heap s.heap [] := va_S.rf
  have hl := lv_entry ([.ref (aC (1000 + i)), .int (nI j)]) (n := 2) (Nat.le_of_ble_eq_true rfl)
  rw [lg_entry_eq]
  generalize (lg_sl ([.ref (aC (1000 + i)), .int (nI j)]) ++ List.replicate (2 - (lg_sl ([.ref (aC (1000 + i)), .int (nI j)])).length) Slot.unset).toArray = ls at hl ⊢
  have hl : lv_has ls 2 [(0, .ref (aC (1000 + i))), (1, .int (nI j))] := hl
  obtain ⟨-, -, -, -, -, g6, -⟩ := id hG
  obtain ⟨b1, b2, b3⟩ := zbyt hi hj
  refine lv_aload_n hx hb (by decide +kernel : decode cJ0_charAt_5068e 0 = .ok (.aload_n 0, 1)) rfl (lv_at hl 0 rfl) ?_
  refine va_calli (A0 := fun _ => False) (va_runV (As := []) ⟨hx, hb, hml, hown, hts⟩ (zJ_isLatin1 l hi) (cwV (C := RJ0) (own := RJ0) (index := 492) 0 hts (zj_goodV (zg1 237 (by decide +kernel) (by decide +kernel)) (zg1 238 (by decide +kernel) (by decide +kernel)) (zg1 239 (by decide +kernel) (by decide +kernel)) (zg1 13 (by decide +kernel) (by decide +kernel)) (zg2 0 (by decide +kernel) (by decide +kernel))) rfl rfl rfl ⟨rfl, by decide, by decide, by decide +kernel⟩ ⟨Nat.le_of_ble_eq_true rfl, Nat.le_of_ble_eq_true rfl⟩) ⟨zPj.blind, vk_recv g6 hi hS, fun U hU hW => ⟨rfl, hG.warm hW (by rw [hU]; exact va_S.rf) (fun _ q => q)⟩⟩ rfl rfl hl.1 rfl (lv_room (Nat.le_of_ble_eq_true rfl)) (by decide +kernel : decode cJ0_charAt_5068e 1 = .ok (.invokevirtual 492, 3)) ⟨Nat.le_of_ble_eq_true rfl, Nat.le_of_ble_eq_true rfl⟩) hS (fun _ _ q => q) (fun _ q => q) (fun r u t H1 locs1 ht hvm hw hB hz hk hS => ?_)
  have hw : r = 1 := hw
  subst hw
  refine lv_if_eq (tgt := 16) hx hb (by decide +kernel : decode cJ0_charAt_5068e 4 = .ok (.ifCond .eq 12, 3)) (by decide) (fun q => absurd q (by decide)) (fun _ => ?_)
  refine lv_aload_n hx hb (by decide +kernel : decode cJ0_charAt_5068e 7 = .ok (.aload_n 0, 1)) rfl (lv_at hl 0 rfl) ?_
  refine vk_getf hx hb (g6.1 i hi).2.2.1 hS hown (hts _ (zg6 67 (by decide +kernel) (by decide +kernel))) (fun _ q => q) (by decide +kernel : decode cJ0_charAt_5068e 8 = .ok (.getfield 9, 3)) ?_
  refine lv_iload_n hx hb (by decide +kernel : decode cJ0_charAt_5068e 11 = .ok (.iload_n 1, 1)) rfl (lv_at hl 1 rfl) ?_
  refine va_calli (A0 := fun _ => False) (va_runS (As := [.ref (aV i), .int (nI j)]) ⟨hx, hb, hml, hown, hts⟩ (zJ_latin l hi hj hn) ⟨callB_of (own := RJ0) (index := 495) 2 hts (zj_good (zg2 3 (by decide +kernel) (by decide +kernel))) rfl rfl rfl (hts _ (zg1 14 (by decide +kernel) (by decide +kernel))) (hts _ (zg2 1 (by decide +kernel) (by decide +kernel))) ⟨by decide, by decide, by decide +kernel⟩ ⟨Nat.le_of_ble_eq_true rfl, Nat.le_of_ble_eq_true rfl⟩, hts _ (zg2 2 (by decide +kernel) (by decide +kernel))⟩ ⟨zPj.blind, fun U hU hW => ⟨rfl, hG.warm hW (by rw [hU]; exact hS) (fun _ q => q)⟩⟩ rfl rfl hl.1 rfl (lv_room (Nat.le_of_ble_eq_true rfl)) (by decide +kernel : decode cJ0_charAt_5068e 12 = .ok (.invokestatic 495, 3)) ⟨Nat.le_of_ble_eq_true rfl, Nat.le_of_ble_eq_true rfl⟩) hS (fun _ _ q => q) (fun _ q => q) (fun r u t H1 locs1 ht hvm hw hB hz hk hS => ?_)
  have hw : r = zo (zgt 0 (zgt [] zVS i) j) := hw
  subst hw
  exact W.zret hx hb hr (zchr ⟨b1, b2⟩).1 (fun t ht _ => zj_end hS ht) hS.2.2 (by decide +kernel : decode cJ0_charAt_5068e 15 = .ok (.ireturn, 1)) hlocks
end
section
variable {p : Program} {l : Launch} {e : Env} {R : Room} {s : State} {m : MethodId} {args : Array Value} {below : List Frame} {meth : Method} {c : Code} {Qf : State → Prop} {D : va_G} {dA : Nat → ClassId} {A : Nat → Prop} {aC aV : Nat → Nat} {L : Nat} {xs : Nat → Int32} {N0 S0 k : Nat}
theorem zvs_len {i : Nat} (hi : i < 13) : (zVS.map List.length).getD i 0 = zvsLen (1000 + i) ∧ zvsLen (1000 + i) < 100 := by
  have h : (List.range 13).all (fun i => decide ((zVS.map List.length).getD i 0 = zvsLen (1000 + i) ∧ zvsLen (1000 + i) < 100)) = true := by decide +kernel
  exact of_decide_eq_true (List.all_eq_true.mp h i (List.mem_range.mpr hi))
theorem zs_strgo {ad : Nat → Nat} {h : zH} {H H1 : Heap} {locs locs1 : List Loc} {cells slots : Nat} (hS : zSt D dA A aC L xs s N0 S0 R ad h H locs cells slots) (hk : ∀ q : Nat, q < H.size → H1[q]? = H[q]?) (s1 : va_S A s.heap H1 locs1) : zSt D dA A aC L xs s N0 S0 R ad h H1 locs1 cells slots := by
  obtain ⟨a1, a2, -, a4⟩ := hS
  exact ⟨fun k q hq => (a1 k q hq).kept (hk _ (a1 k q hq).lt), a2, s1, a4⟩
theorem zs_slenS {i pc : Nat} {ls : zLv} {st : List zV} {h : zH} (hx : p.tables.exec = Jvm.exec) (hb : c.code = zB k) (hml : c.maxLocals = zL k) (hts : ∀ w ∈ zGL, w.before args s = true) (hown : s.vm.findClass (zR (zO k)) = some m.cls) (hA : ∀ q, s.heap.size ≤ q → A q) (hG : zGb D dA A aC aV L xs s s.heap) (hR : 5 ≤ R.frames ∧ 300 ≤ R.locals) (hd : decode (zB k) pc = .ok (.invokevirtual i, 3)) (hl : (zO k, i) ∈ zXL) (H : zo_slenS (zPp p l e R s m args below meth c Qf D dA A aC L xs N0 S0 k) pc ls st h) : zPp p l e R s m args below meth c Qf D dA A aC L xs N0 S0 k pc ls st h := by
  unfold zo_slenS at H
  split at H
  · rename_i x r
    intro ad Hp lsA locs cells slots hS hL hst
    obtain ⟨h1, hr⟩ := zst_cons hst
    obtain ⟨hzr, ⟨g0, g1⟩, HP⟩ := H
    obtain ⟨i0, rfl⟩ : ∃ i0, x = 1000 + i0 := ⟨x - 1000, by omega⟩
    have hi : i0 < 13 := by omega
    obtain ⟨e1, e2⟩ := zvs_len hi
    have g6 := hG.2.2.2.2.2.1
    have s7 := hS.2.2.2.2.2.2.1
    show W p l e R s m args below meth c Hp locs cells slots Qf (F0 m pc lsA (.ref (ad (1000 + i0)) :: r.map (zEv ad)))
    rw [hS.2.2.2.2.1 _ (Or.inr (by omega))]
    refine va_calli (A0 := A) (va_runV (As := []) ⟨hx, hb, hml, hown, hts⟩ (zJ_length l hi) (cwV (C := RJ0) (own := zR (zO k)) (index := i) 0 hts (zj_goodV (zXL_ok _ hl) (zg1 224 (by decide +kernel) (by decide +kernel)) (zg1 225 (by decide +kernel) (by decide +kernel)) (zg1 13 (by decide +kernel) (by decide +kernel)) (zg1 226 (by decide +kernel) (by decide +kernel))) rfl rfl rfl ⟨rfl, by decide, by decide, by decide +kernel⟩ ⟨by show 2 + 1 ≤ _; omega, by show 8 + (1 + 11) + 40 * 2 ≤ _; omega⟩) ⟨zPj.blind, vk_recv g6 hi hS.2.2.1, fun U hU hW => ⟨rfl, by rw [zPj, hU]; exact hG.warm hW hS.2.2.1 (fun _ q => q.elim)⟩⟩ rfl rfl hL.1 rfl (by rw [zcs_sum]; show 2 * 0 + _ ≤ 8; omega) hd ⟨by omega, by omega⟩) hS.2.2.1 (fun _ _ q => q.elim) (fun _ q => q.elim) (fun rr u t H1 locs1 ht hvm hw hB hz hk hS1 => ?_)
    have hw : rr = Int32.ofNat ((zVS.map List.length).getD i0 0) := hw
    subst hw
    have kk := HP ad H1 lsA locs1 cells slots (zs_strgo hS (fun q hq => hk q hq (fun z => z.elim)) hS1) hL (zst_mk (v := .inl _) (by show zIn _; omega) hr)
    rw [e1, show Int32.ofNat (zvsLen (1000 + i0)) = zo ((zvsLen (1000 + i0) : Nat) : Int) from (Int32.ofInt_eq_ofNat).symm]
    exact kk
  · exact H.elim
theorem zs_satS {i pc : Nat} {ls : zLv} {st : List zV} {h : zH} (hx : p.tables.exec = Jvm.exec) (hb : c.code = zB k) (hml : c.maxLocals = zL k) (hts : ∀ w ∈ zGL, w.before args s = true) (hown : s.vm.findClass (zR (zO k)) = some m.cls) (hA : ∀ q, s.heap.size ≤ q → A q) (hG : zGb D dA A aC aV L xs s s.heap) (hR : 5 ≤ R.frames ∧ 300 ≤ R.locals) (hd : decode (zB k) pc = .ok (.invokevirtual i, 3)) (hl : (zO k, i) ∈ zXA) (H : zo_satS (zPp p l e R s m args below meth c Qf D dA A aC L xs N0 S0 k) pc ls st h) : zPp p l e R s m args below meth c Qf D dA A aC L xs N0 S0 k pc ls st h := by
  unfold zo_satS at H
  split at H
  · rename_i j x r
    intro ad Hp lsA locs cells slots hS hL hst
    obtain ⟨h0, hst1⟩ := zst_cons hst
    obtain ⟨h1, hr⟩ := zst_cons hst1
    obtain ⟨hzr, ⟨g0, g1⟩, gj, HP⟩ := H
    obtain ⟨i0, rfl⟩ : ∃ i0, x = 1000 + i0 := ⟨x - 1000, by omega⟩
    have hi : i0 < 13 := by omega
    obtain ⟨e1, e2⟩ := zvs_len hi
    have g6 := hG.2.2.2.2.2.1
    have s7 := hS.2.2.2.2.2.2.1
    have hj : j.toNat < (zVS.map List.length).getD i0 0 := by rw [e1]; omega
    obtain ⟨b1, b2, -⟩ := zbyt hi hj
    have ej : zo j = nI j.toNat := by
      show Int32.ofInt j = Int32.ofNat j.toNat
      rw [← Int32.ofInt_eq_ofNat]
      exact congrArg Int32.ofInt (by omega)
    show W p l e R s m args below meth c Hp locs cells slots Qf (F0 m pc lsA (.int (zo j) :: .ref (ad (1000 + i0)) :: r.map (zEv ad)))
    rw [hS.2.2.2.2.1 _ (Or.inr (by omega)), ej]
    refine va_calli (A0 := A) (va_runV (As := [.int (nI j.toNat)]) ⟨hx, hb, hml, hown, hts⟩ (zJ_charAt l hi hj (by rw [e1]; omega)) (cwV (C := RJ0) (own := zR (zO k)) (index := i) 1 hts (zj_goodV (zXA_ok _ hl) (zg1 234 (by decide +kernel) (by decide +kernel)) (zg1 235 (by decide +kernel) (by decide +kernel)) (zg1 13 (by decide +kernel) (by decide +kernel)) (zg1 236 (by decide +kernel) (by decide +kernel))) rfl rfl rfl ⟨rfl, by decide, by decide, by decide +kernel⟩ ⟨by show 4 + 1 ≤ _; omega, by show 8 + (2 + 11) + 40 * 4 ≤ _; omega⟩) ⟨zPj.blind, vk_recv g6 hi hS.2.2.1, fun U hU hW => ⟨rfl, by rw [zPj, hU]; exact hG.warm hW hS.2.2.1 (fun _ q => q.elim)⟩⟩ rfl rfl hL.1 rfl (by rw [zcs_sum]; show 2 * 0 + _ ≤ 8; omega) hd ⟨by omega, by omega⟩) hS.2.2.1 (fun _ _ q => q.elim) (fun _ q => q.elim) (fun rr u t H1 locs1 ht hvm hw hB hz hk hS1 => ?_)
    have hw : rr = zo (zgt 0 (zgt [] zVS i0) j.toNat) := hw
    subst hw
    have ev : zvsAt (1000 + i0) j.toNat = zgt 0 (zgt [] zVS i0) j.toNat := by unfold zvsAt; rw [Nat.add_sub_cancel_left]
    have kk := HP ad H1 lsA locs1 cells slots (zs_strgo hS (fun q hq => hk q hq (fun z => z.elim)) hS1) hL (zst_mk (v := .inl _) (by show zIn (zvsAt (1000 + i0) j.toNat); rw [ev]; omega) hr)
    rw [ev] at kk
    exact kk
  · exact H.elim
end
end
section
/-! every step is the machine's; written out of wip/whole/15.src -/
def zRk (i : Instr) (v : Option zV) (ty : Option FieldType) : Prop :=
  (i = .ireturn ∧ ∃ x, v = some (.inl x) ∧ (ty = some .int ∨ (ty = some .boolean ∧ (x = 0 ∨ x = 1)))) ∨ (i = .lreturn ∧ (∃ x, v = some (.inr (.inl x))) ∧ ty = some .long) ∨ (i = .areturn ∧ (∃ x, v = some (.inr (.inr (some x)))) ∧ ∃ n, ty = some (.object n)) ∨ (i = .return_ ∧ v = none ∧ ty = none)
section
variable {p : Program} {l : Launch} {e : Env} {R : Room} {s : State} {m : MethodId} {args : Array Value} {below : List Frame} {meth : Method} {c : Code} {Qf : State → Prop} {D : va_G} {dA : Nat → ClassId} {A : Nat → Prop} {aC aV : Nat → Nat} {L : Nat} {xs : Nat → Int32} {N0 S0 k : Nat}
theorem zb2 {a b : Bool} (h : (a && b) = true) : a = true ∧ b = true := by simpa using h
theorem zct {α : Type} [BEq α] [LawfulBEq α] {l : List α} {a : α} (h : l.contains a = true) : a ∈ l := by simpa using h
theorem zdw_d {k pc : Nat} {i : Instr} (h : zdw k pc i = true) : ∃ n, decode (zB k) pc = .ok (i, n) := by
  unfold zdw at h
  split at h
  · rename_i q hq
    obtain ⟨q1, q2⟩ := q
    have := of_decide_eq_true h
    exact ⟨q2, by rw [hq]; exact congrArg (fun z => Except.ok (z, q2)) this⟩
  · cases h
theorem zs_mm {f : Int → Int → Int} {g : Int32 → Int32 → Int32} (hf : ∀ x y, zIn x → zIn y → zIn (f x y) ∧ zo (f x y) = g (zo x) (zo y)) {pc : Nat} (row : ∀ {x y : Int32} {H : Heap} {lsA : Array Slot} {rest : List Value} {locs : List Loc} {cells slots : Nat}, lsA.size = zL k → (rest.map fun v => v.category).sum ≤ 8 → cells ≤ R.cells → slots ≤ R.slots → W p l e R s m args below meth c H locs cells slots Qf (F0 m (pc + 3) lsA (.int (g x y) :: rest)) → W p l e R s m args below meth c H locs cells slots Qf (F0 m pc lsA (.int y :: .int x :: rest))) {ls : zLv} {st : List zV} {h : zH} (H : zo_mm f (zPp p l e R s m args below meth c Qf D dA A aC L xs N0 S0 k) pc ls st h) : zPp p l e R s m args below meth c Qf D dA A aC L xs N0 S0 k pc ls st h := by
  unfold zo_mm at H
  split at H
  · rename_i y x r
    intro ad Hp lsA locs cells slots hS hL hst
    obtain ⟨hy, hst1⟩ := zst_cons hst
    obtain ⟨hx, hr⟩ := zst_cons hst1
    obtain ⟨f1, f2⟩ := hf x y hx hy
    have s7 := hS.2.2.2.2.2.2.1
    refine row hL.1 (by rw [zcs_sum]; exact H.1) s7.1 s7.2 ?_
    have := H.2 ad Hp lsA locs cells slots hS hL (zst_mk f1 hr)
    rw [show (.inl (f x y) :: r : List zV).map (zEv ad) = .int (zo (f x y)) :: r.map (zEv ad) from rfl, f2] at this
    exact this
  · exact H.elim
theorem zm_is {C : zCt} {B : Nat × Nat} {Q : zQ} {K : zK} {i a b : Nat} {lz : List (Int × Nat)} {pc : Nat} {ls : zLv} {st : List zV} {h : zH} (ha : a ≠ 1000) (ha4 : a ≠ 1004) (ha5 : a ≠ 1005) : zstep C B Q K (.invokestatic i, a, b, lz) pc ls st h = zo_stat C B a b K pc ls st h ∧ zokB k pc (.invokestatic i, a, b, lz) = (zdc k pc (.invokestatic i) 3 && (zpn a b && (zST.contains (zO k, i, a, b) || zSN.contains (zO k, i, a, b)))) := by
  unfold zstep zokB
  dsimp only
  constructor
  · revert ha ha4 ha5
    split
    · exact fun h _ _ => absurd rfl h
    · exact fun _ h _ => absurd rfl h
    · exact fun _ _ h => absurd rfl h
    · exact fun _ _ _ => rfl
  · revert ha ha4 ha5
    split
    · exact fun h _ _ => absurd rfl h
    · exact fun _ h _ => absurd rfl h
    · exact fun _ _ h => absurd rfl h
    · exact fun _ _ _ => rfl
theorem zm_sp {C : zCt} {B : Nat × Nat} {Q : zQ} {K : zK} {i a b : Nat} {lz : List (Int × Nat)} {pc : Nat} {ls : zLv} {st : List zV} {h : zH} (ha : a ≠ 1003) : zstep C B Q K (.invokespecial i, a, b, lz) pc ls st h = zo_spec C B a b K pc ls st h ∧ zokB k pc (.invokespecial i, a, b, lz) = (zdc k pc (.invokespecial i) 3 && (zpn a b && (((zIT.contains (zO k, i, a, b) || zIN.contains (zO k, i, a, b)) && (decide ((zY a).name = "<init>") && decide (zTr a = none))) || (zUT.contains (zO k, i, a, b) && decide ((zY a).name ≠ "<init>"))))) := by
  unfold zstep zokB
  dsimp only
  constructor
  · revert ha
    split
    · exact fun h => absurd rfl h
    · exact fun _ => rfl
  · revert ha
    split
    · exact fun h => absurd rfl h
    · exact fun _ => rfl
theorem zm_vi {C : zCt} {B : Nat × Nat} {Q : zQ} {K : zK} {i a b : Nat} {lz : List (Int × Nat)} {pc : Nat} {ls : zLv} {st : List zV} {h : zH} (ha : a ≠ 1001) (ha2 : a ≠ 1002) : zstep C B Q K (.invokevirtual i, a, b, lz) pc ls st h = zo_virt C B lz b K pc ls st h ∧ zokB k pc (.invokevirtual i, a, b, lz) = (zdc k pc (.invokevirtual i) 3 && lz.all (zokV k i b)) := by
  unfold zstep zokB
  dsimp only
  constructor
  · revert ha ha2
    split
    · exact fun h _ => absurd rfl h
    · exact fun _ h => absurd rfl h
    · exact fun _ _ => rfl
  · revert ha ha2
    split
    · exact fun h _ => absurd rfl h
    · exact fun _ h => absurd rfl h
    · exact fun _ _ => rfl
set_option maxHeartbeats 4000000 in
theorem zstep_snd {C : zCt} {B : Nat × Nat} {Q : zQ} (hk : k < 206) (hx : p.tables.exec = Jvm.exec) (hb : c.code = zB k) (hml : c.maxLocals = zL k) (hts : ∀ w ∈ zGL, w.before args s = true) (hown : s.vm.findClass (zR (zO k)) = some m.cls) (hnm : (zY k).name = "<init>" → meth.name = "<init>") (hA : ∀ q, s.heap.size ≤ q → A q) (hG : zGb D dA A aC aV L xs s s.heap) (hB : B.1 ≤ N0 + R.cells ∧ B.2 ≤ S0 + R.slots) (hR : 5 ≤ R.frames ∧ 300 ≤ R.locals) (hLL : L ≤ 3072) (hC : zHC l R D dA aC aV L xs C)
    (hret : ∀ (ad : Nat → Nat) (h : zH) (H : Heap) (lsA : Array Slot) (locs : List Loc) (cells slots pc : Nat) (v : Option zV) (i : Instr), zSt D dA A aC L xs s N0 S0 R ad h H locs cells slots → Q v h → (∀ w, v = some w → zVd h.1.1 w) → decode (zB k) pc = .ok (i, 1) → zRk i v (zTr k) → W p l e R s m args below meth c H locs cells slots Qf (F0 m pc lsA (v.map (zEv ad)).toList))
    {pc : Nat} {ls : zLv} {st : List zV} {h : zH} (H : zstep C B Q (zPp p l e R s m args below meth c Qf D dA A aC L xs N0 S0 k) (zF k pc) pc ls st h) : zPp p l e R s m args below meth c Qf D dA A aC L xs N0 S0 k pc ls st h := by
  have hok := zok_all hk pc
  revert H hok
  generalize zF k pc = en
  obtain ⟨i, a, b, lz⟩ := en
  intro H hok
  have hK := hG.1
  obtain ⟨hX, hbl, hbA, -⟩ := hG.2.2.2.2.2.2
  cases i with
  | iconst n =>
    obtain ⟨hd, hn⟩ := zb2 hok
    have hn := of_decide_eq_true hn
    exact zs_push (v := .inl n) (by show zIn n; omega) (fun _ kk => lv_iconst hx hb (zdc_d hd) rfl kk) H
  | bipush n =>
    obtain ⟨hd, hn⟩ := zb2 hok
    have hn := of_decide_eq_true hn
    exact zs_push (v := .inl n) (by show zIn n; omega) (fun _ kk => lv_bipush hx hb (zdc_d hd) (Int8.toInt32_ofInt (by have : Int8.minValue.toInt = -128 := by decide
                                                                                                                       omega) (by have : Int8.maxValue.toInt = 127 := by decide
                                                                                                                                  omega)) kk) H
  | sipush n =>
    obtain ⟨hd, hn⟩ := zb2 hok
    have hn := of_decide_eq_true hn
    exact zs_push (v := .inl n) (by show zIn n; omega) (fun _ kk => lv_sipush hx hb (zdc_d hd) (Int16.toInt32_ofInt (by have : Int16.minValue.toInt = -32768 := by decide
                                                                                                                        omega) (by have : Int16.maxValue.toInt = 32767 := by decide
                                                                                                                                   omega)) kk) H
  | lconst n =>
    exact zs_push (v := .inr (.inl (n.val : Nat))) (by show zIm _; have := n.isLt; omega) (fun _ kk => lv_lconst hx hb (zdc_d hok) (Int64.ofInt_eq_ofNat).symm kk) H
  | ldc i =>
    obtain ⟨hd, hn⟩ := zb2 hok
    cases a with
    | zero =>
      have hm := zct hn
      exact zs_push (v := .inl (zhd lz)) (zKTr _ hm) (fun _ kk => lv_ldc hx hb hown (hts _ (zKT_ok _ hm)) (zdc_d hd) kk) H
    | succ a =>
      have hm := zct hn
      obtain ⟨g1, g2⟩ := zGTs _ hm
      refine zs_push (v := .inr (.inr (some (1000 + b)))) (fun y hy => by cases hy; exact Or.inr (Nat.le_add_right _ _)) (fun hc kk => ?_) H
      have hz := hG.2.2.2.2.1 b g1
      rw [← g2] at hz
      refine va_ldcS (q := aC (1000 + b)) hx hb hown hz (zdc_d hd) ?_
      rw [← hc _ (Nat.le_add_right _ _)]
      exact kk
  | ldc_w i =>
    obtain ⟨hd, hn⟩ := zb2 hok
    have hm := zct hn
    exact zs_push (v := .inl (zhd lz)) (zKTr _ hm) (fun _ kk => lv_ldcw hx hb hown (hts _ (zKT_ok _ hm)) (zdc_d hd) kk) H
  | ldc2_w i =>
    obtain ⟨hd, hn⟩ := zb2 hok
    have hm := zct hn
    exact zs_push (v := .inr (.inl (zhd lz))) (zLTr _ hm) (fun _ kk => lv_ldc2 hx hb hown (hts _ (zLT_ok _ hm)) (zdc_d hd) kk) H
  | iload_n f =>
    obtain ⟨hd, hn⟩ := zb2 hok
    exact zs_li (fun hl kk => lv_iload_n hx hb (zdc_d hd) (of_decide_eq_true hn) hl kk) H
  | iload f =>
    obtain ⟨hd, hn⟩ := zb2 hok
    have hn := of_decide_eq_true hn
    subst hn
    exact zs_li (fun hl kk => lv_iload hx hb (zdc_d hd) hl kk) H
  | lload_n f =>
    obtain ⟨hd, hn⟩ := zb2 hok
    exact zs_ll (fun hl kk => lv_lload_n hx hb (zdc_d hd) (of_decide_eq_true hn) hl kk) H
  | lload f =>
    obtain ⟨hd, hn⟩ := zb2 hok
    have hn := of_decide_eq_true hn
    subst hn
    exact zs_ll (fun hl kk => lv_lload hx hb (zdc_d hd) hl kk) H
  | aload_n f =>
    obtain ⟨hd, hn⟩ := zb2 hok
    exact zs_lr (fun hl kk => lv_aload_n hx hb (zdc_d hd) (of_decide_eq_true hn) hl kk) H
  | aload f =>
    obtain ⟨hd, hn⟩ := zb2 hok
    have hn := of_decide_eq_true hn
    subst hn
    exact zs_lr (fun hl kk => lv_aload hx hb (zdc_d hd) hl kk) H
  | istore_n f =>
    obtain ⟨hd, hn⟩ := zb2 hok
    obtain ⟨hn, hi⟩ := zb2 hn
    exact zs_si (of_decide_eq_true hi) (fun hl hi kk => lv_istore_n hx hb (zdc_d hd) (of_decide_eq_true hn) hl hi rfl kk) H
  | istore f =>
    obtain ⟨hd, hn⟩ := zb2 hok
    obtain ⟨hn, hi⟩ := zb2 hn
    have hn := of_decide_eq_true hn
    subst hn
    exact zs_si (of_decide_eq_true hi) (fun hl hi kk => lv_istore hx hb (zdc_d hd) hl hi rfl kk) H
  | lstore_n f =>
    obtain ⟨hd, hn⟩ := zb2 hok
    obtain ⟨hn, hi⟩ := zb2 hn
    exact zs_sl (of_decide_eq_true hi) (fun hl hi kk => lv_lstore_n hx hb (zdc_d hd) (of_decide_eq_true hn) hl hi rfl kk) H
  | lstore f =>
    obtain ⟨hd, hn⟩ := zb2 hok
    obtain ⟨hn, hi⟩ := zb2 hn
    have hn := of_decide_eq_true hn
    subst hn
    exact zs_sl (of_decide_eq_true hi) (fun hl hi kk => lv_lstore hx hb (zdc_d hd) hl hi rfl kk) H
  | astore_n f =>
    obtain ⟨hd, hn⟩ := zb2 hok
    obtain ⟨hn, hi⟩ := zb2 hn
    exact zs_sr (of_decide_eq_true hi) (fun hl hi kk => lv_astore_n hx hb (zdc_d hd) (of_decide_eq_true hn) hl hi rfl kk) H
  | astore f =>
    obtain ⟨hd, hn⟩ := zb2 hok
    obtain ⟨hn, hi⟩ := zb2 hn
    have hn := of_decide_eq_true hn
    subst hn
    exact zs_sr (of_decide_eq_true hi) (fun hl hi kk => lv_astore hx hb (zdc_d hd) hl hi rfl kk) H
  | iinc f d =>
    obtain ⟨hd, hn⟩ := zb2 hok
    obtain ⟨hn, hi⟩ := zb2 hn
    have hn := of_decide_eq_true hn
    subst hn
    exact zs_inc hx hb (zdc_d hd) (of_decide_eq_true hi) H
  | iadd => exact zs_i2 (fun x y _ _ => ⟨zwr_in _, zo_add x y⟩) (fun kk => lv_iadd hx hb (zdc_d hok) kk) H
  | isub => exact zs_i2 (fun x y _ _ => ⟨zwr_in _, zo_sub x y⟩) (fun kk => lv_isub hx hb (zdc_d hok) kk) H
  | imul => exact zs_i2 (fun x y _ _ => ⟨zwr_in _, zo_mul x y⟩) (fun kk => lv_imul hx hb (zdc_d hok) kk) H
  | idiv => exact zs_i2n (fun x y h1 h2 => ⟨zwr_in _, zo_div h1 h2⟩) (fun hne kk => lv_idiv hx hb (zdc_d hok) hne kk) H
  | irem => exact zs_i2n (g := fun x y => x - x / y * y) (fun x y h1 h2 => ⟨zwr_in _, zo_rem h1 h2⟩) (fun hne kk => lv_irem hx hb (zdc_d hok) hne kk) H
  | ineg => exact zs_i1 (fun x _ => ⟨zwr_in _, zo_neg x⟩) (fun kk => lv_ineg hx hb (zdc_d hok) kk) H
  | iand => exact zs_i2 (fun x y _ _ => ⟨ztI _, zoI _⟩) (fun kk => lv_iand hx hb (zdc_d hok) kk) H
  | ior => exact zs_i2 (fun x y _ _ => ⟨ztI _, zoI _⟩) (fun kk => lv_ior hx hb (zdc_d hok) kk) H
  | ixor => exact zs_i2 (fun x y _ _ => ⟨ztI _, zoI _⟩) (fun kk => lv_ixor hx hb (zdc_d hok) kk) H
  | ishl => exact zs_i2 (g := fun x y => x <<< (y &&& 31)) (fun x y _ _ => ⟨ztI _, zoI _⟩) (fun kk => lv_ishl hx hb (zdc_d hok) kk) H
  | ishr => exact zs_i2 (g := fun x y => x >>> (y &&& 31)) (fun x y _ _ => ⟨ztI _, zoI _⟩) (fun kk => lv_ishr hx hb (zdc_d hok) kk) H
  | iushr => exact zs_i2 (g := fun x y => (x.toUInt32 >>> (y.toUInt32 &&& Int32.toUInt32 31)).toInt32) (fun x y _ _ => ⟨ztI _, zoI _⟩) (fun kk => lv_iushr hx hb (zdc_d hok) rfl kk) H
  | i2b => exact zs_i1 (g := fun x => x.toInt8.toInt32) (fun x _ => ⟨ztI _, zoI _⟩) (fun kk => lv_i2b hx hb (zdc_d hok) rfl kk) H
  | i2s => exact zs_i1 (g := fun x => x.toInt16.toInt32) (fun x _ => ⟨ztI _, zoI _⟩) (fun kk => lv_i2s hx hb (zdc_d hok) rfl kk) H
  | i2l => exact zs_i2l hx hb (zdc_d hok) H
  | l2i => exact zs_l2i hx hb (zdc_d hok) H
  | ladd => exact zs_l2 (fun x y _ _ => ⟨zwl_in _, zp_add x y⟩) (fun kk => lv_ladd hx hb (zdc_d hok) kk) H
  | lsub => exact zs_l2 (fun x y _ _ => ⟨zwl_in _, zp_sub x y⟩) (fun kk => lv_lsub hx hb (zdc_d hok) kk) H
  | lmul => exact zs_l2 (fun x y _ _ => ⟨zwl_in _, zp_mul x y⟩) (fun kk => lv_lmul hx hb (zdc_d hok) kk) H
  | ldiv => exact zs_l2n (fun x y h1 h2 => ⟨zwl_in _, zp_div h1 h2⟩) (fun hne kk => lv_ldiv hx hb (zdc_d hok) hne kk) H
  | lrem => exact zs_l2n (g := fun x y => x - x / y * y) (fun x y h1 h2 => ⟨zwl_in _, zp_rem h1 h2⟩) (fun hne kk => lv_lrem hx hb (zdc_d hok) hne kk) H
  | lcmp => exact zs_lcmp hx hb (zdc_d hok) H
  | dup => exact zs_dup hx hb (zdc_d hok) H
  | dup2 => exact zs_dup2 hx hb (zdc_d hok) H
  | dup_x1 => exact zs_dupx hx hb (zdc_d hok) H
  | pop => exact zs_pop hx hb (zdc_d hok) H
  | ifCond cn d =>
    obtain ⟨hd, hn⟩ := zb2 hok
    exact zs_c1 hx hb (zdc_d hd) (of_decide_eq_true hn) H
  | if_icmp cn d =>
    obtain ⟨hd, hn⟩ := zb2 hok
    exact zs_c2 hx hb (zdc_d hd) (of_decide_eq_true hn) H
  | goto d =>
    obtain ⟨hd, hn⟩ := zb2 hok
    exact zs_goto hx hb (zdc_d hd) (of_decide_eq_true hn) H
  | tableswitch d lo hi offs =>
    obtain ⟨hd, hn⟩ := zb2 hok
    obtain ⟨hn, h3⟩ := zb2 hn
    obtain ⟨h3, h4⟩ := zb2 h3
    obtain ⟨n, hd⟩ := zdw_d hd
    exact zs_tsw hx hb hd (of_decide_eq_true hn) (of_decide_eq_true h3) h4 H
  | lookupswitch d ps =>
    obtain ⟨hd, hn⟩ := zb2 hok
    obtain ⟨hn, h3⟩ := zb2 hn
    obtain ⟨h3, h4⟩ := zb2 h3
    obtain ⟨n, hd⟩ := zdw_d hd
    exact zs_lsw hx hb hd (of_decide_eq_true hn) h3 h4 H
  | getfield i =>
    obtain ⟨hd, hn⟩ := zb2 hok
    obtain ⟨hn, h3⟩ := zb2 hn
    obtain ⟨h3, h4⟩ := zb2 h3
    exact zs_gf hx hb hts hown hK (zdc_d hd) (zct hn) (of_decide_eq_true h3) (of_decide_eq_true h4) H
  | putfield i =>
    obtain ⟨hd, hn⟩ := zb2 hok
    obtain ⟨hn, h3⟩ := zb2 hn
    obtain ⟨h3, h4⟩ := zb2 h3
    obtain ⟨h4, h5⟩ := zb2 h4
    refine zs_pf hx hb hts hown hK hnm (zdc_d hd) (zct hn) (of_decide_eq_true h3) (of_decide_eq_true h4) ?_ H
    rcases Bool.or_eq_true_iff.mp h5 with q | q
    · exact Or.inl (by simpa using q)
    · obtain ⟨q1, q2⟩ := zb2 q
      exact Or.inr ⟨of_decide_eq_true q1, of_decide_eq_true q2⟩
  | iaload =>
    cases a with
    | zero => exact zs_ild hx hb hK (Or.inl ⟨rfl, zdc_d hok⟩) H
    | succ a => exact zs_sld hx hb hX hbl hbA (zdc_d hok) H
  | baload => exact zs_ild hx hb hK (Or.inr ⟨rfl, zdc_d hok⟩) H
  | aaload => exact zs_ald hx hb hK (zdc_d hok) H
  | iastore => exact zs_ist hx hb hK (zdc_d hok) H
  | bastore => exact zs_zst hx hb hK (zdc_d hok) H
  | aastore => exact zs_ast hx hb hK hG.2.2.1 (zdc_d hok) H
  | arraylength =>
    cases a with
    | zero => exact zs_len hx hb hK (zdc_d hok) H
    | succ a => exact zs_slen hx hb hX hbl hbA hLL (zdc_d hok) H
  | new i =>
    obtain ⟨hd, hn⟩ := zb2 hok
    obtain ⟨hn, h3⟩ := zb2 hn
    exact zs_new hx hb hts hown hK hA hB (zdc_d hd) (zct hn) (of_decide_eq_true h3) H
  | newarray t =>
    obtain ⟨hd, hn⟩ := zb2 hok
    refine zs_newa hx hb hts hK hA hB (zdc_d hd) ?_ H
    rcases Bool.or_eq_true_iff.mp hn with q | q
    · obtain ⟨q1, q2⟩ := zb2 q
      exact Or.inl ⟨of_decide_eq_true q1, of_decide_eq_true q2⟩
    · obtain ⟨q1, q2⟩ := zb2 q
      exact Or.inr ⟨of_decide_eq_true q1, of_decide_eq_true q2⟩
  | anewarray i =>
    obtain ⟨hd, hn⟩ := zb2 hok
    obtain ⟨hn, h3⟩ := zb2 hn
    exact zs_newq hx hb hts hown hK hG.2.2.2.1 hA hB (zdc_d hd) (zct hn) (of_decide_eq_true h3) H
  | invokestatic i =>
    by_cases ha : a = 1000
    · subst ha
      obtain ⟨hd, hn⟩ := zb2 hok
      exact zs_acp hx hb hml hts hown hK ⟨by omega, by omega⟩ (zdc_d hd) (zct hn) H
    by_cases ha4 : a = 1004
    · subst ha4
      obtain ⟨hd, hn⟩ := zb2 hok
      exact zs_mm (g := fun x y => if x < y then y else x) (fun x y h1 h2 => by unfold zmx; by_cases q : x < y; rw [if_pos q, if_pos ((zo_lt h1 h2).mpr q)]; exact ⟨h2, rfl⟩; rw [if_neg q, if_neg (fun z => q ((zo_lt h1 h2).mp z))]; exact ⟨h1, rfl⟩) (fun {x y H lsA r locs cells slots} hl hz hc hs kk => va_mmax hx hb (hml.trans hl.symm) hown (hts _ (zXM_ok _ (zct hn))) (hts _ zMM_ok.1.1) (hts _ zMM_ok.2.2) (hts _ zMM_ok.1.2) (by omega) (by omega) hc hs (zdc_d hd) kk) H
    by_cases ha5 : a = 1005
    · subst ha5
      obtain ⟨hd, hn⟩ := zb2 hok
      exact zs_mm (g := fun x y => if y < x then y else x) (fun x y h1 h2 => by unfold zmn; by_cases q : y < x; rw [if_pos q, if_pos ((zo_lt h2 h1).mpr q)]; exact ⟨h2, rfl⟩; rw [if_neg q, if_neg (fun z => q ((zo_lt h2 h1).mp z))]; exact ⟨h1, rfl⟩) (fun {x y H lsA r locs cells slots} hl hz hc hs kk => va_mmin hx hb (hml.trans hl.symm) hown (hts _ (zXN_ok _ (zct hn))) (hts _ zMM_ok.2.1.1) (hts _ zMM_ok.2.2) (hts _ zMM_ok.2.1.2) (by omega) (by omega) hc hs (zdc_d hd) kk) H
    · rw [(zm_is (k := k) ha ha4 ha5).1] at H
      rw [(zm_is (C := C) (B := B) (Q := Q) (K := (zPp p l e R s m args below meth c Qf D dA A aC L xs N0 S0 k)) (k := k) (ls := ls) (st := st) (h := h) ha ha4 ha5).2] at hok
      obtain ⟨hd, hn⟩ := zb2 hok
      obtain ⟨h1, h2⟩ := zb2 hn
      exact zs_stat hx hb hml hts hown hA hG hB hC (zdc_d hd) h1 ((Bool.or_eq_true_iff.mp h2).imp zct zct) H
  | invokespecial i =>
    by_cases ha : a = 1003
    · subst ha
      obtain ⟨hd, hn⟩ := zb2 hok
      have hm := zct hn
      change zo_oi (zPp p l e R s m args below meth c Qf D dA A aC L xs N0 S0 k) pc ls st h at H
      unfold zo_oi at H
      split at H
      · rename_i x r
        intro ad Hp lsA locs cells slots hS hL hst
        obtain ⟨h1, hr⟩ := zst_cons hst
        refine W.objInit hx hb hown (hts _ (zOT_ok _ hm)) (hts _ zOI_ok.1) (hts _ zOI_ok.2) (g := F0 m pc lsA (.ref (ad x) :: r.map (zEv ad))) rfl (hL.1.trans hml.symm) rfl (zdc_d hd) (by omega) ?_ (H.2 ad Hp lsA locs cells slots hS hL hr)
        rw [zcs_sum]
        show 2 * 0 + _ + 12 ≤ _
        omega
      · exact H.elim
    · rw [(zm_sp (k := k) ha).1] at H
      rw [(zm_sp (C := C) (B := B) (Q := Q) (K := (zPp p l e R s m args below meth c Qf D dA A aC L xs N0 S0 k)) (k := k) (ls := ls) (st := st) (h := h) ha).2] at hok
      obtain ⟨hd, hn⟩ := zb2 hok
      obtain ⟨h1, h2⟩ := zb2 hn
      refine zs_spec hx hb hml hts hown hA hG hB hC (zdc_d hd) h1 ?_ H
      rcases Bool.or_eq_true_iff.mp h2 with q | q
      · obtain ⟨q1, q2⟩ := zb2 q
        obtain ⟨q2, q3⟩ := zb2 q2
        exact Or.inl ⟨(Bool.or_eq_true_iff.mp q1).imp zct zct, of_decide_eq_true q2, of_decide_eq_true q3⟩
      · obtain ⟨q1, q2⟩ := zb2 q
        exact Or.inr ⟨zct q1, of_decide_eq_true q2⟩
  | invokevirtual i =>
    by_cases ha : a = 1001
    · subst ha
      obtain ⟨hd, hn⟩ := zb2 hok
      exact zs_slenS hx hb hml hts hown hA hG hR (zdc_d hd) (zct hn) H
    · by_cases ha2 : a = 1002
      · subst ha2
        obtain ⟨hd, hn⟩ := zb2 hok
        exact zs_satS hx hb hml hts hown hA hG hR (zdc_d hd) (zct hn) H
      · rw [(zm_vi (k := k) ha ha2).1] at H
        rw [(zm_vi (C := C) (B := B) (Q := Q) (K := (zPp p l e R s m args below meth c Qf D dA A aC L xs N0 S0 k)) (k := k) (ls := ls) (st := st) (h := h) ha ha2).2] at hok
        obtain ⟨hd, hn⟩ := zb2 hok
        exact zs_virt hx hb hml hts hown hA hG hB hC (zdc_d hd) hn H
  | ireturn =>
    obtain ⟨hd, hn⟩ := zb2 hok
    cases a with
    | zero =>
      change zo_ri Q st h at H
      unfold zo_ri at H
      split at H
      · rename_i x
        intro ad Hp lsA locs cells slots hS hL hst
        exact hret ad h Hp lsA locs cells slots pc (some (.inl x)) .ireturn hS H (fun w hw => by cases hw; exact hst _ List.mem_cons_self) (zdc_d hd) (Or.inl ⟨rfl, x, rfl, Or.inl (of_decide_eq_true hn)⟩)
      · exact H.elim
    | succ a =>
      change zo_rz Q st h at H
      unfold zo_rz at H
      split at H
      · rename_i x
        intro ad Hp lsA locs cells slots hS hL hst
        exact hret ad h Hp lsA locs cells slots pc (some (.inl x)) .ireturn hS H.2 (fun w hw => by cases hw; exact hst _ List.mem_cons_self) (zdc_d hd) (Or.inl ⟨rfl, x, rfl, Or.inr ⟨of_decide_eq_true hn, H.1⟩⟩)
      · exact H.elim
  | lreturn =>
    obtain ⟨hd, hn⟩ := zb2 hok
    change zo_rl Q st h at H
    unfold zo_rl at H
    split at H
    · rename_i x
      intro ad Hp lsA locs cells slots hS hL hst
      exact hret ad h Hp lsA locs cells slots pc (some (.inr (.inl x))) .lreturn hS H (fun w hw => by cases hw; exact hst _ List.mem_cons_self) (zdc_d hd) (Or.inr (Or.inl ⟨rfl, ⟨x, rfl⟩, of_decide_eq_true hn⟩))
    · exact H.elim
  | areturn =>
    obtain ⟨hd, hn⟩ := zb2 hok
    change zo_rr Q st h at H
    unfold zo_rr at H
    split at H
    · rename_i x
      intro ad Hp lsA locs cells slots hS hL hst
      refine hret ad h Hp lsA locs cells slots pc (some (.inr (.inr (some x)))) .areturn hS H (fun w hw => by cases hw; exact hst _ List.mem_cons_self) (zdc_d hd) (Or.inr (Or.inr (Or.inl ⟨rfl, ⟨x, rfl⟩, ?_⟩)))
      revert hn
      split
      · rename_i n hn
        exact fun _ => ⟨n, hn⟩
      · exact fun q => by cases q
    · exact H.elim
  | return_ =>
    obtain ⟨hd, hn⟩ := zb2 hok
    change zo_rv Q st h at H
    unfold zo_rv at H
    split at H
    · intro ad Hp lsA locs cells slots hS hL hst
      exact hret ad h Hp lsA locs cells slots pc none .return_ hS H (fun w hw => by cases hw) (zdc_d hd) (Or.inr (Or.inr (Or.inr ⟨rfl, rfl, of_decide_eq_true hn⟩)))
    · exact H.elim
  | _ => exact False.elim H
end
end
section
/-! a method's run is its contract; written out of wip/whole/16.src -/
def zRm (d mc ms : Nat) : Room := { frames := d + 8, cells := mc, slots := ms, locals := 64 * (d + 8) }
theorem zCe_eq {dA : Nat → ClassId} {ad : Nat → Nat} {h h1 : zH} {x : Nat} (e1 : ∀ j, h.2.1 x j = h1.2.1 x j) (e2 : ∀ j, j < (zSh x).2 → h.2.2 x j = h1.2.2 x j) : zCe dA ad h1 x = zCe dA ad h x := by
  have i1 : h1.2.1 x = h.2.1 x := by funext j; exact (e1 j).symm
  unfold zCe
  rw [i1]
  have a1 : (List.range (zSh x).2).map (zFv ad h1 x (zSh x).1) = (List.range (zSh x).2).map (zFv ad h x (zSh x).1) := by
    apply List.map_congr_left
    intro j hj
    unfold zFv
    rw [i1, e2 j (List.mem_range.mp hj)]
  have a2 : (fun j => if j < (zSh x).2 then (h1.2.2 x j).map ad else none) = (fun j => if j < (zSh x).2 then (h.2.2 x j).map ad else none) := by
    funext j
    by_cases q : j < (zSh x).2
    · rw [if_pos q, if_pos q, e2 j q]
    · rw [if_neg q, if_neg q]
  rw [a1, a2]
theorem zWs_eq {dA : Nat → ClassId} {ad : Nat → Nat} {h h1 : zH} (e : zEq h h1) : zWs dA ad h1 = zWs dA ad h := by
  unfold zWs
  rw [← e.1]
  apply List.map_congr_left
  intro x hx
  have hx := List.mem_range.mp hx
  rw [zCe_eq (e.2.1 x (Or.inl hx)) (e.2.2 x hx)]
theorem zVal.eq {h h1 : zH} (e : zEq h h1) (hv : zVal h) : zVal h1 := by
  refine ⟨by rw [← e.1]; exact hv.1, fun x hx j => ?_, fun x hx j hj y hy => ?_⟩
  · rw [← e.1] at hx
    rw [← e.2.1 x (Or.inl hx) j]
    exact hv.2.1 x hx j
  · rw [← e.1] at hx ⊢
    exact hv.2.2 x hx j hj y ((e.2.2 x hx j hj).trans hy)
theorem zGb.congr {D : va_G} {dA : Nat → ClassId} {A : Nat → Prop} {aC aC1 aV : Nat → Nat} {L : Nat} {xs : Nat → Int32} {U : State} {H : Heap} (e : ∀ i, 1000 ≤ i → aC1 i = aC i) (h : zGb D dA A aC aV L xs U H) : zGb D dA A aC1 aV L xs U H := by
  obtain ⟨h1, h2, h3, h4, h5, h6, h7, h8, h9, h10⟩ := h
  have e1 : (fun i => aC1 (1000 + i)) = fun i => aC (1000 + i) := by funext i; exact e _ (by omega)
  have e2 : aC1 2000 = aC 2000 := e _ (by omega)
  exact ⟨h1, h2, h3, h4, fun i hi => by rw [e _ (by omega)]; exact h5 i hi, by rw [e1]; exact h6, by rw [e2]; exact h7, by rw [e2]; exact h8, by rw [e2]; exact h9, h10⟩
/-- the locals at a method's entry -/
theorem zens_args {ad : Nat → Nat} : ∀ (As : List zV) (n o : Nat), ∀ (i : Nat) (v : zV), zgt none (zens n As) i = some v → (o + i, zEv ad v) ∈ lv_args o (As.map (zEv ad)) ∧ v ∈ As
  | [], n, o, i, v, h => by
    have : ∀ (n i : Nat), zgt none (List.replicate n (none : Option zV)) i = none := by
      intro n
      induction n with
      | zero => intro i; rfl
      | succ n ih => intro i; cases i with | zero => rfl | succ i => exact ih i
    rw [show zens n [] = List.replicate n none by cases n with | zero => rfl | succ n => cases n <;> rfl, this] at h
    cases h
  | .inl x :: As, 0, o, i, v, h => by simp [zens, zgt] at h
  | .inl x :: As, n + 1, o, i, v, h => by
    rw [show zens (n + 1) (.inl x :: As) = some (.inl x) :: zens n As by cases n <;> rfl] at h
    cases i with
    | zero => cases h; exact ⟨by simp [lv_args], List.mem_cons_self⟩
    | succ i =>
      obtain ⟨h1, h2⟩ := zens_args As n (o + 1) i v h
      refine ⟨?_, List.mem_cons_of_mem _ h2⟩
      rw [show o + (i + 1) = o + 1 + i by omega]
      simp only [List.map_cons, lv_args, zEv, Value.category]
      exact List.mem_cons_of_mem _ h1
  | .inr (.inr r) :: As, 0, o, i, v, h => by simp [zens, zgt] at h
  | .inr (.inr r) :: As, n + 1, o, i, v, h => by
    rw [show zens (n + 1) (.inr (.inr r) :: As) = some (.inr (.inr r)) :: zens n As by cases n <;> rfl] at h
    have hc : (zEv ad (.inr (.inr r))).category = 1 := zEv_cat1 _ (fun _ q => by cases q)
    cases i with
    | zero => cases h; exact ⟨by simp [lv_args], List.mem_cons_self⟩
    | succ i =>
      obtain ⟨h1, h2⟩ := zens_args As n (o + 1) i v h
      refine ⟨?_, List.mem_cons_of_mem _ h2⟩
      rw [show o + (i + 1) = o + 1 + i by omega]
      simp only [List.map_cons, lv_args, hc]
      exact List.mem_cons_of_mem _ h1
  | .inr (.inl x) :: As, 0, o, i, v, h => by simp [zens, zgt] at h
  | .inr (.inl x) :: As, 1, o, i, v, h => by
    rw [show zens 1 (.inr (.inl x) :: As) = some (.inr (.inl x)) :: zens 0 As from rfl] at h
    cases i with
    | zero => cases h; exact ⟨by simp [lv_args], List.mem_cons_self⟩
    | succ i =>
      have h : zgt none (zens 0 As) i = some v := h
      rcases As with _ | ⟨w, As⟩
      · simp [zens, zgt] at h
      · rcases w with w | w | w <;> simp [zens, zgt] at h
  | .inr (.inl x) :: As, n + 2, o, i, v, h => by
    rw [show zens (n + 2) (.inr (.inl x) :: As) = some (.inr (.inl x)) :: none :: zens n As from rfl] at h
    cases i with
    | zero => cases h; exact ⟨by simp [lv_args], List.mem_cons_self⟩
    | succ i =>
      cases i with
      | zero => cases h
      | succ i =>
        obtain ⟨h1, h2⟩ := zens_args As n (o + 2) i v h
        refine ⟨?_, List.mem_cons_of_mem _ h2⟩
        rw [show o + (i + 1 + 1) = o + 2 + i by omega]
        simp only [List.map_cons, lv_args, zEv, Value.category]
        exact List.mem_cons_of_mem _ h1
theorem zMT2 : (List.range 203).all (fun k => plainName (zY k).cls && (Nat.ble (zL k) 40 && decide ((zY k).cls = zR (zO k)))) = true := by decide +kernel
theorem zMT3 {k : Nat} (h : k < 203) : plainName (zY k).cls = true ∧ zL k ≤ 40 ∧ (zY k).cls = zR (zO k) := by
  have := List.all_eq_true.mp zMT2 k (List.mem_range.mpr h)
  simp only [Bool.and_eq_true, decide_eq_true_eq, Nat.ble_eq] at this
  exact ⟨this.1, this.2.1, this.2.2⟩
theorem zslots {ad : Nat → Nat} : ∀ As : List zV, (lg_sl (As.map (zEv ad))).length = zcs As
  | [] => rfl
  | .inl x :: As => by
    have := zslots (ad := ad) As
    simp [lg_sl, zEv, Value.category, zcs] at this ⊢
    omega
  | .inr (.inl x) :: As => by
    have := zslots (ad := ad) As
    simp [lg_sl, zEv, Value.category, zcs] at this ⊢
    omega
  | .inr (.inr r) :: As => by
    have := zslots (ad := ad) As
    have hc : (zEv ad (.inr (.inr r))).category = 1 := zEv_cat1 _ (fun _ q => by cases q)
    simp [lg_sl, hc, zcs] at this ⊢
    omega
theorem zlo_entry {ad : Nat → Nat} {N y : Nat} {As : List zV} {lsA : Array Slot} (hl : lv_has lsA (zL y) (lv_args 0 (As.map (zEv ad)))) (hAs : ∀ v ∈ As, zVd N v) : zLo ad N (zL y) (zens (zL y) As) lsA := by
  refine ⟨hl.1, hl.2.1, fun i v hv => ?_⟩
  obtain ⟨h1, h2⟩ := zens_args (ad := ad) As (zL y) 0 i v hv
  rw [Nat.zero_add] at h1
  exact ⟨hAs v h2, hl.2.2 (i, zEv ad v) h1⟩
/-- a run at a depth is the method's contract -/
theorem zcl_snd {D : va_G} {dA : Nat → ClassId} {aV : Nat → Nat} {L : Nat} {xs : Nat → Int32} (l : Launch) (hLL : L ≤ 3072) : ∀ (d y mc ms : Nat) (As : List zV) (h : zH) (Q : zQ), zcl d y mc ms As h Q → y < 203 → ∀ (aC ad : Nat → Nat) (sz : Nat), zVal h → (∀ i, 1000 ≤ i → ad i = aC i) → h.1.2.2 = L → (∀ j, j < L → h.2.1 2000 j = (xs j).toInt) → (∀ v ∈ As, zVd h.1.1 v) →
    Met l (zY y) (zW y) (zRm d mc ms) (va_Pc (As.map (zEv ad)) (zPre D dA aC aV L xs sz ad h)) (zPost D dA L xs (va_A (zWs dA ad h) sz) mc ms Q h ad) mc ms (va_A (zWs dA ad h) sz)
  | 0, _, _, _, _, _, _, H => H.elim
  | d + 1, y, mc, ms, As, h, Q, H => by
    intro hy aC ad sz hv hac hLn hscr hAs
    obtain ⟨hsz0, h1, e, H⟩ := H
    refine Met.ofW (cc := zB y) (maxL := zL y) (ret := zTr y) (zMT3 hy).1 rfl ?_
    intro p e' s m args below meth c s₁ B hml hpre
    obtain ⟨rfl, hsz, hP, hD0, hG⟩ := hpre
    have hx := B.exec
    have hb := B.bytes
    have hr := B.returns
    have hts := fun w hw => atoms_spec (ws := zW y) B.pre w (List.mem_cons_of_mem _ hw)
    have hown : s.vm.findClass (zR (zO y)) = some m.cls := by rw [← (zMT3 hy).2.2]; exact findClass_of_methodNamed B.named
    have hlocks := B.notSynchronized
    have hnm : (zY y).name = "<init>" → meth.name = "<init>" := fun q => (name_of_methodNamed B.named B.method).1.trans q
    subst hsz
    have hG2 := hG.congr hac
    have hD := hD0.self (sz := s.heap.size)
    generalize hAe : va_A (zWs dA ad h) s.heap.size = A at hG2 hD ⊢
    have hA : ∀ q : Nat, s.heap.size ≤ q → A q := fun q hq => by rw [← hAe]; exact Or.inr hq
    have hl := lv_entry (As.map (zEv ad)) (n := zL y) (by rw [zslots]; exact hsz0)
    rw [lg_entry_eq]
    generalize (lg_sl (As.map (zEv ad)) ++ List.replicate (zL y - (lg_sl (As.map (zEv ad))).length) Slot.unset).toArray = lsA at hl ⊢
    have key := H (zPp p l e' (zRm (d + 1) mc ms) s m (As.map (zEv ad)).toArray below meth c (MQ below (zPost D dA L xs A mc ms Q h ad) (As.map (zEv ad)).toArray s mc ms A) D dA A ad L xs h.1.1 h.1.2.1 y) (fun pc ls st h2 hs => ?_)
    · have hN : h1.1 = h.1 := e.1.symm
      exact key ad s.heap lsA [] 0 0 ⟨by rw [zWs_eq e]; exact hP, by rw [zWs_eq e]; exact hD, va_S.rf, hv.eq e, fun _ _ => rfl, ⟨by rw [hN]; rfl, by rw [hN]; rfl⟩, ⟨Nat.zero_le _, Nat.zero_le _⟩, by rw [hN]; exact hLn, fun j hj => by rw [← e.2.1 2000 (Or.inr rfl)]; exact hscr j hj⟩ (zlo_entry hl (by rw [hN]; exact hAs)) (fun v hv => by cases hv)
    · refine zstep_snd (C := zcl d) (k := y) (by omega) hx hb hml hts hown hnm hA hG2 ⟨Nat.le_refl _, Nat.le_refl _⟩ ⟨by show 5 ≤ d + 1 + 8; omega, by show 300 ≤ 64 * (d + 1 + 8); omega⟩ hLL ?_ ?_ hs
      · intro y' mc' ms' As' h' Q' HC hy' ad' sz' v1 v2 v3 v4 v5
        exact ⟨zRm d mc' ms', ⟨rfl, rfl⟩, ⟨by show d + 8 + 1 ≤ d + 1 + 8; omega, by have := (zMT3 hy').2.1; show 8 + (zL y' + 11) + 64 * (d + 8) ≤ 64 * (d + 1 + 8); omega⟩, zcl_snd l hLL d y' mc' ms' As' h' Q' HC hy' ad ad' sz' v1 v2 v3 v4 v5⟩
      · intro ad2 h2 H2 lsA2 locs2 cells2 slots2 pc2 v i hS hQ hvd hd hrk
        obtain ⟨hcnt, hQ⟩ := hQ
        have s6 := hS.2.2.2.2.2.1
        have c1 : cells2 = mc := by have := congrArg (fun q => q.1) hcnt; simp only at this; omega
        have c2 : slots2 = ms := by have := congrArg (fun q => q.2.1) hcnt; simp only at this; omega
        subst c1
        subst c2
        have hend : ∀ t : State, t.heap = H2 → zPost D dA L xs A cells2 slots2 Q h ad (As.map (zEv ad)).toArray s (.returned (v.map (zEv ad2))) t := fun t ht =>
          ⟨⟨v, h2, ad2, rfl, hQ, hcnt, hvd, by rw [ht]; exact hS.1, hS.2.1, hS.2.2.2.1, fun z hz => hS.2.2.2.2.1 z hz, hS.2.2.2.2.2.2.2.2⟩, hS.2.2.1.F ht⟩
        have hf := hS.2.2.1.2.2
        rcases hrk with ⟨rfl, x, rfl, ht | ⟨ht, hx01⟩⟩ | ⟨rfl, ⟨x, rfl⟩, ht⟩ | ⟨rfl, ⟨x, rfl⟩, n, ht⟩ | ⟨rfl, rfl, ht⟩
        · exact W.iret hx hb (hr.trans ht) (fun t ht _ => hend t ht) hf hd hlocks
        · exact W.zret hx hb (hr.trans ht) (by rcases hx01 with rfl | rfl <;> rfl) (fun t ht _ => hend t ht) hf hd hlocks
        · exact W.lret hx hb (hr.trans ht) (fun t ht _ => hend t ht) hf hd hlocks
        · exact W.aret hx hb (hr.trans ht) (Or.inl ⟨n, rfl⟩) (Or.inr ⟨_, rfl⟩) (fun t ht _ => hend t ht) hf hd hlocks
        · exact W.vret hx hb (hr.trans ht) (fun t ht _ => hend t ht) hf hd hlocks
end
section
/-! THE CLAIM OUT OF ONE WALK OF THE LAW'S BODY. Your part is whole_start (and what it stands on); all else here is the same for every law, but numbers. -/
def R_law : String := "FerriedInWordsLaw"
def lw_P (b : Addr) (xs : List Int32) (args : Array Value) (s : State) : Prop := args = #[.ref b] ∧ s.IntsAt b xs ∧ xs.length ≤ 3072 ∧ (Jvm.Cond.and given_1 narrow_1).before args s = true
def lw_Q (_ : Array Value) (s : State) (o : Outcome) (t : State) : Prop := o = .returned (some (.int 1)) ∧ Framed s o t [] 600000 7302250
def lw_Z (below : List Frame) (a : Array Value) (s : State) : State → Prop := fun t => ∃ o, t.status = .running ∧ Ended t below o ∧ lw_Q a s o t
/-- the law's own end, with 1 on the stack, nothing written that was there before, its room as the claim has it -/
theorem lw_ret {p : Program} {l : Launch} {e : Env} {s : State} {m : MethodId} {below : List Frame} {meth : Method} {c : Code} {b : Nat} (hx : p.tables.exec = Jvm.exec) (hb : c.code = code) (hr : meth.sig.returnType = ret) (hlocks : meth.locks = false) {pc : Nat} {H : Heap} {ls : Array Slot} (hdg : decode code pc = .ok (.ireturn, 1)) : W p l e room_1 s m #[Value.ref b] below meth c H [] 600000 7302250 (lw_Z below #[Value.ref b] s) (F0 m pc ls [.int 1]) := by
  intro T hT X
  obtain ⟨fs, hret, hrun, hended, hW, hframe⟩ := X.leave (v := some (.int 1)) (hlocks := hlocks) (fun h => by rw [hr] at h; cases h)
  have hmeth' : T.vm.method? m = some meth := X.method'
  refine ⟨T.setFrames fs, ?_, .returned (some (.int 1)), hrun, hended, rfl, ⟨_, rfl⟩, hW, hframe⟩
  jvm_step X.here [X.here.top, hx, hb, hdg, hmeth', hr, ret, narrow_b1]
  (try refine ⟨rfl, ?_⟩); (try refine ⟨rfl, ?_⟩)
  first | (intro acts; rw [hret _ acts rfl rfl rfl]) | rw [hret _ _ rfl rfl rfl]
  exact Steps.refl _
/-- what holds at the law's entry: the machine, the code, the tables' words (any of lw_tbl by 'hts w (by decide +kernel)'), the script of L ints xs at the cell b, what the Statement gives of the start (any of its parts by flat_of_before) -/
def lw_At (p : Program) (s : State) (m : MethodId) (meth : Method) (c : Code) (b L : Nat) (xs : Nat → Int32) : Prop :=
  p.tables.exec = Jvm.exec ∧ c.code = code ∧ meth.sig.returnType = ret ∧ c.maxLocals = 4 ∧ s.vm.findClass R_law = some m.cls ∧ (∀ w ∈ lw_tbl, w.before #[Value.ref b] s = true) ∧ va_X b L xs s s.heap ∧ b < s.heap.size ∧ meth.locks = false ∧ (Jvm.Cond.and given_1 narrow_1).before #[Value.ref b] s = true
-- ===== YOUR PART BEGINS =====
def zTm (i : Nat) : Term := Term.string (zR (zgt (0, 0) zSK i).1) (zgt (0, 0) zSK i).2
def zFl : List Cond := flatC (Jvm.Cond.and given_1 narrow_1)
theorem zfl_1 : (List.range 13).all (fun i => decide (Cond.exactly (zTm i) "java/lang/String" ∈ zFl ∧ Cond.eq (.field (zTm i) "java/lang/String" "coder" "B") (.int 0) ∈ zFl ∧ Cond.arrayOf (.field (zTm i) "java/lang/String" "value" "[B") .byte ∈ zFl ∧ Cond.eq (.length (.field (zTm i) "java/lang/String" "value" "[B")) (.int (Int32.ofNat ((zVS.map List.length).getD i 0))) ∈ zFl)) = true := by decide +kernel
theorem zfl_2 : (List.range 13).all (fun i => (List.range ((zVS.map List.length).getD i 0)).all (fun j => decide (Cond.eq (.elem (.field (zTm i) "java/lang/String" "value" "[B") (.int (Int32.ofNat j))) (.int (((zVS.map (List.map zo)).getD i []).getD j 0)) ∈ zFl))) = true := by decide +kernel
def zPI : List (Nat × Nat × Nat) := [(0, 1, 104), (0, 2, 115), (1, 2, 116), (0, 3, 127), (1, 3, 128), (2, 3, 129), (0, 4, 137), (1, 4, 138), (2, 4, 139), (3, 4, 140), (0, 5, 150), (1, 5, 151), (2, 5, 152), (3, 5, 153), (4, 5, 154), (0, 6, 163), (1, 6, 164), (2, 6, 165), (3, 6, 166), (4, 6, 167), (5, 6, 168), (0, 7, 178), (1, 7, 179), (2, 7, 180), (3, 7, 181), (4, 7, 182), (5, 7, 183), (6, 7, 184), (0, 8, 194), (1, 8, 195), (2, 8, 196), (3, 8, 197), (4, 8, 198), (5, 8, 199), (6, 8, 200), (7, 8, 201), (0, 9, 212), (1, 9, 213), (2, 9, 214), (3, 9, 215), (4, 9, 216), (5, 9, 217), (6, 9, 218), (7, 9, 219), (8, 9, 220), (0, 10, 227), (1, 10, 228), (2, 10, 229), (3, 10, 230), (4, 10, 231), (5, 10, 232), (6, 10, 233), (7, 10, 234), (8, 10, 235), (9, 10, 236), (0, 11, 244), (1, 11, 245), (2, 11, 246), (3, 11, 247), (4, 11, 248), (5, 11, 249), (6, 11, 250), (7, 11, 251), (8, 11, 252), (9, 11, 253), (10, 11, 254), (0, 12, 262), (1, 12, 263), (2, 12, 264), (3, 12, 265), (4, 12, 266), (5, 12, 267), (6, 12, 268), (7, 12, 269), (8, 12, 270), (9, 12, 271), (10, 12, 272), (11, 12, 273)]
theorem zPI_ok : ∀ q ∈ zPI, zFl[q.2.2]? = some (Cond.not (Cond.eq (zTm q.1) (zTm q.2.1))) := by
  unfold zPI
  refine List.forall_mem_cons.mpr ⟨by decide +kernel, ?_⟩
  refine List.forall_mem_cons.mpr ⟨by decide +kernel, ?_⟩
  refine List.forall_mem_cons.mpr ⟨by decide +kernel, ?_⟩
  refine List.forall_mem_cons.mpr ⟨by decide +kernel, ?_⟩
  refine List.forall_mem_cons.mpr ⟨by decide +kernel, ?_⟩
  refine List.forall_mem_cons.mpr ⟨by decide +kernel, ?_⟩
  refine List.forall_mem_cons.mpr ⟨by decide +kernel, ?_⟩
  refine List.forall_mem_cons.mpr ⟨by decide +kernel, ?_⟩
  refine List.forall_mem_cons.mpr ⟨by decide +kernel, ?_⟩
  refine List.forall_mem_cons.mpr ⟨by decide +kernel, ?_⟩
  refine List.forall_mem_cons.mpr ⟨by decide +kernel, ?_⟩
  refine List.forall_mem_cons.mpr ⟨by decide +kernel, ?_⟩
  refine List.forall_mem_cons.mpr ⟨by decide +kernel, ?_⟩
  refine List.forall_mem_cons.mpr ⟨by decide +kernel, ?_⟩
  refine List.forall_mem_cons.mpr ⟨by decide +kernel, ?_⟩
  refine List.forall_mem_cons.mpr ⟨by decide +kernel, ?_⟩
  refine List.forall_mem_cons.mpr ⟨by decide +kernel, ?_⟩
  refine List.forall_mem_cons.mpr ⟨by decide +kernel, ?_⟩
  refine List.forall_mem_cons.mpr ⟨by decide +kernel, ?_⟩
  refine List.forall_mem_cons.mpr ⟨by decide +kernel, ?_⟩
  refine List.forall_mem_cons.mpr ⟨by decide +kernel, ?_⟩
  refine List.forall_mem_cons.mpr ⟨by decide +kernel, ?_⟩
  refine List.forall_mem_cons.mpr ⟨by decide +kernel, ?_⟩
  refine List.forall_mem_cons.mpr ⟨by decide +kernel, ?_⟩
  refine List.forall_mem_cons.mpr ⟨by decide +kernel, ?_⟩
  refine List.forall_mem_cons.mpr ⟨by decide +kernel, ?_⟩
  refine List.forall_mem_cons.mpr ⟨by decide +kernel, ?_⟩
  refine List.forall_mem_cons.mpr ⟨by decide +kernel, ?_⟩
  refine List.forall_mem_cons.mpr ⟨by decide +kernel, ?_⟩
  refine List.forall_mem_cons.mpr ⟨by decide +kernel, ?_⟩
  refine List.forall_mem_cons.mpr ⟨by decide +kernel, ?_⟩
  refine List.forall_mem_cons.mpr ⟨by decide +kernel, ?_⟩
  refine List.forall_mem_cons.mpr ⟨by decide +kernel, ?_⟩
  refine List.forall_mem_cons.mpr ⟨by decide +kernel, ?_⟩
  refine List.forall_mem_cons.mpr ⟨by decide +kernel, ?_⟩
  refine List.forall_mem_cons.mpr ⟨by decide +kernel, ?_⟩
  refine List.forall_mem_cons.mpr ⟨by decide +kernel, ?_⟩
  refine List.forall_mem_cons.mpr ⟨by decide +kernel, ?_⟩
  refine List.forall_mem_cons.mpr ⟨by decide +kernel, ?_⟩
  refine List.forall_mem_cons.mpr ⟨by decide +kernel, ?_⟩
  refine List.forall_mem_cons.mpr ⟨by decide +kernel, ?_⟩
  refine List.forall_mem_cons.mpr ⟨by decide +kernel, ?_⟩
  refine List.forall_mem_cons.mpr ⟨by decide +kernel, ?_⟩
  refine List.forall_mem_cons.mpr ⟨by decide +kernel, ?_⟩
  refine List.forall_mem_cons.mpr ⟨by decide +kernel, ?_⟩
  refine List.forall_mem_cons.mpr ⟨by decide +kernel, ?_⟩
  refine List.forall_mem_cons.mpr ⟨by decide +kernel, ?_⟩
  refine List.forall_mem_cons.mpr ⟨by decide +kernel, ?_⟩
  refine List.forall_mem_cons.mpr ⟨by decide +kernel, ?_⟩
  refine List.forall_mem_cons.mpr ⟨by decide +kernel, ?_⟩
  refine List.forall_mem_cons.mpr ⟨by decide +kernel, ?_⟩
  refine List.forall_mem_cons.mpr ⟨by decide +kernel, ?_⟩
  refine List.forall_mem_cons.mpr ⟨by decide +kernel, ?_⟩
  refine List.forall_mem_cons.mpr ⟨by decide +kernel, ?_⟩
  refine List.forall_mem_cons.mpr ⟨by decide +kernel, ?_⟩
  refine List.forall_mem_cons.mpr ⟨by decide +kernel, ?_⟩
  refine List.forall_mem_cons.mpr ⟨by decide +kernel, ?_⟩
  refine List.forall_mem_cons.mpr ⟨by decide +kernel, ?_⟩
  refine List.forall_mem_cons.mpr ⟨by decide +kernel, ?_⟩
  refine List.forall_mem_cons.mpr ⟨by decide +kernel, ?_⟩
  refine List.forall_mem_cons.mpr ⟨by decide +kernel, ?_⟩
  refine List.forall_mem_cons.mpr ⟨by decide +kernel, ?_⟩
  refine List.forall_mem_cons.mpr ⟨by decide +kernel, ?_⟩
  refine List.forall_mem_cons.mpr ⟨by decide +kernel, ?_⟩
  refine List.forall_mem_cons.mpr ⟨by decide +kernel, ?_⟩
  refine List.forall_mem_cons.mpr ⟨by decide +kernel, ?_⟩
  refine List.forall_mem_cons.mpr ⟨by decide +kernel, ?_⟩
  refine List.forall_mem_cons.mpr ⟨by decide +kernel, ?_⟩
  refine List.forall_mem_cons.mpr ⟨by decide +kernel, ?_⟩
  refine List.forall_mem_cons.mpr ⟨by decide +kernel, ?_⟩
  refine List.forall_mem_cons.mpr ⟨by decide +kernel, ?_⟩
  refine List.forall_mem_cons.mpr ⟨by decide +kernel, ?_⟩
  refine List.forall_mem_cons.mpr ⟨by decide +kernel, ?_⟩
  refine List.forall_mem_cons.mpr ⟨by decide +kernel, ?_⟩
  refine List.forall_mem_cons.mpr ⟨by decide +kernel, ?_⟩
  refine List.forall_mem_cons.mpr ⟨by decide +kernel, ?_⟩
  refine List.forall_mem_cons.mpr ⟨by decide +kernel, ?_⟩
  refine List.forall_mem_cons.mpr ⟨by decide +kernel, ?_⟩
  exact List.forall_mem_nil _
theorem zPI_all : (List.range 13).all (fun i => (List.range 13).all (fun j => decide (i = j) || (zPI.any (fun q => decide (q.1 = i) && decide (q.2.1 = j)) || zPI.any (fun q => decide (q.1 = j) && decide (q.2.1 = i))))) = true := by decide +kernel
theorem zPI_at {i j : Nat} (h : zPI.any (fun q => decide (q.1 = i) && decide (q.2.1 = j)) = true) : Cond.not (Cond.eq (zTm i) (zTm j)) ∈ zFl := by
  obtain ⟨q, hq, he⟩ := List.any_eq_true.mp h
  rw [Bool.and_eq_true, decide_eq_true_eq, decide_eq_true_eq] at he
  have := List.mem_of_getElem? (zPI_ok q hq)
  rw [he.1, he.2] at this
  exact this
theorem zfl_3 {i j : Nat} (hi : i < 13) (hj : j < 13) : i = j ∨ Cond.not (Cond.eq (zTm i) (zTm j)) ∈ zFl ∨ Cond.not (Cond.eq (zTm j) (zTm i)) ∈ zFl := by
  have := List.all_eq_true.mp (List.all_eq_true.mp zPI_all i (List.mem_range.mpr hi)) j (List.mem_range.mpr hj)
  rw [Bool.or_eq_true, Bool.or_eq_true, decide_eq_true_eq] at this
  exact this.imp id (fun h => h.imp zPI_at zPI_at)
theorem zfl_4 : Cond.eq (.static "java/lang/String" "COMPACT_STRINGS" "Z") (.int 1) ∈ zFl ∧ Cond.isRef (.static "jdk/internal/util/Preconditions" "SIOOBE_FORMATTER" "Ljava/util/function/BiFunction;") ∈ zFl := ⟨by decide +kernel, by decide +kernel⟩
theorem zCTa : (List.range 13).all (fun c => zCT.any (fun q => decide (q.2.2 = c))) = true := by decide +kernel
theorem zinst {c : Nat} (hc : c < 13) : Cond.instantiable (zR c) (zNF c) ∈ zGL := by
  have := List.all_eq_true.mp zCTa c (List.mem_range.mpr hc)
  obtain ⟨q, hq, he⟩ := List.any_eq_true.mp this
  have he := of_decide_eq_true he
  rw [← he]
  exact (zCT_ok q hq).2.1
theorem vk_S_congr {N : Nat} {len : List Nat} {byt : List (List Int32)} {a1 a2 adV : Nat → Nat} {A : Nat → Prop} {U : State} {H : Heap} (h : vk_S N len byt a1 adV A U H) (e : ∀ i, i < N → a2 i = a1 i) : vk_S N len byt a2 adV A U H :=
  ⟨fun i hi => by rw [e i hi]; exact h.1 i hi, fun i j hi hj q => h.2 i j hi hj (by rw [← e i hi, ← e j hj]; exact q)⟩
def zI0 (L : Nat) (xs : Nat → Int32) : Nat → Nat → Int := fun x j => if x = 2000 ∧ j < L then (xs j).toInt else 0
/-- the law's walk out of the logical one -/
theorem zlaw_start {p : Program} {e : Env} {s : State} {m : MethodId} {below : List Frame} {meth : Method} {c : Code} (l : Launch) {b L : Nat} {xs : Nat → Int32} (hL : L ≤ 3072) (C0 : lw_At p s m meth c b L xs)
    (run : zRn (zcl 100) 205 (600000, 7302250) (fun v _ => v = some (.inl 1)) 0 [some (.inr (.inr (some 2000))), none, none, none] [] ((0, 0, L), zI0 L xs, fun _ _ => none)) : W p l e room_1 s m #[Value.ref b] below meth c s.heap [] 0 0 (lw_Z below #[Value.ref b] s) (entryFrame m ([Value.ref b] : List Value).toArray 4) := by
  obtain ⟨hx, hb, hr, hml, hown, hts0, hX, hbl, hlocks, hgv⟩ := id C0
  have hts : ∀ w ∈ zGL, w.before #[Value.ref b] s = true := fun w hw => hts0 w (zgl_tbl w hw)
  have hfl : ∀ w ∈ zFl, w.before #[Value.ref b] s = true := flat_of_before _ hgv
  have hA : ∀ q : Nat, s.heap.size ≤ q → (fun q : Nat => s.heap.size ≤ q) q := fun _ h => h
  have hA2 : ∀ a : Nat, a < s.heap.size → ¬ (fun q : Nat => s.heap.size ≤ q) a := fun _ h => Nat.not_le.mpr h
  have hD0 : ∀ c : Nat, ∃ q : ClassId × (Nat → Nat), c < 13 → u_Kn s (zR c) (zT c) (zNF c) q.1 q.2 := by
    intro c
    by_cases hc : c < 13
    · obtain ⟨cC, iS, h⟩ := u_known (C := zR c) (T := zT c) (N := zNF c) (n := zNF c) hts (zWS_ok c hc) (hts _ (zinst hc))
      exact ⟨(cC, iS), fun _ => h⟩
    · exact ⟨(0, fun _ => 0), fun h => absurd h hc⟩
  obtain ⟨fD, hfD⟩ := Classical.axiomOfChoice hD0
  have hT0 : ∀ t : Nat, ∃ cA : ClassId, t < 6 → ArrOfT s cA (zgt .int zTyL t) ∧ va_RA s cA (zgt .int zTyL t) := by
    intro t
    have prim : ∀ ty : FieldType, (ty = .int ∨ ty = .boolean) → Cond.arrayClass ty ∈ zGL → ∃ cA : ClassId, ArrOfT s cA ty ∧ va_RA s cA ty := by
      intro ty hty hm
      obtain ⟨cA, kA, comp, h1, h2, h3⟩ := Cond.arrayClass_spec (hts _ hm)
      exact ⟨cA, fun n z => ⟨(fun k h => by cases h), kA, h2, comp, h3⟩, by rcases hty with rfl | rfl <;> exact h1⟩
    have obj : ∀ t : Nat, 2 ≤ t → t ≤ 5 → ∃ cA : ClassId, ArrOfT s cA (zgt .int zTyL t) ∧ va_RA s cA (zgt .int zTyL t) := by
      intro t h2 h5
      rw [zTy_ref h2 h5]
      obtain ⟨comp, cA, kA, h1, -, h3, h4, h6⟩ := Cond.arrayOver_spec (hts0 _ (zAO_ok _ (zAc_mem ⟨h2, h5⟩)))
      exact ⟨cA, fun n z => ⟨(fun k h => by cases h), kA, h3, comp, h4⟩, kA, comp, h3, h4, h1, h6⟩
    by_cases ht : t < 6
    · match t, ht with
      | 0, _ => obtain ⟨cA, h⟩ := prim .int (Or.inl rfl) zAI_ok.1; exact ⟨cA, fun _ => h⟩
      | 1, _ => obtain ⟨cA, h⟩ := prim .boolean (Or.inr rfl) zAI_ok.2; exact ⟨cA, fun _ => h⟩
      | t + 2, h => obtain ⟨cA, h⟩ := obj (t + 2) (by omega) (by omega); exact ⟨cA, fun _ => h⟩
    · exact ⟨0, fun h => absurd h ht⟩
  obtain ⟨dA, hdA⟩ := Classical.axiomOfChoice hT0
  have hK : va_K (fun c => (fD c).1, fun c => (fD c).2) vwCl (zTys dA) s := by
    refine ⟨fun c q hq => ?_, fun t q hq => ?_⟩
    · have hc : c < 13 := (List.getElem?_eq_some_iff.mp hq).1
      have e := (zcl_ok c hc).symm.trans hq
      cases e
      exact hfD c hc
    · have ht : t < 6 := by have := (List.getElem?_eq_some_iff.mp hq).1; simpa [zTys] using this
      have e := (zTys_at dA ht).symm.trans hq
      cases e
      exact hdA t ht
  obtain ⟨adK, adV, hvk, hte⟩ := vk_Sof (args := #[Value.ref b]) (s := s) (N := 13) (tm := zTm) (len := zVS.map List.length) (byt := zVS.map (List.map zo)) (A := fun q : Nat => s.heap.size ≤ q)
    (fun i hi => by have := (zvs_len hi).1; have := (zvs_len hi).2; omega)
    (fun i hi => hfl _ (of_decide_eq_true (List.all_eq_true.mp zfl_1 i (List.mem_range.mpr hi))).1)
    (fun i hi => hfl _ (of_decide_eq_true (List.all_eq_true.mp zfl_1 i (List.mem_range.mpr hi))).2.1)
    (fun i hi => hfl _ (of_decide_eq_true (List.all_eq_true.mp zfl_1 i (List.mem_range.mpr hi))).2.2.1)
    (fun i hi => hfl _ (of_decide_eq_true (List.all_eq_true.mp zfl_1 i (List.mem_range.mpr hi))).2.2.2)
    (fun i hi j hj => hfl _ (of_decide_eq_true (List.all_eq_true.mp (List.all_eq_true.mp zfl_2 i (List.mem_range.mpr hi)) j (List.mem_range.mpr hj))))
    (fun i j hi hj hij => by
      rcases zfl_3 hi hj with q | q | q
      · exact absurd q hij
      · exact Or.inl (hfl _ q)
      · exact Or.inr (hfl _ q)) hA2
  have hG : zGb (fun c => (fD c).1, fun c => (fD c).2) dA (fun q : Nat => s.heap.size ≤ q) (fun i => if i = 2000 then b else adK (i - 1000)) adV L xs s s.heap := by
    refine ⟨hK, fun q hq => ?_, fun q hq => va_Nw.of rfl (hts0 _ (zCA_ok q hq)), fun q hq => va_AO.of (hts0 _ (zAO_ok q hq)), fun i hi => ?_, vk_S_congr hvk (fun i hi => ?_), ?_, ?_, ?_, ?_, ?_⟩
    · rcases List.mem_append.mp hq with q1 | q1
      · exact va_Nw.of rfl (hts0 _ (zSN_ok q q1).1)
      · exact va_Nw.of rfl (hts0 _ (zIN_ok q q1).1)
    · refine vk_R.of (hts0 _ (zSR_ok i hi)) ?_
      show _ = some (Value.ref (if 1000 + i = 2000 then b else adK (1000 + i - 1000)))
      rw [if_neg (by omega), Nat.add_sub_cancel_left]
      exact hte i hi
    · show (if 1000 + i = 2000 then b else adK (1000 + i - 1000)) = adK i
      rw [if_neg (by omega), Nat.add_sub_cancel_left]
    · exact hX
    · exact hbl
    · exact hA2 b hbl
    · exact va_Zof (hts0 _ (zt1 232 (by decide +kernel))) (hts _ (zg1 13 (by decide +kernel) (by decide +kernel))) (va_eqi (hfl _ zfl_4.1)) hA2
    · exact va_Zqof (hts0 _ (zt2 8 (by decide +kernel))) (hts _ (zg1 15 (by decide +kernel) (by decide +kernel))) (hfl _ zfl_4.2) hA2
  have hl := lv_entry ([.ref b]) (n := 4) (Nat.le_of_ble_eq_true rfl)
  rw [lg_entry_eq]
  generalize (lg_sl ([.ref b]) ++ List.replicate (4 - (lg_sl ([.ref b])).length) Slot.unset).toArray = ls at hl ⊢
  have hl : lv_has ls 4 [(0, .ref b)] := hl
  have key := run (zPp p l e room_1 s m #[Value.ref b] below meth c (lw_Z below #[Value.ref b] s) (fun c => (fD c).1, fun c => (fD c).2) dA (fun q : Nat => s.heap.size ≤ q) (fun i => if i = 2000 then b else adK (i - 1000)) L xs 0 0 205) (fun pc ls st h2 hs => ?_)
  · refine key (fun i => if i = 2000 then b else adK (i - 1000)) s.heap ls [] 0 0 ⟨fun k q h => by simp [zWs] at h, ⟨fun i j p q h => by simp [zWs] at h, fun k q h => by simp [zWs] at h⟩, va_S.rf, ⟨Nat.zero_le _, fun x hx => absurd hx (Nat.not_lt_zero _), fun x hx => absurd hx (Nat.not_lt_zero _)⟩, fun _ _ => rfl, ⟨rfl, rfl⟩, ⟨Nat.zero_le _, Nat.zero_le _⟩, rfl, fun j hj => if_pos ⟨rfl, hj⟩⟩ ⟨hl.1, hl.2.1, fun i v hv => ?_⟩ (fun v hv => by cases hv)
    match i, hv with
    | 0, hv =>
      cases hv
      exact ⟨fun y hy => by cases hy; exact Or.inr (by omega), hl.2.2 _ List.mem_cons_self⟩
    | 1, hv => cases hv
    | 2, hv => cases hv
    | 3, hv => cases hv
    | i + 4, hv => cases hv
  · refine zstep_snd (C := zcl 100) (k := 205) (by omega) hx hb hml hts hown (fun q => absurd q (by decide)) hA hG ⟨Nat.le_refl _, Nat.le_refl _⟩ ⟨Nat.le_of_ble_eq_true rfl, Nat.le_of_ble_eq_true rfl⟩ hL ?_ ?_ hs
    · intro y' mc' ms' As' h' Q' HC hy' ad' sz' v1 v2 v3 v4 v5
      refine ⟨zRm 100 mc' ms', ⟨rfl, rfl⟩, ⟨Nat.le_of_ble_eq_true rfl, ?_⟩, zcl_snd l hL 100 y' mc' ms' As' h' Q' HC hy' _ ad' sz' v1 v2 v3 v4 v5⟩
      have := (zMT3 hy').2.1
      show 8 + (zL y' + 11) + 64 * (100 + 8) ≤ 84000
      omega
    · intro ad2 h2 H2 lsA2 locs2 cells2 slots2 pc2 v i hS hQ hvd hd hrk
      subst hQ
      have s7 := hS.2.2.2.2.2.2.1
      rcases hrk with ⟨rfl, -⟩ | ⟨-, ⟨x, q⟩, -⟩ | ⟨-, ⟨x, q⟩, -⟩ | ⟨-, q, -⟩
      · exact W.widen s7.1 s7.2 (va_forget hS.2.2.1.2.2 (lw_ret hx hb hr hlocks hd))
      · cases q
      · cases q
      · cases q
end
section
/-! the words of the proof: bits of small numbers, what one keeps and tells, codes and what they are worth, tokens and texts -/
abbrev zI : Type := Nat → Nat → Int
abbrev mR (x : Int) : Prop := 0 ≤ x ∧ x < 1024
theorem m_bv {x : Int} (h0 : 0 ≤ x) (h1 : x < 2147483648) : (zo x).toBitVec.toNat = x.toNat := by
  have e : (zo x).toBitVec = BitVec.ofInt 32 x := Int32.toBitVec_ofInt x
  have q : ((2 ^ 32 : Nat) : Int) = 4294967296 := rfl
  rw [e, BitVec.toNat_ofInt, q, Int.emod_eq_of_lt h0 (by omega)]
theorem m_ti (b : BitVec 32) (h : b.toNat < 2147483648) : b.toInt = (b.toNat : Int) := BitVec.toInt_eq_toNat_of_lt (by omega)
theorem m_and {x y : Int} (hx : mR x) : zand x y = ((x.toNat &&& (zo y).toBitVec.toNat : Nat) : Int) := by
  have h1 := m_bv hx.1 (by omega)
  have h2 : ((zo x).toBitVec &&& (zo y).toBitVec).toNat = x.toNat &&& (zo y).toBitVec.toNat := by rw [BitVec.toNat_and, h1]
  have e : zand x y = ((zo x).toBitVec &&& (zo y).toBitVec).toInt := rfl
  have h3 : x.toNat &&& (zo y).toBitVec.toNat ≤ x.toNat := Nat.and_le_left
  rw [e, m_ti _ (by omega), h2]
theorem m_andR {x y : Int} (hx : mR x) : mR (zand x y) := by
  rw [m_and hx]
  have h3 : x.toNat &&& (zo y).toBitVec.toNat ≤ x.toNat := Nat.and_le_left
  omega
theorem m_andL {x y : Int} (hx : mR x) : zand x y ≤ x := by
  rw [m_and hx]
  have h3 : x.toNat &&& (zo y).toBitVec.toNat ≤ x.toNat := Nat.and_le_left
  omega
theorem m_andC (x y : Int) : zand x y = zand y x := by unfold zand; rw [Int32.and_comm]
theorem m_andR2 {x y : Int} (hy : mR y) : mR (zand x y) := by rw [m_andC]; exact m_andR hy
theorem m_or {x y : Int} (hx : mR x) (hy : mR y) : zor x y = ((x.toNat ||| y.toNat : Nat) : Int) := by
  have h1 := m_bv hx.1 (by omega)
  have h2 := m_bv hy.1 (by omega)
  have h3 : ((zo x).toBitVec ||| (zo y).toBitVec).toNat = x.toNat ||| y.toNat := by rw [BitVec.toNat_or, h1, h2]
  have e : zor x y = ((zo x).toBitVec ||| (zo y).toBitVec).toInt := rfl
  have h4 : x.toNat ||| y.toNat < 2 ^ 10 := Nat.or_lt_two_pow (by omega) (by omega)
  rw [e, m_ti _ (by omega), h3]
theorem m_orR {x y : Int} (hx : mR x) (hy : mR y) : mR (zor x y) := by
  have h4 : x.toNat ||| y.toNat < 2 ^ 10 := Nat.or_lt_two_pow (by omega) (by omega)
  rw [m_or hx hy]
  omega
theorem m_xor {x y : Int} (hx : mR x) (hy : mR y) : zxor x y = ((x.toNat ^^^ y.toNat : Nat) : Int) := by
  have h1 := m_bv hx.1 (by omega)
  have h2 := m_bv hy.1 (by omega)
  have h3 : ((zo x).toBitVec ^^^ (zo y).toBitVec).toNat = x.toNat ^^^ y.toNat := by rw [BitVec.toNat_xor, h1, h2]
  have e : zxor x y = ((zo x).toBitVec ^^^ (zo y).toBitVec).toInt := rfl
  have h4 : x.toNat ^^^ y.toNat < 2 ^ 10 := Nat.xor_lt_two_pow (by omega) (by omega)
  rw [e, m_ti _ (by omega), h3]
theorem m_xorR {x y : Int} (hx : mR x) (hy : mR y) : mR (zxor x y) := by
  have h4 : x.toNat ^^^ y.toNat < 2 ^ 10 := Nat.xor_lt_two_pow (by omega) (by omega)
  rw [m_xor hx hy]
  omega
theorem m_xorC (x y : Int) : zxor x y = zxor y x := by unfold zxor; rw [Int32.xor_comm]
theorem mR0 : mR 0 := by omega
theorem m_or0 {x : Int} (hx : mR x) : zor x 0 = x := by
  rw [m_or hx mR0]
  show ((x.toNat ||| 0 : Nat) : Int) = x
  rw [Nat.or_zero]
  omega
theorem m_and0 (y : Int) : zand 0 y = 0 := by
  rw [m_and mR0]
  show ((0 &&& (zo y).toBitVec.toNat : Nat) : Int) = 0
  rw [Nat.zero_and]
  rfl
def mN : Nat → Nat → Nat
  | 0, _ => 0
  | n + 1, x => x % 2 + mN n (x / 2)
/-- how many bits -/
def mbc (x : Int) : Int := (mN 10 x.toNat : Nat)
theorem mN_le : ∀ n x, mN n x ≤ n
  | 0, _ => Nat.le_refl _
  | n + 1, x => by
    have := mN_le n (x / 2)
    have e : mN (n + 1) x = x % 2 + mN n (x / 2) := rfl
    omega
theorem mbc_r (x : Int) : 0 ≤ mbc x ∧ mbc x ≤ 10 := by
  have := mN_le 10 x.toNat
  unfold mbc
  omega
theorem mbc_0 : mbc 0 = 0 := by decide
theorem m_all {P : Int → Prop} [∀ x, Decidable (P x)] (h : (List.range 1024).all (fun n => decide (P (n : Int))) = true) {x : Int} (hx : mR x) : P x := by
  have := of_decide_eq_true (List.all_eq_true.mp h x.toNat (List.mem_range.mpr (by omega)))
  rwa [Int.toNat_of_nonneg hx.1] at this
theorem m_low {x : Int} (hx : mR x) : x = 0 ∨ (zand x (zwr (x - 1)) < x ∧ mbc (zand x (zwr (x - 1))) = mbc x - 1) := m_all (P := fun x => x = 0 ∨ (zand x (zwr (x - 1)) < x ∧ mbc (zand x (zwr (x - 1))) = mbc x - 1)) (by decide +kernel) hx
theorem m_low2 {x : Int} (hx : mR x) : zand x (zxor (zand x (zwr (-x))) (-1)) = zand x (zwr (x - 1)) := m_all (P := fun x => zand x (zxor (zand x (zwr (-x))) (-1)) = zand x (zwr (x - 1))) (by decide +kernel) hx
theorem m_fin {P : Int → Prop} [∀ x, Decidable (P x)] (n : Nat) (h : (List.range n).all (fun n => decide (P (n : Int))) = true) {x : Int} (h0 : 0 ≤ x) (h1 : x < n) : P x := by
  have := of_decide_eq_true (List.all_eq_true.mp h x.toNat (List.mem_range.mpr (by omega)))
  rwa [Int.toNat_of_nonneg h0] at this
theorem m_shl {x : Int} (h0 : 0 ≤ x) (h1 : x < 10) : mR (zshl 1 x) := m_fin (P := fun x => mR (zshl 1 x)) 10 (by decide +kernel) h0 h1
/-- the first n of its PARTS, beside r -/
def mfst : Nat → Int → Int → Int
  | 0, _, r => r
  | n + 1, a, r => mfst n (zand a (zwr (a - 1))) (zor r (zand a (zwr (-a))))
theorem mfst_R : ∀ (n : Nat) {a r : Int}, mR a → mR r → mR (mfst n a r)
  | 0, _, _, _, hr => hr
  | n + 1, _, _, ha, hr => mfst_R n (m_andR ha) (m_orR hr (m_andR ha))
theorem mfst_0 : ∀ (n : Nat) {r : Int}, mR r → mfst n 0 r = r
  | 0, _, _ => rfl
  | n + 1, r, hr => by
    show mfst n (zand 0 (zwr (0 - 1))) (zor r (zand 0 (zwr (-0)))) = r
    rw [m_and0, m_and0, m_or0 hr]
    exact mfst_0 n hr
def mlow (a : Int) : Int := zand a (zwr (-a))
def mlv (w e : Int) : Int := if e = 0 then 0 else zor e (zand w (zwr (zand e (zwr (-e)) - 1)))
/-- what one of a kind, with number and words, makes of s of a thing -/
def mke (k num w th s : Int) : Int :=
  if k = 1 then zor s (zshl 1 num) else if k = 3 then zxor (zor s (zshl 1 num)) (zshl 1 (zwr (9 - num))) else
  if k = 2 then zor s (zand (zshl s 1) th) else if k = 4 then mlv w (zor s (zand (zshl s 1) th)) else if k = 5 then zand s 31 else s
def mtk (k num w th kp : Int) : Int := mke k num w th (mfst kp.toNat (zand th w) 0)
theorem mtk_R {k num w th kp : Int} (hn : 0 ≤ num ∧ num < 10) (hw : mR w) (ht : mR th) : mR (mtk k num w th kp) := by
  unfold mtk
  generalize hs : mfst kp.toNat (zand th w) 0 = s
  have h : mR s := by rw [← hs]; exact mfst_R _ (m_andR ht) mR0
  have h1 := m_shl hn.1 hn.2
  have h2 : mR (zor s (zand (zshl s 1) th)) := m_orR h (m_andR2 ht)
  have e9 : zwr (9 - num) = 9 - num := zwr_eq (by omega)
  have h3 : mR (zshl 1 (zwr (9 - num))) := by rw [e9]; exact m_shl (by omega) (by omega)
  unfold mke mlv
  split
  · exact m_orR h h1
  · split
    · exact m_xorR (m_orR h h1) h3
    · split
      · exact h2
      · split
        · split
          · exact mR0
          · exact m_orR h2 (m_andR hw)
        · split
          · exact m_andR h
          · exact h
def mcl (v lo hi : Int) : Int := if v < lo then lo else if hi < v then hi else v
def mkp (k v day : Int) : Int :=
  mcl (if k = 1 ∨ k = 3 then v + 1 else if k = 2 then 2 * v else if k = 4 then (if day % 4 = 0 then 10 else 2 * v) else if k = 5 then v / 2 else v) 0 10
-- codes
def mo1 (c a : Int) : Int := if c = -11 then (if a = 0 then 1 else 0) else zwr (-a)
def mo2 (c a b : Int) : Int :=
  if c = -21 then (if a ≠ 0 ∨ b ≠ 0 then 1 else 0) else if c = -22 then (if a ≠ 0 ∧ b ≠ 0 then 1 else 0) else
  if c = -23 then (if a < b then 1 else 0) else if c = -24 then (if a = b then 1 else 0) else
  if c = -25 then zwr (a + b) else if c = -26 then zwr (a - b) else zwr (a * b)
def mst (nm : Int → Int) : Option (List Int) → Int → Option (List Int)
  | none, _ => none
  | some s, c => if -6 ≤ c then some ((if 0 ≤ c then c else nm c) :: s) else match s with
    | [] => none
    | a :: r => if -12 ≤ c then some (mo1 c a :: r) else match r with
      | [] => none
      | b :: r => some (mo2 c b a :: r)
def mrun (nm : Int → Int) (cs : List Int) : Option (List Int) := cs.foldl (mst nm) (some [])
theorem mrun_app (nm : Int → Int) (cs : List Int) (c : Int) : mrun nm (cs ++ [c]) = mst nm (mrun nm cs) c := by
  unfold mrun
  rw [List.foldl_append]
  rfl
/-- a name's value -/
def mnm (w m nu dy th sa c : Int) : Int := if c = -1 then mbc w else if c = -2 then m else if c = -3 then nu else if c = -4 then dy else if c = -5 then mbc th else sa
def mwo (nm : Int → Int) (cs : List Int) : Int := match mrun nm cs with
  | some (v :: _) => mcl v 0 99
  | _ => 0
theorem mwo_r (nm : Int → Int) (cs : List Int) : 0 ≤ mwo nm cs ∧ mwo nm cs ≤ 99 := by
  unfold mwo mcl
  split
  · split
    · omega
    · split <;> omega
  · omega
-- one of PEOPLE (number p) in a world K: K 0 2 there, 3 things, 4 day, 5 come, 6 rule; K 2 the jetty; K (3 + p): kind, number, words, memory, said
def mnk (K : zI) (p : Nat) (th : Int) : Int → Int := mnm (K (3 + p) 2) (K (3 + p) 3) (K (3 + p) 1) (K 0 4) th (K (3 + p) 4)
/-- what part q of THE RULE says -/
def msay (T : Nat → Nat → List Int) (K : zI) (q p : Nat) (th : Int) : Int := mwo (mnk K p th) (T (K 0 6).toNat q)
def mkeep (T : Nat → Nat → List Int) (K : zI) (p : Nat) (th : Int) : Int := mkp (K (3 + p) 0) (msay T K 0 p th) (K 0 4)
def mtell (T : Nat → Nat → List Int) (K : zI) (p : Nat) (th : Int) : Int := mtk (K (3 + p) 0) (K (3 + p) 1) (K (3 + p) 2) th (mkeep T K p th)
def mti (k num said v : Int) : Int := if k = 1 then 0 else if k = 3 then num else if k = 2 then v + 1 else if k = 4 then (v + 1) / 2 else if k = 5 then (if said % 2 = 0 then v else 0) else v
def mtire (T : Nat → Nat → List Int) (K : zI) (p : Nat) (th : Int) : Int := mti (K (3 + p) 0) (K (3 + p) 1) (K (3 + p) 4) (msay T K 1 p th)
def mle (k v th : Int) : Int := if k = 1 ∨ k = 5 then 0 else if v ≠ 0 ∨ ((k = 2 ∨ k = 4) ∧ mbc th = 1) then 1 else 0
def mlearn (T : Nat → Nat → List Int) (K : zI) (p : Nat) (th : Int) : Int := mle (K (3 + p) 0) (msay T K 2 p th) th
/-- told by n of PEOPLE from number p on -/
def mall (T : Nat → Nat → List Int) (K : zI) : Nat → Nat → Int → Int
  | 0, _, x => x
  | n + 1, p, x => mall T K n (p + 1) (mtell T K p x)
/-- PEOPLE of a world as they may be -/
def mok (K : zI) : Prop := (0 ≤ K 0 2 ∧ K 0 2 ≤ 5) ∧ ∀ p : Nat, (p : Int) < K 0 2 → (0 ≤ K (3 + p) 0 ∧ K (3 + p) 0 ≤ 5) ∧ (0 ≤ K (3 + p) 1 ∧ K (3 + p) 1 ≤ 9) ∧ mR (K (3 + p) 2) ∧ (0 ≤ K (3 + p) 3 ∧ K (3 + p) 3 ≤ 99) ∧ (0 ≤ K (3 + p) 4 ∧ K (3 + p) 4 ≤ 99)
theorem mtell_R {T : Nat → Nat → List Int} {K : zI} (hK : mok K) {p : Nat} (hp : (p : Int) < K 0 2) {x : Int} (hx : mR x) : mR (mtell T K p x) := by
  obtain ⟨-, h⟩ := hK
  obtain ⟨-, h1, h2, -⟩ := h p hp
  exact mtk_R ⟨h1.1, by omega⟩ h2 hx
theorem mall_R {T : Nat → Nat → List Int} {K : zI} (hK : mok K) : ∀ (n p : Nat) {x : Int}, ((p + n : Nat) : Int) ≤ K 0 2 → mR x → mR (mall T K n p x)
  | 0, _, _, _, hx => hx
  | n + 1, p, x, hp, hx => mall_R hK n (p + 1) (by omega) (mtell_R hK (by omega) hx)
/-- alike as far as anybody is there -/
def mlk (K K1 : zI) : Prop := (∀ j, 2 ≤ j → j ≤ 6 → K 0 j = K1 0 j) ∧ (∀ j : Nat, (j : Int) < K 0 3 → K 2 j = K1 2 j) ∧ ∀ p : Nat, (p : Int) < K 0 2 → ∀ j, j < 5 → K (3 + p) j = K1 (3 + p) j
theorem mlk.rf (K : zI) : mlk K K := ⟨fun _ _ _ => rfl, fun _ _ => rfl, fun _ _ _ _ => rfl⟩
theorem mlk.sy {K K1 : zI} (h : mlk K K1) : mlk K1 K := ⟨fun j a b => (h.1 j a b).symm, fun j hj => (h.2.1 j (by rw [h.1 3 (by omega) (by omega)]; exact hj)).symm, fun p hp j hj => (h.2.2 p (by rw [h.1 2 (by omega) (by omega)]; exact hp) j hj).symm⟩
theorem mlk.tr {K K1 K2 : zI} (h : mlk K K1) (g : mlk K1 K2) : mlk K K2 := ⟨fun j a b => (h.1 j a b).trans (g.1 j a b), fun j hj => (h.2.1 j hj).trans (g.2.1 j (by rw [← h.1 3 (by omega) (by omega)]; exact hj)), fun p hp j hj => (h.2.2 p hp j hj).trans (g.2.2 p (by rw [← h.1 2 (by omega) (by omega)]; exact hp) j hj)⟩
theorem mok.lk {K K1 : zI} (h : mlk K K1) (hK : mok K) : mok K1 := by
  have e := h.1 2 (by omega) (by omega)
  refine ⟨by rw [← e]; exact hK.1, fun p hp => ?_⟩
  rw [← e] at hp
  have := hK.2 p hp
  rw [← h.2.2 p hp 0 (by omega), ← h.2.2 p hp 1 (by omega), ← h.2.2 p hp 2 (by omega), ← h.2.2 p hp 3 (by omega), ← h.2.2 p hp 4 (by omega)]
  exact this
theorem msay_lk {T T1 : Nat → Nat → List Int} {K K1 : zI} (h : mlk K K1) (hT : ∀ q, T (K 0 6).toNat q = T1 (K 0 6).toNat q) {p : Nat} (hp : (p : Int) < K 0 2) (q : Nat) (x : Int) : msay T K q p x = msay T1 K1 q p x := by
  unfold msay mnk
  rw [← h.2.2 p hp 1 (by omega), ← h.2.2 p hp 2 (by omega), ← h.2.2 p hp 3 (by omega), ← h.2.2 p hp 4 (by omega), ← h.1 4 (by omega) (by omega), ← h.1 6 (by omega) (by omega), hT q]
theorem mkeep_lk {T T1 : Nat → Nat → List Int} {K K1 : zI} (h : mlk K K1) (hT : ∀ q, T (K 0 6).toNat q = T1 (K 0 6).toNat q) {p : Nat} (hp : (p : Int) < K 0 2) (x : Int) : mkeep T K p x = mkeep T1 K1 p x := by
  unfold mkeep
  rw [← h.2.2 p hp 0 (by omega), ← h.1 4 (by omega) (by omega), msay_lk h hT hp]
theorem mtell_lk {T T1 : Nat → Nat → List Int} {K K1 : zI} (h : mlk K K1) (hT : ∀ q, T (K 0 6).toNat q = T1 (K 0 6).toNat q) {p : Nat} (hp : (p : Int) < K 0 2) (x : Int) : mtell T K p x = mtell T1 K1 p x := by
  unfold mtell
  rw [← h.2.2 p hp 0 (by omega), ← h.2.2 p hp 1 (by omega), ← h.2.2 p hp 2 (by omega), mkeep_lk h hT hp]
theorem mtire_lk {T T1 : Nat → Nat → List Int} {K K1 : zI} (h : mlk K K1) (hT : ∀ q, T (K 0 6).toNat q = T1 (K 0 6).toNat q) {p : Nat} (hp : (p : Int) < K 0 2) (x : Int) : mtire T K p x = mtire T1 K1 p x := by
  unfold mtire
  rw [← h.2.2 p hp 0 (by omega), ← h.2.2 p hp 1 (by omega), ← h.2.2 p hp 4 (by omega), msay_lk h hT hp]
theorem mlearn_lk {T T1 : Nat → Nat → List Int} {K K1 : zI} (h : mlk K K1) (hT : ∀ q, T (K 0 6).toNat q = T1 (K 0 6).toNat q) {p : Nat} (hp : (p : Int) < K 0 2) (x : Int) : mlearn T K p x = mlearn T1 K1 p x := by
  unfold mlearn
  rw [← h.2.2 p hp 0 (by omega), msay_lk h hT hp]
theorem mall_lk {T T1 : Nat → Nat → List Int} {K K1 : zI} (h : mlk K K1) (hT : ∀ q, T (K 0 6).toNat q = T1 (K 0 6).toNat q) : ∀ (n p : Nat) (x : Int), ((p + n : Nat) : Int) ≤ K 0 2 → mall T K n p x = mall T1 K1 n p x
  | 0, _, _, _ => rfl
  | n + 1, p, x, hp => by
    show mall T K n (p + 1) (mtell T K p x) = mall T1 K1 n (p + 1) (mtell T1 K1 p x)
    rw [mtell_lk h hT (by omega)]
    exact mall_lk h hT n (p + 1) _ (by omega)
theorem mke_r {v : Int} (k d : Int) (h : 0 ≤ v) : 0 ≤ mkp k v d ∧ mkp k v d ≤ 10 := by
  unfold mkp mcl
  split
  · omega
  · split <;> omega
end
section
/-! tokens and texts, as they are read -/
def msc (p : Int → Bool) (b : Nat → Int) : Nat → Nat → Nat
  | 0, i => i
  | n + 1, i => match p (b i) with
    | true => msc p b n (i + 1)
    | false => i
theorem msc_le (p : Int → Bool) (b : Nat → Int) : ∀ n i, i ≤ msc p b n i ∧ msc p b n i ≤ i + n
  | 0, i => ⟨Nat.le_refl _, Nat.le_refl _⟩
  | n + 1, i => by
    unfold msc
    split
    · have := msc_le p b n (i + 1)
      omega
    · omega
theorem msc_at (p : Int → Bool) (b : Nat → Int) : ∀ n i, msc p b n i < i + n → p (b (msc p b n i)) = false
  | 0, i, h => absurd h (Nat.lt_irrefl _)
  | n + 1, i, h => by
    unfold msc at h ⊢
    split
    · rename_i q
      rw [q] at h
      exact msc_at p b n (i + 1) (by simp only at h; omega)
    · assumption
theorem msc_in (p : Int → Bool) (b : Nat → Int) : ∀ n i j, i ≤ j → j < msc p b n i → p (b j) = true
  | 0, i, j, h, h1 => absurd h1 (by unfold msc; omega)
  | n + 1, i, j, h, h1 => by
    unfold msc at h1
    split at h1
    · rename_i q
      by_cases e : i = j
      · rw [← e]; exact q
      · exact msc_in p b n (i + 1) j (by omega) h1
    · omega
theorem msc_un {p : Int → Bool} {b : Nat → Int} {n i : Nat} (h : p (b i) = true) (hi : i < n) : msc p b (n - i) i = msc p b (n - (i + 1)) (i + 1) := by
  rw [show n - i = (n - (i + 1)) + 1 by omega]
  conv => lhs; unfold msc
  rw [h]
theorem msc_st {p : Int → Bool} {b : Nat → Int} {n i : Nat} (h : p (b i) = false) : msc p b n i = i := by
  cases n with
  | zero => rfl
  | succ n => unfold msc; rw [h]
theorem msc_congr {p : Int → Bool} {b b1 : Nat → Int} : ∀ n i, (∀ j, i ≤ j → j < i + n → b j = b1 j) → msc p b n i = msc p b1 n i
  | 0, _, _ => rfl
  | n + 1, i, h => by
    unfold msc
    rw [h i (Nat.le_refl _) (by omega), msc_congr n (i + 1) (fun j h1 h2 => h j (by omega) (by omega))]
def mbl (c : Int) : Bool := decide (c = 32 ∨ c = 10)
def mlt (c : Int) : Bool := decide (97 ≤ c ∧ c ≤ 122)
def mdg (c : Int) : Bool := decide (48 ≤ c ∧ c ≤ 57)
def msg (c : Int) : Bool := decide (c = 40 ∨ c = 41 ∨ c = 59 ∨ c = 43 ∨ c = 45 ∨ c = 42 ∨ c = 60 ∨ c = 61)
def mwl (b : Nat → Int) (i e : Nat) : List Int := (List.range (e - i)).map (fun j => b (i + j))
/-- a word: what it is, its code -/
def mwd (l : List Int) : Int × Int :=
  if l = [119, 111, 114, 100, 115] then (-4, -1) else if l = [109, 101, 109, 111, 114, 121] then (-4, -2) else if l = [110, 117, 109, 98, 101, 114] then (-4, -3) else
  if l = [100, 97, 121] then (-4, -4) else if l = [112, 97, 114, 116, 115] then (-4, -5) else if l = [115, 97, 105, 100] then (-4, -6) else
  if l = [107, 101, 101, 112, 115] then (-5, 0) else if l = [116, 105, 114, 101, 115] then (-6, 0) else if l = [108, 101, 97, 114, 110, 115] then (-7, 0) else
  if l = [111, 114] then (-8, 0) else if l = [97, 110, 100] then (-9, 0) else if l = [110, 111, 116] then (-10, 0) else (-2, 0)
def mnu (b : Nat → Int) : Nat → Nat → Int → Int
  | 0, _, v => v
  | n + 1, i, v => mnu b n (i + 1) (10 * v + b i - 48)
/-- the token at i, where no blank is: what it is, its code or value, its place, where what is behind it begins -/
def mto (b : Nat → Int) (n i : Nat) : Int × Int × Nat × Nat :=
  if n ≤ i then (-1, 0, n, n)
  else if mlt (b i) = true then ((mwd (mwl b i (msc mlt b (n - i) i))).1, (mwd (mwl b i (msc mlt b (n - i) i))).2, i, msc mlt b (n - i) i)
  else if mdg (b i) = true then (if msc mdg b (n - i) i - i ≤ 4 then (-3, mnu b (msc mdg b (n - i) i - i) i 0, i, msc mdg b (n - i) i) else (-2, 0, i, msc mdg b (n - i) i))
  else if msg (b i) = true then (b i, 0, i, i + 1) else (-2, 0, i, i + 1)
def mlx (b : Nat → Int) (n h : Nat) : Int × Int × Nat × Nat := mto b n (msc mbl b (n - h) h)
/-- where token k is looked for -/
def mhh (b : Nat → Int) (n : Nat) : Nat → Nat
  | 0 => 0
  | k + 1 => (mlx b n (mhh b n k)).2.2.2
def mkd (b : Nat → Int) (n k : Nat) : Int := (mlx b n (mhh b n k)).1
def mvl (b : Nat → Int) (n k : Nat) : Int := (mlx b n (mhh b n k)).2.1
def mpl (b : Nat → Int) (n k : Nat) : Nat := (mlx b n (mhh b n k)).2.2.1
theorem mlx_bl {b : Nat → Int} {n h : Nat} (hb : mbl (b h) = true) (hh : h < n) : mlx b n h = mlx b n (h + 1) := by
  unfold mlx
  rw [msc_un hb hh]
theorem mwd_ne (l : List Int) : (mwd l).1 ≠ -1 := by
  unfold mwd
  repeat' split
  all_goals decide
theorem mto_lt {b : Nat → Int} {n i : Nat} (hi : i < n) : (mto b n i).1 ≠ -1 ∧ i < (mto b n i).2.2.2 ∧ (mto b n i).2.2.2 ≤ n ∧ (mto b n i).2.2.1 = i := by
  unfold mto
  rw [if_neg (by omega)]
  by_cases h1 : mlt (b i) = true
  · rw [if_pos h1]
    have q := msc_le mlt b (n - i) i
    have := msc_un h1 hi
    have q2 := msc_le mlt b (n - (i + 1)) (i + 1)
    refine ⟨mwd_ne _, ?_, ?_, rfl⟩ <;> simp only <;> omega
  · rw [if_neg h1]
    by_cases h2 : mdg (b i) = true
    · rw [if_pos h2]
      have q := msc_le mdg b (n - i) i
      have := msc_un h2 hi
      have q2 := msc_le mdg b (n - (i + 1)) (i + 1)
      split
      · refine ⟨by decide, ?_, ?_, rfl⟩ <;> simp only <;> omega
      · refine ⟨by decide, ?_, ?_, rfl⟩ <;> simp only <;> omega
    · rw [if_neg h2]
      split
      · rename_i h3
        refine ⟨fun e => ?_, ?_, ?_, rfl⟩
        · simp only at e
          rw [e] at h3
          exact absurd h3 (by decide)
        · simp only; omega
        · simp only; omega
      · refine ⟨by decide, ?_, ?_, rfl⟩ <;> simp only <;> omega
theorem mto_ge {b : Nat → Int} {n i : Nat} (hi : n ≤ i) : mto b n i = (-1, 0, n, n) := by
  unfold mto
  rw [if_pos hi]
theorem mlx_n {b : Nat → Int} {n h : Nat} (hh : n ≤ h) : mlx b n h = (-1, 0, n, n) := by
  unfold mlx
  exact mto_ge (by have := msc_le mbl b (n - h) h; omega)
theorem mlx_lt {b : Nat → Int} {n h : Nat} (hh : h ≤ n) (q : (mlx b n h).1 ≠ -1) : h < (mlx b n h).2.2.2 ∧ (mlx b n h).2.2.2 ≤ n ∧ h ≤ (mlx b n h).2.2.1 ∧ (mlx b n h).2.2.1 < n := by
  unfold mlx at q ⊢
  have q1 := msc_le mbl b (n - h) h
  by_cases h1 : msc mbl b (n - h) h < n
  · have := mto_lt (b := b) h1
    omega
  · exact absurd (by rw [mto_ge (by omega)]) q
theorem mlx_nx {b : Nat → Int} {n h : Nat} : (mlx b n h).2.2.2 ≤ n ∧ (mlx b n h).2.2.1 ≤ n := by
  unfold mlx
  by_cases h1 : msc mbl b (n - h) h < n
  · have := mto_lt (b := b) h1
    omega
  · rw [mto_ge (by omega)]
    exact ⟨Nat.le_refl _, Nat.le_refl _⟩
theorem mlx_end {b : Nat → Int} {n h : Nat} (q : (mlx b n h).1 = -1) : mlx b n h = (-1, 0, n, n) := by
  unfold mlx at q ⊢
  by_cases h1 : msc mbl b (n - h) h < n
  · exact absurd q (mto_lt h1).1
  · exact mto_ge (by omega)
theorem mhh_le {b : Nat → Int} {n : Nat} : ∀ k, mhh b n k ≤ n
  | 0 => Nat.zero_le _
  | k + 1 => mlx_nx.1
theorem mkd_st {b : Nat → Int} {n k : Nat} (h : mkd b n k = -1) : mkd b n (k + 1) = -1 := by
  unfold mkd at h ⊢
  have e : mhh b n (k + 1) = n := by
    show (mlx b n (mhh b n k)).2.2.2 = n
    rw [mlx_end h]
  rw [e, mlx_n (Nat.le_refl _)]
theorem mkd_dn {b : Nat → Int} {n : Nat} : ∀ {k j : Nat}, mkd b n k ≠ -1 → j ≤ k → mkd b n j ≠ -1
  | 0, j, h, hj => by obtain rfl : j = 0 := by omega
                      exact h
  | k + 1, j, h, hj => by
    by_cases e : j = k + 1
    · rw [e]; exact h
    · exact mkd_dn (k := k) (fun q => h (mkd_st q)) (by omega)
theorem mhh_k {b : Nat → Int} {n : Nat} : ∀ {k : Nat}, mkd b n k ≠ -1 → k ≤ mhh b n k ∧ mhh b n k < n
  | 0, h => ⟨Nat.zero_le _, by
      have := mlx_lt (b := b) (n := n) (h := mhh b n 0) (Nat.zero_le _) h
      omega⟩
  | k + 1, h => by
    have h1 := mkd_dn (j := k) h (by omega)
    have h2 := mhh_k (k := k) h1
    have h3 := mlx_lt (b := b) (n := n) (h := mhh b n k) (by omega) h1
    have h4 := mlx_lt (b := b) (n := n) (h := mhh b n (k + 1)) (mhh_le _) h
    have e : mhh b n (k + 1) = (mlx b n (mhh b n k)).2.2.2 := rfl
    omega
-- texts: what is read from token k on, codes that stand already; whether it goes, where it ends or fails, all codes then
abbrev mP : Type := Bool × Nat × List Int
abbrev mF : Type := Nat → List Int → mP
def mbind (r : mP) (f : mF) : mP := match r with
  | (true, k, cs) => f k cs
  | (false, k, cs) => (false, k, cs)
def mloop (kd : Nat → Int) (op : Int → Option Int) (sub : mF) : Nat → mF
  | 0 => fun k cs => (true, k, cs)
  | n + 1 => fun k cs => match op (kd k) with
    | none => (true, k, cs)
    | some c => mbind (sub (k + 1) cs) (fun k1 c1 => mloop kd op sub n k1 (c1 ++ [c]))
def mop1 (a c t : Int) : Option Int := if t = a then some c else none
def mop2 (t : Int) : Option Int := if t = 43 then some (-25) else if t = 45 then some (-26) else none
def mterm (kd : Nat → Int) (one : mF) : mF := fun k cs => mbind (one k cs) (mloop kd (mop1 42 (-27)) one 160)
def msum (kd : Nat → Int) (one : mF) : mF := fun k cs => mbind (mterm kd one k cs) (mloop kd mop2 (mterm kd one) 160)
def mcmp (kd : Nat → Int) (one : mF) : mF := fun k cs => mbind (msum kd one k cs) (fun k1 c1 => if kd k1 = 60 ∨ kd k1 = 61 then mbind (msum kd one (k1 + 1) c1) (fun k2 c2 => (true, k2, c2 ++ [if kd k1 = 60 then -23 else -24])) else (true, k1, c1))
def mnot (kd : Nat → Int) (one nt : mF) : mF := fun k cs => if kd k = -10 then mbind (nt (k + 1) cs) (fun k1 c1 => (true, k1, c1 ++ [-11])) else mcmp kd one k cs
def mands (kd : Nat → Int) (nt : mF) : mF := fun k cs => mbind (nt k cs) (mloop kd (mop1 (-9) (-22)) nt 160)
def mors (kd : Nat → Int) (nt : mF) : mF := fun k cs => mbind (mands kd nt k cs) (mloop kd (mop1 (-8) (-21)) (mands kd nt) 160)
def mone (kd vl : Nat → Int) (one nt : mF) : mF := fun k cs =>
  if kd k = -3 ∨ kd k = -4 then (true, k + 1, cs ++ [vl k])
  else if kd k = 45 then mbind (one (k + 1) cs) (fun k1 c1 => (true, k1, c1 ++ [-12]))
  else if kd k = 40 then mbind (mors kd nt (k + 1) cs) (fun k1 c1 => if kd k1 = 41 then (true, k1 + 1, c1) else (false, k1, c1))
  else (false, k, cs)
/-- by how many may be begun still, 1 more: ONE, NOT -/
def mlev (kd vl : Nat → Int) : Nat → mF × mF
  | 0 => (fun k cs => (false, k - 1, cs), fun k cs => (false, k - 1, cs))
  | r + 1 => (mone kd vl (mlev kd vl r).1 (mlev kd vl r).2, mnot kd (mone kd vl (mlev kd vl r).1 (mlev kd vl r).2) (mlev kd vl r).2)
def mE (kd vl : Nat → Int) : mF := mors kd (mlev kd vl 6).2
def mpart (kd vl : Nat → Int) (key : Int) (k : Nat) (cs : List Int) : mP := if kd k = key then mbind (mE kd vl (k + 1) cs) (fun k1 c1 => if kd k1 = 59 then (true, k1 + 1, c1) else (false, k1, c1)) else (false, k, cs)
/-- a text: whether it is one, else where the fault is; the codes of its parts -/
def mtext (kd vl : Nat → Int) : Bool × Nat × List Int × List Int × List Int := match mpart kd vl (-5) 0 [] with
  | (false, k, _) => (false, k, [], [], [])
  | (true, k, c0) => match mpart kd vl (-6) k [] with
    | (false, k, _) => (false, k, [], [], [])
    | (true, k, c1) => match mpart kd vl (-7) k [] with
      | (false, k, _) => (false, k, [], [], [])
      | (true, k, c2) => if kd k = -1 then (true, k, c0, c1, c2) else (false, k, [], [], [])
/-- of what is read: one value more; no more codes than tokens; no token behind the last -/
def mgd (kd : Nat → Int) (nm : Int → Int) (f : mF) : Prop := ∀ k cs k1 c1, f k cs = (true, k1, c1) → (∀ s, mrun nm cs = some s → ∃ v, mrun nm c1 = some (v :: s)) ∧ c1.length + k ≤ cs.length + k1 ∧ k < k1 ∧ ∀ j, k ≤ j → j < k1 → kd j ≠ -1
theorem mbind_t {r : mP} {f : mF} {k1 : Nat} {c1 : List Int} (h : mbind r f = (true, k1, c1)) : ∃ k cs, r = (true, k, cs) ∧ f k cs = (true, k1, c1) := by
  rcases r with ⟨b, k, cs⟩
  cases b with
  | true => exact ⟨k, cs, rfl, h⟩
  | false => exact absurd h (by simp [mbind])
def mop (op : Int → Option Int) : Prop := (∀ t c, op t = some c → c < -12) ∧ op (-1) = none
theorem mop_1 {a c : Int} (h : a ≠ -1) (hc : c < -12) : mop (mop1 a c) := by
  refine ⟨fun t c1 q => ?_, by unfold mop1; rw [if_neg (fun e => h e.symm)]⟩
  unfold mop1 at q
  split at q
  · cases q; exact hc
  · cases q
theorem mop_2 : mop mop2 := by
  refine ⟨fun t c1 q => ?_, rfl⟩
  unfold mop2 at q
  split at q
  · cases q; decide
  · split at q
    · cases q; decide
    · cases q
theorem mst_2 {nm : Int → Int} {s : List Int} {a b c : Int} (hc : c < -12) : mst nm (some (b :: a :: s)) c = some (mo2 c a b :: s) := by
  unfold mst
  rw [if_neg (by omega)]
  simp only
  rw [if_neg (by omega)]
theorem mst_1 {nm : Int → Int} {s : List Int} {a c : Int} (hc : c < -6) (h2 : -12 ≤ c) : mst nm (some (a :: s)) c = some (mo1 c a :: s) := by
  unfold mst
  rw [if_neg (by omega)]
  simp only
  rw [if_pos h2]
theorem mst_0 {nm : Int → Int} {s : List Int} {c : Int} (hc : -6 ≤ c) : mst nm (some s) c = some ((if 0 ≤ c then c else nm c) :: s) := by
  unfold mst
  rw [if_pos hc]
theorem mgd_loop {kd : Nat → Int} {nm : Int → Int} {op : Int → Option Int} {sub : mF} (ho : mop op) (hs : mgd kd nm sub) : ∀ (n : Nat) (k : Nat) (cs : List Int) (k1 : Nat) (c1 : List Int), mloop kd op sub n k cs = (true, k1, c1) → (∀ v s, mrun nm cs = some (v :: s) → ∃ w, mrun nm c1 = some (w :: s)) ∧ c1.length + k ≤ cs.length + k1 ∧ k ≤ k1 ∧ ∀ j, k ≤ j → j < k1 → kd j ≠ -1
  | 0, k, cs, k1, c1, h => by
    cases h
    exact ⟨fun v s q => ⟨v, q⟩, Nat.le_refl _, Nat.le_refl _, fun j h1 h2 => absurd h2 (by omega)⟩
  | n + 1, k, cs, k1, c1, h => by
    unfold mloop at h
    cases hq : op (kd k) with
    | none =>
      rw [hq] at h
      cases h
      exact ⟨fun v s q => ⟨v, q⟩, Nat.le_refl _, Nat.le_refl _, fun j h1 h2 => absurd h2 (by omega)⟩
    | some c =>
      rw [hq] at h
      obtain ⟨k2, c2, e, h⟩ := mbind_t h
      obtain ⟨a1, a2, a3, a4⟩ := hs _ _ _ _ e
      obtain ⟨b1, b2, b3, b4⟩ := mgd_loop ho hs n _ _ _ _ h
      rw [List.length_append] at b2
      simp only [List.length_cons, List.length_nil] at b2
      refine ⟨fun v s q => ?_, by omega, by omega, fun j h1 h2 => ?_⟩
      · obtain ⟨w, hw⟩ := a1 _ q
        exact b1 (mo2 c v w) s (by rw [mrun_app, hw, mst_2 (ho.1 _ _ hq)])
      · by_cases e1 : j = k
        · rw [e1]; intro e2; rw [e2, ho.2] at hq; cases hq
        · by_cases e2 : j < k2
          · exact a4 j (by omega) e2
          · exact b4 j (by omega) h2
theorem mgd_chain {kd : Nat → Int} {nm : Int → Int} {op : Int → Option Int} {sub : mF} (ho : mop op) (hs : mgd kd nm sub) (n : Nat) : mgd kd nm (fun k cs => mbind (sub k cs) (mloop kd op sub n)) := by
  intro k cs k1 c1 h
  obtain ⟨k2, c2, e, h⟩ := mbind_t h
  obtain ⟨a1, a2, a3, a4⟩ := hs _ _ _ _ e
  obtain ⟨b1, b2, b3, b4⟩ := mgd_loop ho hs n _ _ _ _ h
  refine ⟨fun s q => ?_, by omega, by omega, fun j h1 h2 => ?_⟩
  · obtain ⟨w, hw⟩ := a1 _ q
    exact b1 w s hw
  · by_cases e2 : j < k2
    · exact a4 j (by omega) e2
    · exact b4 j (by omega) h2
theorem mgd_term {kd : Nat → Int} {nm : Int → Int} {one : mF} (h : mgd kd nm one) : mgd kd nm (mterm kd one) := mgd_chain (mop_1 (by decide) (by decide)) h 160
theorem mgd_sum {kd : Nat → Int} {nm : Int → Int} {one : mF} (h : mgd kd nm one) : mgd kd nm (msum kd one) := mgd_chain mop_2 (mgd_term h) 160
theorem mgd_ands {kd : Nat → Int} {nm : Int → Int} {nt : mF} (h : mgd kd nm nt) : mgd kd nm (mands kd nt) := mgd_chain (mop_1 (by decide) (by decide)) h 160
theorem mgd_ors {kd : Nat → Int} {nm : Int → Int} {nt : mF} (h : mgd kd nm nt) : mgd kd nm (mors kd nt) := mgd_chain (mop_1 (by decide) (by decide)) (mgd_ands h) 160
theorem mgd_cmp {kd : Nat → Int} {nm : Int → Int} {one : mF} (h : mgd kd nm one) : mgd kd nm (mcmp kd one) := by
  intro k cs k1 c1 q
  obtain ⟨k2, c2, e, q⟩ := mbind_t q
  obtain ⟨a1, a2, a3, a4⟩ := mgd_sum h _ _ _ _ e
  split at q
  · rename_i hk
    obtain ⟨k3, c3, e3, q⟩ := mbind_t q
    obtain ⟨b1, b2, b3, b4⟩ := mgd_sum h _ _ _ _ e3
    cases q
    rw [List.length_append]
    simp only [List.length_cons, List.length_nil]
    refine ⟨fun s hs => ?_, by omega, by omega, fun j h1 h2 => ?_⟩
    · obtain ⟨v, hv⟩ := a1 s hs
      obtain ⟨w, hw⟩ := b1 _ hv
      exact ⟨_, by rw [mrun_app, hw, mst_2 (by split <;> decide)]⟩
    · by_cases e4 : j < k2
      · exact a4 j h1 e4
      · by_cases e5 : j = k2
        · rw [e5]; omega
        · exact b4 j (by omega) h2
  · cases q
    exact ⟨a1, a2, a3, a4⟩
theorem mgd_not {kd : Nat → Int} {nm : Int → Int} {one nt : mF} (h : mgd kd nm one) (h2 : mgd kd nm nt) : mgd kd nm (mnot kd one nt) := by
  intro k cs k1 c1 q
  unfold mnot at q
  split at q
  · rename_i hk
    obtain ⟨k3, c3, e3, q⟩ := mbind_t q
    obtain ⟨b1, b2, b3, b4⟩ := h2 _ _ _ _ e3
    cases q
    rw [List.length_append]
    simp only [List.length_cons, List.length_nil]
    refine ⟨fun s hs => ?_, by omega, by omega, fun j g1 g2 => ?_⟩
    · obtain ⟨w, hw⟩ := b1 _ hs
      exact ⟨_, by rw [mrun_app, hw, mst_1 (by decide) (by decide)]⟩
    · by_cases e5 : j = k
      · rw [e5]; omega
      · exact b4 j (by omega) g2
  · exact mgd_cmp h _ _ _ _ q
theorem mgd_one {kd vl : Nat → Int} {nm : Int → Int} {one nt : mF} (hv : ∀ k, kd k = -3 ∨ kd k = -4 → -6 ≤ vl k) (h : mgd kd nm one) (h2 : mgd kd nm nt) : mgd kd nm (mone kd vl one nt) := by
  intro k cs k1 c1 q
  unfold mone at q
  split at q
  · rename_i hk
    cases q
    rw [List.length_append]
    simp only [List.length_cons, List.length_nil]
    refine ⟨fun s hs => ⟨_, by rw [mrun_app, hs, mst_0 (hv k hk)]⟩, by omega, by omega, fun j g1 g2 => ?_⟩
    obtain rfl : j = k := by omega
    omega
  · split at q
    · rename_i hk
      obtain ⟨k3, c3, e3, q⟩ := mbind_t q
      obtain ⟨b1, b2, b3, b4⟩ := h _ _ _ _ e3
      cases q
      rw [List.length_append]
      simp only [List.length_cons, List.length_nil]
      refine ⟨fun s hs => ?_, by omega, by omega, fun j g1 g2 => ?_⟩
      · obtain ⟨w, hw⟩ := b1 _ hs
        exact ⟨_, by rw [mrun_app, hw, mst_1 (by decide) (by decide)]⟩
      · by_cases e5 : j = k
        · rw [e5]; omega
        · exact b4 j (by omega) g2
    · split at q
      · rename_i hk
        obtain ⟨k3, c3, e3, q⟩ := mbind_t q
        obtain ⟨b1, b2, b3, b4⟩ := mgd_ors h2 _ _ _ _ e3
        split at q
        · rename_i hk3
          cases q
          refine ⟨b1, by omega, by omega, fun j g1 g2 => ?_⟩
          by_cases e5 : j = k
          · rw [e5]; omega
          · by_cases e6 : j = k3
            · rw [e6]; omega
            · exact b4 j (by omega) (by omega)
        · cases q
      · cases q
theorem mgd_lev {kd vl : Nat → Int} {nm : Int → Int} (hv : ∀ k, kd k = -3 ∨ kd k = -4 → -6 ≤ vl k) : ∀ r, mgd kd nm (mlev kd vl r).1 ∧ mgd kd nm (mlev kd vl r).2
  | 0 => ⟨fun _ _ _ _ h => by cases h, fun _ _ _ _ h => by cases h⟩
  | r + 1 => by
    obtain ⟨h1, h2⟩ := mgd_lev hv r
    exact ⟨mgd_one hv h1 h2, mgd_not (mgd_one hv h1 h2) h2⟩
theorem mgd_E {kd vl : Nat → Int} {nm : Int → Int} (hv : ∀ k, kd k = -3 ∨ kd k = -4 → -6 ≤ vl k) : mgd kd nm (mE kd vl) := mgd_ors (mgd_lev hv 6).2
theorem mgd_part {kd vl : Nat → Int} {nm : Int → Int} (hv : ∀ k, kd k = -3 ∨ kd k = -4 → -6 ≤ vl k) {key : Int} (hk : key ≠ -1) : mgd kd nm (mpart kd vl key) := by
  intro k cs k1 c1 q
  unfold mpart at q
  split at q
  · rename_i h1
    obtain ⟨k3, c3, e3, q⟩ := mbind_t q
    obtain ⟨b1, b2, b3, b4⟩ := mgd_E hv _ _ _ _ e3
    split at q
    · rename_i hk3
      cases q
      refine ⟨b1, by omega, by omega, fun j g1 g2 => ?_⟩
      by_cases e5 : j = k
      · rw [e5]; omega
      · by_cases e6 : j = k3
        · rw [e6]; omega
        · exact b4 j (by omega) (by omega)
    · cases q
  · cases q
theorem mtext_t {kd vl : Nat → Int} {k : Nat} {c0 c1 c2 : List Int} (h : mtext kd vl = (true, k, c0, c1, c2)) : ∃ k0 k1, mpart kd vl (-5) 0 [] = (true, k0, c0) ∧ mpart kd vl (-6) k0 [] = (true, k1, c1) ∧ mpart kd vl (-7) k1 [] = (true, k, c2) ∧ kd k = -1 := by
  unfold mtext at h
  split at h
  · cases h
  · rename_i ka ca ea
    split at h
    · cases h
    · rename_i kb cb eb
      split at h
      · cases h
      · rename_i kc cc ec
        split at h
        · rename_i hk
          cases h
          exact ⟨ka, kb, ea, eb, ec, hk⟩
        · cases h
end
