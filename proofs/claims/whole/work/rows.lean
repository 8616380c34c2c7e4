section
-- ===== PART A: goes FIRST, ahead of the names: the tables' words, and 'selects' of the private methods out of them =====
/-- a private method of a class that the tables say can be made, by its rows of tables_1 -/
def lw_okq (q : MethodName × Nat) : Prop := (q.1.cls ≠ "java/lang/invoke/MethodHandle" ∧ q.1.cls ≠ "java/lang/invoke/VarHandle") ∧ Cond.instantiable q.1.cls q.2 ∈ tables_1 ∧ Cond.privateMethod q.1 ∈ tables_1 ∧ Cond.instanceMethod q.1 ∈ tables_1
theorem lw_p0 : lw_okq (⟨"NeighbourBook", "change", "(IIZ)I"⟩, 7) := ⟨⟨by decide +kernel, by decide +kernel⟩, List.mem_of_getElem? (i := 15) (by decide +kernel), List.mem_of_getElem? (i := 194) (by decide +kernel), List.mem_of_getElem? (i := 195) (by decide +kernel)⟩
theorem lw_p1 : lw_okq (⟨"NeighbourBook$Telling", "add", "(II)V"⟩, 3) := ⟨⟨by decide +kernel, by decide +kernel⟩, List.mem_of_getElem? (i := 57) (by decide +kernel), List.mem_of_getElem? (i := 344) (by decide +kernel), List.mem_of_getElem? (i := 345) (by decide +kernel)⟩
theorem lw_p2 : lw_okq (⟨"NeighbourBook$Telling", "tellPlain", "(IJ)V"⟩, 3) := ⟨⟨by decide +kernel, by decide +kernel⟩, List.mem_of_getElem? (i := 57) (by decide +kernel), List.mem_of_getElem? (i := 348) (by decide +kernel), List.mem_of_getElem? (i := 349) (by decide +kernel)⟩
theorem lw_p3 : lw_okq (⟨"NeighbourBook$Telling", "tellSpans", "(IJ)J"⟩, 3) := ⟨⟨by decide +kernel, by decide +kernel⟩, List.mem_of_getElem? (i := 57) (by decide +kernel), List.mem_of_getElem? (i := 357) (by decide +kernel), List.mem_of_getElem? (i := 358) (by decide +kernel)⟩
theorem lw_p4 : lw_okq (⟨"NeighbourBook$Telling", "tellBlocks", "(JJ)V"⟩, 3) := ⟨⟨by decide +kernel, by decide +kernel⟩, List.mem_of_getElem? (i := 57) (by decide +kernel), List.mem_of_getElem? (i := 362) (by decide +kernel), List.mem_of_getElem? (i := 363) (by decide +kernel)⟩
theorem lw_p5 : lw_okq (⟨"NeighbourBook$Telling", "tellDense", "(IJ)V"⟩, 3) := ⟨⟨by decide +kernel, by decide +kernel⟩, List.mem_of_getElem? (i := 57) (by decide +kernel), List.mem_of_getElem? (i := 366) (by decide +kernel), List.mem_of_getElem? (i := 367) (by decide +kernel)⟩
theorem lw_p6 : lw_okq (⟨"NeighbourBook$Book", "choose", "(ILNeighbourBook$Rules;LNeighbourBook$Telling;)V"⟩, 9) := ⟨⟨by decide +kernel, by decide +kernel⟩, List.mem_of_getElem? (i := 73) (by decide +kernel), List.mem_of_getElem? (i := 404) (by decide +kernel), List.mem_of_getElem? (i := 405) (by decide +kernel)⟩
theorem lw_p7 : lw_okq (⟨"NeighbourBook$Book", "decide", "(III)V"⟩, 9) := ⟨⟨by decide +kernel, by decide +kernel⟩, List.mem_of_getElem? (i := 73) (by decide +kernel), List.mem_of_getElem? (i := 417) (by decide +kernel), List.mem_of_getElem? (i := 418) (by decide +kernel)⟩
theorem lw_p8 : lw_okq (⟨"NeighbourBook$Book", "tallyNumbers", "(LNeighbourBook$Telling;)V"⟩, 9) := ⟨⟨by decide +kernel, by decide +kernel⟩, List.mem_of_getElem? (i := 73) (by decide +kernel), List.mem_of_getElem? (i := 430) (by decide +kernel), List.mem_of_getElem? (i := 431) (by decide +kernel)⟩
theorem lw_p9 : lw_okq (⟨"NeighbourBook$Bits", "put", "(I)V"⟩, 3) := ⟨⟨by decide +kernel, by decide +kernel⟩, List.mem_of_getElem? (i := 81) (by decide +kernel), List.mem_of_getElem? (i := 460) (by decide +kernel), List.mem_of_getElem? (i := 461) (by decide +kernel)⟩
theorem lw_p10 : lw_okq (⟨"NeighbourBook$Bits", "putNumber", "(II)V"⟩, 3) := ⟨⟨by decide +kernel, by decide +kernel⟩, List.mem_of_getElem? (i := 81) (by decide +kernel), List.mem_of_getElem? (i := 465) (by decide +kernel), List.mem_of_getElem? (i := 466) (by decide +kernel)⟩
theorem lw_p11 : lw_okq (⟨"NeighbourBook$Bits", "putUnary", "(I)V"⟩, 3) := ⟨⟨by decide +kernel, by decide +kernel⟩, List.mem_of_getElem? (i := 81) (by decide +kernel), List.mem_of_getElem? (i := 469) (by decide +kernel), List.mem_of_getElem? (i := 470) (by decide +kernel)⟩
theorem lw_p12 : lw_okq (⟨"NeighbourBook$Bits", "putDoubled", "(I)V"⟩, 3) := ⟨⟨by decide +kernel, by decide +kernel⟩, List.mem_of_getElem? (i := 81) (by decide +kernel), List.mem_of_getElem? (i := 473) (by decide +kernel), List.mem_of_getElem? (i := 474) (by decide +kernel)⟩
theorem lw_p13 : lw_okq (⟨"NeighbourBook$Bits", "putLowest", "(II)V"⟩, 3) := ⟨⟨by decide +kernel, by decide +kernel⟩, List.mem_of_getElem? (i := 81) (by decide +kernel), List.mem_of_getElem? (i := 478) (by decide +kernel), List.mem_of_getElem? (i := 479) (by decide +kernel)⟩
theorem lw_p14 : lw_okq (⟨"NeighbourBook$Copying", "belowOf", "(II)I"⟩, 4) := ⟨⟨by decide +kernel, by decide +kernel⟩, List.mem_of_getElem? (i := 126) (by decide +kernel), List.mem_of_getElem? (i := 540) (by decide +kernel), List.mem_of_getElem? (i := 541) (by decide +kernel)⟩
theorem lw_p15 : lw_okq (⟨"NeighbourBook$Copying", "findCopy", "(LNeighbourBook$Pairs;ILNeighbourBook$Rules;LNeighbourBook$Telling;)V"⟩, 4) := ⟨⟨by decide +kernel, by decide +kernel⟩, List.mem_of_getElem? (i := 126) (by decide +kernel), List.mem_of_getElem? (i := 545) (by decide +kernel), List.mem_of_getElem? (i := 546) (by decide +kernel)⟩
def lw_privs_1 : List (MethodName × Nat) := [(⟨"NeighbourBook", "change", "(IIZ)I"⟩, 7), (⟨"NeighbourBook$Telling", "add", "(II)V"⟩, 3), (⟨"NeighbourBook$Telling", "tellPlain", "(IJ)V"⟩, 3), (⟨"NeighbourBook$Telling", "tellSpans", "(IJ)J"⟩, 3), (⟨"NeighbourBook$Telling", "tellBlocks", "(JJ)V"⟩, 3), (⟨"NeighbourBook$Telling", "tellDense", "(IJ)V"⟩, 3), (⟨"NeighbourBook$Book", "choose", "(ILNeighbourBook$Rules;LNeighbourBook$Telling;)V"⟩, 9), (⟨"NeighbourBook$Book", "decide", "(III)V"⟩, 9), (⟨"NeighbourBook$Book", "tallyNumbers", "(LNeighbourBook$Telling;)V"⟩, 9), (⟨"NeighbourBook$Bits", "put", "(I)V"⟩, 3), (⟨"NeighbourBook$Bits", "putNumber", "(II)V"⟩, 3), (⟨"NeighbourBook$Bits", "putUnary", "(I)V"⟩, 3), (⟨"NeighbourBook$Bits", "putDoubled", "(I)V"⟩, 3), (⟨"NeighbourBook$Bits", "putLowest", "(II)V"⟩, 3), (⟨"NeighbourBook$Copying", "belowOf", "(II)I"⟩, 4), (⟨"NeighbourBook$Copying", "findCopy", "(LNeighbourBook$Pairs;ILNeighbourBook$Rules;LNeighbourBook$Telling;)V"⟩, 4)]
theorem lw_r1 : ∀ q ∈ lw_privs_1, lw_okq q := List.forall_mem_cons.mpr ⟨lw_p0, List.forall_mem_cons.mpr ⟨lw_p1, List.forall_mem_cons.mpr ⟨lw_p2, List.forall_mem_cons.mpr ⟨lw_p3, List.forall_mem_cons.mpr ⟨lw_p4, List.forall_mem_cons.mpr ⟨lw_p5, List.forall_mem_cons.mpr ⟨lw_p6, List.forall_mem_cons.mpr ⟨lw_p7, List.forall_mem_cons.mpr ⟨lw_p8, List.forall_mem_cons.mpr ⟨lw_p9, List.forall_mem_cons.mpr ⟨lw_p10, List.forall_mem_cons.mpr ⟨lw_p11, List.forall_mem_cons.mpr ⟨lw_p12, List.forall_mem_cons.mpr ⟨lw_p13, List.forall_mem_cons.mpr ⟨lw_p14, List.forall_mem_cons.mpr ⟨lw_p15, fun _ h => absurd h List.not_mem_nil⟩⟩⟩⟩⟩⟩⟩⟩⟩⟩⟩⟩⟩⟩⟩⟩
theorem lw_p16 : lw_okq (⟨"NeighbourBook$Copying", "hang", "(III)V"⟩, 4) := ⟨⟨by decide +kernel, by decide +kernel⟩, List.mem_of_getElem? (i := 126) (by decide +kernel), List.mem_of_getElem? (i := 549) (by decide +kernel), List.mem_of_getElem? (i := 550) (by decide +kernel)⟩
theorem lw_p17 : lw_okq (⟨"NeighbourBook$Orders", "layLayers", "(LNeighbourBook$Pairs;)V"⟩, 2) := ⟨⟨by decide +kernel, by decide +kernel⟩, List.mem_of_getElem? (i := 145) (by decide +kernel), List.mem_of_getElem? (i := 625) (by decide +kernel), List.mem_of_getElem? (i := 626) (by decide +kernel)⟩
theorem lw_p18 : lw_okq (⟨"NeighbourBook$Orders", "layByKeys", "()V"⟩, 2) := ⟨⟨by decide +kernel, by decide +kernel⟩, List.mem_of_getElem? (i := 145) (by decide +kernel), List.mem_of_getElem? (i := 640) (by decide +kernel), List.mem_of_getElem? (i := 641) (by decide +kernel)⟩
theorem lw_p19 : lw_okq (⟨"NeighbourBook$Walks", "findNear", "(LNeighbourBook$Pairs;)V"⟩, 1) := ⟨⟨by decide +kernel, by decide +kernel⟩, List.mem_of_getElem? (i := 158) (by decide +kernel), List.mem_of_getElem? (i := 674) (by decide +kernel), List.mem_of_getElem? (i := 675) (by decide +kernel)⟩
theorem lw_p20 : lw_okq (⟨"NeighbourBook$Walks", "partOf", "(I)J"⟩, 1) := ⟨⟨by decide +kernel, by decide +kernel⟩, List.mem_of_getElem? (i := 158) (by decide +kernel), List.mem_of_getElem? (i := 691) (by decide +kernel), List.mem_of_getElem? (i := 692) (by decide +kernel)⟩
theorem lw_p21 : lw_okq (⟨"NeighbourBookModel", "isThing", "(I)Z"⟩, 35) := ⟨⟨by decide +kernel, by decide +kernel⟩, List.mem_of_getElem? (i := 732) (by decide +kernel), List.mem_of_getElem? (i := 849) (by decide +kernel), List.mem_of_getElem? (i := 850) (by decide +kernel)⟩
theorem lw_p22 : lw_okq (⟨"NeighbourBookModel", "turn", "(IIZ)I"⟩, 35) := ⟨⟨by decide +kernel, by decide +kernel⟩, List.mem_of_getElem? (i := 732) (by decide +kernel), List.mem_of_getElem? (i := 856) (by decide +kernel), List.mem_of_getElem? (i := 857) (by decide +kernel)⟩
theorem lw_p23 : lw_okq (⟨"NeighbourBookModel", "rowSize", "(I)I"⟩, 35) := ⟨⟨by decide +kernel, by decide +kernel⟩, List.mem_of_getElem? (i := 732) (by decide +kernel), List.mem_of_getElem? (i := 876) (by decide +kernel), List.mem_of_getElem? (i := 877) (by decide +kernel)⟩
theorem lw_p24 : lw_okq (⟨"NeighbourBookModel", "isSame", "([ZII)Z"⟩, 35) := ⟨⟨by decide +kernel, by decide +kernel⟩, List.mem_of_getElem? (i := 732) (by decide +kernel), List.mem_of_getElem? (i := 915) (by decide +kernel), List.mem_of_getElem? (i := 916) (by decide +kernel)⟩
theorem lw_p25 : lw_okq (⟨"NeighbourBookModel", "bitsBy", "([ZIII)I"⟩, 35) := ⟨⟨by decide +kernel, by decide +kernel⟩, List.mem_of_getElem? (i := 732) (by decide +kernel), List.mem_of_getElem? (i := 919) (by decide +kernel), List.mem_of_getElem? (i := 920) (by decide +kernel)⟩
theorem lw_p26 : lw_okq (⟨"NeighbourBookModel", "tell", "([ZIII)V"⟩, 35) := ⟨⟨by decide +kernel, by decide +kernel⟩, List.mem_of_getElem? (i := 732) (by decide +kernel), List.mem_of_getElem? (i := 923) (by decide +kernel), List.mem_of_getElem? (i := 924) (by decide +kernel)⟩
theorem lw_p27 : lw_okq (⟨"NeighbourBookModel", "say", "(II)V"⟩, 35) := ⟨⟨by decide +kernel, by decide +kernel⟩, List.mem_of_getElem? (i := 732) (by decide +kernel), List.mem_of_getElem? (i := 927) (by decide +kernel), List.mem_of_getElem? (i := 928) (by decide +kernel)⟩
theorem lw_p28 : lw_okq (⟨"NeighbourBookModel", "take", "([ZII)V"⟩, 35) := ⟨⟨by decide +kernel, by decide +kernel⟩, List.mem_of_getElem? (i := 732) (by decide +kernel), List.mem_of_getElem? (i := 931) (by decide +kernel), List.mem_of_getElem? (i := 932) (by decide +kernel)⟩
theorem lw_p29 : lw_okq (⟨"NeighbourBookModel", "tellPlain", "(I)V"⟩, 35) := ⟨⟨by decide +kernel, by decide +kernel⟩, List.mem_of_getElem? (i := 732) (by decide +kernel), List.mem_of_getElem? (i := 935) (by decide +kernel), List.mem_of_getElem? (i := 936) (by decide +kernel)⟩
theorem lw_p30 : lw_okq (⟨"NeighbourBookModel", "tellSpans", "(I)V"⟩, 35) := ⟨⟨by decide +kernel, by decide +kernel⟩, List.mem_of_getElem? (i := 732) (by decide +kernel), List.mem_of_getElem? (i := 942) (by decide +kernel), List.mem_of_getElem? (i := 943) (by decide +kernel)⟩
theorem lw_p31 : lw_okq (⟨"NeighbourBookModel", "runEnd", "(I)I"⟩, 35) := ⟨⟨by decide +kernel, by decide +kernel⟩, List.mem_of_getElem? (i := 732) (by decide +kernel), List.mem_of_getElem? (i := 946) (by decide +kernel), List.mem_of_getElem? (i := 947) (by decide +kernel)⟩
def lw_privs_2 : List (MethodName × Nat) := [(⟨"NeighbourBook$Copying", "hang", "(III)V"⟩, 4), (⟨"NeighbourBook$Orders", "layLayers", "(LNeighbourBook$Pairs;)V"⟩, 2), (⟨"NeighbourBook$Orders", "layByKeys", "()V"⟩, 2), (⟨"NeighbourBook$Walks", "findNear", "(LNeighbourBook$Pairs;)V"⟩, 1), (⟨"NeighbourBook$Walks", "partOf", "(I)J"⟩, 1), (⟨"NeighbourBookModel", "isThing", "(I)Z"⟩, 35), (⟨"NeighbourBookModel", "turn", "(IIZ)I"⟩, 35), (⟨"NeighbourBookModel", "rowSize", "(I)I"⟩, 35), (⟨"NeighbourBookModel", "isSame", "([ZII)Z"⟩, 35), (⟨"NeighbourBookModel", "bitsBy", "([ZIII)I"⟩, 35), (⟨"NeighbourBookModel", "tell", "([ZIII)V"⟩, 35), (⟨"NeighbourBookModel", "say", "(II)V"⟩, 35), (⟨"NeighbourBookModel", "take", "([ZII)V"⟩, 35), (⟨"NeighbourBookModel", "tellPlain", "(I)V"⟩, 35), (⟨"NeighbourBookModel", "tellSpans", "(I)V"⟩, 35), (⟨"NeighbourBookModel", "runEnd", "(I)I"⟩, 35)]
theorem lw_r2 : ∀ q ∈ lw_privs_2, lw_okq q := List.forall_mem_cons.mpr ⟨lw_p16, List.forall_mem_cons.mpr ⟨lw_p17, List.forall_mem_cons.mpr ⟨lw_p18, List.forall_mem_cons.mpr ⟨lw_p19, List.forall_mem_cons.mpr ⟨lw_p20, List.forall_mem_cons.mpr ⟨lw_p21, List.forall_mem_cons.mpr ⟨lw_p22, List.forall_mem_cons.mpr ⟨lw_p23, List.forall_mem_cons.mpr ⟨lw_p24, List.forall_mem_cons.mpr ⟨lw_p25, List.forall_mem_cons.mpr ⟨lw_p26, List.forall_mem_cons.mpr ⟨lw_p27, List.forall_mem_cons.mpr ⟨lw_p28, List.forall_mem_cons.mpr ⟨lw_p29, List.forall_mem_cons.mpr ⟨lw_p30, List.forall_mem_cons.mpr ⟨lw_p31, fun _ h => absurd h List.not_mem_nil⟩⟩⟩⟩⟩⟩⟩⟩⟩⟩⟩⟩⟩⟩⟩⟩
theorem lw_p32 : lw_okq (⟨"NeighbourBookModel", "tellCopied", "([ZII)V"⟩, 35) := ⟨⟨by decide +kernel, by decide +kernel⟩, List.mem_of_getElem? (i := 732) (by decide +kernel), List.mem_of_getElem? (i := 950) (by decide +kernel), List.mem_of_getElem? (i := 951) (by decide +kernel)⟩
theorem lw_p33 : lw_okq (⟨"NeighbourBookModel", "tellDense", "([ZI)V"⟩, 35) := ⟨⟨by decide +kernel, by decide +kernel⟩, List.mem_of_getElem? (i := 732) (by decide +kernel), List.mem_of_getElem? (i := 954) (by decide +kernel), List.mem_of_getElem? (i := 955) (by decide +kernel)⟩
theorem lw_p34 : lw_okq (⟨"NeighbourBookModel", "numbersBits", "()I"⟩, 35) := ⟨⟨by decide +kernel, by decide +kernel⟩, List.mem_of_getElem? (i := 732) (by decide +kernel), List.mem_of_getElem? (i := 958) (by decide +kernel), List.mem_of_getElem? (i := 959) (by decide +kernel)⟩
theorem lw_p35 : lw_okq (⟨"NeighbourBookModel", "choose", "(I)V"⟩, 35) := ⟨⟨by decide +kernel, by decide +kernel⟩, List.mem_of_getElem? (i := 732) (by decide +kernel), List.mem_of_getElem? (i := 966) (by decide +kernel), List.mem_of_getElem? (i := 967) (by decide +kernel)⟩
theorem lw_p36 : lw_okq (⟨"NeighbourBookModel", "consider", "(IIII)V"⟩, 35) := ⟨⟨by decide +kernel, by decide +kernel⟩, List.mem_of_getElem? (i := 732) (by decide +kernel), List.mem_of_getElem? (i := 970) (by decide +kernel), List.mem_of_getElem? (i := 971) (by decide +kernel)⟩
theorem lw_p37 : lw_okq (⟨"NeighbourBookModel", "writeRow", "(I)V"⟩, 35) := ⟨⟨by decide +kernel, by decide +kernel⟩, List.mem_of_getElem? (i := 732) (by decide +kernel), List.mem_of_getElem? (i := 974) (by decide +kernel), List.mem_of_getElem? (i := 975) (by decide +kernel)⟩
theorem lw_p38 : lw_okq (⟨"NeighbourBookModel", "putBit", "(I)V"⟩, 35) := ⟨⟨by decide +kernel, by decide +kernel⟩, List.mem_of_getElem? (i := 732) (by decide +kernel), List.mem_of_getElem? (i := 978) (by decide +kernel), List.mem_of_getElem? (i := 979) (by decide +kernel)⟩
theorem lw_p39 : lw_okq (⟨"NeighbourBookModel", "putNumber", "(II)V"⟩, 35) := ⟨⟨by decide +kernel, by decide +kernel⟩, List.mem_of_getElem? (i := 732) (by decide +kernel), List.mem_of_getElem? (i := 982) (by decide +kernel), List.mem_of_getElem? (i := 983) (by decide +kernel)⟩
theorem lw_p40 : lw_okq (⟨"NeighbourBookModel", "putUnary", "(I)V"⟩, 35) := ⟨⟨by decide +kernel, by decide +kernel⟩, List.mem_of_getElem? (i := 732) (by decide +kernel), List.mem_of_getElem? (i := 986) (by decide +kernel), List.mem_of_getElem? (i := 987) (by decide +kernel)⟩
theorem lw_p41 : lw_okq (⟨"NeighbourBookModel", "putDoubled", "(I)V"⟩, 35) := ⟨⟨by decide +kernel, by decide +kernel⟩, List.mem_of_getElem? (i := 732) (by decide +kernel), List.mem_of_getElem? (i := 990) (by decide +kernel), List.mem_of_getElem? (i := 991) (by decide +kernel)⟩
theorem lw_p42 : lw_okq (⟨"NeighbourBookModel", "putBits", "(II)V"⟩, 35) := ⟨⟨by decide +kernel, by decide +kernel⟩, List.mem_of_getElem? (i := 732) (by decide +kernel), List.mem_of_getElem? (i := 994) (by decide +kernel), List.mem_of_getElem? (i := 995) (by decide +kernel)⟩
theorem lw_p43 : lw_okq (⟨"NeighbourBookModel", "closeBook", "()V"⟩, 35) := ⟨⟨by decide +kernel, by decide +kernel⟩, List.mem_of_getElem? (i := 732) (by decide +kernel), List.mem_of_getElem? (i := 998) (by decide +kernel), List.mem_of_getElem? (i := 999) (by decide +kernel)⟩
theorem lw_p44 : lw_okq (⟨"NeighbourBookModel", "bitsOfUse", "(II)I"⟩, 35) := ⟨⟨by decide +kernel, by decide +kernel⟩, List.mem_of_getElem? (i := 732) (by decide +kernel), List.mem_of_getElem? (i := 1014) (by decide +kernel), List.mem_of_getElem? (i := 1015) (by decide +kernel)⟩
theorem lw_p45 : lw_okq (⟨"NeighbourBookModel", "weigh", "(I)V"⟩, 35) := ⟨⟨by decide +kernel, by decide +kernel⟩, List.mem_of_getElem? (i := 732) (by decide +kernel), List.mem_of_getElem? (i := 1026) (by decide +kernel), List.mem_of_getElem? (i := 1027) (by decide +kernel)⟩
theorem lw_p46 : lw_okq (⟨"NeighbourBookModel", "bytes", "()I"⟩, 35) := ⟨⟨by decide +kernel, by decide +kernel⟩, List.mem_of_getElem? (i := 732) (by decide +kernel), List.mem_of_getElem? (i := 1044) (by decide +kernel), List.mem_of_getElem? (i := 1045) (by decide +kernel)⟩
theorem lw_p47 : lw_okq (⟨"NeighbourBookModel", "byteAt", "(I)I"⟩, 35) := ⟨⟨by decide +kernel, by decide +kernel⟩, List.mem_of_getElem? (i := 732) (by decide +kernel), List.mem_of_getElem? (i := 1049) (by decide +kernel), List.mem_of_getElem? (i := 1050) (by decide +kernel)⟩
def lw_privs_3 : List (MethodName × Nat) := [(⟨"NeighbourBookModel", "tellCopied", "([ZII)V"⟩, 35), (⟨"NeighbourBookModel", "tellDense", "([ZI)V"⟩, 35), (⟨"NeighbourBookModel", "numbersBits", "()I"⟩, 35), (⟨"NeighbourBookModel", "choose", "(I)V"⟩, 35), (⟨"NeighbourBookModel", "consider", "(IIII)V"⟩, 35), (⟨"NeighbourBookModel", "writeRow", "(I)V"⟩, 35), (⟨"NeighbourBookModel", "putBit", "(I)V"⟩, 35), (⟨"NeighbourBookModel", "putNumber", "(II)V"⟩, 35), (⟨"NeighbourBookModel", "putUnary", "(I)V"⟩, 35), (⟨"NeighbourBookModel", "putDoubled", "(I)V"⟩, 35), (⟨"NeighbourBookModel", "putBits", "(II)V"⟩, 35), (⟨"NeighbourBookModel", "closeBook", "()V"⟩, 35), (⟨"NeighbourBookModel", "bitsOfUse", "(II)I"⟩, 35), (⟨"NeighbourBookModel", "weigh", "(I)V"⟩, 35), (⟨"NeighbourBookModel", "bytes", "()I"⟩, 35), (⟨"NeighbourBookModel", "byteAt", "(I)I"⟩, 35)]
theorem lw_r3 : ∀ q ∈ lw_privs_3, lw_okq q := List.forall_mem_cons.mpr ⟨lw_p32, List.forall_mem_cons.mpr ⟨lw_p33, List.forall_mem_cons.mpr ⟨lw_p34, List.forall_mem_cons.mpr ⟨lw_p35, List.forall_mem_cons.mpr ⟨lw_p36, List.forall_mem_cons.mpr ⟨lw_p37, List.forall_mem_cons.mpr ⟨lw_p38, List.forall_mem_cons.mpr ⟨lw_p39, List.forall_mem_cons.mpr ⟨lw_p40, List.forall_mem_cons.mpr ⟨lw_p41, List.forall_mem_cons.mpr ⟨lw_p42, List.forall_mem_cons.mpr ⟨lw_p43, List.forall_mem_cons.mpr ⟨lw_p44, List.forall_mem_cons.mpr ⟨lw_p45, List.forall_mem_cons.mpr ⟨lw_p46, List.forall_mem_cons.mpr ⟨lw_p47, fun _ h => absurd h List.not_mem_nil⟩⟩⟩⟩⟩⟩⟩⟩⟩⟩⟩⟩⟩⟩⟩⟩
theorem lw_p48 : lw_okq (⟨"NeighbourBookModel", "toOrder", "(I)V"⟩, 35) := ⟨⟨by decide +kernel, by decide +kernel⟩, List.mem_of_getElem? (i := 732) (by decide +kernel), List.mem_of_getElem? (i := 1067) (by decide +kernel), List.mem_of_getElem? (i := 1068) (by decide +kernel)⟩
theorem lw_p49 : lw_okq (⟨"NeighbourBookModel", "orderLayers", "()V"⟩, 35) := ⟨⟨by decide +kernel, by decide +kernel⟩, List.mem_of_getElem? (i := 732) (by decide +kernel), List.mem_of_getElem? (i := 1071) (by decide +kernel), List.mem_of_getElem? (i := 1072) (by decide +kernel)⟩
theorem lw_p50 : lw_okq (⟨"NeighbourBookModel", "orderBy", "(I)V"⟩, 35) := ⟨⟨by decide +kernel, by decide +kernel⟩, List.mem_of_getElem? (i := 732) (by decide +kernel), List.mem_of_getElem? (i := 1075) (by decide +kernel), List.mem_of_getElem? (i := 1076) (by decide +kernel)⟩
theorem lw_p51 : lw_okq (⟨"NeighbourBookModel", "keyOf", "(I)I"⟩, 35) := ⟨⟨by decide +kernel, by decide +kernel⟩, List.mem_of_getElem? (i := 732) (by decide +kernel), List.mem_of_getElem? (i := 1079) (by decide +kernel), List.mem_of_getElem? (i := 1080) (by decide +kernel)⟩
theorem lw_p52 : lw_okq (⟨"NeighbourBookModel", "isJoined", "(II)Z"⟩, 35) := ⟨⟨by decide +kernel, by decide +kernel⟩, List.mem_of_getElem? (i := 732) (by decide +kernel), List.mem_of_getElem? (i := 1093) (by decide +kernel), List.mem_of_getElem? (i := 1094) (by decide +kernel)⟩
theorem lw_p53 : lw_okq (⟨"NeighbourBookModel", "walk", "(IZ)I"⟩, 35) := ⟨⟨by decide +kernel, by decide +kernel⟩, List.mem_of_getElem? (i := 732) (by decide +kernel), List.mem_of_getElem? (i := 1101) (by decide +kernel), List.mem_of_getElem? (i := 1102) (by decide +kernel)⟩
def lw_privs_4 : List (MethodName × Nat) := [(⟨"NeighbourBookModel", "toOrder", "(I)V"⟩, 35), (⟨"NeighbourBookModel", "orderLayers", "()V"⟩, 35), (⟨"NeighbourBookModel", "orderBy", "(I)V"⟩, 35), (⟨"NeighbourBookModel", "keyOf", "(I)I"⟩, 35), (⟨"NeighbourBookModel", "isJoined", "(II)Z"⟩, 35), (⟨"NeighbourBookModel", "walk", "(IZ)I"⟩, 35)]
theorem lw_r4 : ∀ q ∈ lw_privs_4, lw_okq q := List.forall_mem_cons.mpr ⟨lw_p48, List.forall_mem_cons.mpr ⟨lw_p49, List.forall_mem_cons.mpr ⟨lw_p50, List.forall_mem_cons.mpr ⟨lw_p51, List.forall_mem_cons.mpr ⟨lw_p52, List.forall_mem_cons.mpr ⟨lw_p53, fun _ h => absurd h List.not_mem_nil⟩⟩⟩⟩⟩⟩
def lw_privs : List (MethodName × Nat) := lw_privs_1 ++ (lw_privs_2 ++ (lw_privs_3 ++ (lw_privs_4)))
def lw_tbl : List Cond := k2_sels lw_privs ++ tables_1
theorem lw_privs_ok : ∀ q ∈ lw_privs, lw_okq q := by
  show ∀ q ∈ lw_privs_1 ++ (lw_privs_2 ++ (lw_privs_3 ++ (lw_privs_4))), lw_okq q
  exact List.forall_mem_append.mpr ⟨lw_r1, List.forall_mem_append.mpr ⟨lw_r2, List.forall_mem_append.mpr ⟨lw_r3, lw_r4⟩⟩⟩
-- ===== end of PART A; then your names; then what follows =====
end
section
def RX0 : String := "NeighbourBook$Bits"
def TX0 : u_T := fun k => match k with
  | 0 => ("NeighbourBook$Bits", "written", "[I", true)
  | 1 => ("NeighbourBook$Bits", "now", "[I", true)
  | _ => ("NeighbourBook$Bits", "size", "I", false)
def tyX0 : Nat → FieldType := fun k => match k with
  | 0 => .array .int
  | 1 => .array .int
  | _ => .int
theorem nmX0 : ∀ a, a < 3 → ∀ b, b < 3 → a ≠ b → (TX0 a).2.1 ≠ (TX0 b).2.1 := by decide +kernel
theorem tyX0_ok : ∀ k, k < 3 → parseFieldDescriptor (TX0 k).2.2.1 = some (tyX0 k) := by decide +kernel
abbrev cX0_init : ByteArray := prog_2_method_1_code
def yX0_init : MethodName := ⟨RX0, "<init>", "(I)V"⟩
abbrev cX0_size : ByteArray := prog_2_method_2_code
def yX0_size : MethodName := ⟨RX0, "size", "()I"⟩
abbrev cX0_byteCount : ByteArray := prog_2_method_3_code
def yX0_byteCount : MethodName := ⟨RX0, "byteCount", "()I"⟩
abbrev cX0_clear : ByteArray := prog_2_method_4_code
def yX0_clear : MethodName := ⟨RX0, "clear", "()V"⟩
abbrev cX0_write : ByteArray := prog_2_method_5_code
def yX0_write : MethodName := ⟨RX0, "write", "(LNeighbourBook$Telling;LNeighbourBook$Rules;)V"⟩
abbrev cX0_bitNow : ByteArray := prog_2_method_6_code
def yX0_bitNow : MethodName := ⟨RX0, "bitNow", "(I)I"⟩
abbrev cX0_hash : ByteArray := prog_2_method_7_code
def yX0_hash : MethodName := ⟨RX0, "hash", "()J"⟩
abbrev cX0_turn : ByteArray := prog_2_method_8_code
def yX0_turn : MethodName := ⟨RX0, "turn", "(II)I"⟩
abbrev cX0_firstTurned : ByteArray := prog_2_method_9_code
def yX0_firstTurned : MethodName := ⟨RX0, "firstTurned", "()I"⟩
abbrev cX0_bitOf : ByteArray := prog_2_method_10_code
def yX0_bitOf : MethodName := ⟨RX0, "bitOf", "([II)I"⟩
abbrev cX0_putNumber : ByteArray := prog_2_method_11_code
def yX0_putNumber : MethodName := ⟨RX0, "putNumber", "(II)V"⟩
abbrev cX0_putUnary : ByteArray := prog_2_method_12_code
def yX0_putUnary : MethodName := ⟨RX0, "putUnary", "(I)V"⟩
abbrev cX0_putDoubled : ByteArray := prog_2_method_13_code
def yX0_putDoubled : MethodName := ⟨RX0, "putDoubled", "(I)V"⟩
abbrev cX0_putLowest : ByteArray := prog_2_method_14_code
def yX0_putLowest : MethodName := ⟨RX0, "putLowest", "(II)V"⟩
abbrev cX0_put : ByteArray := prog_2_method_15_code
def yX0_put : MethodName := ⟨RX0, "put", "(I)V"⟩
def RX1 : String := "NeighbourBook$Book"
def TX1 : u_T := fun k => match k with
  | 0 => ("NeighbourBook$Book", "packed", "LNeighbourBook$Pairs;", true)
  | 1 => ("NeighbourBook$Book", "bits", "LNeighbourBook$Bits;", true)
  | 2 => ("NeighbourBook$Book", "kinds", "[I", true)
  | 3 => ("NeighbourBook$Book", "distances", "[I", true)
  | 4 => ("NeighbourBook$Book", "depths", "[I", true)
  | 5 => ("NeighbourBook$Book", "starts", "[I", true)
  | 6 => ("NeighbourBook$Book", "tally", "[I", true)
  | 7 => ("NeighbourBook$Book", "there", "Z", false)
  | _ => ("NeighbourBook$Book", "step", "I", false)
def tyX1 : Nat → FieldType := fun k => match k with
  | 0 => .object "NeighbourBook$Pairs"
  | 1 => .object "NeighbourBook$Bits"
  | 2 => .array .int
  | 3 => .array .int
  | 4 => .array .int
  | 5 => .array .int
  | 6 => .array .int
  | 7 => .boolean
  | _ => .int
theorem nmX1 : ∀ a, a < 9 → ∀ b, b < 9 → a ≠ b → (TX1 a).2.1 ≠ (TX1 b).2.1 := by decide +kernel
theorem tyX1_ok : ∀ k, k < 9 → parseFieldDescriptor (TX1 k).2.2.1 = some (tyX1 k) := by decide +kernel
abbrev cX1_init : ByteArray := prog_3_method_1_code
def yX1_init : MethodName := ⟨RX1, "<init>", "(I)V"⟩
abbrev cX1_isThere : ByteArray := prog_3_method_2_code
def yX1_isThere : MethodName := ⟨RX1, "isThere", "()Z"⟩
abbrev cX1_forget : ByteArray := prog_3_method_3_code
def yX1_forget : MethodName := ⟨RX1, "forget", "()V"⟩
abbrev cX1_bits : ByteArray := prog_3_method_4_code
def yX1_bits : MethodName := ⟨RX1, "bits", "()LNeighbourBook$Bits;"⟩
abbrev cX1_kindOf : ByteArray := prog_3_method_5_code
def yX1_kindOf : MethodName := ⟨RX1, "kindOf", "(I)I"⟩
abbrev cX1_distanceOf : ByteArray := prog_3_method_6_code
def yX1_distanceOf : MethodName := ⟨RX1, "distanceOf", "(I)I"⟩
abbrev cX1_depthOf : ByteArray := prog_3_method_7_code
def yX1_depthOf : MethodName := ⟨RX1, "depthOf", "(I)I"⟩
abbrev cX1_startOf : ByteArray := prog_3_method_8_code
def yX1_startOf : MethodName := ⟨RX1, "startOf", "(I)I"⟩
abbrev cX1_isPatch : ByteArray := prog_3_method_9_code
def yX1_isPatch : MethodName := ⟨RX1, "isPatch", "(LNeighbourBook$Pairs;II)Z"⟩
abbrev cX1_patchesTo : ByteArray := prog_3_method_10_code
def yX1_patchesTo : MethodName := ⟨RX1, "patchesTo", "(LNeighbourBook$Pairs;)I"⟩
abbrev cX1_decideAll : ByteArray := prog_3_method_11_code
def yX1_decideAll : MethodName := ⟨RX1, "decideAll", "(LNeighbourBook$Pairs;LNeighbourBook$Rules;LNeighbourBook$Telling;)V"⟩
abbrev cX1_writeAnew : ByteArray := prog_3_method_12_code
def yX1_writeAnew : MethodName := ⟨RX1, "writeAnew", "(LNeighbourBook$Rules;LNeighbourBook$Telling;)I"⟩
abbrev cX1_bitsOfUse : ByteArray := prog_3_method_13_code
def yX1_bitsOfUse : MethodName := ⟨RX1, "bitsOfUse", "(II)I"⟩
abbrev cX1_cheapestForm : ByteArray := prog_3_method_14_code
def yX1_cheapestForm : MethodName := ⟨RX1, "cheapestForm", "(I)I"⟩
abbrev cX1_bitsToRead : ByteArray := prog_3_method_15_code
def yX1_bitsToRead : MethodName := ⟨RX1, "bitsToRead", "(I)I"⟩
abbrev cX1_placeCount : ByteArray := prog_3_method_16_code
def yX1_placeCount : MethodName := ⟨RX1, "placeCount", "()I"⟩
abbrev cX1_placeStart : ByteArray := prog_3_method_17_code
def yX1_placeStart : MethodName := ⟨RX1, "placeStart", "(I)I"⟩
abbrev cX1_firstSpoiled : ByteArray := prog_3_method_18_code
def yX1_firstSpoiled : MethodName := ⟨RX1, "firstSpoiled", "()I"⟩
abbrev cX1_copiedRows : ByteArray := prog_3_method_19_code
def yX1_copiedRows : MethodName := ⟨RX1, "copiedRows", "()I"⟩
abbrev cX1_greatestDepth : ByteArray := prog_3_method_20_code
def yX1_greatestDepth : MethodName := ⟨RX1, "greatestDepth", "()I"⟩
abbrev cX1_choose : ByteArray := prog_3_method_21_code
def yX1_choose : MethodName := ⟨RX1, "choose", "(ILNeighbourBook$Rules;LNeighbourBook$Telling;)V"⟩
abbrev cX1_decide : ByteArray := prog_3_method_22_code
def yX1_decide : MethodName := ⟨RX1, "decide", "(III)V"⟩
abbrev cX1_tallyNumbers : ByteArray := prog_3_method_23_code
def yX1_tallyNumbers : MethodName := ⟨RX1, "tallyNumbers", "(LNeighbourBook$Telling;)V"⟩
def RX2 : String := "NeighbourBook$Copying"
def TX2 : u_T := fun k => match k with
  | 0 => ("NeighbourBook$Copying", "things", "I", true)
  | 1 => ("NeighbourBook$Copying", "below", "[I", true)
  | 2 => ("NeighbourBook$Copying", "copyBits", "I", false)
  | _ => ("NeighbourBook$Copying", "copyDistance", "I", false)
def tyX2 : Nat → FieldType := fun k => match k with
  | 0 => .int
  | 1 => .array .int
  | 2 => .int
  | _ => .int
theorem nmX2 : ∀ a, a < 4 → ∀ b, b < 4 → a ≠ b → (TX2 a).2.1 ≠ (TX2 b).2.1 := by decide +kernel
theorem tyX2_ok : ∀ k, k < 4 → parseFieldDescriptor (TX2 k).2.2.1 = some (tyX2 k) := by decide +kernel
abbrev cX2_init : ByteArray := prog_4_method_1_code
def yX2_init : MethodName := ⟨RX2, "<init>", "(I)V"⟩
abbrev cX2_leastSum : ByteArray := prog_4_method_2_code
def yX2_leastSum : MethodName := ⟨RX2, "leastSum", "(LNeighbourBook$Pairs;LNeighbourBook$Rules;LNeighbourBook$Telling;)I"⟩
abbrev cX2_hang : ByteArray := prog_4_method_3_code
def yX2_hang : MethodName := ⟨RX2, "hang", "(III)V"⟩
abbrev cX2_belowOf : ByteArray := prog_4_method_4_code
def yX2_belowOf : MethodName := ⟨RX2, "belowOf", "(II)I"⟩
abbrev cX2_bitsAlone : ByteArray := prog_4_method_5_code
def yX2_bitsAlone : MethodName := ⟨RX2, "bitsAlone", "(LNeighbourBook$Pairs;ILNeighbourBook$Rules;LNeighbourBook$Telling;)I"⟩
abbrev cX2_findCopy : ByteArray := prog_4_method_6_code
def yX2_findCopy : MethodName := ⟨RX2, "findCopy", "(LNeighbourBook$Pairs;ILNeighbourBook$Rules;LNeighbourBook$Telling;)V"⟩
def RX3 : String := "NeighbourBook$Orders"
def TX3 : u_T := fun k => match k with
  | 0 => ("NeighbourBook$Orders", "line", "[I", true)
  | _ => ("NeighbourBook$Orders", "keys", "[I", true)
def tyX3 : Nat → FieldType := fun k => match k with
  | 0 => .array .int
  | _ => .array .int
theorem nmX3 : ∀ a, a < 2 → ∀ b, b < 2 → a ≠ b → (TX3 a).2.1 ≠ (TX3 b).2.1 := by decide +kernel
theorem tyX3_ok : ∀ k, k < 2 → parseFieldDescriptor (TX3 k).2.2.1 = some (tyX3 k) := by decide +kernel
abbrev cX3_init : ByteArray := prog_5_method_1_code
def yX3_init : MethodName := ⟨RX3, "<init>", "(I)V"⟩
abbrev cX3_thingAtPlace : ByteArray := prog_5_method_2_code
def yX3_thingAtPlace : MethodName := ⟨RX3, "thingAtPlace", "(I)I"⟩
abbrev cX3_arrange : ByteArray := prog_5_method_3_code
def yX3_arrange : MethodName := ⟨RX3, "arrange", "(ILNeighbourBook$Pairs;)V"⟩
abbrev cX3_leastKey : ByteArray := prog_5_method_4_code
def yX3_leastKey : MethodName := ⟨RX3, "leastKey", "(J)I"⟩
abbrev cX3_layByKeys : ByteArray := prog_5_method_5_code
def yX3_layByKeys : MethodName := ⟨RX3, "layByKeys", "()V"⟩
abbrev cX3_layLayers : ByteArray := prog_5_method_6_code
def yX3_layLayers : MethodName := ⟨RX3, "layLayers", "(LNeighbourBook$Pairs;)V"⟩
def RX4 : String := "NeighbourBook$Pairs"
def TX4 : u_T := fun k => match k with
  | 0 => ("NeighbourBook$Pairs", "rows", "[J", true)
  | _ => ("NeighbourBook$Pairs", "renumbered", "[J", true)
def tyX4 : Nat → FieldType := fun k => match k with
  | 0 => .array .long
  | _ => .array .long
theorem nmX4 : ∀ a, a < 2 → ∀ b, b < 2 → a ≠ b → (TX4 a).2.1 ≠ (TX4 b).2.1 := by decide +kernel
theorem tyX4_ok : ∀ k, k < 2 → parseFieldDescriptor (TX4 k).2.2.1 = some (tyX4 k) := by decide +kernel
abbrev cX4_init : ByteArray := prog_6_method_1_code
def yX4_init : MethodName := ⟨RX4, "<init>", "(I)V"⟩
abbrev cX4_things : ByteArray := prog_6_method_2_code
def yX4_things : MethodName := ⟨RX4, "things", "()I"⟩
abbrev cX4_isThing : ByteArray := prog_6_method_3_code
def yX4_isThing : MethodName := ⟨RX4, "isThing", "(I)Z"⟩
abbrev cX4_rowOf : ByteArray := prog_6_method_4_code
def yX4_rowOf : MethodName := ⟨RX4, "rowOf", "(I)J"⟩
abbrev cX4_columnOf : ByteArray := prog_6_method_5_code
def yX4_columnOf : MethodName := ⟨RX4, "columnOf", "(I)J"⟩
abbrev cX4_joined : ByteArray := prog_6_method_6_code
def yX4_joined : MethodName := ⟨RX4, "joined", "(II)Z"⟩
abbrev cX4_flip : ByteArray := prog_6_method_7_code
def yX4_flip : MethodName := ⟨RX4, "flip", "(II)V"⟩
abbrev cX4_takeAllOf : ByteArray := prog_6_method_8_code
def yX4_takeAllOf : MethodName := ⟨RX4, "takeAllOf", "(LNeighbourBook$Pairs;)V"⟩
abbrev cX4_countAll : ByteArray := prog_6_method_9_code
def yX4_countAll : MethodName := ⟨RX4, "countAll", "()I"⟩
abbrev cX4_countToLesser : ByteArray := prog_6_method_10_code
def yX4_countToLesser : MethodName := ⟨RX4, "countToLesser", "()I"⟩
abbrev cX4_countOther : ByteArray := prog_6_method_11_code
def yX4_countOther : MethodName := ⟨RX4, "countOther", "(LNeighbourBook$Pairs;)I"⟩
abbrev cX4_renumberBy : ByteArray := prog_6_method_12_code
def yX4_renumberBy : MethodName := ⟨RX4, "renumberBy", "(LNeighbourBook$Orders;)V"⟩
def RX5 : String := "NeighbourBook$Rules"
def TX5 : u_T := fun k => match k with
  | 0 => ("NeighbourBook$Rules", "formsOfUses", "[I", true)
  | _ => ("NeighbourBook$Rules", "values", "[I", true)
def tyX5 : Nat → FieldType := fun k => match k with
  | 0 => .array .int
  | _ => .array .int
theorem nmX5 : ∀ a, a < 2 → ∀ b, b < 2 → a ≠ b → (TX5 a).2.1 ≠ (TX5 b).2.1 := by decide +kernel
theorem tyX5_ok : ∀ k, k < 2 → parseFieldDescriptor (TX5 k).2.2.1 = some (tyX5 k) := by decide +kernel
abbrev cX5_init : ByteArray := prog_7_method_1_code
def yX5_init : MethodName := ⟨RX5, "<init>", "()V"⟩
abbrev cX5_formOf : ByteArray := prog_7_method_2_code
def yX5_formOf : MethodName := ⟨RX5, "formOf", "(I)I"⟩
abbrev cX5_setForm : ByteArray := prog_7_method_3_code
def yX5_setForm : MethodName := ⟨RX5, "setForm", "(II)V"⟩
abbrev cX5_allows : ByteArray := prog_7_method_4_code
def yX5_allows : MethodName := ⟨RX5, "allows", "(II)Z"⟩
abbrev cX5_valueOf : ByteArray := prog_7_method_5_code
def yX5_valueOf : MethodName := ⟨RX5, "valueOf", "(I)I"⟩
abbrev cX5_setValue : ByteArray := prog_7_method_6_code
def yX5_setValue : MethodName := ⟨RX5, "setValue", "(II)V"⟩
def RX6 : String := "NeighbourBook$Telling"
def TX6 : u_T := fun k => match k with
  | 0 => ("NeighbourBook$Telling", "uses", "[I", true)
  | 1 => ("NeighbourBook$Telling", "numbers", "[I", true)
  | _ => ("NeighbourBook$Telling", "size", "I", false)
def tyX6 : Nat → FieldType := fun k => match k with
  | 0 => .array .int
  | 1 => .array .int
  | _ => .int
theorem nmX6 : ∀ a, a < 3 → ∀ b, b < 3 → a ≠ b → (TX6 a).2.1 ≠ (TX6 b).2.1 := by decide +kernel
theorem tyX6_ok : ∀ k, k < 3 → parseFieldDescriptor (TX6 k).2.2.1 = some (tyX6 k) := by decide +kernel
abbrev cX6_init : ByteArray := prog_8_method_1_code
def yX6_init : MethodName := ⟨RX6, "<init>", "()V"⟩
abbrev cX6_size : ByteArray := prog_8_method_2_code
def yX6_size : MethodName := ⟨RX6, "size", "()I"⟩
abbrev cX6_useAt : ByteArray := prog_8_method_3_code
def yX6_useAt : MethodName := ⟨RX6, "useAt", "(I)I"⟩
abbrev cX6_numberAt : ByteArray := prog_8_method_4_code
def yX6_numberAt : MethodName := ⟨RX6, "numberAt", "(I)I"⟩
abbrev cX6_tell : ByteArray := prog_8_method_5_code
def yX6_tell : MethodName := ⟨RX6, "tell", "(LNeighbourBook$Pairs;III)Z"⟩
abbrev cX6_bitsToTell : ByteArray := prog_8_method_6_code
def yX6_bitsToTell : MethodName := ⟨RX6, "bitsToTell", "(LNeighbourBook$Pairs;IIILNeighbourBook$Rules;)I"⟩
abbrev cX6_add : ByteArray := prog_8_method_7_code
def yX6_add : MethodName := ⟨RX6, "add", "(II)V"⟩
abbrev cX6_tellPlain : ByteArray := prog_8_method_8_code
def yX6_tellPlain : MethodName := ⟨RX6, "tellPlain", "(IJ)V"⟩
abbrev cX6_tellSpans : ByteArray := prog_8_method_9_code
def yX6_tellSpans : MethodName := ⟨RX6, "tellSpans", "(IJ)J"⟩
abbrev cX6_tellBlocks : ByteArray := prog_8_method_10_code
def yX6_tellBlocks : MethodName := ⟨RX6, "tellBlocks", "(JJ)V"⟩
abbrev cX6_tellDense : ByteArray := prog_8_method_11_code
def yX6_tellDense : MethodName := ⟨RX6, "tellDense", "(IJ)V"⟩
def RX7 : String := "NeighbourBook$Walks"
def TX7 : u_T := fun k => match k with
  | _ => ("NeighbourBook$Walks", "near", "[J", true)
def tyX7 : Nat → FieldType := fun k => match k with
  | _ => .array .long
theorem nmX7 : ∀ a, a < 1 → ∀ b, b < 1 → a ≠ b → (TX7 a).2.1 ≠ (TX7 b).2.1 := by decide +kernel
theorem tyX7_ok : ∀ k, k < 1 → parseFieldDescriptor (TX7 k).2.2.1 = some (tyX7 k) := by decide +kernel
abbrev cX7_init : ByteArray := prog_9_method_1_code
def yX7_init : MethodName := ⟨RX7, "<init>", "(I)V"⟩
abbrev cX7_countThrees : ByteArray := prog_9_method_2_code
def yX7_countThrees : MethodName := ⟨RX7, "countThrees", "(LNeighbourBook$Pairs;)I"⟩
abbrev cX7_countParts : ByteArray := prog_9_method_3_code
def yX7_countParts : MethodName := ⟨RX7, "countParts", "(LNeighbourBook$Pairs;)I"⟩
abbrev cX7_sizeOfPart : ByteArray := prog_9_method_4_code
def yX7_sizeOfPart : MethodName := ⟨RX7, "sizeOfPart", "(LNeighbourBook$Pairs;I)I"⟩
abbrev cX7_stepsBetween : ByteArray := prog_9_method_5_code
def yX7_stepsBetween : MethodName := ⟨RX7, "stepsBetween", "(LNeighbourBook$Pairs;II)I"⟩
abbrev cX7_findNear : ByteArray := prog_9_method_6_code
def yX7_findNear : MethodName := ⟨RX7, "findNear", "(LNeighbourBook$Pairs;)V"⟩
abbrev cX7_partOf : ByteArray := prog_9_method_7_code
def yX7_partOf : MethodName := ⟨RX7, "partOf", "(I)J"⟩
def RX8 : String := "NeighbourBook"
def TX8 : u_T := fun k => match k with
  | 0 => ("NeighbourBook", "pairs", "LNeighbourBook$Pairs;", true)
  | 1 => ("NeighbourBook", "rules", "LNeighbourBook$Rules;", true)
  | 2 => ("NeighbourBook", "telling", "LNeighbourBook$Telling;", true)
  | 3 => ("NeighbourBook", "book", "LNeighbourBook$Book;", true)
  | 4 => ("NeighbourBook", "copying", "LNeighbourBook$Copying;", true)
  | 5 => ("NeighbourBook", "orders", "LNeighbourBook$Orders;", true)
  | _ => ("NeighbourBook", "walks", "LNeighbourBook$Walks;", true)
def tyX8 : Nat → FieldType := fun k => match k with
  | 0 => .object "NeighbourBook$Pairs"
  | 1 => .object "NeighbourBook$Rules"
  | 2 => .object "NeighbourBook$Telling"
  | 3 => .object "NeighbourBook$Book"
  | 4 => .object "NeighbourBook$Copying"
  | 5 => .object "NeighbourBook$Orders"
  | _ => .object "NeighbourBook$Walks"
theorem nmX8 : ∀ a, a < 7 → ∀ b, b < 7 → a ≠ b → (TX8 a).2.1 ≠ (TX8 b).2.1 := by decide +kernel
theorem tyX8_ok : ∀ k, k < 7 → parseFieldDescriptor (TX8 k).2.2.1 = some (tyX8 k) := by decide +kernel
abbrev cX8_init : ByteArray := prog_1_method_1_code
def yX8_init : MethodName := ⟨RX8, "<init>", "(I)V"⟩
abbrev cX8_pair : ByteArray := prog_1_method_2_code
def yX8_pair : MethodName := ⟨RX8, "pair", "(II)I"⟩
abbrev cX8_drop : ByteArray := prog_1_method_3_code
def yX8_drop : MethodName := ⟨RX8, "drop", "(II)I"⟩
abbrev cX8_has : ByteArray := prog_1_method_4_code
def yX8_has : MethodName := ⟨RX8, "has", "(II)I"⟩
abbrev cX8_next : ByteArray := prog_1_method_5_code
def yX8_next : MethodName := ⟨RX8, "next", "(II)I"⟩
abbrev cX8_degree : ByteArray := prog_1_method_6_code
def yX8_degree : MethodName := ⟨RX8, "degree", "(II)I"⟩
abbrev cX8_meet : ByteArray := prog_1_method_7_code
def yX8_meet : MethodName := ⟨RX8, "meet", "(II)I"⟩
abbrev cX8_back : ByteArray := prog_1_method_8_code
def yX8_back : MethodName := ⟨RX8, "back", "(II)I"⟩
abbrev cX8_form : ByteArray := prog_1_method_9_code
def yX8_form : MethodName := ⟨RX8, "form", "(II)I"⟩
abbrev cX8_setting : ByteArray := prog_1_method_10_code
def yX8_setting : MethodName := ⟨RX8, "setting", "(II)I"⟩
abbrev cX8_length : ByteArray := prog_1_method_11_code
def yX8_length : MethodName := ⟨RX8, "length", "(II)I"⟩
abbrev cX8_cost : ByteArray := prog_1_method_12_code
def yX8_cost : MethodName := ⟨RX8, "cost", "(III)I"⟩
abbrev cX8_pack : ByteArray := prog_1_method_13_code
def yX8_pack : MethodName := ⟨RX8, "pack", "()I"⟩
abbrev cX8_told : ByteArray := prog_1_method_14_code
def yX8_told : MethodName := ⟨RX8, "told", "(II)I"⟩
abbrev cX8_looked : ByteArray := prog_1_method_15_code
def yX8_looked : MethodName := ⟨RX8, "looked", "(I)I"⟩
abbrev cX8_would : ByteArray := prog_1_method_16_code
def yX8_would : MethodName := ⟨RX8, "would", "(II)I"⟩
abbrev cX8_forms : ByteArray := prog_1_method_17_code
def yX8_forms : MethodName := ⟨RX8, "forms", "()I"⟩
abbrev cX8_best : ByteArray := prog_1_method_18_code
def yX8_best : MethodName := ⟨RX8, "best", "()I"⟩
abbrev cX8_bit : ByteArray := prog_1_method_19_code
def yX8_bit : MethodName := ⟨RX8, "bit", "(I)I"⟩
abbrev cX8_place : ByteArray := prog_1_method_20_code
def yX8_place : MethodName := ⟨RX8, "place", "(I)I"⟩
abbrev cX8_sum : ByteArray := prog_1_method_21_code
def yX8_sum : MethodName := ⟨RX8, "sum", "()J"⟩
abbrev cX8_alter : ByteArray := prog_1_method_22_code
def yX8_alter : MethodName := ⟨RX8, "alter", "(II)I"⟩
abbrev cX8_judge : ByteArray := prog_1_method_23_code
def yX8_judge : MethodName := ⟨RX8, "judge", "()I"⟩
abbrev cX8_order : ByteArray := prog_1_method_24_code
def yX8_order : MethodName := ⟨RX8, "order", "(II)I"⟩
abbrev cX8_renumber : ByteArray := prog_1_method_25_code
def yX8_renumber : MethodName := ⟨RX8, "renumber", "(I)I"⟩
abbrev cX8_threes : ByteArray := prog_1_method_26_code
def yX8_threes : MethodName := ⟨RX8, "threes", "()I"⟩
abbrev cX8_parts : ByteArray := prog_1_method_27_code
def yX8_parts : MethodName := ⟨RX8, "parts", "(I)I"⟩
abbrev cX8_far : ByteArray := prog_1_method_28_code
def yX8_far : MethodName := ⟨RX8, "far", "(II)I"⟩
abbrev cX8_count : ByteArray := prog_1_method_29_code
def yX8_count : MethodName := ⟨RX8, "count", "(I)I"⟩
abbrev cX8_change : ByteArray := prog_1_method_30_code
def yX8_change : MethodName := ⟨RX8, "change", "(IIZ)I"⟩
abbrev cX8_isBelow : ByteArray := prog_1_method_31_code
def yX8_isBelow : MethodName := ⟨RX8, "isBelow", "(II)Z"⟩
abbrev cX8_isCopy : ByteArray := prog_1_method_32_code
def yX8_isCopy : MethodName := ⟨RX8, "isCopy", "(I)Z"⟩
abbrev cX8_element : ByteArray := prog_1_method_33_code
def yX8_element : MethodName := ⟨RX8, "element", "([II)I"⟩
abbrev cX8_isIn : ByteArray := prog_1_method_34_code
def yX8_isIn : MethodName := ⟨RX8, "isIn", "(JI)Z"⟩
abbrev cX8_firstFrom : ByteArray := prog_1_method_35_code
def yX8_firstFrom : MethodName := ⟨RX8, "firstFrom", "(JI)I"⟩
abbrev cX8_lastOf : ByteArray := prog_1_method_36_code
def yX8_lastOf : MethodName := ⟨RX8, "lastOf", "(J)I"⟩
abbrev cX8_thingAt : ByteArray := prog_1_method_37_code
def yX8_thingAt : MethodName := ⟨RX8, "thingAt", "(JI)I"⟩
abbrev cX8_folded : ByteArray := prog_1_method_38_code
def yX8_folded : MethodName := ⟨RX8, "folded", "(I)I"⟩
abbrev cX8_digitsOf : ByteArray := prog_1_method_39_code
def yX8_digitsOf : MethodName := ⟨RX8, "digitsOf", "(I)I"⟩
abbrev cX8_bitsIn : ByteArray := prog_1_method_40_code
def yX8_bitsIn : MethodName := ⟨RX8, "bitsIn", "(II)I"⟩
def RX9 : String := "NeighbourBookModel"
def TX9 : u_T := fun k => match k with
  | 0 => ("NeighbourBookModel", "thrown", "I", false)
  | 1 => ("NeighbourBookModel", "n", "I", true)
  | 2 => ("NeighbourBookModel", "now", "[Z", true)
  | 3 => ("NeighbourBookModel", "packed", "[Z", true)
  | 4 => ("NeighbourBookModel", "turned", "[Z", true)
  | 5 => ("NeighbourBookModel", "isBook", "Z", false)
  | 6 => ("NeighbourBookModel", "patches", "I", false)
  | 7 => ("NeighbourBookModel", "forms", "[I", true)
  | 8 => ("NeighbourBookModel", "window", "I", false)
  | 9 => ("NeighbourBookModel", "chain", "I", false)
  | 10 => ("NeighbourBookModel", "step", "I", false)
  | 11 => ("NeighbourBookModel", "bits", "[I", true)
  | 12 => ("NeighbourBookModel", "written", "[I", true)
  | 13 => ("NeighbourBookModel", "size", "I", false)
  | 14 => ("NeighbourBookModel", "use", "[I", true)
  | 15 => ("NeighbourBookModel", "number", "[I", true)
  | 16 => ("NeighbourBookModel", "numbers", "I", false)
  | 17 => ("NeighbourBookModel", "list", "[I", true)
  | 18 => ("NeighbourBookModel", "listed", "I", false)
  | 19 => ("NeighbourBookModel", "other", "[I", true)
  | 20 => ("NeighbourBookModel", "blocks", "[I", true)
  | 21 => ("NeighbourBookModel", "kindOf", "[I", true)
  | 22 => ("NeighbourBookModel", "fromOf", "[I", true)
  | 23 => ("NeighbourBookModel", "depthOf", "[I", true)
  | 24 => ("NeighbourBookModel", "beginOf", "[I", true)
  | 25 => ("NeighbourBookModel", "packedStep", "I", false)
  | 26 => ("NeighbourBookModel", "bestBits", "I", false)
  | 27 => ("NeighbourBookModel", "own", "[I", true)
  | 28 => ("NeighbourBookModel", "copied", "[I", true)
  | 29 => ("NeighbourBookModel", "parent", "[I", true)
  | 30 => ("NeighbourBookModel", "least", "[I", true)
  | 31 => ("NeighbourBookModel", "place", "[I", true)
  | 32 => ("NeighbourBookModel", "isThere", "[Z", true)
  | 33 => ("NeighbourBookModel", "row", "[I", true)
  | _ => ("NeighbourBookModel", "away", "[I", true)
def tyX9 : Nat → FieldType := fun k => match k with
  | 0 => .int
  | 1 => .int
  | 2 => .array .boolean
  | 3 => .array .boolean
  | 4 => .array .boolean
  | 5 => .boolean
  | 6 => .int
  | 7 => .array .int
  | 8 => .int
  | 9 => .int
  | 10 => .int
  | 11 => .array .int
  | 12 => .array .int
  | 13 => .int
  | 14 => .array .int
  | 15 => .array .int
  | 16 => .int
  | 17 => .array .int
  | 18 => .int
  | 19 => .array .int
  | 20 => .array .int
  | 21 => .array .int
  | 22 => .array .int
  | 23 => .array .int
  | 24 => .array .int
  | 25 => .int
  | 26 => .int
  | 27 => .array .int
  | 28 => .array .int
  | 29 => .array .int
  | 30 => .array .int
  | 31 => .array .int
  | 32 => .array .boolean
  | 33 => .array .int
  | _ => .array .int
theorem nmX9 : ∀ a, a < 35 → ∀ b, b < 35 → a ≠ b → (TX9 a).2.1 ≠ (TX9 b).2.1 := by decide +kernel
theorem tyX9_ok : ∀ k, k < 35 → parseFieldDescriptor (TX9 k).2.2.1 = some (tyX9 k) := by decide +kernel
abbrev cX9_in : ByteArray := prog_11_method_2_code
def yX9_in : MethodName := ⟨RX9, "in", "(JJJ)Z"⟩
abbrev cX9_init : ByteArray := prog_11_method_3_code
def yX9_init : MethodName := ⟨RX9, "<init>", "(I)V"⟩
abbrev cX9_isThing : ByteArray := prog_11_method_4_code
def yX9_isThing : MethodName := ⟨RX9, "isThing", "(I)Z"⟩
abbrev cX9_turn : ByteArray := prog_11_method_5_code
def yX9_turn : MethodName := ⟨RX9, "turn", "(IIZ)I"⟩
abbrev cX9_pair : ByteArray := prog_11_method_6_code
def yX9_pair : MethodName := ⟨RX9, "pair", "(II)I"⟩
abbrev cX9_drop : ByteArray := prog_11_method_7_code
def yX9_drop : MethodName := ⟨RX9, "drop", "(II)I"⟩
abbrev cX9_has : ByteArray := prog_11_method_8_code
def yX9_has : MethodName := ⟨RX9, "has", "(II)I"⟩
abbrev cX9_next : ByteArray := prog_11_method_9_code
def yX9_next : MethodName := ⟨RX9, "next", "(II)I"⟩
abbrev cX9_rowSize : ByteArray := prog_11_method_10_code
def yX9_rowSize : MethodName := ⟨RX9, "rowSize", "(I)I"⟩
abbrev cX9_degree : ByteArray := prog_11_method_11_code
def yX9_degree : MethodName := ⟨RX9, "degree", "(II)I"⟩
abbrev cX9_meet : ByteArray := prog_11_method_12_code
def yX9_meet : MethodName := ⟨RX9, "meet", "(II)I"⟩
abbrev cX9_back : ByteArray := prog_11_method_13_code
def yX9_back : MethodName := ⟨RX9, "back", "(II)I"⟩
abbrev cX9_bitsOf : ByteArray := prog_11_method_14_code
def yX9_bitsOf : MethodName := ⟨RX9, "bitsOf", "(I)I"⟩
abbrev cX9_lengthIn : ByteArray := prog_11_method_15_code
def yX9_lengthIn : MethodName := ⟨RX9, "lengthIn", "(II)I"⟩
abbrev cX9_putBit : ByteArray := prog_11_method_16_code
def yX9_putBit : MethodName := ⟨RX9, "putBit", "(I)V"⟩
abbrev cX9_putBits : ByteArray := prog_11_method_17_code
def yX9_putBits : MethodName := ⟨RX9, "putBits", "(II)V"⟩
abbrev cX9_putUnary : ByteArray := prog_11_method_18_code
def yX9_putUnary : MethodName := ⟨RX9, "putUnary", "(I)V"⟩
abbrev cX9_putDoubled : ByteArray := prog_11_method_19_code
def yX9_putDoubled : MethodName := ⟨RX9, "putDoubled", "(I)V"⟩
abbrev cX9_putNumber : ByteArray := prog_11_method_20_code
def yX9_putNumber : MethodName := ⟨RX9, "putNumber", "(II)V"⟩
abbrev cX9_folded : ByteArray := prog_11_method_21_code
def yX9_folded : MethodName := ⟨RX9, "folded", "(I)I"⟩
abbrev cX9_say : ByteArray := prog_11_method_22_code
def yX9_say : MethodName := ⟨RX9, "say", "(II)V"⟩
abbrev cX9_take : ByteArray := prog_11_method_23_code
def yX9_take : MethodName := ⟨RX9, "take", "([ZII)V"⟩
abbrev cX9_tellPlain : ByteArray := prog_11_method_24_code
def yX9_tellPlain : MethodName := ⟨RX9, "tellPlain", "(I)V"⟩
abbrev cX9_runEnd : ByteArray := prog_11_method_25_code
def yX9_runEnd : MethodName := ⟨RX9, "runEnd", "(I)I"⟩
abbrev cX9_tellSpans : ByteArray := prog_11_method_26_code
def yX9_tellSpans : MethodName := ⟨RX9, "tellSpans", "(I)V"⟩
abbrev cX9_tellCopied : ByteArray := prog_11_method_27_code
def yX9_tellCopied : MethodName := ⟨RX9, "tellCopied", "([ZII)V"⟩
abbrev cX9_tellDense : ByteArray := prog_11_method_28_code
def yX9_tellDense : MethodName := ⟨RX9, "tellDense", "([ZI)V"⟩
abbrev cX9_tell : ByteArray := prog_11_method_29_code
def yX9_tell : MethodName := ⟨RX9, "tell", "([ZIII)V"⟩
abbrev cX9_numbersBits : ByteArray := prog_11_method_30_code
def yX9_numbersBits : MethodName := ⟨RX9, "numbersBits", "()I"⟩
abbrev cX9_bitsBy : ByteArray := prog_11_method_31_code
def yX9_bitsBy : MethodName := ⟨RX9, "bitsBy", "([ZIII)I"⟩
abbrev cX9_isSame : ByteArray := prog_11_method_32_code
def yX9_isSame : MethodName := ⟨RX9, "isSame", "([ZII)Z"⟩
abbrev cX9_form : ByteArray := prog_11_method_33_code
def yX9_form : MethodName := ⟨RX9, "form", "(II)I"⟩
abbrev cX9_setting : ByteArray := prog_11_method_34_code
def yX9_setting : MethodName := ⟨RX9, "setting", "(II)I"⟩
abbrev cX9_length : ByteArray := prog_11_method_35_code
def yX9_length : MethodName := ⟨RX9, "length", "(II)I"⟩
abbrev cX9_cost : ByteArray := prog_11_method_36_code
def yX9_cost : MethodName := ⟨RX9, "cost", "(III)I"⟩
abbrev cX9_writeRow : ByteArray := prog_11_method_37_code
def yX9_writeRow : MethodName := ⟨RX9, "writeRow", "(I)V"⟩
abbrev cX9_closeBook : ByteArray := prog_11_method_38_code
def yX9_closeBook : MethodName := ⟨RX9, "closeBook", "()V"⟩
abbrev cX9_consider : ByteArray := prog_11_method_39_code
def yX9_consider : MethodName := ⟨RX9, "consider", "(IIII)V"⟩
abbrev cX9_choose : ByteArray := prog_11_method_40_code
def yX9_choose : MethodName := ⟨RX9, "choose", "(I)V"⟩
abbrev cX9_pack : ByteArray := prog_11_method_41_code
def yX9_pack : MethodName := ⟨RX9, "pack", "()I"⟩
abbrev cX9_told : ByteArray := prog_11_method_42_code
def yX9_told : MethodName := ⟨RX9, "told", "(II)I"⟩
abbrev cX9_looked : ByteArray := prog_11_method_43_code
def yX9_looked : MethodName := ⟨RX9, "looked", "(I)I"⟩
abbrev cX9_bitsOfUse : ByteArray := prog_11_method_44_code
def yX9_bitsOfUse : MethodName := ⟨RX9, "bitsOfUse", "(II)I"⟩
abbrev cX9_would : ByteArray := prog_11_method_45_code
def yX9_would : MethodName := ⟨RX9, "would", "(II)I"⟩
abbrev cX9_forms : ByteArray := prog_11_method_46_code
def yX9_forms : MethodName := ⟨RX9, "forms", "()I"⟩
abbrev cX9_weigh : ByteArray := prog_11_method_47_code
def yX9_weigh : MethodName := ⟨RX9, "weigh", "(I)V"⟩
abbrev cX9_best : ByteArray := prog_11_method_48_code
def yX9_best : MethodName := ⟨RX9, "best", "()I"⟩
abbrev cX9_bytes : ByteArray := prog_11_method_49_code
def yX9_bytes : MethodName := ⟨RX9, "bytes", "()I"⟩
abbrev cX9_byteAt : ByteArray := prog_11_method_50_code
def yX9_byteAt : MethodName := ⟨RX9, "byteAt", "(I)I"⟩
abbrev cX9_bit : ByteArray := prog_11_method_51_code
def yX9_bit : MethodName := ⟨RX9, "bit", "(I)I"⟩
abbrev cX9_place : ByteArray := prog_11_method_52_code
def yX9_place : MethodName := ⟨RX9, "place", "(I)I"⟩
abbrev cX9_sum : ByteArray := prog_11_method_53_code
def yX9_sum : MethodName := ⟨RX9, "sum", "()J"⟩
abbrev cX9_alter : ByteArray := prog_11_method_54_code
def yX9_alter : MethodName := ⟨RX9, "alter", "(II)I"⟩
abbrev cX9_judge : ByteArray := prog_11_method_55_code
def yX9_judge : MethodName := ⟨RX9, "judge", "()I"⟩
abbrev cX9_keyOf : ByteArray := prog_11_method_56_code
def yX9_keyOf : MethodName := ⟨RX9, "keyOf", "(I)I"⟩
abbrev cX9_orderBy : ByteArray := prog_11_method_57_code
def yX9_orderBy : MethodName := ⟨RX9, "orderBy", "(I)V"⟩
abbrev cX9_orderLayers : ByteArray := prog_11_method_58_code
def yX9_orderLayers : MethodName := ⟨RX9, "orderLayers", "()V"⟩
abbrev cX9_toOrder : ByteArray := prog_11_method_59_code
def yX9_toOrder : MethodName := ⟨RX9, "toOrder", "(I)V"⟩
abbrev cX9_order : ByteArray := prog_11_method_60_code
def yX9_order : MethodName := ⟨RX9, "order", "(II)I"⟩
abbrev cX9_renumber : ByteArray := prog_11_method_61_code
def yX9_renumber : MethodName := ⟨RX9, "renumber", "(I)I"⟩
abbrev cX9_isJoined : ByteArray := prog_11_method_62_code
def yX9_isJoined : MethodName := ⟨RX9, "isJoined", "(II)Z"⟩
abbrev cX9_threes : ByteArray := prog_11_method_63_code
def yX9_threes : MethodName := ⟨RX9, "threes", "()I"⟩
abbrev cX9_walk : ByteArray := prog_11_method_64_code
def yX9_walk : MethodName := ⟨RX9, "walk", "(IZ)I"⟩
abbrev cX9_parts : ByteArray := prog_11_method_65_code
def yX9_parts : MethodName := ⟨RX9, "parts", "(I)I"⟩
abbrev cX9_far : ByteArray := prog_11_method_66_code
def yX9_far : MethodName := ⟨RX9, "far", "(II)I"⟩
abbrev cX9_count : ByteArray := prog_11_method_67_code
def yX9_count : MethodName := ⟨RX9, "count", "(I)I"⟩
def RJ13 : String := "java/lang/Long"
def TJ13 : u_T := fun k => match k with
  | _ => ("", "", "", false)
def tyJ13 : Nat → FieldType := fun k => match k with
  | _ => .int
theorem nmJ13 : ∀ a, a < 0 → ∀ b, b < 0 → a ≠ b → (TJ13 a).2.1 ≠ (TJ13 b).2.1 := by decide +kernel
theorem tyJ13_ok : ∀ k, k < 0 → parseFieldDescriptor (TJ13 k).2.2.1 = some (tyJ13 k) := by decide +kernel
abbrev cJ13_bitCount_95d88 : ByteArray := prog_12_method_50_code
def yJ13_bitCount_95d88 : MethodName := ⟨RJ13, "bitCount", "(J)I"⟩
def RJ9 : String := "java/lang/Math"
def TJ9 : u_T := fun k => match k with
  | _ => ("", "", "", false)
def tyJ9 : Nat → FieldType := fun k => match k with
  | _ => .int
theorem nmJ9 : ∀ a, a < 0 → ∀ b, b < 0 → a ≠ b → (TJ9 a).2.1 ≠ (TJ9 b).2.1 := by decide +kernel
theorem tyJ9_ok : ∀ k, k < 0 → parseFieldDescriptor (TJ9 k).2.2.1 = some (tyJ9 k) := by decide +kernel
abbrev cJ9_floorMod_7cf53 : ByteArray := prog_13_method_50_code
def yJ9_floorMod_7cf53 : MethodName := ⟨RJ9, "floorMod", "(II)I"⟩
abbrev cJ9_max_7cf53 : ByteArray := prog_13_method_65_code
def yJ9_max_7cf53 : MethodName := ⟨RJ9, "max", "(II)I"⟩
abbrev cJ9_min_7cf53 : ByteArray := prog_13_method_69_code
def yJ9_min_7cf53 : MethodName := ⟨RJ9, "min", "(II)I"⟩
def RJ7 : String := "java/util/Arrays"
def TJ7 : u_T := fun k => match k with
  | _ => ("", "", "", false)
def tyJ7 : Nat → FieldType := fun k => match k with
  | _ => .int
theorem nmJ7 : ∀ a, a < 0 → ∀ b, b < 0 → a ≠ b → (TJ7 a).2.1 ≠ (TJ7 b).2.1 := by decide +kernel
theorem tyJ7_ok : ∀ k, k < 0 → parseFieldDescriptor (TJ7 k).2.2.1 = some (tyJ7 k) := by decide +kernel
abbrev cJ7_fill_53178 : ByteArray := prog_14_method_103_code
def yJ7_fill_53178 : MethodName := ⟨RJ7, "fill", "([II)V"⟩
def RL : String := "NeighbourBookLaw"
abbrev cL_cell : ByteArray := method_2_code
def yL_cell : MethodName := ⟨RL, "cell", "([II)I"⟩
abbrev cL_law : ByteArray := code
def yL_law : MethodName := ⟨RL, "law", "([I)Z"⟩
abbrev vwCl : List vw_C := [(RX0, TX0, 3), (RX1, TX1, 9), (RX2, TX2, 4), (RX3, TX3, 2), (RX4, TX4, 2), (RX5, TX5, 2), (RX6, TX6, 3), (RX7, TX7, 1), (RX8, TX8, 7), (RX9, TX9, 35)]
end
section
theorem dX0_init_0 : decode cX0_init 0 = .ok (.aload_n 0, 1) := by decide +kernel
theorem dX0_init_1 : decode cX0_init 1 = .ok (.invokespecial 3, 3) := by decide +kernel
theorem dX0_init_4 : decode cX0_init 4 = .ok (.aload_n 0, 1) := by decide +kernel
theorem dX0_init_5 : decode cX0_init 5 = .ok (.iconst 0, 1) := by decide +kernel
theorem dX0_init_6 : decode cX0_init 6 = .ok (.putfield 9, 3) := by decide +kernel
theorem dX0_init_9 : decode cX0_init 9 = .ok (.iconst 0, 1) := by decide +kernel
theorem dX0_init_10 : decode cX0_init 10 = .ok (.iload_n 1, 1) := by decide +kernel
theorem dX0_init_11 : decode cX0_init 11 = .ok (.invokestatic 15, 3) := by decide +kernel
theorem dX0_init_14 : decode cX0_init 14 = .ok (.istore_n 2, 1) := by decide +kernel
theorem dX0_init_15 : decode cX0_init 15 = .ok (.aload_n 0, 1) := by decide +kernel
theorem dX0_init_16 : decode cX0_init 16 = .ok (.iload_n 2, 1) := by decide +kernel
theorem dX0_init_17 : decode cX0_init 17 = .ok (.newarray .int, 2) := by decide +kernel
theorem dX0_init_19 : decode cX0_init 19 = .ok (.putfield 21, 3) := by decide +kernel
theorem dX0_init_22 : decode cX0_init 22 = .ok (.aload_n 0, 1) := by decide +kernel
theorem dX0_init_23 : decode cX0_init 23 = .ok (.iload_n 2, 1) := by decide +kernel
theorem dX0_init_24 : decode cX0_init 24 = .ok (.newarray .int, 2) := by decide +kernel
theorem dX0_init_26 : decode cX0_init 26 = .ok (.putfield 25, 3) := by decide +kernel
theorem dX0_init_29 : decode cX0_init 29 = .ok (.return_, 1) := by decide +kernel
theorem dX0_size_0 : decode cX0_size 0 = .ok (.aload_n 0, 1) := by decide +kernel
theorem dX0_size_1 : decode cX0_size 1 = .ok (.getfield 9, 3) := by decide +kernel
theorem dX0_size_4 : decode cX0_size 4 = .ok (.ireturn, 1) := by decide +kernel
theorem dX0_byteCount_0 : decode cX0_byteCount 0 = .ok (.aload_n 0, 1) := by decide +kernel
theorem dX0_byteCount_1 : decode cX0_byteCount 1 = .ok (.getfield 9, 3) := by decide +kernel
theorem dX0_byteCount_4 : decode cX0_byteCount 4 = .ok (.bipush 7, 2) := by decide +kernel
theorem dX0_byteCount_6 : decode cX0_byteCount 6 = .ok (.iadd, 1) := by decide +kernel
theorem dX0_byteCount_7 : decode cX0_byteCount 7 = .ok (.iconst 3, 1) := by decide +kernel
theorem dX0_byteCount_8 : decode cX0_byteCount 8 = .ok (.ishr, 1) := by decide +kernel
theorem dX0_byteCount_9 : decode cX0_byteCount 9 = .ok (.ireturn, 1) := by decide +kernel
theorem dX0_clear_0 : decode cX0_clear 0 = .ok (.aload_n 0, 1) := by decide +kernel
theorem dX0_clear_1 : decode cX0_clear 1 = .ok (.getfield 21, 3) := by decide +kernel
theorem dX0_clear_4 : decode cX0_clear 4 = .ok (.iconst 0, 1) := by decide +kernel
theorem dX0_clear_5 : decode cX0_clear 5 = .ok (.invokestatic 28, 3) := by decide +kernel
theorem dX0_clear_8 : decode cX0_clear 8 = .ok (.aload_n 0, 1) := by decide +kernel
theorem dX0_clear_9 : decode cX0_clear 9 = .ok (.getfield 25, 3) := by decide +kernel
theorem dX0_clear_12 : decode cX0_clear 12 = .ok (.iconst 0, 1) := by decide +kernel
theorem dX0_clear_13 : decode cX0_clear 13 = .ok (.invokestatic 28, 3) := by decide +kernel
theorem dX0_clear_16 : decode cX0_clear 16 = .ok (.aload_n 0, 1) := by decide +kernel
theorem dX0_clear_17 : decode cX0_clear 17 = .ok (.iconst 0, 1) := by decide +kernel
theorem dX0_clear_18 : decode cX0_clear 18 = .ok (.putfield 9, 3) := by decide +kernel
theorem dX0_clear_21 : decode cX0_clear 21 = .ok (.return_, 1) := by decide +kernel
theorem dX0_write_0 : decode cX0_write 0 = .ok (.iconst 0, 1) := by decide +kernel
theorem dX0_write_1 : decode cX0_write 1 = .ok (.istore_n 3, 1) := by decide +kernel
theorem dX0_write_2 : decode cX0_write 2 = .ok (.iload_n 3, 1) := by decide +kernel
theorem dX0_write_3 : decode cX0_write 3 = .ok (.aload_n 1, 1) := by decide +kernel
theorem dX0_write_4 : decode cX0_write 4 = .ok (.invokevirtual 34, 3) := by decide +kernel
theorem dX0_write_7 : decode cX0_write 7 = .ok (.if_icmp .ge 50, 3) := by decide +kernel
theorem dX0_write_10 : decode cX0_write 10 = .ok (.aload_n 1, 1) := by decide +kernel
theorem dX0_write_11 : decode cX0_write 11 = .ok (.iload_n 3, 1) := by decide +kernel
theorem dX0_write_12 : decode cX0_write 12 = .ok (.invokevirtual 39, 3) := by decide +kernel
theorem dX0_write_15 : decode cX0_write 15 = .ok (.istore 4, 2) := by decide +kernel
theorem dX0_write_17 : decode cX0_write 17 = .ok (.iload 4, 2) := by decide +kernel
theorem dX0_write_19 : decode cX0_write 19 = .ok (.bipush 8, 2) := by decide +kernel
theorem dX0_write_21 : decode cX0_write 21 = .ok (.if_icmp .ne 15, 3) := by decide +kernel
theorem dX0_write_24 : decode cX0_write 24 = .ok (.aload_n 0, 1) := by decide +kernel
theorem dX0_write_25 : decode cX0_write 25 = .ok (.aload_n 1, 1) := by decide +kernel
theorem dX0_write_26 : decode cX0_write 26 = .ok (.iload_n 3, 1) := by decide +kernel
theorem dX0_write_27 : decode cX0_write 27 = .ok (.invokevirtual 43, 3) := by decide +kernel
theorem dX0_write_30 : decode cX0_write 30 = .ok (.invokevirtual 46, 3) := by decide +kernel
theorem dX0_write_33 : decode cX0_write 33 = .ok (.goto 18, 3) := by decide +kernel
theorem dX0_write_36 : decode cX0_write 36 = .ok (.aload_n 0, 1) := by decide +kernel
theorem dX0_write_37 : decode cX0_write 37 = .ok (.aload_n 2, 1) := by decide +kernel
theorem dX0_write_38 : decode cX0_write 38 = .ok (.iload 4, 2) := by decide +kernel
theorem dX0_write_40 : decode cX0_write 40 = .ok (.invokevirtual 50, 3) := by decide +kernel
theorem dX0_write_43 : decode cX0_write 43 = .ok (.aload_n 1, 1) := by decide +kernel
theorem dX0_write_44 : decode cX0_write 44 = .ok (.iload_n 3, 1) := by decide +kernel
theorem dX0_write_45 : decode cX0_write 45 = .ok (.invokevirtual 43, 3) := by decide +kernel
theorem dX0_write_48 : decode cX0_write 48 = .ok (.invokevirtual 55, 3) := by decide +kernel
theorem dX0_write_51 : decode cX0_write 51 = .ok (.iinc 3 1, 3) := by decide +kernel
theorem dX0_write_54 : decode cX0_write 54 = .ok (.goto (-52), 3) := by decide +kernel
theorem dX0_write_57 : decode cX0_write 57 = .ok (.return_, 1) := by decide +kernel
theorem dX0_bitNow_0 : decode cX0_bitNow 0 = .ok (.iload_n 1, 1) := by decide +kernel
theorem dX0_bitNow_1 : decode cX0_bitNow 1 = .ok (.aload_n 0, 1) := by decide +kernel
theorem dX0_bitNow_2 : decode cX0_bitNow 2 = .ok (.getfield 9, 3) := by decide +kernel
theorem dX0_bitNow_5 : decode cX0_bitNow 5 = .ok (.invokestatic 59, 3) := by decide +kernel
theorem dX0_bitNow_8 : decode cX0_bitNow 8 = .ok (.ifCond .eq 14, 3) := by decide +kernel
theorem dX0_bitNow_11 : decode cX0_bitNow 11 = .ok (.aload_n 0, 1) := by decide +kernel
theorem dX0_bitNow_12 : decode cX0_bitNow 12 = .ok (.getfield 25, 3) := by decide +kernel
theorem dX0_bitNow_15 : decode cX0_bitNow 15 = .ok (.iload_n 1, 1) := by decide +kernel
theorem dX0_bitNow_16 : decode cX0_bitNow 16 = .ok (.invokestatic 63, 3) := by decide +kernel
theorem dX0_bitNow_19 : decode cX0_bitNow 19 = .ok (.goto 4, 3) := by decide +kernel
theorem dX0_bitNow_22 : decode cX0_bitNow 22 = .ok (.iconst (-1), 1) := by decide +kernel
theorem dX0_bitNow_23 : decode cX0_bitNow 23 = .ok (.ireturn, 1) := by decide +kernel
theorem dX0_hash_0 : decode cX0_hash 0 = .ok (.lconst 1, 1) := by decide +kernel
theorem dX0_hash_1 : decode cX0_hash 1 = .ok (.lstore_n 1, 1) := by decide +kernel
theorem dX0_hash_2 : decode cX0_hash 2 = .ok (.iconst 0, 1) := by decide +kernel
theorem dX0_hash_3 : decode cX0_hash 3 = .ok (.istore_n 3, 1) := by decide +kernel
theorem dX0_hash_4 : decode cX0_hash 4 = .ok (.iload_n 3, 1) := by decide +kernel
theorem dX0_hash_5 : decode cX0_hash 5 = .ok (.aload_n 0, 1) := by decide +kernel
theorem dX0_hash_6 : decode cX0_hash 6 = .ok (.invokevirtual 67, 3) := by decide +kernel
theorem dX0_hash_9 : decode cX0_hash 9 = .ok (.if_icmp .ge 25, 3) := by decide +kernel
theorem dX0_hash_12 : decode cX0_hash 12 = .ok (.ldc2_w 70, 3) := by decide +kernel
theorem dX0_hash_15 : decode cX0_hash 15 = .ok (.lload_n 1, 1) := by decide +kernel
theorem dX0_hash_16 : decode cX0_hash 16 = .ok (.lmul, 1) := by decide +kernel
theorem dX0_hash_17 : decode cX0_hash 17 = .ok (.aload_n 0, 1) := by decide +kernel
theorem dX0_hash_18 : decode cX0_hash 18 = .ok (.getfield 25, 3) := by decide +kernel
theorem dX0_hash_21 : decode cX0_hash 21 = .ok (.iload_n 3, 1) := by decide +kernel
theorem dX0_hash_22 : decode cX0_hash 22 = .ok (.invokestatic 72, 3) := by decide +kernel
theorem dX0_hash_25 : decode cX0_hash 25 = .ok (.i2l, 1) := by decide +kernel
theorem dX0_hash_26 : decode cX0_hash 26 = .ok (.ladd, 1) := by decide +kernel
theorem dX0_hash_27 : decode cX0_hash 27 = .ok (.lstore_n 1, 1) := by decide +kernel
theorem dX0_hash_28 : decode cX0_hash 28 = .ok (.iinc 3 1, 3) := by decide +kernel
theorem dX0_hash_31 : decode cX0_hash 31 = .ok (.goto (-27), 3) := by decide +kernel
theorem dX0_hash_34 : decode cX0_hash 34 = .ok (.lload_n 1, 1) := by decide +kernel
theorem dX0_hash_35 : decode cX0_hash 35 = .ok (.lreturn, 1) := by decide +kernel
theorem dX0_turn_0 : decode cX0_turn 0 = .ok (.iload_n 1, 1) := by decide +kernel
theorem dX0_turn_1 : decode cX0_turn 1 = .ok (.ifCond .lt 22, 3) := by decide +kernel
theorem dX0_turn_4 : decode cX0_turn 4 = .ok (.iload_n 1, 1) := by decide +kernel
theorem dX0_turn_5 : decode cX0_turn 5 = .ok (.aload_n 0, 1) := by decide +kernel
theorem dX0_turn_6 : decode cX0_turn 6 = .ok (.getfield 25, 3) := by decide +kernel
theorem dX0_turn_9 : decode cX0_turn 9 = .ok (.arraylength, 1) := by decide +kernel
theorem dX0_turn_10 : decode cX0_turn 10 = .ok (.if_icmp .ge 13, 3) := by decide +kernel
theorem dX0_turn_13 : decode cX0_turn 13 = .ok (.aload_n 0, 1) := by decide +kernel
theorem dX0_turn_14 : decode cX0_turn 14 = .ok (.getfield 25, 3) := by decide +kernel
theorem dX0_turn_17 : decode cX0_turn 17 = .ok (.iload_n 1, 1) := by decide +kernel
theorem dX0_turn_18 : decode cX0_turn 18 = .ok (.dup2, 1) := by decide +kernel
theorem dX0_turn_19 : decode cX0_turn 19 = .ok (.iaload, 1) := by decide +kernel
theorem dX0_turn_20 : decode cX0_turn 20 = .ok (.iload_n 2, 1) := by decide +kernel
theorem dX0_turn_21 : decode cX0_turn 21 = .ok (.ixor, 1) := by decide +kernel
theorem dX0_turn_22 : decode cX0_turn 22 = .ok (.iastore, 1) := by decide +kernel
theorem dX0_turn_23 : decode cX0_turn 23 = .ok (.aload_n 0, 1) := by decide +kernel
theorem dX0_turn_24 : decode cX0_turn 24 = .ok (.getfield 25, 3) := by decide +kernel
theorem dX0_turn_27 : decode cX0_turn 27 = .ok (.iload_n 1, 1) := by decide +kernel
theorem dX0_turn_28 : decode cX0_turn 28 = .ok (.invokestatic 72, 3) := by decide +kernel
theorem dX0_turn_31 : decode cX0_turn 31 = .ok (.ireturn, 1) := by decide +kernel
theorem dX0_firstTurned_0 : decode cX0_firstTurned 0 = .ok (.iconst 0, 1) := by decide +kernel
theorem dX0_firstTurned_1 : decode cX0_firstTurned 1 = .ok (.istore_n 1, 1) := by decide +kernel
theorem dX0_firstTurned_2 : decode cX0_firstTurned 2 = .ok (.iload_n 1, 1) := by decide +kernel
theorem dX0_firstTurned_3 : decode cX0_firstTurned 3 = .ok (.bipush 8, 2) := by decide +kernel
theorem dX0_firstTurned_5 : decode cX0_firstTurned 5 = .ok (.aload_n 0, 1) := by decide +kernel
theorem dX0_firstTurned_6 : decode cX0_firstTurned 6 = .ok (.invokevirtual 67, 3) := by decide +kernel
theorem dX0_firstTurned_9 : decode cX0_firstTurned 9 = .ok (.imul, 1) := by decide +kernel
theorem dX0_firstTurned_10 : decode cX0_firstTurned 10 = .ok (.if_icmp .ge 30, 3) := by decide +kernel
theorem dX0_firstTurned_13 : decode cX0_firstTurned 13 = .ok (.aload_n 0, 1) := by decide +kernel
theorem dX0_firstTurned_14 : decode cX0_firstTurned 14 = .ok (.getfield 21, 3) := by decide +kernel
theorem dX0_firstTurned_17 : decode cX0_firstTurned 17 = .ok (.iload_n 1, 1) := by decide +kernel
theorem dX0_firstTurned_18 : decode cX0_firstTurned 18 = .ok (.invokestatic 63, 3) := by decide +kernel
theorem dX0_firstTurned_21 : decode cX0_firstTurned 21 = .ok (.aload_n 0, 1) := by decide +kernel
theorem dX0_firstTurned_22 : decode cX0_firstTurned 22 = .ok (.getfield 25, 3) := by decide +kernel
theorem dX0_firstTurned_25 : decode cX0_firstTurned 25 = .ok (.iload_n 1, 1) := by decide +kernel
theorem dX0_firstTurned_26 : decode cX0_firstTurned 26 = .ok (.invokestatic 63, 3) := by decide +kernel
theorem dX0_firstTurned_29 : decode cX0_firstTurned 29 = .ok (.if_icmp .eq 5, 3) := by decide +kernel
theorem dX0_firstTurned_32 : decode cX0_firstTurned 32 = .ok (.iload_n 1, 1) := by decide +kernel
theorem dX0_firstTurned_33 : decode cX0_firstTurned 33 = .ok (.ireturn, 1) := by decide +kernel
theorem dX0_firstTurned_34 : decode cX0_firstTurned 34 = .ok (.iinc 1 1, 3) := by decide +kernel
theorem dX0_firstTurned_37 : decode cX0_firstTurned 37 = .ok (.goto (-35), 3) := by decide +kernel
theorem dX0_firstTurned_40 : decode cX0_firstTurned 40 = .ok (.iconst (-1), 1) := by decide +kernel
theorem dX0_firstTurned_41 : decode cX0_firstTurned 41 = .ok (.ireturn, 1) := by decide +kernel
theorem dX0_bitOf_0 : decode cX0_bitOf 0 = .ok (.aload_n 0, 1) := by decide +kernel
theorem dX0_bitOf_1 : decode cX0_bitOf 1 = .ok (.iload_n 1, 1) := by decide +kernel
theorem dX0_bitOf_2 : decode cX0_bitOf 2 = .ok (.iconst 3, 1) := by decide +kernel
theorem dX0_bitOf_3 : decode cX0_bitOf 3 = .ok (.ishr, 1) := by decide +kernel
theorem dX0_bitOf_4 : decode cX0_bitOf 4 = .ok (.invokestatic 72, 3) := by decide +kernel
theorem dX0_bitOf_7 : decode cX0_bitOf 7 = .ok (.bipush 7, 2) := by decide +kernel
theorem dX0_bitOf_9 : decode cX0_bitOf 9 = .ok (.iload_n 1, 1) := by decide +kernel
theorem dX0_bitOf_10 : decode cX0_bitOf 10 = .ok (.bipush 7, 2) := by decide +kernel
theorem dX0_bitOf_12 : decode cX0_bitOf 12 = .ok (.iand, 1) := by decide +kernel
theorem dX0_bitOf_13 : decode cX0_bitOf 13 = .ok (.isub, 1) := by decide +kernel
theorem dX0_bitOf_14 : decode cX0_bitOf 14 = .ok (.ishr, 1) := by decide +kernel
theorem dX0_bitOf_15 : decode cX0_bitOf 15 = .ok (.iconst 1, 1) := by decide +kernel
theorem dX0_bitOf_16 : decode cX0_bitOf 16 = .ok (.iand, 1) := by decide +kernel
theorem dX0_bitOf_17 : decode cX0_bitOf 17 = .ok (.ireturn, 1) := by decide +kernel
theorem dX0_putNumber_0 : decode cX0_putNumber 0 = .ok (.iload_n 1, 1) := by decide +kernel
theorem dX0_putNumber_1 : decode cX0_putNumber 1 = .ok (.tableswitch 68 0 2 #[27, 35, 43], 27) := by decide +kernel
theorem dX0_putNumber_28 : decode cX0_putNumber 28 = .ok (.aload_n 0, 1) := by decide +kernel
theorem dX0_putNumber_29 : decode cX0_putNumber 29 = .ok (.iload_n 2, 1) := by decide +kernel
theorem dX0_putNumber_30 : decode cX0_putNumber 30 = .ok (.invokevirtual 75, 3) := by decide +kernel
theorem dX0_putNumber_33 : decode cX0_putNumber 33 = .ok (.goto 56, 3) := by decide +kernel
theorem dX0_putNumber_36 : decode cX0_putNumber 36 = .ok (.aload_n 0, 1) := by decide +kernel
theorem dX0_putNumber_37 : decode cX0_putNumber 37 = .ok (.iload_n 2, 1) := by decide +kernel
theorem dX0_putNumber_38 : decode cX0_putNumber 38 = .ok (.invokevirtual 78, 3) := by decide +kernel
theorem dX0_putNumber_41 : decode cX0_putNumber 41 = .ok (.goto 48, 3) := by decide +kernel
theorem dX0_putNumber_44 : decode cX0_putNumber 44 = .ok (.iload_n 2, 1) := by decide +kernel
theorem dX0_putNumber_45 : decode cX0_putNumber 45 = .ok (.iconst 1, 1) := by decide +kernel
theorem dX0_putNumber_46 : decode cX0_putNumber 46 = .ok (.iadd, 1) := by decide +kernel
theorem dX0_putNumber_47 : decode cX0_putNumber 47 = .ok (.invokestatic 81, 3) := by decide +kernel
theorem dX0_putNumber_50 : decode cX0_putNumber 50 = .ok (.iconst 1, 1) := by decide +kernel
theorem dX0_putNumber_51 : decode cX0_putNumber 51 = .ok (.isub, 1) := by decide +kernel
theorem dX0_putNumber_52 : decode cX0_putNumber 52 = .ok (.istore_n 3, 1) := by decide +kernel
theorem dX0_putNumber_53 : decode cX0_putNumber 53 = .ok (.aload_n 0, 1) := by decide +kernel
theorem dX0_putNumber_54 : decode cX0_putNumber 54 = .ok (.iload_n 3, 1) := by decide +kernel
theorem dX0_putNumber_55 : decode cX0_putNumber 55 = .ok (.invokevirtual 78, 3) := by decide +kernel
theorem dX0_putNumber_58 : decode cX0_putNumber 58 = .ok (.aload_n 0, 1) := by decide +kernel
theorem dX0_putNumber_59 : decode cX0_putNumber 59 = .ok (.iload_n 2, 1) := by decide +kernel
theorem dX0_putNumber_60 : decode cX0_putNumber 60 = .ok (.iconst 1, 1) := by decide +kernel
theorem dX0_putNumber_61 : decode cX0_putNumber 61 = .ok (.iadd, 1) := by decide +kernel
theorem dX0_putNumber_62 : decode cX0_putNumber 62 = .ok (.iload_n 3, 1) := by decide +kernel
theorem dX0_putNumber_63 : decode cX0_putNumber 63 = .ok (.invokevirtual 84, 3) := by decide +kernel
theorem dX0_putNumber_66 : decode cX0_putNumber 66 = .ok (.goto 23, 3) := by decide +kernel
theorem dX0_putNumber_69 : decode cX0_putNumber 69 = .ok (.iload_n 1, 1) := by decide +kernel
theorem dX0_putNumber_70 : decode cX0_putNumber 70 = .ok (.iconst 3, 1) := by decide +kernel
theorem dX0_putNumber_71 : decode cX0_putNumber 71 = .ok (.isub, 1) := by decide +kernel
theorem dX0_putNumber_72 : decode cX0_putNumber 72 = .ok (.istore 4, 2) := by decide +kernel
theorem dX0_putNumber_74 : decode cX0_putNumber 74 = .ok (.aload_n 0, 1) := by decide +kernel
theorem dX0_putNumber_75 : decode cX0_putNumber 75 = .ok (.iload_n 2, 1) := by decide +kernel
theorem dX0_putNumber_76 : decode cX0_putNumber 76 = .ok (.iload 4, 2) := by decide +kernel
theorem dX0_putNumber_78 : decode cX0_putNumber 78 = .ok (.ishr, 1) := by decide +kernel
theorem dX0_putNumber_79 : decode cX0_putNumber 79 = .ok (.invokevirtual 75, 3) := by decide +kernel
theorem dX0_putNumber_82 : decode cX0_putNumber 82 = .ok (.aload_n 0, 1) := by decide +kernel
theorem dX0_putNumber_83 : decode cX0_putNumber 83 = .ok (.iload_n 2, 1) := by decide +kernel
theorem dX0_putNumber_84 : decode cX0_putNumber 84 = .ok (.iload 4, 2) := by decide +kernel
theorem dX0_putNumber_86 : decode cX0_putNumber 86 = .ok (.invokevirtual 84, 3) := by decide +kernel
theorem dX0_putNumber_89 : decode cX0_putNumber 89 = .ok (.return_, 1) := by decide +kernel
theorem dX0_putUnary_0 : decode cX0_putUnary 0 = .ok (.iconst 0, 1) := by decide +kernel
theorem dX0_putUnary_1 : decode cX0_putUnary 1 = .ok (.istore_n 2, 1) := by decide +kernel
theorem dX0_putUnary_2 : decode cX0_putUnary 2 = .ok (.iload_n 2, 1) := by decide +kernel
theorem dX0_putUnary_3 : decode cX0_putUnary 3 = .ok (.iload_n 1, 1) := by decide +kernel
theorem dX0_putUnary_4 : decode cX0_putUnary 4 = .ok (.if_icmp .ge 14, 3) := by decide +kernel
theorem dX0_putUnary_7 : decode cX0_putUnary 7 = .ok (.aload_n 0, 1) := by decide +kernel
theorem dX0_putUnary_8 : decode cX0_putUnary 8 = .ok (.iconst 0, 1) := by decide +kernel
theorem dX0_putUnary_9 : decode cX0_putUnary 9 = .ok (.invokevirtual 46, 3) := by decide +kernel
theorem dX0_putUnary_12 : decode cX0_putUnary 12 = .ok (.iinc 2 1, 3) := by decide +kernel
theorem dX0_putUnary_15 : decode cX0_putUnary 15 = .ok (.goto (-13), 3) := by decide +kernel
theorem dX0_putUnary_18 : decode cX0_putUnary 18 = .ok (.aload_n 0, 1) := by decide +kernel
theorem dX0_putUnary_19 : decode cX0_putUnary 19 = .ok (.iconst 1, 1) := by decide +kernel
theorem dX0_putUnary_20 : decode cX0_putUnary 20 = .ok (.invokevirtual 46, 3) := by decide +kernel
theorem dX0_putUnary_23 : decode cX0_putUnary 23 = .ok (.return_, 1) := by decide +kernel
theorem dX0_putDoubled_0 : decode cX0_putDoubled 0 = .ok (.iload_n 1, 1) := by decide +kernel
theorem dX0_putDoubled_1 : decode cX0_putDoubled 1 = .ok (.iconst 1, 1) := by decide +kernel
theorem dX0_putDoubled_2 : decode cX0_putDoubled 2 = .ok (.iadd, 1) := by decide +kernel
theorem dX0_putDoubled_3 : decode cX0_putDoubled 3 = .ok (.invokestatic 81, 3) := by decide +kernel
theorem dX0_putDoubled_6 : decode cX0_putDoubled 6 = .ok (.istore_n 2, 1) := by decide +kernel
theorem dX0_putDoubled_7 : decode cX0_putDoubled 7 = .ok (.iconst 1, 1) := by decide +kernel
theorem dX0_putDoubled_8 : decode cX0_putDoubled 8 = .ok (.istore_n 3, 1) := by decide +kernel
theorem dX0_putDoubled_9 : decode cX0_putDoubled 9 = .ok (.iload_n 3, 1) := by decide +kernel
theorem dX0_putDoubled_10 : decode cX0_putDoubled 10 = .ok (.iload_n 2, 1) := by decide +kernel
theorem dX0_putDoubled_11 : decode cX0_putDoubled 11 = .ok (.if_icmp .ge 14, 3) := by decide +kernel
theorem dX0_putDoubled_14 : decode cX0_putDoubled 14 = .ok (.aload_n 0, 1) := by decide +kernel
theorem dX0_putDoubled_15 : decode cX0_putDoubled 15 = .ok (.iconst 0, 1) := by decide +kernel
theorem dX0_putDoubled_16 : decode cX0_putDoubled 16 = .ok (.invokevirtual 46, 3) := by decide +kernel
theorem dX0_putDoubled_19 : decode cX0_putDoubled 19 = .ok (.iinc 3 1, 3) := by decide +kernel
theorem dX0_putDoubled_22 : decode cX0_putDoubled 22 = .ok (.goto (-13), 3) := by decide +kernel
theorem dX0_putDoubled_25 : decode cX0_putDoubled 25 = .ok (.aload_n 0, 1) := by decide +kernel
theorem dX0_putDoubled_26 : decode cX0_putDoubled 26 = .ok (.iload_n 1, 1) := by decide +kernel
theorem dX0_putDoubled_27 : decode cX0_putDoubled 27 = .ok (.iconst 1, 1) := by decide +kernel
theorem dX0_putDoubled_28 : decode cX0_putDoubled 28 = .ok (.iadd, 1) := by decide +kernel
theorem dX0_putDoubled_29 : decode cX0_putDoubled 29 = .ok (.iload_n 2, 1) := by decide +kernel
theorem dX0_putDoubled_30 : decode cX0_putDoubled 30 = .ok (.invokevirtual 84, 3) := by decide +kernel
theorem dX0_putDoubled_33 : decode cX0_putDoubled 33 = .ok (.return_, 1) := by decide +kernel
theorem dX0_putLowest_0 : decode cX0_putLowest 0 = .ok (.iload_n 2, 1) := by decide +kernel
theorem dX0_putLowest_1 : decode cX0_putLowest 1 = .ok (.iconst 1, 1) := by decide +kernel
theorem dX0_putLowest_2 : decode cX0_putLowest 2 = .ok (.isub, 1) := by decide +kernel
theorem dX0_putLowest_3 : decode cX0_putLowest 3 = .ok (.istore_n 3, 1) := by decide +kernel
theorem dX0_putLowest_4 : decode cX0_putLowest 4 = .ok (.iload_n 3, 1) := by decide +kernel
theorem dX0_putLowest_5 : decode cX0_putLowest 5 = .ok (.ifCond .lt 18, 3) := by decide +kernel
theorem dX0_putLowest_8 : decode cX0_putLowest 8 = .ok (.aload_n 0, 1) := by decide +kernel
theorem dX0_putLowest_9 : decode cX0_putLowest 9 = .ok (.iload_n 1, 1) := by decide +kernel
theorem dX0_putLowest_10 : decode cX0_putLowest 10 = .ok (.iload_n 3, 1) := by decide +kernel
theorem dX0_putLowest_11 : decode cX0_putLowest 11 = .ok (.ishr, 1) := by decide +kernel
theorem dX0_putLowest_12 : decode cX0_putLowest 12 = .ok (.iconst 1, 1) := by decide +kernel
theorem dX0_putLowest_13 : decode cX0_putLowest 13 = .ok (.iand, 1) := by decide +kernel
theorem dX0_putLowest_14 : decode cX0_putLowest 14 = .ok (.invokevirtual 46, 3) := by decide +kernel
theorem dX0_putLowest_17 : decode cX0_putLowest 17 = .ok (.iinc 3 (-1), 3) := by decide +kernel
theorem dX0_putLowest_20 : decode cX0_putLowest 20 = .ok (.goto (-16), 3) := by decide +kernel
theorem dX0_putLowest_23 : decode cX0_putLowest 23 = .ok (.return_, 1) := by decide +kernel
theorem dX0_put_0 : decode cX0_put 0 = .ok (.aload_n 0, 1) := by decide +kernel
theorem dX0_put_1 : decode cX0_put 1 = .ok (.getfield 9, 3) := by decide +kernel
theorem dX0_put_4 : decode cX0_put 4 = .ok (.iconst 3, 1) := by decide +kernel
theorem dX0_put_5 : decode cX0_put 5 = .ok (.ishr, 1) := by decide +kernel
theorem dX0_put_6 : decode cX0_put 6 = .ok (.istore_n 2, 1) := by decide +kernel
theorem dX0_put_7 : decode cX0_put 7 = .ok (.iload_n 2, 1) := by decide +kernel
theorem dX0_put_8 : decode cX0_put 8 = .ok (.ifCond .lt 64, 3) := by decide +kernel
theorem dX0_put_11 : decode cX0_put 11 = .ok (.iload_n 2, 1) := by decide +kernel
theorem dX0_put_12 : decode cX0_put 12 = .ok (.aload_n 0, 1) := by decide +kernel
theorem dX0_put_13 : decode cX0_put 13 = .ok (.getfield 21, 3) := by decide +kernel
theorem dX0_put_16 : decode cX0_put 16 = .ok (.arraylength, 1) := by decide +kernel
theorem dX0_put_17 : decode cX0_put 17 = .ok (.if_icmp .ge 55, 3) := by decide +kernel
theorem dX0_put_20 : decode cX0_put 20 = .ok (.iload_n 2, 1) := by decide +kernel
theorem dX0_put_21 : decode cX0_put 21 = .ok (.aload_n 0, 1) := by decide +kernel
theorem dX0_put_22 : decode cX0_put 22 = .ok (.getfield 25, 3) := by decide +kernel
theorem dX0_put_25 : decode cX0_put 25 = .ok (.arraylength, 1) := by decide +kernel
theorem dX0_put_26 : decode cX0_put 26 = .ok (.if_icmp .ge 46, 3) := by decide +kernel
theorem dX0_put_29 : decode cX0_put 29 = .ok (.iload_n 1, 1) := by decide +kernel
theorem dX0_put_30 : decode cX0_put 30 = .ok (.bipush 7, 2) := by decide +kernel
theorem dX0_put_32 : decode cX0_put 32 = .ok (.aload_n 0, 1) := by decide +kernel
theorem dX0_put_33 : decode cX0_put 33 = .ok (.getfield 9, 3) := by decide +kernel
theorem dX0_put_36 : decode cX0_put 36 = .ok (.bipush 7, 2) := by decide +kernel
theorem dX0_put_38 : decode cX0_put 38 = .ok (.iand, 1) := by decide +kernel
theorem dX0_put_39 : decode cX0_put 39 = .ok (.isub, 1) := by decide +kernel
theorem dX0_put_40 : decode cX0_put 40 = .ok (.ishl, 1) := by decide +kernel
theorem dX0_put_41 : decode cX0_put 41 = .ok (.istore_n 3, 1) := by decide +kernel
theorem dX0_put_42 : decode cX0_put 42 = .ok (.aload_n 0, 1) := by decide +kernel
theorem dX0_put_43 : decode cX0_put 43 = .ok (.getfield 21, 3) := by decide +kernel
theorem dX0_put_46 : decode cX0_put 46 = .ok (.iload_n 2, 1) := by decide +kernel
theorem dX0_put_47 : decode cX0_put 47 = .ok (.dup2, 1) := by decide +kernel
theorem dX0_put_48 : decode cX0_put 48 = .ok (.iaload, 1) := by decide +kernel
theorem dX0_put_49 : decode cX0_put 49 = .ok (.iload_n 3, 1) := by decide +kernel
theorem dX0_put_50 : decode cX0_put 50 = .ok (.ior, 1) := by decide +kernel
theorem dX0_put_51 : decode cX0_put 51 = .ok (.iastore, 1) := by decide +kernel
theorem dX0_put_52 : decode cX0_put 52 = .ok (.aload_n 0, 1) := by decide +kernel
theorem dX0_put_53 : decode cX0_put 53 = .ok (.getfield 25, 3) := by decide +kernel
theorem dX0_put_56 : decode cX0_put 56 = .ok (.iload_n 2, 1) := by decide +kernel
theorem dX0_put_57 : decode cX0_put 57 = .ok (.dup2, 1) := by decide +kernel
theorem dX0_put_58 : decode cX0_put 58 = .ok (.iaload, 1) := by decide +kernel
theorem dX0_put_59 : decode cX0_put 59 = .ok (.iload_n 3, 1) := by decide +kernel
theorem dX0_put_60 : decode cX0_put 60 = .ok (.ior, 1) := by decide +kernel
theorem dX0_put_61 : decode cX0_put 61 = .ok (.iastore, 1) := by decide +kernel
theorem dX0_put_62 : decode cX0_put 62 = .ok (.aload_n 0, 1) := by decide +kernel
theorem dX0_put_63 : decode cX0_put 63 = .ok (.dup, 1) := by decide +kernel
theorem dX0_put_64 : decode cX0_put 64 = .ok (.getfield 9, 3) := by decide +kernel
theorem dX0_put_67 : decode cX0_put 67 = .ok (.iconst 1, 1) := by decide +kernel
theorem dX0_put_68 : decode cX0_put 68 = .ok (.iadd, 1) := by decide +kernel
theorem dX0_put_69 : decode cX0_put 69 = .ok (.putfield 9, 3) := by decide +kernel
theorem dX0_put_72 : decode cX0_put 72 = .ok (.return_, 1) := by decide +kernel
theorem dX1_init_0 : decode cX1_init 0 = .ok (.aload_n 0, 1) := by decide +kernel
theorem dX1_init_1 : decode cX1_init 1 = .ok (.invokespecial 3, 3) := by decide +kernel
theorem dX1_init_4 : decode cX1_init 4 = .ok (.aload_n 0, 1) := by decide +kernel
theorem dX1_init_5 : decode cX1_init 5 = .ok (.sipush 768, 3) := by decide +kernel
theorem dX1_init_8 : decode cX1_init 8 = .ok (.newarray .int, 2) := by decide +kernel
theorem dX1_init_10 : decode cX1_init 10 = .ok (.putfield 11, 3) := by decide +kernel
theorem dX1_init_13 : decode cX1_init 13 = .ok (.aload_n 0, 1) := by decide +kernel
theorem dX1_init_14 : decode cX1_init 14 = .ok (.iconst 0, 1) := by decide +kernel
theorem dX1_init_15 : decode cX1_init 15 = .ok (.putfield 15, 3) := by decide +kernel
theorem dX1_init_18 : decode cX1_init 18 = .ok (.aload_n 0, 1) := by decide +kernel
theorem dX1_init_19 : decode cX1_init 19 = .ok (.iconst 1, 1) := by decide +kernel
theorem dX1_init_20 : decode cX1_init 20 = .ok (.putfield 19, 3) := by decide +kernel
theorem dX1_init_23 : decode cX1_init 23 = .ok (.aload_n 0, 1) := by decide +kernel
theorem dX1_init_24 : decode cX1_init 24 = .ok (.new 23, 3) := by decide +kernel
theorem dX1_init_27 : decode cX1_init 27 = .ok (.dup, 1) := by decide +kernel
theorem dX1_init_28 : decode cX1_init 28 = .ok (.iload_n 1, 1) := by decide +kernel
theorem dX1_init_29 : decode cX1_init 29 = .ok (.invokespecial 25, 3) := by decide +kernel
theorem dX1_init_32 : decode cX1_init 32 = .ok (.putfield 28, 3) := by decide +kernel
theorem dX1_init_35 : decode cX1_init 35 = .ok (.aload_n 0, 1) := by decide +kernel
theorem dX1_init_36 : decode cX1_init 36 = .ok (.new 32, 3) := by decide +kernel
theorem dX1_init_39 : decode cX1_init 39 = .ok (.dup, 1) := by decide +kernel
theorem dX1_init_40 : decode cX1_init 40 = .ok (.iload_n 1, 1) := by decide +kernel
theorem dX1_init_41 : decode cX1_init 41 = .ok (.bipush 64, 2) := by decide +kernel
theorem dX1_init_43 : decode cX1_init 43 = .ok (.imul, 1) := by decide +kernel
theorem dX1_init_44 : decode cX1_init 44 = .ok (.invokespecial 34, 3) := by decide +kernel
theorem dX1_init_47 : decode cX1_init 47 = .ok (.putfield 35, 3) := by decide +kernel
theorem dX1_init_50 : decode cX1_init 50 = .ok (.aload_n 0, 1) := by decide +kernel
theorem dX1_init_51 : decode cX1_init 51 = .ok (.iload_n 1, 1) := by decide +kernel
theorem dX1_init_52 : decode cX1_init 52 = .ok (.newarray .int, 2) := by decide +kernel
theorem dX1_init_54 : decode cX1_init 54 = .ok (.putfield 39, 3) := by decide +kernel
theorem dX1_init_57 : decode cX1_init 57 = .ok (.aload_n 0, 1) := by decide +kernel
theorem dX1_init_58 : decode cX1_init 58 = .ok (.iload_n 1, 1) := by decide +kernel
theorem dX1_init_59 : decode cX1_init 59 = .ok (.newarray .int, 2) := by decide +kernel
theorem dX1_init_61 : decode cX1_init 61 = .ok (.putfield 42, 3) := by decide +kernel
theorem dX1_init_64 : decode cX1_init 64 = .ok (.aload_n 0, 1) := by decide +kernel
theorem dX1_init_65 : decode cX1_init 65 = .ok (.iload_n 1, 1) := by decide +kernel
theorem dX1_init_66 : decode cX1_init 66 = .ok (.newarray .int, 2) := by decide +kernel
theorem dX1_init_68 : decode cX1_init 68 = .ok (.putfield 45, 3) := by decide +kernel
theorem dX1_init_71 : decode cX1_init 71 = .ok (.aload_n 0, 1) := by decide +kernel
theorem dX1_init_72 : decode cX1_init 72 = .ok (.iload_n 1, 1) := by decide +kernel
theorem dX1_init_73 : decode cX1_init 73 = .ok (.iconst 1, 1) := by decide +kernel
theorem dX1_init_74 : decode cX1_init 74 = .ok (.iadd, 1) := by decide +kernel
theorem dX1_init_75 : decode cX1_init 75 = .ok (.newarray .int, 2) := by decide +kernel
theorem dX1_init_77 : decode cX1_init 77 = .ok (.putfield 48, 3) := by decide +kernel
theorem dX1_init_80 : decode cX1_init 80 = .ok (.return_, 1) := by decide +kernel
theorem dX1_isThere_0 : decode cX1_isThere 0 = .ok (.aload_n 0, 1) := by decide +kernel
theorem dX1_isThere_1 : decode cX1_isThere 1 = .ok (.getfield 15, 3) := by decide +kernel
theorem dX1_isThere_4 : decode cX1_isThere 4 = .ok (.ireturn, 1) := by decide +kernel
theorem dX1_forget_0 : decode cX1_forget 0 = .ok (.aload_n 0, 1) := by decide +kernel
theorem dX1_forget_1 : decode cX1_forget 1 = .ok (.iconst 0, 1) := by decide +kernel
theorem dX1_forget_2 : decode cX1_forget 2 = .ok (.putfield 15, 3) := by decide +kernel
theorem dX1_forget_5 : decode cX1_forget 5 = .ok (.return_, 1) := by decide +kernel
theorem dX1_bits_0 : decode cX1_bits 0 = .ok (.aload_n 0, 1) := by decide +kernel
theorem dX1_bits_1 : decode cX1_bits 1 = .ok (.getfield 35, 3) := by decide +kernel
theorem dX1_bits_4 : decode cX1_bits 4 = .ok (.areturn, 1) := by decide +kernel
theorem dX1_kindOf_0 : decode cX1_kindOf 0 = .ok (.aload_n 0, 1) := by decide +kernel
theorem dX1_kindOf_1 : decode cX1_kindOf 1 = .ok (.getfield 39, 3) := by decide +kernel
theorem dX1_kindOf_4 : decode cX1_kindOf 4 = .ok (.iload_n 1, 1) := by decide +kernel
theorem dX1_kindOf_5 : decode cX1_kindOf 5 = .ok (.invokestatic 51, 3) := by decide +kernel
theorem dX1_kindOf_8 : decode cX1_kindOf 8 = .ok (.ireturn, 1) := by decide +kernel
theorem dX1_distanceOf_0 : decode cX1_distanceOf 0 = .ok (.aload_n 0, 1) := by decide +kernel
theorem dX1_distanceOf_1 : decode cX1_distanceOf 1 = .ok (.getfield 42, 3) := by decide +kernel
theorem dX1_distanceOf_4 : decode cX1_distanceOf 4 = .ok (.iload_n 1, 1) := by decide +kernel
theorem dX1_distanceOf_5 : decode cX1_distanceOf 5 = .ok (.invokestatic 51, 3) := by decide +kernel
theorem dX1_distanceOf_8 : decode cX1_distanceOf 8 = .ok (.ireturn, 1) := by decide +kernel
theorem dX1_depthOf_0 : decode cX1_depthOf 0 = .ok (.aload_n 0, 1) := by decide +kernel
theorem dX1_depthOf_1 : decode cX1_depthOf 1 = .ok (.getfield 45, 3) := by decide +kernel
theorem dX1_depthOf_4 : decode cX1_depthOf 4 = .ok (.iload_n 1, 1) := by decide +kernel
theorem dX1_depthOf_5 : decode cX1_depthOf 5 = .ok (.invokestatic 51, 3) := by decide +kernel
theorem dX1_depthOf_8 : decode cX1_depthOf 8 = .ok (.ireturn, 1) := by decide +kernel
theorem dX1_startOf_0 : decode cX1_startOf 0 = .ok (.aload_n 0, 1) := by decide +kernel
theorem dX1_startOf_1 : decode cX1_startOf 1 = .ok (.getfield 48, 3) := by decide +kernel
theorem dX1_startOf_4 : decode cX1_startOf 4 = .ok (.iload_n 1, 1) := by decide +kernel
theorem dX1_startOf_5 : decode cX1_startOf 5 = .ok (.invokestatic 51, 3) := by decide +kernel
theorem dX1_startOf_8 : decode cX1_startOf 8 = .ok (.ireturn, 1) := by decide +kernel
theorem dX1_isPatch_0 : decode cX1_isPatch 0 = .ok (.aload_n 0, 1) := by decide +kernel
theorem dX1_isPatch_1 : decode cX1_isPatch 1 = .ok (.getfield 15, 3) := by decide +kernel
theorem dX1_isPatch_4 : decode cX1_isPatch 4 = .ok (.ifCond .eq 25, 3) := by decide +kernel
theorem dX1_isPatch_7 : decode cX1_isPatch 7 = .ok (.aload_n 1, 1) := by decide +kernel
theorem dX1_isPatch_8 : decode cX1_isPatch 8 = .ok (.iload_n 2, 1) := by decide +kernel
theorem dX1_isPatch_9 : decode cX1_isPatch 9 = .ok (.iload_n 3, 1) := by decide +kernel
theorem dX1_isPatch_10 : decode cX1_isPatch 10 = .ok (.invokevirtual 55, 3) := by decide +kernel
theorem dX1_isPatch_13 : decode cX1_isPatch 13 = .ok (.aload_n 0, 1) := by decide +kernel
theorem dX1_isPatch_14 : decode cX1_isPatch 14 = .ok (.getfield 28, 3) := by decide +kernel
theorem dX1_isPatch_17 : decode cX1_isPatch 17 = .ok (.iload_n 2, 1) := by decide +kernel
theorem dX1_isPatch_18 : decode cX1_isPatch 18 = .ok (.iload_n 3, 1) := by decide +kernel
theorem dX1_isPatch_19 : decode cX1_isPatch 19 = .ok (.invokevirtual 55, 3) := by decide +kernel
theorem dX1_isPatch_22 : decode cX1_isPatch 22 = .ok (.if_icmp .eq 7, 3) := by decide +kernel
theorem dX1_isPatch_25 : decode cX1_isPatch 25 = .ok (.iconst 1, 1) := by decide +kernel
theorem dX1_isPatch_26 : decode cX1_isPatch 26 = .ok (.goto 4, 3) := by decide +kernel
theorem dX1_isPatch_29 : decode cX1_isPatch 29 = .ok (.iconst 0, 1) := by decide +kernel
theorem dX1_isPatch_30 : decode cX1_isPatch 30 = .ok (.ireturn, 1) := by decide +kernel
theorem dX1_patchesTo_0 : decode cX1_patchesTo 0 = .ok (.aload_n 0, 1) := by decide +kernel
theorem dX1_patchesTo_1 : decode cX1_patchesTo 1 = .ok (.getfield 15, 3) := by decide +kernel
theorem dX1_patchesTo_4 : decode cX1_patchesTo 4 = .ok (.ifCond .eq 14, 3) := by decide +kernel
theorem dX1_patchesTo_7 : decode cX1_patchesTo 7 = .ok (.aload_n 0, 1) := by decide +kernel
theorem dX1_patchesTo_8 : decode cX1_patchesTo 8 = .ok (.getfield 28, 3) := by decide +kernel
theorem dX1_patchesTo_11 : decode cX1_patchesTo 11 = .ok (.aload_n 1, 1) := by decide +kernel
theorem dX1_patchesTo_12 : decode cX1_patchesTo 12 = .ok (.invokevirtual 59, 3) := by decide +kernel
theorem dX1_patchesTo_15 : decode cX1_patchesTo 15 = .ok (.goto 4, 3) := by decide +kernel
theorem dX1_patchesTo_18 : decode cX1_patchesTo 18 = .ok (.iconst 0, 1) := by decide +kernel
theorem dX1_patchesTo_19 : decode cX1_patchesTo 19 = .ok (.ireturn, 1) := by decide +kernel
theorem dX1_decideAll_0 : decode cX1_decideAll 0 = .ok (.aload_n 0, 1) := by decide +kernel
theorem dX1_decideAll_1 : decode cX1_decideAll 1 = .ok (.getfield 28, 3) := by decide +kernel
theorem dX1_decideAll_4 : decode cX1_decideAll 4 = .ok (.aload_n 1, 1) := by decide +kernel
theorem dX1_decideAll_5 : decode cX1_decideAll 5 = .ok (.invokevirtual 63, 3) := by decide +kernel
theorem dX1_decideAll_8 : decode cX1_decideAll 8 = .ok (.aload_n 0, 1) := by decide +kernel
theorem dX1_decideAll_9 : decode cX1_decideAll 9 = .ok (.iconst 1, 1) := by decide +kernel
theorem dX1_decideAll_10 : decode cX1_decideAll 10 = .ok (.aload_n 2, 1) := by decide +kernel
theorem dX1_decideAll_11 : decode cX1_decideAll 11 = .ok (.iconst 2, 1) := by decide +kernel
theorem dX1_decideAll_12 : decode cX1_decideAll 12 = .ok (.invokevirtual 67, 3) := by decide +kernel
theorem dX1_decideAll_15 : decode cX1_decideAll 15 = .ok (.invokestatic 73, 3) := by decide +kernel
theorem dX1_decideAll_18 : decode cX1_decideAll 18 = .ok (.putfield 19, 3) := by decide +kernel
theorem dX1_decideAll_21 : decode cX1_decideAll 21 = .ok (.aload_n 0, 1) := by decide +kernel
theorem dX1_decideAll_22 : decode cX1_decideAll 22 = .ok (.getfield 11, 3) := by decide +kernel
theorem dX1_decideAll_25 : decode cX1_decideAll 25 = .ok (.iconst 0, 1) := by decide +kernel
theorem dX1_decideAll_26 : decode cX1_decideAll 26 = .ok (.invokestatic 79, 3) := by decide +kernel
theorem dX1_decideAll_29 : decode cX1_decideAll 29 = .ok (.iconst 0, 1) := by decide +kernel
theorem dX1_decideAll_30 : decode cX1_decideAll 30 = .ok (.istore 4, 2) := by decide +kernel
theorem dX1_decideAll_32 : decode cX1_decideAll 32 = .ok (.iload 4, 2) := by decide +kernel
theorem dX1_decideAll_34 : decode cX1_decideAll 34 = .ok (.aload_n 0, 1) := by decide +kernel
theorem dX1_decideAll_35 : decode cX1_decideAll 35 = .ok (.getfield 39, 3) := by decide +kernel
theorem dX1_decideAll_38 : decode cX1_decideAll 38 = .ok (.arraylength, 1) := by decide +kernel
theorem dX1_decideAll_39 : decode cX1_decideAll 39 = .ok (.if_icmp .ge 45, 3) := by decide +kernel
theorem dX1_decideAll_42 : decode cX1_decideAll 42 = .ok (.aload_n 0, 1) := by decide +kernel
theorem dX1_decideAll_43 : decode cX1_decideAll 43 = .ok (.iload 4, 2) := by decide +kernel
theorem dX1_decideAll_45 : decode cX1_decideAll 45 = .ok (.aload_n 2, 1) := by decide +kernel
theorem dX1_decideAll_46 : decode cX1_decideAll 46 = .ok (.aload_n 3, 1) := by decide +kernel
theorem dX1_decideAll_47 : decode cX1_decideAll 47 = .ok (.invokevirtual 85, 3) := by decide +kernel
theorem dX1_decideAll_50 : decode cX1_decideAll 50 = .ok (.aload_n 3, 1) := by decide +kernel
theorem dX1_decideAll_51 : decode cX1_decideAll 51 = .ok (.aload_n 0, 1) := by decide +kernel
theorem dX1_decideAll_52 : decode cX1_decideAll 52 = .ok (.getfield 28, 3) := by decide +kernel
theorem dX1_decideAll_55 : decode cX1_decideAll 55 = .ok (.iload 4, 2) := by decide +kernel
theorem dX1_decideAll_57 : decode cX1_decideAll 57 = .ok (.aload_n 0, 1) := by decide +kernel
theorem dX1_decideAll_58 : decode cX1_decideAll 58 = .ok (.iload 4, 2) := by decide +kernel
theorem dX1_decideAll_60 : decode cX1_decideAll 60 = .ok (.invokevirtual 89, 3) := by decide +kernel
theorem dX1_decideAll_63 : decode cX1_decideAll 63 = .ok (.aload_n 0, 1) := by decide +kernel
theorem dX1_decideAll_64 : decode cX1_decideAll 64 = .ok (.iload 4, 2) := by decide +kernel
theorem dX1_decideAll_66 : decode cX1_decideAll 66 = .ok (.invokevirtual 92, 3) := by decide +kernel
theorem dX1_decideAll_69 : decode cX1_decideAll 69 = .ok (.invokevirtual 95, 3) := by decide +kernel
theorem dX1_decideAll_72 : decode cX1_decideAll 72 = .ok (.pop, 1) := by decide +kernel
theorem dX1_decideAll_73 : decode cX1_decideAll 73 = .ok (.aload_n 0, 1) := by decide +kernel
theorem dX1_decideAll_74 : decode cX1_decideAll 74 = .ok (.aload_n 3, 1) := by decide +kernel
theorem dX1_decideAll_75 : decode cX1_decideAll 75 = .ok (.invokevirtual 101, 3) := by decide +kernel
theorem dX1_decideAll_78 : decode cX1_decideAll 78 = .ok (.iinc 4 1, 3) := by decide +kernel
theorem dX1_decideAll_81 : decode cX1_decideAll 81 = .ok (.goto (-49), 3) := by decide +kernel
theorem dX1_decideAll_84 : decode cX1_decideAll 84 = .ok (.aload_n 0, 1) := by decide +kernel
theorem dX1_decideAll_85 : decode cX1_decideAll 85 = .ok (.iconst 1, 1) := by decide +kernel
theorem dX1_decideAll_86 : decode cX1_decideAll 86 = .ok (.putfield 15, 3) := by decide +kernel
theorem dX1_decideAll_89 : decode cX1_decideAll 89 = .ok (.return_, 1) := by decide +kernel
theorem dX1_writeAnew_0 : decode cX1_writeAnew 0 = .ok (.aload_n 0, 1) := by decide +kernel
theorem dX1_writeAnew_1 : decode cX1_writeAnew 1 = .ok (.getfield 35, 3) := by decide +kernel
theorem dX1_writeAnew_4 : decode cX1_writeAnew 4 = .ok (.invokevirtual 105, 3) := by decide +kernel
theorem dX1_writeAnew_7 : decode cX1_writeAnew 7 = .ok (.iconst 0, 1) := by decide +kernel
theorem dX1_writeAnew_8 : decode cX1_writeAnew 8 = .ok (.istore_n 3, 1) := by decide +kernel
theorem dX1_writeAnew_9 : decode cX1_writeAnew 9 = .ok (.iload_n 3, 1) := by decide +kernel
theorem dX1_writeAnew_10 : decode cX1_writeAnew 10 = .ok (.aload_n 0, 1) := by decide +kernel
theorem dX1_writeAnew_11 : decode cX1_writeAnew 11 = .ok (.getfield 39, 3) := by decide +kernel
theorem dX1_writeAnew_14 : decode cX1_writeAnew 14 = .ok (.arraylength, 1) := by decide +kernel
theorem dX1_writeAnew_15 : decode cX1_writeAnew 15 = .ok (.if_icmp .ge 77, 3) := by decide +kernel
theorem dX1_writeAnew_18 : decode cX1_writeAnew 18 = .ok (.iload_n 3, 1) := by decide +kernel
theorem dX1_writeAnew_19 : decode cX1_writeAnew 19 = .ok (.iconst 1, 1) := by decide +kernel
theorem dX1_writeAnew_20 : decode cX1_writeAnew 20 = .ok (.iadd, 1) := by decide +kernel
theorem dX1_writeAnew_21 : decode cX1_writeAnew 21 = .ok (.aload_n 0, 1) := by decide +kernel
theorem dX1_writeAnew_22 : decode cX1_writeAnew 22 = .ok (.getfield 48, 3) := by decide +kernel
theorem dX1_writeAnew_25 : decode cX1_writeAnew 25 = .ok (.arraylength, 1) := by decide +kernel
theorem dX1_writeAnew_26 : decode cX1_writeAnew 26 = .ok (.if_icmp .ge 66, 3) := by decide +kernel
theorem dX1_writeAnew_29 : decode cX1_writeAnew 29 = .ok (.aload_n 0, 1) := by decide +kernel
theorem dX1_writeAnew_30 : decode cX1_writeAnew 30 = .ok (.getfield 48, 3) := by decide +kernel
theorem dX1_writeAnew_33 : decode cX1_writeAnew 33 = .ok (.iload_n 3, 1) := by decide +kernel
theorem dX1_writeAnew_34 : decode cX1_writeAnew 34 = .ok (.aload_n 0, 1) := by decide +kernel
theorem dX1_writeAnew_35 : decode cX1_writeAnew 35 = .ok (.getfield 35, 3) := by decide +kernel
theorem dX1_writeAnew_38 : decode cX1_writeAnew 38 = .ok (.invokevirtual 108, 3) := by decide +kernel
theorem dX1_writeAnew_41 : decode cX1_writeAnew 41 = .ok (.iastore, 1) := by decide +kernel
theorem dX1_writeAnew_42 : decode cX1_writeAnew 42 = .ok (.aload_n 2, 1) := by decide +kernel
theorem dX1_writeAnew_43 : decode cX1_writeAnew 43 = .ok (.aload_n 0, 1) := by decide +kernel
theorem dX1_writeAnew_44 : decode cX1_writeAnew 44 = .ok (.getfield 28, 3) := by decide +kernel
theorem dX1_writeAnew_47 : decode cX1_writeAnew 47 = .ok (.iload_n 3, 1) := by decide +kernel
theorem dX1_writeAnew_48 : decode cX1_writeAnew 48 = .ok (.aload_n 0, 1) := by decide +kernel
theorem dX1_writeAnew_49 : decode cX1_writeAnew 49 = .ok (.iload_n 3, 1) := by decide +kernel
theorem dX1_writeAnew_50 : decode cX1_writeAnew 50 = .ok (.invokevirtual 89, 3) := by decide +kernel
theorem dX1_writeAnew_53 : decode cX1_writeAnew 53 = .ok (.aload_n 0, 1) := by decide +kernel
theorem dX1_writeAnew_54 : decode cX1_writeAnew 54 = .ok (.iload_n 3, 1) := by decide +kernel
theorem dX1_writeAnew_55 : decode cX1_writeAnew 55 = .ok (.invokevirtual 92, 3) := by decide +kernel
theorem dX1_writeAnew_58 : decode cX1_writeAnew 58 = .ok (.invokevirtual 95, 3) := by decide +kernel
theorem dX1_writeAnew_61 : decode cX1_writeAnew 61 = .ok (.pop, 1) := by decide +kernel
theorem dX1_writeAnew_62 : decode cX1_writeAnew 62 = .ok (.aload_n 0, 1) := by decide +kernel
theorem dX1_writeAnew_63 : decode cX1_writeAnew 63 = .ok (.getfield 35, 3) := by decide +kernel
theorem dX1_writeAnew_66 : decode cX1_writeAnew 66 = .ok (.aload_n 2, 1) := by decide +kernel
theorem dX1_writeAnew_67 : decode cX1_writeAnew 67 = .ok (.aload_n 1, 1) := by decide +kernel
theorem dX1_writeAnew_68 : decode cX1_writeAnew 68 = .ok (.invokevirtual 112, 3) := by decide +kernel
theorem dX1_writeAnew_71 : decode cX1_writeAnew 71 = .ok (.aload_n 0, 1) := by decide +kernel
theorem dX1_writeAnew_72 : decode cX1_writeAnew 72 = .ok (.getfield 48, 3) := by decide +kernel
theorem dX1_writeAnew_75 : decode cX1_writeAnew 75 = .ok (.iload_n 3, 1) := by decide +kernel
theorem dX1_writeAnew_76 : decode cX1_writeAnew 76 = .ok (.iconst 1, 1) := by decide +kernel
theorem dX1_writeAnew_77 : decode cX1_writeAnew 77 = .ok (.iadd, 1) := by decide +kernel
theorem dX1_writeAnew_78 : decode cX1_writeAnew 78 = .ok (.aload_n 0, 1) := by decide +kernel
theorem dX1_writeAnew_79 : decode cX1_writeAnew 79 = .ok (.getfield 35, 3) := by decide +kernel
theorem dX1_writeAnew_82 : decode cX1_writeAnew 82 = .ok (.invokevirtual 108, 3) := by decide +kernel
theorem dX1_writeAnew_85 : decode cX1_writeAnew 85 = .ok (.iastore, 1) := by decide +kernel
theorem dX1_writeAnew_86 : decode cX1_writeAnew 86 = .ok (.iinc 3 1, 3) := by decide +kernel
theorem dX1_writeAnew_89 : decode cX1_writeAnew 89 = .ok (.goto (-80), 3) := by decide +kernel
theorem dX1_writeAnew_92 : decode cX1_writeAnew 92 = .ok (.aload_n 0, 1) := by decide +kernel
theorem dX1_writeAnew_93 : decode cX1_writeAnew 93 = .ok (.getfield 35, 3) := by decide +kernel
theorem dX1_writeAnew_96 : decode cX1_writeAnew 96 = .ok (.invokevirtual 108, 3) := by decide +kernel
theorem dX1_writeAnew_99 : decode cX1_writeAnew 99 = .ok (.ireturn, 1) := by decide +kernel
theorem dX1_bitsOfUse_0 : decode cX1_bitsOfUse 0 = .ok (.iconst 0, 1) := by decide +kernel
theorem dX1_bitsOfUse_1 : decode cX1_bitsOfUse 1 = .ok (.istore_n 3, 1) := by decide +kernel
theorem dX1_bitsOfUse_2 : decode cX1_bitsOfUse 2 = .ok (.iconst 0, 1) := by decide +kernel
theorem dX1_bitsOfUse_3 : decode cX1_bitsOfUse 3 = .ok (.istore 4, 2) := by decide +kernel
theorem dX1_bitsOfUse_5 : decode cX1_bitsOfUse 5 = .ok (.iload 4, 2) := by decide +kernel
theorem dX1_bitsOfUse_7 : decode cX1_bitsOfUse 7 = .ok (.bipush 96, 2) := by decide +kernel
theorem dX1_bitsOfUse_9 : decode cX1_bitsOfUse 9 = .ok (.if_icmp .ge 33, 3) := by decide +kernel
theorem dX1_bitsOfUse_12 : decode cX1_bitsOfUse 12 = .ok (.iload_n 3, 1) := by decide +kernel
theorem dX1_bitsOfUse_13 : decode cX1_bitsOfUse 13 = .ok (.aload_n 0, 1) := by decide +kernel
theorem dX1_bitsOfUse_14 : decode cX1_bitsOfUse 14 = .ok (.getfield 11, 3) := by decide +kernel
theorem dX1_bitsOfUse_17 : decode cX1_bitsOfUse 17 = .ok (.iload_n 1, 1) := by decide +kernel
theorem dX1_bitsOfUse_18 : decode cX1_bitsOfUse 18 = .ok (.bipush 96, 2) := by decide +kernel
theorem dX1_bitsOfUse_20 : decode cX1_bitsOfUse 20 = .ok (.imul, 1) := by decide +kernel
theorem dX1_bitsOfUse_21 : decode cX1_bitsOfUse 21 = .ok (.iload 4, 2) := by decide +kernel
theorem dX1_bitsOfUse_23 : decode cX1_bitsOfUse 23 = .ok (.iadd, 1) := by decide +kernel
theorem dX1_bitsOfUse_24 : decode cX1_bitsOfUse 24 = .ok (.invokestatic 51, 3) := by decide +kernel
theorem dX1_bitsOfUse_27 : decode cX1_bitsOfUse 27 = .ok (.iload_n 2, 1) := by decide +kernel
theorem dX1_bitsOfUse_28 : decode cX1_bitsOfUse 28 = .ok (.iload 4, 2) := by decide +kernel
theorem dX1_bitsOfUse_30 : decode cX1_bitsOfUse 30 = .ok (.invokestatic 116, 3) := by decide +kernel
theorem dX1_bitsOfUse_33 : decode cX1_bitsOfUse 33 = .ok (.imul, 1) := by decide +kernel
theorem dX1_bitsOfUse_34 : decode cX1_bitsOfUse 34 = .ok (.iadd, 1) := by decide +kernel
theorem dX1_bitsOfUse_35 : decode cX1_bitsOfUse 35 = .ok (.istore_n 3, 1) := by decide +kernel
theorem dX1_bitsOfUse_36 : decode cX1_bitsOfUse 36 = .ok (.iinc 4 1, 3) := by decide +kernel
theorem dX1_bitsOfUse_39 : decode cX1_bitsOfUse 39 = .ok (.goto (-34), 3) := by decide +kernel
theorem dX1_bitsOfUse_42 : decode cX1_bitsOfUse 42 = .ok (.iload_n 3, 1) := by decide +kernel
theorem dX1_bitsOfUse_43 : decode cX1_bitsOfUse 43 = .ok (.ireturn, 1) := by decide +kernel
theorem dX1_cheapestForm_0 : decode cX1_cheapestForm 0 = .ok (.iconst 0, 1) := by decide +kernel
theorem dX1_cheapestForm_1 : decode cX1_cheapestForm 1 = .ok (.istore_n 2, 1) := by decide +kernel
theorem dX1_cheapestForm_2 : decode cX1_cheapestForm 2 = .ok (.iconst 1, 1) := by decide +kernel
theorem dX1_cheapestForm_3 : decode cX1_cheapestForm 3 = .ok (.istore_n 3, 1) := by decide +kernel
theorem dX1_cheapestForm_4 : decode cX1_cheapestForm 4 = .ok (.iload_n 3, 1) := by decide +kernel
theorem dX1_cheapestForm_5 : decode cX1_cheapestForm 5 = .ok (.bipush 10, 2) := by decide +kernel
theorem dX1_cheapestForm_7 : decode cX1_cheapestForm 7 = .ok (.if_icmp .ge 26, 3) := by decide +kernel
theorem dX1_cheapestForm_10 : decode cX1_cheapestForm 10 = .ok (.aload_n 0, 1) := by decide +kernel
theorem dX1_cheapestForm_11 : decode cX1_cheapestForm 11 = .ok (.iload_n 1, 1) := by decide +kernel
theorem dX1_cheapestForm_12 : decode cX1_cheapestForm 12 = .ok (.iload_n 3, 1) := by decide +kernel
theorem dX1_cheapestForm_13 : decode cX1_cheapestForm 13 = .ok (.invokevirtual 119, 3) := by decide +kernel
theorem dX1_cheapestForm_16 : decode cX1_cheapestForm 16 = .ok (.aload_n 0, 1) := by decide +kernel
theorem dX1_cheapestForm_17 : decode cX1_cheapestForm 17 = .ok (.iload_n 1, 1) := by decide +kernel
theorem dX1_cheapestForm_18 : decode cX1_cheapestForm 18 = .ok (.iload_n 2, 1) := by decide +kernel
theorem dX1_cheapestForm_19 : decode cX1_cheapestForm 19 = .ok (.invokevirtual 119, 3) := by decide +kernel
theorem dX1_cheapestForm_22 : decode cX1_cheapestForm 22 = .ok (.if_icmp .ge 5, 3) := by decide +kernel
theorem dX1_cheapestForm_25 : decode cX1_cheapestForm 25 = .ok (.iload_n 3, 1) := by decide +kernel
theorem dX1_cheapestForm_26 : decode cX1_cheapestForm 26 = .ok (.istore_n 2, 1) := by decide +kernel
theorem dX1_cheapestForm_27 : decode cX1_cheapestForm 27 = .ok (.iinc 3 1, 3) := by decide +kernel
theorem dX1_cheapestForm_30 : decode cX1_cheapestForm 30 = .ok (.goto (-26), 3) := by decide +kernel
theorem dX1_cheapestForm_33 : decode cX1_cheapestForm 33 = .ok (.iload_n 2, 1) := by decide +kernel
theorem dX1_cheapestForm_34 : decode cX1_cheapestForm 34 = .ok (.ireturn, 1) := by decide +kernel
theorem dX1_bitsToRead_0 : decode cX1_bitsToRead 0 = .ok (.iconst 0, 1) := by decide +kernel
theorem dX1_bitsToRead_1 : decode cX1_bitsToRead 1 = .ok (.istore_n 2, 1) := by decide +kernel
theorem dX1_bitsToRead_2 : decode cX1_bitsToRead 2 = .ok (.iload_n 1, 1) := by decide +kernel
theorem dX1_bitsToRead_3 : decode cX1_bitsToRead 3 = .ok (.istore_n 3, 1) := by decide +kernel
theorem dX1_bitsToRead_4 : decode cX1_bitsToRead 4 = .ok (.iconst 0, 1) := by decide +kernel
theorem dX1_bitsToRead_5 : decode cX1_bitsToRead 5 = .ok (.istore 4, 2) := by decide +kernel
theorem dX1_bitsToRead_7 : decode cX1_bitsToRead 7 = .ok (.iload 4, 2) := by decide +kernel
theorem dX1_bitsToRead_9 : decode cX1_bitsToRead 9 = .ok (.iconst 5, 1) := by decide +kernel
theorem dX1_bitsToRead_10 : decode cX1_bitsToRead 10 = .ok (.if_icmp .gt 60, 3) := by decide +kernel
theorem dX1_bitsToRead_13 : decode cX1_bitsToRead 13 = .ok (.iload_n 2, 1) := by decide +kernel
theorem dX1_bitsToRead_14 : decode cX1_bitsToRead 14 = .ok (.aload_n 0, 1) := by decide +kernel
theorem dX1_bitsToRead_15 : decode cX1_bitsToRead 15 = .ok (.iload_n 3, 1) := by decide +kernel
theorem dX1_bitsToRead_16 : decode cX1_bitsToRead 16 = .ok (.iconst 1, 1) := by decide +kernel
theorem dX1_bitsToRead_17 : decode cX1_bitsToRead 17 = .ok (.iadd, 1) := by decide +kernel
theorem dX1_bitsToRead_18 : decode cX1_bitsToRead 18 = .ok (.invokevirtual 122, 3) := by decide +kernel
theorem dX1_bitsToRead_21 : decode cX1_bitsToRead 21 = .ok (.aload_n 0, 1) := by decide +kernel
theorem dX1_bitsToRead_22 : decode cX1_bitsToRead 22 = .ok (.iload_n 3, 1) := by decide +kernel
theorem dX1_bitsToRead_23 : decode cX1_bitsToRead 23 = .ok (.iload_n 3, 1) := by decide +kernel
theorem dX1_bitsToRead_24 : decode cX1_bitsToRead 24 = .ok (.iconst 1, 1) := by decide +kernel
theorem dX1_bitsToRead_25 : decode cX1_bitsToRead 25 = .ok (.aload_n 0, 1) := by decide +kernel
theorem dX1_bitsToRead_26 : decode cX1_bitsToRead 26 = .ok (.getfield 19, 3) := by decide +kernel
theorem dX1_bitsToRead_29 : decode cX1_bitsToRead 29 = .ok (.invokestatic 73, 3) := by decide +kernel
theorem dX1_bitsToRead_32 : decode cX1_bitsToRead 32 = .ok (.invokestatic 125, 3) := by decide +kernel
theorem dX1_bitsToRead_35 : decode cX1_bitsToRead 35 = .ok (.isub, 1) := by decide +kernel
theorem dX1_bitsToRead_36 : decode cX1_bitsToRead 36 = .ok (.invokevirtual 122, 3) := by decide +kernel
theorem dX1_bitsToRead_39 : decode cX1_bitsToRead 39 = .ok (.isub, 1) := by decide +kernel
theorem dX1_bitsToRead_40 : decode cX1_bitsToRead 40 = .ok (.iadd, 1) := by decide +kernel
theorem dX1_bitsToRead_41 : decode cX1_bitsToRead 41 = .ok (.istore_n 2, 1) := by decide +kernel
theorem dX1_bitsToRead_42 : decode cX1_bitsToRead 42 = .ok (.aload_n 0, 1) := by decide +kernel
theorem dX1_bitsToRead_43 : decode cX1_bitsToRead 43 = .ok (.iload_n 3, 1) := by decide +kernel
theorem dX1_bitsToRead_44 : decode cX1_bitsToRead 44 = .ok (.invokevirtual 89, 3) := by decide +kernel
theorem dX1_bitsToRead_47 : decode cX1_bitsToRead 47 = .ok (.invokestatic 128, 3) := by decide +kernel
theorem dX1_bitsToRead_50 : decode cX1_bitsToRead 50 = .ok (.ifCond .ne 6, 3) := by decide +kernel
theorem dX1_bitsToRead_53 : decode cX1_bitsToRead 53 = .ok (.goto 17, 3) := by decide +kernel
theorem dX1_bitsToRead_56 : decode cX1_bitsToRead 56 = .ok (.iload_n 3, 1) := by decide +kernel
theorem dX1_bitsToRead_57 : decode cX1_bitsToRead 57 = .ok (.aload_n 0, 1) := by decide +kernel
theorem dX1_bitsToRead_58 : decode cX1_bitsToRead 58 = .ok (.iload_n 3, 1) := by decide +kernel
theorem dX1_bitsToRead_59 : decode cX1_bitsToRead 59 = .ok (.invokevirtual 92, 3) := by decide +kernel
theorem dX1_bitsToRead_62 : decode cX1_bitsToRead 62 = .ok (.isub, 1) := by decide +kernel
theorem dX1_bitsToRead_63 : decode cX1_bitsToRead 63 = .ok (.istore_n 3, 1) := by decide +kernel
theorem dX1_bitsToRead_64 : decode cX1_bitsToRead 64 = .ok (.iinc 4 1, 3) := by decide +kernel
theorem dX1_bitsToRead_67 : decode cX1_bitsToRead 67 = .ok (.goto (-60), 3) := by decide +kernel
theorem dX1_bitsToRead_70 : decode cX1_bitsToRead 70 = .ok (.iload_n 2, 1) := by decide +kernel
theorem dX1_bitsToRead_71 : decode cX1_bitsToRead 71 = .ok (.ireturn, 1) := by decide +kernel
theorem dX1_placeCount_0 : decode cX1_placeCount 0 = .ok (.aload_n 0, 1) := by decide +kernel
theorem dX1_placeCount_1 : decode cX1_placeCount 1 = .ok (.getfield 15, 3) := by decide +kernel
theorem dX1_placeCount_4 : decode cX1_placeCount 4 = .ok (.ifCond .eq 27, 3) := by decide +kernel
theorem dX1_placeCount_7 : decode cX1_placeCount 7 = .ok (.aload_n 0, 1) := by decide +kernel
theorem dX1_placeCount_8 : decode cX1_placeCount 8 = .ok (.getfield 39, 3) := by decide +kernel
theorem dX1_placeCount_11 : decode cX1_placeCount 11 = .ok (.arraylength, 1) := by decide +kernel
theorem dX1_placeCount_12 : decode cX1_placeCount 12 = .ok (.aload_n 0, 1) := by decide +kernel
theorem dX1_placeCount_13 : decode cX1_placeCount 13 = .ok (.getfield 19, 3) := by decide +kernel
theorem dX1_placeCount_16 : decode cX1_placeCount 16 = .ok (.iadd, 1) := by decide +kernel
theorem dX1_placeCount_17 : decode cX1_placeCount 17 = .ok (.iconst 1, 1) := by decide +kernel
theorem dX1_placeCount_18 : decode cX1_placeCount 18 = .ok (.isub, 1) := by decide +kernel
theorem dX1_placeCount_19 : decode cX1_placeCount 19 = .ok (.iconst 1, 1) := by decide +kernel
theorem dX1_placeCount_20 : decode cX1_placeCount 20 = .ok (.aload_n 0, 1) := by decide +kernel
theorem dX1_placeCount_21 : decode cX1_placeCount 21 = .ok (.getfield 19, 3) := by decide +kernel
theorem dX1_placeCount_24 : decode cX1_placeCount 24 = .ok (.invokestatic 73, 3) := by decide +kernel
theorem dX1_placeCount_27 : decode cX1_placeCount 27 = .ok (.idiv, 1) := by decide +kernel
theorem dX1_placeCount_28 : decode cX1_placeCount 28 = .ok (.goto 4, 3) := by decide +kernel
theorem dX1_placeCount_31 : decode cX1_placeCount 31 = .ok (.iconst 0, 1) := by decide +kernel
theorem dX1_placeCount_32 : decode cX1_placeCount 32 = .ok (.ireturn, 1) := by decide +kernel
theorem dX1_placeStart_0 : decode cX1_placeStart 0 = .ok (.aload_n 0, 1) := by decide +kernel
theorem dX1_placeStart_1 : decode cX1_placeStart 1 = .ok (.iload_n 1, 1) := by decide +kernel
theorem dX1_placeStart_2 : decode cX1_placeStart 2 = .ok (.aload_n 0, 1) := by decide +kernel
theorem dX1_placeStart_3 : decode cX1_placeStart 3 = .ok (.getfield 19, 3) := by decide +kernel
theorem dX1_placeStart_6 : decode cX1_placeStart 6 = .ok (.imul, 1) := by decide +kernel
theorem dX1_placeStart_7 : decode cX1_placeStart 7 = .ok (.invokevirtual 122, 3) := by decide +kernel
theorem dX1_placeStart_10 : decode cX1_placeStart 10 = .ok (.ireturn, 1) := by decide +kernel
theorem dX1_firstSpoiled_0 : decode cX1_firstSpoiled 0 = .ok (.aload_n 0, 1) := by decide +kernel
theorem dX1_firstSpoiled_1 : decode cX1_firstSpoiled 1 = .ok (.getfield 35, 3) := by decide +kernel
theorem dX1_firstSpoiled_4 : decode cX1_firstSpoiled 4 = .ok (.invokevirtual 132, 3) := by decide +kernel
theorem dX1_firstSpoiled_7 : decode cX1_firstSpoiled 7 = .ok (.istore_n 1, 1) := by decide +kernel
theorem dX1_firstSpoiled_8 : decode cX1_firstSpoiled 8 = .ok (.iload_n 1, 1) := by decide +kernel
theorem dX1_firstSpoiled_9 : decode cX1_firstSpoiled 9 = .ok (.iconst (-1), 1) := by decide +kernel
theorem dX1_firstSpoiled_10 : decode cX1_firstSpoiled 10 = .ok (.if_icmp .ne 5, 3) := by decide +kernel
theorem dX1_firstSpoiled_13 : decode cX1_firstSpoiled 13 = .ok (.iconst (-1), 1) := by decide +kernel
theorem dX1_firstSpoiled_14 : decode cX1_firstSpoiled 14 = .ok (.ireturn, 1) := by decide +kernel
theorem dX1_firstSpoiled_15 : decode cX1_firstSpoiled 15 = .ok (.iconst 0, 1) := by decide +kernel
theorem dX1_firstSpoiled_16 : decode cX1_firstSpoiled 16 = .ok (.istore_n 2, 1) := by decide +kernel
theorem dX1_firstSpoiled_17 : decode cX1_firstSpoiled 17 = .ok (.iload_n 2, 1) := by decide +kernel
theorem dX1_firstSpoiled_18 : decode cX1_firstSpoiled 18 = .ok (.aload_n 0, 1) := by decide +kernel
theorem dX1_firstSpoiled_19 : decode cX1_firstSpoiled 19 = .ok (.getfield 39, 3) := by decide +kernel
theorem dX1_firstSpoiled_22 : decode cX1_firstSpoiled 22 = .ok (.arraylength, 1) := by decide +kernel
theorem dX1_firstSpoiled_23 : decode cX1_firstSpoiled 23 = .ok (.if_icmp .ge 22, 3) := by decide +kernel
theorem dX1_firstSpoiled_26 : decode cX1_firstSpoiled 26 = .ok (.iload_n 1, 1) := by decide +kernel
theorem dX1_firstSpoiled_27 : decode cX1_firstSpoiled 27 = .ok (.aload_n 0, 1) := by decide +kernel
theorem dX1_firstSpoiled_28 : decode cX1_firstSpoiled 28 = .ok (.iload_n 2, 1) := by decide +kernel
theorem dX1_firstSpoiled_29 : decode cX1_firstSpoiled 29 = .ok (.iconst 1, 1) := by decide +kernel
theorem dX1_firstSpoiled_30 : decode cX1_firstSpoiled 30 = .ok (.iadd, 1) := by decide +kernel
theorem dX1_firstSpoiled_31 : decode cX1_firstSpoiled 31 = .ok (.invokevirtual 122, 3) := by decide +kernel
theorem dX1_firstSpoiled_34 : decode cX1_firstSpoiled 34 = .ok (.if_icmp .ge 5, 3) := by decide +kernel
theorem dX1_firstSpoiled_37 : decode cX1_firstSpoiled 37 = .ok (.iload_n 2, 1) := by decide +kernel
theorem dX1_firstSpoiled_38 : decode cX1_firstSpoiled 38 = .ok (.ireturn, 1) := by decide +kernel
theorem dX1_firstSpoiled_39 : decode cX1_firstSpoiled 39 = .ok (.iinc 2 1, 3) := by decide +kernel
theorem dX1_firstSpoiled_42 : decode cX1_firstSpoiled 42 = .ok (.goto (-25), 3) := by decide +kernel
theorem dX1_firstSpoiled_45 : decode cX1_firstSpoiled 45 = .ok (.aload_n 0, 1) := by decide +kernel
theorem dX1_firstSpoiled_46 : decode cX1_firstSpoiled 46 = .ok (.getfield 39, 3) := by decide +kernel
theorem dX1_firstSpoiled_49 : decode cX1_firstSpoiled 49 = .ok (.arraylength, 1) := by decide +kernel
theorem dX1_firstSpoiled_50 : decode cX1_firstSpoiled 50 = .ok (.ireturn, 1) := by decide +kernel
theorem dX1_copiedRows_0 : decode cX1_copiedRows 0 = .ok (.iconst 0, 1) := by decide +kernel
theorem dX1_copiedRows_1 : decode cX1_copiedRows 1 = .ok (.istore_n 1, 1) := by decide +kernel
theorem dX1_copiedRows_2 : decode cX1_copiedRows 2 = .ok (.iconst 0, 1) := by decide +kernel
theorem dX1_copiedRows_3 : decode cX1_copiedRows 3 = .ok (.istore_n 2, 1) := by decide +kernel
theorem dX1_copiedRows_4 : decode cX1_copiedRows 4 = .ok (.aload_n 0, 1) := by decide +kernel
theorem dX1_copiedRows_5 : decode cX1_copiedRows 5 = .ok (.getfield 15, 3) := by decide +kernel
theorem dX1_copiedRows_8 : decode cX1_copiedRows 8 = .ok (.ifCond .eq 33, 3) := by decide +kernel
theorem dX1_copiedRows_11 : decode cX1_copiedRows 11 = .ok (.iload_n 2, 1) := by decide +kernel
theorem dX1_copiedRows_12 : decode cX1_copiedRows 12 = .ok (.aload_n 0, 1) := by decide +kernel
theorem dX1_copiedRows_13 : decode cX1_copiedRows 13 = .ok (.getfield 39, 3) := by decide +kernel
theorem dX1_copiedRows_16 : decode cX1_copiedRows 16 = .ok (.arraylength, 1) := by decide +kernel
theorem dX1_copiedRows_17 : decode cX1_copiedRows 17 = .ok (.if_icmp .ge 24, 3) := by decide +kernel
theorem dX1_copiedRows_20 : decode cX1_copiedRows 20 = .ok (.aload_n 0, 1) := by decide +kernel
theorem dX1_copiedRows_21 : decode cX1_copiedRows 21 = .ok (.getfield 39, 3) := by decide +kernel
theorem dX1_copiedRows_24 : decode cX1_copiedRows 24 = .ok (.iload_n 2, 1) := by decide +kernel
theorem dX1_copiedRows_25 : decode cX1_copiedRows 25 = .ok (.iaload, 1) := by decide +kernel
theorem dX1_copiedRows_26 : decode cX1_copiedRows 26 = .ok (.invokestatic 128, 3) := by decide +kernel
theorem dX1_copiedRows_29 : decode cX1_copiedRows 29 = .ok (.ifCond .eq 6, 3) := by decide +kernel
theorem dX1_copiedRows_32 : decode cX1_copiedRows 32 = .ok (.iinc 1 1, 3) := by decide +kernel
theorem dX1_copiedRows_35 : decode cX1_copiedRows 35 = .ok (.iinc 2 1, 3) := by decide +kernel
theorem dX1_copiedRows_38 : decode cX1_copiedRows 38 = .ok (.goto (-34), 3) := by decide +kernel
theorem dX1_copiedRows_41 : decode cX1_copiedRows 41 = .ok (.iload_n 1, 1) := by decide +kernel
theorem dX1_copiedRows_42 : decode cX1_copiedRows 42 = .ok (.ireturn, 1) := by decide +kernel
theorem dX1_greatestDepth_0 : decode cX1_greatestDepth 0 = .ok (.iconst 0, 1) := by decide +kernel
theorem dX1_greatestDepth_1 : decode cX1_greatestDepth 1 = .ok (.istore_n 1, 1) := by decide +kernel
theorem dX1_greatestDepth_2 : decode cX1_greatestDepth 2 = .ok (.iconst 0, 1) := by decide +kernel
theorem dX1_greatestDepth_3 : decode cX1_greatestDepth 3 = .ok (.istore_n 2, 1) := by decide +kernel
theorem dX1_greatestDepth_4 : decode cX1_greatestDepth 4 = .ok (.aload_n 0, 1) := by decide +kernel
theorem dX1_greatestDepth_5 : decode cX1_greatestDepth 5 = .ok (.getfield 15, 3) := by decide +kernel
theorem dX1_greatestDepth_8 : decode cX1_greatestDepth 8 = .ok (.ifCond .eq 29, 3) := by decide +kernel
theorem dX1_greatestDepth_11 : decode cX1_greatestDepth 11 = .ok (.iload_n 2, 1) := by decide +kernel
theorem dX1_greatestDepth_12 : decode cX1_greatestDepth 12 = .ok (.aload_n 0, 1) := by decide +kernel
theorem dX1_greatestDepth_13 : decode cX1_greatestDepth 13 = .ok (.getfield 45, 3) := by decide +kernel
theorem dX1_greatestDepth_16 : decode cX1_greatestDepth 16 = .ok (.arraylength, 1) := by decide +kernel
theorem dX1_greatestDepth_17 : decode cX1_greatestDepth 17 = .ok (.if_icmp .ge 20, 3) := by decide +kernel
theorem dX1_greatestDepth_20 : decode cX1_greatestDepth 20 = .ok (.iload_n 1, 1) := by decide +kernel
theorem dX1_greatestDepth_21 : decode cX1_greatestDepth 21 = .ok (.aload_n 0, 1) := by decide +kernel
theorem dX1_greatestDepth_22 : decode cX1_greatestDepth 22 = .ok (.getfield 45, 3) := by decide +kernel
theorem dX1_greatestDepth_25 : decode cX1_greatestDepth 25 = .ok (.iload_n 2, 1) := by decide +kernel
theorem dX1_greatestDepth_26 : decode cX1_greatestDepth 26 = .ok (.iaload, 1) := by decide +kernel
theorem dX1_greatestDepth_27 : decode cX1_greatestDepth 27 = .ok (.invokestatic 73, 3) := by decide +kernel
theorem dX1_greatestDepth_30 : decode cX1_greatestDepth 30 = .ok (.istore_n 1, 1) := by decide +kernel
theorem dX1_greatestDepth_31 : decode cX1_greatestDepth 31 = .ok (.iinc 2 1, 3) := by decide +kernel
theorem dX1_greatestDepth_34 : decode cX1_greatestDepth 34 = .ok (.goto (-30), 3) := by decide +kernel
theorem dX1_greatestDepth_37 : decode cX1_greatestDepth 37 = .ok (.iload_n 1, 1) := by decide +kernel
theorem dX1_greatestDepth_38 : decode cX1_greatestDepth 38 = .ok (.ireturn, 1) := by decide +kernel
theorem dX1_choose_0 : decode cX1_choose 0 = .ok (.aload_n 2, 1) := by decide +kernel
theorem dX1_choose_1 : decode cX1_choose 1 = .ok (.iconst 0, 1) := by decide +kernel
theorem dX1_choose_2 : decode cX1_choose 2 = .ok (.invokevirtual 67, 3) := by decide +kernel
theorem dX1_choose_5 : decode cX1_choose 5 = .ok (.iload_n 1, 1) := by decide +kernel
theorem dX1_choose_6 : decode cX1_choose 6 = .ok (.invokestatic 135, 3) := by decide +kernel
theorem dX1_choose_9 : decode cX1_choose 9 = .ok (.istore 4, 2) := by decide +kernel
theorem dX1_choose_11 : decode cX1_choose 11 = .ok (.ldc 138, 2) := by decide +kernel
theorem dX1_choose_13 : decode cX1_choose 13 = .ok (.istore 5, 2) := by decide +kernel
theorem dX1_choose_15 : decode cX1_choose 15 = .ok (.iconst 0, 1) := by decide +kernel
theorem dX1_choose_16 : decode cX1_choose 16 = .ok (.istore 6, 2) := by decide +kernel
theorem dX1_choose_18 : decode cX1_choose 18 = .ok (.iload 6, 2) := by decide +kernel
theorem dX1_choose_20 : decode cX1_choose 20 = .ok (.iconst 5, 1) := by decide +kernel
theorem dX1_choose_21 : decode cX1_choose 21 = .ok (.if_icmp .ge 120, 3) := by decide +kernel
theorem dX1_choose_24 : decode cX1_choose 24 = .ok (.iload 6, 2) := by decide +kernel
theorem dX1_choose_26 : decode cX1_choose 26 = .ok (.invokestatic 128, 3) := by decide +kernel
theorem dX1_choose_29 : decode cX1_choose 29 = .ok (.ifCond .eq 7, 3) := by decide +kernel
theorem dX1_choose_32 : decode cX1_choose 32 = .ok (.iconst 1, 1) := by decide +kernel
theorem dX1_choose_33 : decode cX1_choose 33 = .ok (.goto 4, 3) := by decide +kernel
theorem dX1_choose_36 : decode cX1_choose 36 = .ok (.iconst 0, 1) := by decide +kernel
theorem dX1_choose_37 : decode cX1_choose 37 = .ok (.istore 7, 2) := by decide +kernel
theorem dX1_choose_39 : decode cX1_choose 39 = .ok (.iload 6, 2) := by decide +kernel
theorem dX1_choose_41 : decode cX1_choose 41 = .ok (.invokestatic 128, 3) := by decide +kernel
theorem dX1_choose_44 : decode cX1_choose 44 = .ok (.ifCond .eq 8, 3) := by decide +kernel
theorem dX1_choose_47 : decode cX1_choose 47 = .ok (.iload 4, 2) := by decide +kernel
theorem dX1_choose_49 : decode cX1_choose 49 = .ok (.goto 4, 3) := by decide +kernel
theorem dX1_choose_52 : decode cX1_choose 52 = .ok (.iconst 0, 1) := by decide +kernel
theorem dX1_choose_53 : decode cX1_choose 53 = .ok (.istore 8, 2) := by decide +kernel
theorem dX1_choose_55 : decode cX1_choose 55 = .ok (.iload 7, 2) := by decide +kernel
theorem dX1_choose_57 : decode cX1_choose 57 = .ok (.istore 9, 2) := by decide +kernel
theorem dX1_choose_59 : decode cX1_choose 59 = .ok (.iload 9, 2) := by decide +kernel
theorem dX1_choose_61 : decode cX1_choose 61 = .ok (.iload 8, 2) := by decide +kernel
theorem dX1_choose_63 : decode cX1_choose 63 = .ok (.if_icmp .gt 72, 3) := by decide +kernel
theorem dX1_choose_66 : decode cX1_choose 66 = .ok (.iload 6, 2) := by decide +kernel
theorem dX1_choose_68 : decode cX1_choose 68 = .ok (.invokestatic 128, 3) := by decide +kernel
theorem dX1_choose_71 : decode cX1_choose 71 = .ok (.ifCond .eq 22, 3) := by decide +kernel
theorem dX1_choose_74 : decode cX1_choose 74 = .ok (.aload_n 0, 1) := by decide +kernel
theorem dX1_choose_75 : decode cX1_choose 75 = .ok (.iload_n 1, 1) := by decide +kernel
theorem dX1_choose_76 : decode cX1_choose 76 = .ok (.iload 9, 2) := by decide +kernel
theorem dX1_choose_78 : decode cX1_choose 78 = .ok (.isub, 1) := by decide +kernel
theorem dX1_choose_79 : decode cX1_choose 79 = .ok (.invokevirtual 139, 3) := by decide +kernel
theorem dX1_choose_82 : decode cX1_choose 82 = .ok (.aload_n 2, 1) := by decide +kernel
theorem dX1_choose_83 : decode cX1_choose 83 = .ok (.iconst 1, 1) := by decide +kernel
theorem dX1_choose_84 : decode cX1_choose 84 = .ok (.invokevirtual 67, 3) := by decide +kernel
theorem dX1_choose_87 : decode cX1_choose 87 = .ok (.if_icmp .lt 6, 3) := by decide +kernel
theorem dX1_choose_90 : decode cX1_choose 90 = .ok (.goto 39, 3) := by decide +kernel
theorem dX1_choose_93 : decode cX1_choose 93 = .ok (.aload_n 3, 1) := by decide +kernel
theorem dX1_choose_94 : decode cX1_choose 94 = .ok (.aload_n 0, 1) := by decide +kernel
theorem dX1_choose_95 : decode cX1_choose 95 = .ok (.getfield 28, 3) := by decide +kernel
theorem dX1_choose_98 : decode cX1_choose 98 = .ok (.iload_n 1, 1) := by decide +kernel
theorem dX1_choose_99 : decode cX1_choose 99 = .ok (.iload 6, 2) := by decide +kernel
theorem dX1_choose_101 : decode cX1_choose 101 = .ok (.iload 9, 2) := by decide +kernel
theorem dX1_choose_103 : decode cX1_choose 103 = .ok (.aload_n 2, 1) := by decide +kernel
theorem dX1_choose_104 : decode cX1_choose 104 = .ok (.invokevirtual 142, 3) := by decide +kernel
theorem dX1_choose_107 : decode cX1_choose 107 = .ok (.istore 10, 2) := by decide +kernel
theorem dX1_choose_109 : decode cX1_choose 109 = .ok (.iload 10, 2) := by decide +kernel
theorem dX1_choose_111 : decode cX1_choose 111 = .ok (.iload 5, 2) := by decide +kernel
theorem dX1_choose_113 : decode cX1_choose 113 = .ok (.if_icmp .ge 16, 3) := by decide +kernel
theorem dX1_choose_116 : decode cX1_choose 116 = .ok (.iload 10, 2) := by decide +kernel
theorem dX1_choose_118 : decode cX1_choose 118 = .ok (.istore 5, 2) := by decide +kernel
theorem dX1_choose_120 : decode cX1_choose 120 = .ok (.aload_n 0, 1) := by decide +kernel
theorem dX1_choose_121 : decode cX1_choose 121 = .ok (.iload_n 1, 1) := by decide +kernel
theorem dX1_choose_122 : decode cX1_choose 122 = .ok (.iload 6, 2) := by decide +kernel
theorem dX1_choose_124 : decode cX1_choose 124 = .ok (.iload 9, 2) := by decide +kernel
theorem dX1_choose_126 : decode cX1_choose 126 = .ok (.invokevirtual 146, 3) := by decide +kernel
theorem dX1_choose_129 : decode cX1_choose 129 = .ok (.iinc 9 1, 3) := by decide +kernel
theorem dX1_choose_132 : decode cX1_choose 132 = .ok (.goto (-73), 3) := by decide +kernel
theorem dX1_choose_135 : decode cX1_choose 135 = .ok (.iinc 6 1, 3) := by decide +kernel
theorem dX1_choose_138 : decode cX1_choose 138 = .ok (.goto (-120), 3) := by decide +kernel
theorem dX1_choose_141 : decode cX1_choose 141 = .ok (.return_, 1) := by decide +kernel
theorem dX1_decide_0 : decode cX1_decide 0 = .ok (.iload_n 1, 1) := by decide +kernel
theorem dX1_decide_1 : decode cX1_decide 1 = .ok (.ifCond .lt 70, 3) := by decide +kernel
theorem dX1_decide_4 : decode cX1_decide 4 = .ok (.iload_n 1, 1) := by decide +kernel
theorem dX1_decide_5 : decode cX1_decide 5 = .ok (.aload_n 0, 1) := by decide +kernel
theorem dX1_decide_6 : decode cX1_decide 6 = .ok (.getfield 39, 3) := by decide +kernel
theorem dX1_decide_9 : decode cX1_decide 9 = .ok (.arraylength, 1) := by decide +kernel
theorem dX1_decide_10 : decode cX1_decide 10 = .ok (.if_icmp .ge 61, 3) := by decide +kernel
theorem dX1_decide_13 : decode cX1_decide 13 = .ok (.iload_n 1, 1) := by decide +kernel
theorem dX1_decide_14 : decode cX1_decide 14 = .ok (.aload_n 0, 1) := by decide +kernel
theorem dX1_decide_15 : decode cX1_decide 15 = .ok (.getfield 42, 3) := by decide +kernel
theorem dX1_decide_18 : decode cX1_decide 18 = .ok (.arraylength, 1) := by decide +kernel
theorem dX1_decide_19 : decode cX1_decide 19 = .ok (.if_icmp .ge 52, 3) := by decide +kernel
theorem dX1_decide_22 : decode cX1_decide 22 = .ok (.iload_n 1, 1) := by decide +kernel
theorem dX1_decide_23 : decode cX1_decide 23 = .ok (.aload_n 0, 1) := by decide +kernel
theorem dX1_decide_24 : decode cX1_decide 24 = .ok (.getfield 45, 3) := by decide +kernel
theorem dX1_decide_27 : decode cX1_decide 27 = .ok (.arraylength, 1) := by decide +kernel
theorem dX1_decide_28 : decode cX1_decide 28 = .ok (.if_icmp .ge 43, 3) := by decide +kernel
theorem dX1_decide_31 : decode cX1_decide 31 = .ok (.aload_n 0, 1) := by decide +kernel
theorem dX1_decide_32 : decode cX1_decide 32 = .ok (.getfield 39, 3) := by decide +kernel
theorem dX1_decide_35 : decode cX1_decide 35 = .ok (.iload_n 1, 1) := by decide +kernel
theorem dX1_decide_36 : decode cX1_decide 36 = .ok (.iload_n 2, 1) := by decide +kernel
theorem dX1_decide_37 : decode cX1_decide 37 = .ok (.iastore, 1) := by decide +kernel
theorem dX1_decide_38 : decode cX1_decide 38 = .ok (.aload_n 0, 1) := by decide +kernel
theorem dX1_decide_39 : decode cX1_decide 39 = .ok (.getfield 42, 3) := by decide +kernel
theorem dX1_decide_42 : decode cX1_decide 42 = .ok (.iload_n 1, 1) := by decide +kernel
theorem dX1_decide_43 : decode cX1_decide 43 = .ok (.iload_n 3, 1) := by decide +kernel
theorem dX1_decide_44 : decode cX1_decide 44 = .ok (.iastore, 1) := by decide +kernel
theorem dX1_decide_45 : decode cX1_decide 45 = .ok (.aload_n 0, 1) := by decide +kernel
theorem dX1_decide_46 : decode cX1_decide 46 = .ok (.getfield 45, 3) := by decide +kernel
theorem dX1_decide_49 : decode cX1_decide 49 = .ok (.iload_n 1, 1) := by decide +kernel
theorem dX1_decide_50 : decode cX1_decide 50 = .ok (.iload_n 2, 1) := by decide +kernel
theorem dX1_decide_51 : decode cX1_decide 51 = .ok (.invokestatic 128, 3) := by decide +kernel
theorem dX1_decide_54 : decode cX1_decide 54 = .ok (.ifCond .eq 15, 3) := by decide +kernel
theorem dX1_decide_57 : decode cX1_decide 57 = .ok (.aload_n 0, 1) := by decide +kernel
theorem dX1_decide_58 : decode cX1_decide 58 = .ok (.iload_n 1, 1) := by decide +kernel
theorem dX1_decide_59 : decode cX1_decide 59 = .ok (.iload_n 3, 1) := by decide +kernel
theorem dX1_decide_60 : decode cX1_decide 60 = .ok (.isub, 1) := by decide +kernel
theorem dX1_decide_61 : decode cX1_decide 61 = .ok (.invokevirtual 139, 3) := by decide +kernel
theorem dX1_decide_64 : decode cX1_decide 64 = .ok (.iconst 1, 1) := by decide +kernel
theorem dX1_decide_65 : decode cX1_decide 65 = .ok (.iadd, 1) := by decide +kernel
theorem dX1_decide_66 : decode cX1_decide 66 = .ok (.goto 4, 3) := by decide +kernel
theorem dX1_decide_69 : decode cX1_decide 69 = .ok (.iconst 0, 1) := by decide +kernel
theorem dX1_decide_70 : decode cX1_decide 70 = .ok (.iastore, 1) := by decide +kernel
theorem dX1_decide_71 : decode cX1_decide 71 = .ok (.return_, 1) := by decide +kernel
theorem dX1_tallyNumbers_0 : decode cX1_tallyNumbers 0 = .ok (.iconst 0, 1) := by decide +kernel
theorem dX1_tallyNumbers_1 : decode cX1_tallyNumbers 1 = .ok (.istore_n 2, 1) := by decide +kernel
theorem dX1_tallyNumbers_2 : decode cX1_tallyNumbers 2 = .ok (.iload_n 2, 1) := by decide +kernel
theorem dX1_tallyNumbers_3 : decode cX1_tallyNumbers 3 = .ok (.aload_n 1, 1) := by decide +kernel
theorem dX1_tallyNumbers_4 : decode cX1_tallyNumbers 4 = .ok (.invokevirtual 150, 3) := by decide +kernel
theorem dX1_tallyNumbers_7 : decode cX1_tallyNumbers 7 = .ok (.if_icmp .ge 57, 3) := by decide +kernel
theorem dX1_tallyNumbers_10 : decode cX1_tallyNumbers 10 = .ok (.aload_n 1, 1) := by decide +kernel
theorem dX1_tallyNumbers_11 : decode cX1_tallyNumbers 11 = .ok (.iload_n 2, 1) := by decide +kernel
theorem dX1_tallyNumbers_12 : decode cX1_tallyNumbers 12 = .ok (.invokevirtual 151, 3) := by decide +kernel
theorem dX1_tallyNumbers_15 : decode cX1_tallyNumbers 15 = .ok (.bipush 96, 2) := by decide +kernel
theorem dX1_tallyNumbers_17 : decode cX1_tallyNumbers 17 = .ok (.imul, 1) := by decide +kernel
theorem dX1_tallyNumbers_18 : decode cX1_tallyNumbers 18 = .ok (.aload_n 1, 1) := by decide +kernel
theorem dX1_tallyNumbers_19 : decode cX1_tallyNumbers 19 = .ok (.iload_n 2, 1) := by decide +kernel
theorem dX1_tallyNumbers_20 : decode cX1_tallyNumbers 20 = .ok (.invokevirtual 154, 3) := by decide +kernel
theorem dX1_tallyNumbers_23 : decode cX1_tallyNumbers 23 = .ok (.iadd, 1) := by decide +kernel
theorem dX1_tallyNumbers_24 : decode cX1_tallyNumbers 24 = .ok (.istore_n 3, 1) := by decide +kernel
theorem dX1_tallyNumbers_25 : decode cX1_tallyNumbers 25 = .ok (.aload_n 1, 1) := by decide +kernel
theorem dX1_tallyNumbers_26 : decode cX1_tallyNumbers 26 = .ok (.iload_n 2, 1) := by decide +kernel
theorem dX1_tallyNumbers_27 : decode cX1_tallyNumbers 27 = .ok (.invokevirtual 151, 3) := by decide +kernel
theorem dX1_tallyNumbers_30 : decode cX1_tallyNumbers 30 = .ok (.bipush 8, 2) := by decide +kernel
theorem dX1_tallyNumbers_32 : decode cX1_tallyNumbers 32 = .ok (.if_icmp .eq 26, 3) := by decide +kernel
theorem dX1_tallyNumbers_35 : decode cX1_tallyNumbers 35 = .ok (.iload_n 3, 1) := by decide +kernel
theorem dX1_tallyNumbers_36 : decode cX1_tallyNumbers 36 = .ok (.ifCond .lt 22, 3) := by decide +kernel
theorem dX1_tallyNumbers_39 : decode cX1_tallyNumbers 39 = .ok (.iload_n 3, 1) := by decide +kernel
theorem dX1_tallyNumbers_40 : decode cX1_tallyNumbers 40 = .ok (.aload_n 0, 1) := by decide +kernel
theorem dX1_tallyNumbers_41 : decode cX1_tallyNumbers 41 = .ok (.getfield 11, 3) := by decide +kernel
theorem dX1_tallyNumbers_44 : decode cX1_tallyNumbers 44 = .ok (.arraylength, 1) := by decide +kernel
theorem dX1_tallyNumbers_45 : decode cX1_tallyNumbers 45 = .ok (.if_icmp .ge 13, 3) := by decide +kernel
theorem dX1_tallyNumbers_48 : decode cX1_tallyNumbers 48 = .ok (.aload_n 0, 1) := by decide +kernel
theorem dX1_tallyNumbers_49 : decode cX1_tallyNumbers 49 = .ok (.getfield 11, 3) := by decide +kernel
theorem dX1_tallyNumbers_52 : decode cX1_tallyNumbers 52 = .ok (.iload_n 3, 1) := by decide +kernel
theorem dX1_tallyNumbers_53 : decode cX1_tallyNumbers 53 = .ok (.dup2, 1) := by decide +kernel
theorem dX1_tallyNumbers_54 : decode cX1_tallyNumbers 54 = .ok (.iaload, 1) := by decide +kernel
theorem dX1_tallyNumbers_55 : decode cX1_tallyNumbers 55 = .ok (.iconst 1, 1) := by decide +kernel
theorem dX1_tallyNumbers_56 : decode cX1_tallyNumbers 56 = .ok (.iadd, 1) := by decide +kernel
theorem dX1_tallyNumbers_57 : decode cX1_tallyNumbers 57 = .ok (.iastore, 1) := by decide +kernel
theorem dX1_tallyNumbers_58 : decode cX1_tallyNumbers 58 = .ok (.iinc 2 1, 3) := by decide +kernel
theorem dX1_tallyNumbers_61 : decode cX1_tallyNumbers 61 = .ok (.goto (-59), 3) := by decide +kernel
theorem dX1_tallyNumbers_64 : decode cX1_tallyNumbers 64 = .ok (.return_, 1) := by decide +kernel
theorem dX2_init_0 : decode cX2_init 0 = .ok (.aload_n 0, 1) := by decide +kernel
theorem dX2_init_1 : decode cX2_init 1 = .ok (.invokespecial 3, 3) := by decide +kernel
theorem dX2_init_4 : decode cX2_init 4 = .ok (.aload_n 0, 1) := by decide +kernel
theorem dX2_init_5 : decode cX2_init 5 = .ok (.iconst 0, 1) := by decide +kernel
theorem dX2_init_6 : decode cX2_init 6 = .ok (.putfield 9, 3) := by decide +kernel
theorem dX2_init_9 : decode cX2_init 9 = .ok (.aload_n 0, 1) := by decide +kernel
theorem dX2_init_10 : decode cX2_init 10 = .ok (.iconst 0, 1) := by decide +kernel
theorem dX2_init_11 : decode cX2_init 11 = .ok (.putfield 15, 3) := by decide +kernel
theorem dX2_init_14 : decode cX2_init 14 = .ok (.aload_n 0, 1) := by decide +kernel
theorem dX2_init_15 : decode cX2_init 15 = .ok (.iload_n 1, 1) := by decide +kernel
theorem dX2_init_16 : decode cX2_init 16 = .ok (.putfield 18, 3) := by decide +kernel
theorem dX2_init_19 : decode cX2_init 19 = .ok (.aload_n 0, 1) := by decide +kernel
theorem dX2_init_20 : decode cX2_init 20 = .ok (.iload_n 1, 1) := by decide +kernel
theorem dX2_init_21 : decode cX2_init 21 = .ok (.bipush 6, 2) := by decide +kernel
theorem dX2_init_23 : decode cX2_init 23 = .ok (.imul, 1) := by decide +kernel
theorem dX2_init_24 : decode cX2_init 24 = .ok (.newarray .int, 2) := by decide +kernel
theorem dX2_init_26 : decode cX2_init 26 = .ok (.putfield 21, 3) := by decide +kernel
theorem dX2_init_29 : decode cX2_init 29 = .ok (.return_, 1) := by decide +kernel
theorem dX2_leastSum_0 : decode cX2_leastSum 0 = .ok (.aload_n 0, 1) := by decide +kernel
theorem dX2_leastSum_1 : decode cX2_leastSum 1 = .ok (.getfield 21, 3) := by decide +kernel
theorem dX2_leastSum_4 : decode cX2_leastSum 4 = .ok (.iconst 0, 1) := by decide +kernel
theorem dX2_leastSum_5 : decode cX2_leastSum 5 = .ok (.invokestatic 25, 3) := by decide +kernel
theorem dX2_leastSum_8 : decode cX2_leastSum 8 = .ok (.aload_n 2, 1) := by decide +kernel
theorem dX2_leastSum_9 : decode cX2_leastSum 9 = .ok (.iconst 1, 1) := by decide +kernel
theorem dX2_leastSum_10 : decode cX2_leastSum 10 = .ok (.invokevirtual 31, 3) := by decide +kernel
theorem dX2_leastSum_13 : decode cX2_leastSum 13 = .ok (.istore 4, 2) := by decide +kernel
theorem dX2_leastSum_15 : decode cX2_leastSum 15 = .ok (.iconst 0, 1) := by decide +kernel
theorem dX2_leastSum_16 : decode cX2_leastSum 16 = .ok (.istore 5, 2) := by decide +kernel
theorem dX2_leastSum_18 : decode cX2_leastSum 18 = .ok (.aload_n 0, 1) := by decide +kernel
theorem dX2_leastSum_19 : decode cX2_leastSum 19 = .ok (.getfield 18, 3) := by decide +kernel
theorem dX2_leastSum_22 : decode cX2_leastSum 22 = .ok (.iconst 1, 1) := by decide +kernel
theorem dX2_leastSum_23 : decode cX2_leastSum 23 = .ok (.isub, 1) := by decide +kernel
theorem dX2_leastSum_24 : decode cX2_leastSum 24 = .ok (.istore 6, 2) := by decide +kernel
theorem dX2_leastSum_26 : decode cX2_leastSum 26 = .ok (.iload 6, 2) := by decide +kernel
theorem dX2_leastSum_28 : decode cX2_leastSum 28 = .ok (.ifCond .lt 63, 3) := by decide +kernel
theorem dX2_leastSum_31 : decode cX2_leastSum 31 = .ok (.aload_n 1, 1) := by decide +kernel
theorem dX2_leastSum_32 : decode cX2_leastSum 32 = .ok (.iload 6, 2) := by decide +kernel
theorem dX2_leastSum_34 : decode cX2_leastSum 34 = .ok (.aload_n 2, 1) := by decide +kernel
theorem dX2_leastSum_35 : decode cX2_leastSum 35 = .ok (.aload_n 3, 1) := by decide +kernel
theorem dX2_leastSum_36 : decode cX2_leastSum 36 = .ok (.invokestatic 37, 3) := by decide +kernel
theorem dX2_leastSum_39 : decode cX2_leastSum 39 = .ok (.aload_n 0, 1) := by decide +kernel
theorem dX2_leastSum_40 : decode cX2_leastSum 40 = .ok (.iload 6, 2) := by decide +kernel
theorem dX2_leastSum_42 : decode cX2_leastSum 42 = .ok (.iconst 0, 1) := by decide +kernel
theorem dX2_leastSum_43 : decode cX2_leastSum 43 = .ok (.invokevirtual 41, 3) := by decide +kernel
theorem dX2_leastSum_46 : decode cX2_leastSum 46 = .ok (.iadd, 1) := by decide +kernel
theorem dX2_leastSum_47 : decode cX2_leastSum 47 = .ok (.istore 7, 2) := by decide +kernel
theorem dX2_leastSum_49 : decode cX2_leastSum 49 = .ok (.aload_n 0, 1) := by decide +kernel
theorem dX2_leastSum_50 : decode cX2_leastSum 50 = .ok (.aload_n 1, 1) := by decide +kernel
theorem dX2_leastSum_51 : decode cX2_leastSum 51 = .ok (.iload 6, 2) := by decide +kernel
theorem dX2_leastSum_53 : decode cX2_leastSum 53 = .ok (.aload_n 2, 1) := by decide +kernel
theorem dX2_leastSum_54 : decode cX2_leastSum 54 = .ok (.aload_n 3, 1) := by decide +kernel
theorem dX2_leastSum_55 : decode cX2_leastSum 55 = .ok (.invokevirtual 45, 3) := by decide +kernel
theorem dX2_leastSum_58 : decode cX2_leastSum 58 = .ok (.aload_n 0, 1) := by decide +kernel
theorem dX2_leastSum_59 : decode cX2_leastSum 59 = .ok (.getfield 15, 3) := by decide +kernel
theorem dX2_leastSum_62 : decode cX2_leastSum 62 = .ok (.ifCond .ne 13, 3) := by decide +kernel
theorem dX2_leastSum_65 : decode cX2_leastSum 65 = .ok (.iload 5, 2) := by decide +kernel
theorem dX2_leastSum_67 : decode cX2_leastSum 67 = .ok (.iload 7, 2) := by decide +kernel
theorem dX2_leastSum_69 : decode cX2_leastSum 69 = .ok (.iadd, 1) := by decide +kernel
theorem dX2_leastSum_70 : decode cX2_leastSum 70 = .ok (.istore 5, 2) := by decide +kernel
theorem dX2_leastSum_72 : decode cX2_leastSum 72 = .ok (.goto 13, 3) := by decide +kernel
theorem dX2_leastSum_75 : decode cX2_leastSum 75 = .ok (.aload_n 0, 1) := by decide +kernel
theorem dX2_leastSum_76 : decode cX2_leastSum 76 = .ok (.iload 6, 2) := by decide +kernel
theorem dX2_leastSum_78 : decode cX2_leastSum 78 = .ok (.iload 7, 2) := by decide +kernel
theorem dX2_leastSum_80 : decode cX2_leastSum 80 = .ok (.iload 4, 2) := by decide +kernel
theorem dX2_leastSum_82 : decode cX2_leastSum 82 = .ok (.invokevirtual 49, 3) := by decide +kernel
theorem dX2_leastSum_85 : decode cX2_leastSum 85 = .ok (.iinc 6 (-1), 3) := by decide +kernel
theorem dX2_leastSum_88 : decode cX2_leastSum 88 = .ok (.goto (-62), 3) := by decide +kernel
theorem dX2_leastSum_91 : decode cX2_leastSum 91 = .ok (.iload 5, 2) := by decide +kernel
theorem dX2_leastSum_93 : decode cX2_leastSum 93 = .ok (.ireturn, 1) := by decide +kernel
theorem dX2_hang_0 : decode cX2_hang 0 = .ok (.iconst 0, 1) := by decide +kernel
theorem dX2_hang_1 : decode cX2_hang 1 = .ok (.istore 4, 2) := by decide +kernel
theorem dX2_hang_3 : decode cX2_hang 3 = .ok (.iload 4, 2) := by decide +kernel
theorem dX2_hang_5 : decode cX2_hang 5 = .ok (.iload_n 3, 1) := by decide +kernel
theorem dX2_hang_6 : decode cX2_hang 6 = .ok (.if_icmp .gt 86, 3) := by decide +kernel
theorem dX2_hang_9 : decode cX2_hang 9 = .ok (.iload 4, 2) := by decide +kernel
theorem dX2_hang_11 : decode cX2_hang 11 = .ok (.bipush 6, 2) := by decide +kernel
theorem dX2_hang_13 : decode cX2_hang 13 = .ok (.if_icmp .ge 79, 3) := by decide +kernel
theorem dX2_hang_16 : decode cX2_hang 16 = .ok (.iload_n 2, 1) := by decide +kernel
theorem dX2_hang_17 : decode cX2_hang 17 = .ok (.istore 5, 2) := by decide +kernel
theorem dX2_hang_19 : decode cX2_hang 19 = .ok (.iload 4, 2) := by decide +kernel
theorem dX2_hang_21 : decode cX2_hang 21 = .ok (.iload_n 3, 1) := by decide +kernel
theorem dX2_hang_22 : decode cX2_hang 22 = .ok (.if_icmp .ge 23, 3) := by decide +kernel
theorem dX2_hang_25 : decode cX2_hang 25 = .ok (.iload_n 2, 1) := by decide +kernel
theorem dX2_hang_26 : decode cX2_hang 26 = .ok (.aload_n 0, 1) := by decide +kernel
theorem dX2_hang_27 : decode cX2_hang 27 = .ok (.getfield 9, 3) := by decide +kernel
theorem dX2_hang_30 : decode cX2_hang 30 = .ok (.aload_n 0, 1) := by decide +kernel
theorem dX2_hang_31 : decode cX2_hang 31 = .ok (.iload_n 1, 1) := by decide +kernel
theorem dX2_hang_32 : decode cX2_hang 32 = .ok (.iload 4, 2) := by decide +kernel
theorem dX2_hang_34 : decode cX2_hang 34 = .ok (.iconst 1, 1) := by decide +kernel
theorem dX2_hang_35 : decode cX2_hang 35 = .ok (.iadd, 1) := by decide +kernel
theorem dX2_hang_36 : decode cX2_hang 36 = .ok (.invokevirtual 41, 3) := by decide +kernel
theorem dX2_hang_39 : decode cX2_hang 39 = .ok (.iadd, 1) := by decide +kernel
theorem dX2_hang_40 : decode cX2_hang 40 = .ok (.invokestatic 53, 3) := by decide +kernel
theorem dX2_hang_43 : decode cX2_hang 43 = .ok (.istore 5, 2) := by decide +kernel
theorem dX2_hang_45 : decode cX2_hang 45 = .ok (.iload_n 1, 1) := by decide +kernel
theorem dX2_hang_46 : decode cX2_hang 46 = .ok (.aload_n 0, 1) := by decide +kernel
theorem dX2_hang_47 : decode cX2_hang 47 = .ok (.getfield 15, 3) := by decide +kernel
theorem dX2_hang_50 : decode cX2_hang 50 = .ok (.isub, 1) := by decide +kernel
theorem dX2_hang_51 : decode cX2_hang 51 = .ok (.bipush 6, 2) := by decide +kernel
theorem dX2_hang_53 : decode cX2_hang 53 = .ok (.imul, 1) := by decide +kernel
theorem dX2_hang_54 : decode cX2_hang 54 = .ok (.iload 4, 2) := by decide +kernel
theorem dX2_hang_56 : decode cX2_hang 56 = .ok (.iadd, 1) := by decide +kernel
theorem dX2_hang_57 : decode cX2_hang 57 = .ok (.istore 6, 2) := by decide +kernel
theorem dX2_hang_59 : decode cX2_hang 59 = .ok (.iload 6, 2) := by decide +kernel
theorem dX2_hang_61 : decode cX2_hang 61 = .ok (.ifCond .lt 25, 3) := by decide +kernel
theorem dX2_hang_64 : decode cX2_hang 64 = .ok (.iload 6, 2) := by decide +kernel
theorem dX2_hang_66 : decode cX2_hang 66 = .ok (.aload_n 0, 1) := by decide +kernel
theorem dX2_hang_67 : decode cX2_hang 67 = .ok (.getfield 21, 3) := by decide +kernel
theorem dX2_hang_70 : decode cX2_hang 70 = .ok (.arraylength, 1) := by decide +kernel
theorem dX2_hang_71 : decode cX2_hang 71 = .ok (.if_icmp .ge 15, 3) := by decide +kernel
theorem dX2_hang_74 : decode cX2_hang 74 = .ok (.aload_n 0, 1) := by decide +kernel
theorem dX2_hang_75 : decode cX2_hang 75 = .ok (.getfield 21, 3) := by decide +kernel
theorem dX2_hang_78 : decode cX2_hang 78 = .ok (.iload 6, 2) := by decide +kernel
theorem dX2_hang_80 : decode cX2_hang 80 = .ok (.dup2, 1) := by decide +kernel
theorem dX2_hang_81 : decode cX2_hang 81 = .ok (.iaload, 1) := by decide +kernel
theorem dX2_hang_82 : decode cX2_hang 82 = .ok (.iload 5, 2) := by decide +kernel
theorem dX2_hang_84 : decode cX2_hang 84 = .ok (.iadd, 1) := by decide +kernel
theorem dX2_hang_85 : decode cX2_hang 85 = .ok (.iastore, 1) := by decide +kernel
theorem dX2_hang_86 : decode cX2_hang 86 = .ok (.iinc 4 1, 3) := by decide +kernel
theorem dX2_hang_89 : decode cX2_hang 89 = .ok (.goto (-86), 3) := by decide +kernel
theorem dX2_hang_92 : decode cX2_hang 92 = .ok (.return_, 1) := by decide +kernel
theorem dX2_belowOf_0 : decode cX2_belowOf 0 = .ok (.aload_n 0, 1) := by decide +kernel
theorem dX2_belowOf_1 : decode cX2_belowOf 1 = .ok (.getfield 21, 3) := by decide +kernel
theorem dX2_belowOf_4 : decode cX2_belowOf 4 = .ok (.iload_n 1, 1) := by decide +kernel
theorem dX2_belowOf_5 : decode cX2_belowOf 5 = .ok (.bipush 6, 2) := by decide +kernel
theorem dX2_belowOf_7 : decode cX2_belowOf 7 = .ok (.imul, 1) := by decide +kernel
theorem dX2_belowOf_8 : decode cX2_belowOf 8 = .ok (.iload_n 2, 1) := by decide +kernel
theorem dX2_belowOf_9 : decode cX2_belowOf 9 = .ok (.iadd, 1) := by decide +kernel
theorem dX2_belowOf_10 : decode cX2_belowOf 10 = .ok (.invokestatic 58, 3) := by decide +kernel
theorem dX2_belowOf_13 : decode cX2_belowOf 13 = .ok (.ireturn, 1) := by decide +kernel
theorem dX2_bitsAlone_0 : decode cX2_bitsAlone 0 = .ok (.ldc 62, 2) := by decide +kernel
theorem dX2_bitsAlone_2 : decode cX2_bitsAlone 2 = .ok (.istore 4, 2) := by decide +kernel
theorem dX2_bitsAlone_4 : decode cX2_bitsAlone 4 = .ok (.iconst 0, 1) := by decide +kernel
theorem dX2_bitsAlone_5 : decode cX2_bitsAlone 5 = .ok (.istore 5, 2) := by decide +kernel
theorem dX2_bitsAlone_7 : decode cX2_bitsAlone 7 = .ok (.iload 5, 2) := by decide +kernel
theorem dX2_bitsAlone_9 : decode cX2_bitsAlone 9 = .ok (.iconst 5, 1) := by decide +kernel
theorem dX2_bitsAlone_10 : decode cX2_bitsAlone 10 = .ok (.if_icmp .ge 34, 3) := by decide +kernel
theorem dX2_bitsAlone_13 : decode cX2_bitsAlone 13 = .ok (.iload 5, 2) := by decide +kernel
theorem dX2_bitsAlone_15 : decode cX2_bitsAlone 15 = .ok (.invokestatic 63, 3) := by decide +kernel
theorem dX2_bitsAlone_18 : decode cX2_bitsAlone 18 = .ok (.ifCond .ne 20, 3) := by decide +kernel
theorem dX2_bitsAlone_21 : decode cX2_bitsAlone 21 = .ok (.iload 4, 2) := by decide +kernel
theorem dX2_bitsAlone_23 : decode cX2_bitsAlone 23 = .ok (.aload_n 3, 1) := by decide +kernel
theorem dX2_bitsAlone_24 : decode cX2_bitsAlone 24 = .ok (.aload_n 0, 1) := by decide +kernel
theorem dX2_bitsAlone_25 : decode cX2_bitsAlone 25 = .ok (.iload_n 1, 1) := by decide +kernel
theorem dX2_bitsAlone_26 : decode cX2_bitsAlone 26 = .ok (.iload 5, 2) := by decide +kernel
theorem dX2_bitsAlone_28 : decode cX2_bitsAlone 28 = .ok (.iconst 0, 1) := by decide +kernel
theorem dX2_bitsAlone_29 : decode cX2_bitsAlone 29 = .ok (.aload_n 2, 1) := by decide +kernel
theorem dX2_bitsAlone_30 : decode cX2_bitsAlone 30 = .ok (.invokevirtual 67, 3) := by decide +kernel
theorem dX2_bitsAlone_33 : decode cX2_bitsAlone 33 = .ok (.invokestatic 53, 3) := by decide +kernel
theorem dX2_bitsAlone_36 : decode cX2_bitsAlone 36 = .ok (.istore 4, 2) := by decide +kernel
theorem dX2_bitsAlone_38 : decode cX2_bitsAlone 38 = .ok (.iinc 5 1, 3) := by decide +kernel
theorem dX2_bitsAlone_41 : decode cX2_bitsAlone 41 = .ok (.goto (-34), 3) := by decide +kernel
theorem dX2_bitsAlone_44 : decode cX2_bitsAlone 44 = .ok (.iload 4, 2) := by decide +kernel
theorem dX2_bitsAlone_46 : decode cX2_bitsAlone 46 = .ok (.ireturn, 1) := by decide +kernel
theorem dX2_findCopy_0 : decode cX2_findCopy 0 = .ok (.aload_n 0, 1) := by decide +kernel
theorem dX2_findCopy_1 : decode cX2_findCopy 1 = .ok (.ldc 62, 2) := by decide +kernel
theorem dX2_findCopy_3 : decode cX2_findCopy 3 = .ok (.putfield 9, 3) := by decide +kernel
theorem dX2_findCopy_6 : decode cX2_findCopy 6 = .ok (.aload_n 0, 1) := by decide +kernel
theorem dX2_findCopy_7 : decode cX2_findCopy 7 = .ok (.iconst 0, 1) := by decide +kernel
theorem dX2_findCopy_8 : decode cX2_findCopy 8 = .ok (.putfield 15, 3) := by decide +kernel
theorem dX2_findCopy_11 : decode cX2_findCopy 11 = .ok (.aload_n 3, 1) := by decide +kernel
theorem dX2_findCopy_12 : decode cX2_findCopy 12 = .ok (.iconst 0, 1) := by decide +kernel
theorem dX2_findCopy_13 : decode cX2_findCopy 13 = .ok (.invokevirtual 31, 3) := by decide +kernel
theorem dX2_findCopy_16 : decode cX2_findCopy 16 = .ok (.iload_n 2, 1) := by decide +kernel
theorem dX2_findCopy_17 : decode cX2_findCopy 17 = .ok (.invokestatic 53, 3) := by decide +kernel
theorem dX2_findCopy_20 : decode cX2_findCopy 20 = .ok (.istore 5, 2) := by decide +kernel
theorem dX2_findCopy_22 : decode cX2_findCopy 22 = .ok (.iconst 1, 1) := by decide +kernel
theorem dX2_findCopy_23 : decode cX2_findCopy 23 = .ok (.istore 6, 2) := by decide +kernel
theorem dX2_findCopy_25 : decode cX2_findCopy 25 = .ok (.iload 6, 2) := by decide +kernel
theorem dX2_findCopy_27 : decode cX2_findCopy 27 = .ok (.iload 5, 2) := by decide +kernel
theorem dX2_findCopy_29 : decode cX2_findCopy 29 = .ok (.if_icmp .gt 59, 3) := by decide +kernel
theorem dX2_findCopy_32 : decode cX2_findCopy 32 = .ok (.iconst 2, 1) := by decide +kernel
theorem dX2_findCopy_33 : decode cX2_findCopy 33 = .ok (.istore 7, 2) := by decide +kernel
theorem dX2_findCopy_35 : decode cX2_findCopy 35 = .ok (.iload 7, 2) := by decide +kernel
theorem dX2_findCopy_37 : decode cX2_findCopy 37 = .ok (.iconst 3, 1) := by decide +kernel
theorem dX2_findCopy_38 : decode cX2_findCopy 38 = .ok (.if_icmp .gt 44, 3) := by decide +kernel
theorem dX2_findCopy_41 : decode cX2_findCopy 41 = .ok (.aload 4, 2) := by decide +kernel
theorem dX2_findCopy_43 : decode cX2_findCopy 43 = .ok (.aload_n 1, 1) := by decide +kernel
theorem dX2_findCopy_44 : decode cX2_findCopy 44 = .ok (.iload_n 2, 1) := by decide +kernel
theorem dX2_findCopy_45 : decode cX2_findCopy 45 = .ok (.iload 7, 2) := by decide +kernel
theorem dX2_findCopy_47 : decode cX2_findCopy 47 = .ok (.iload 6, 2) := by decide +kernel
theorem dX2_findCopy_49 : decode cX2_findCopy 49 = .ok (.aload_n 3, 1) := by decide +kernel
theorem dX2_findCopy_50 : decode cX2_findCopy 50 = .ok (.invokevirtual 67, 3) := by decide +kernel
theorem dX2_findCopy_53 : decode cX2_findCopy 53 = .ok (.istore 8, 2) := by decide +kernel
theorem dX2_findCopy_55 : decode cX2_findCopy 55 = .ok (.iload 8, 2) := by decide +kernel
theorem dX2_findCopy_57 : decode cX2_findCopy 57 = .ok (.aload_n 0, 1) := by decide +kernel
theorem dX2_findCopy_58 : decode cX2_findCopy 58 = .ok (.getfield 9, 3) := by decide +kernel
theorem dX2_findCopy_61 : decode cX2_findCopy 61 = .ok (.if_icmp .ge 15, 3) := by decide +kernel
theorem dX2_findCopy_64 : decode cX2_findCopy 64 = .ok (.aload_n 0, 1) := by decide +kernel
theorem dX2_findCopy_65 : decode cX2_findCopy 65 = .ok (.iload 8, 2) := by decide +kernel
theorem dX2_findCopy_67 : decode cX2_findCopy 67 = .ok (.putfield 9, 3) := by decide +kernel
theorem dX2_findCopy_70 : decode cX2_findCopy 70 = .ok (.aload_n 0, 1) := by decide +kernel
theorem dX2_findCopy_71 : decode cX2_findCopy 71 = .ok (.iload 6, 2) := by decide +kernel
theorem dX2_findCopy_73 : decode cX2_findCopy 73 = .ok (.putfield 15, 3) := by decide +kernel
theorem dX2_findCopy_76 : decode cX2_findCopy 76 = .ok (.iinc 7 1, 3) := by decide +kernel
theorem dX2_findCopy_79 : decode cX2_findCopy 79 = .ok (.goto (-44), 3) := by decide +kernel
theorem dX2_findCopy_82 : decode cX2_findCopy 82 = .ok (.iinc 6 1, 3) := by decide +kernel
theorem dX2_findCopy_85 : decode cX2_findCopy 85 = .ok (.goto (-60), 3) := by decide +kernel
theorem dX2_findCopy_88 : decode cX2_findCopy 88 = .ok (.return_, 1) := by decide +kernel
theorem dX3_init_0 : decode cX3_init 0 = .ok (.aload_n 0, 1) := by decide +kernel
theorem dX3_init_1 : decode cX3_init 1 = .ok (.invokespecial 3, 3) := by decide +kernel
theorem dX3_init_4 : decode cX3_init 4 = .ok (.aload_n 0, 1) := by decide +kernel
theorem dX3_init_5 : decode cX3_init 5 = .ok (.iload_n 1, 1) := by decide +kernel
theorem dX3_init_6 : decode cX3_init 6 = .ok (.newarray .int, 2) := by decide +kernel
theorem dX3_init_8 : decode cX3_init 8 = .ok (.putfield 9, 3) := by decide +kernel
theorem dX3_init_11 : decode cX3_init 11 = .ok (.aload_n 0, 1) := by decide +kernel
theorem dX3_init_12 : decode cX3_init 12 = .ok (.iload_n 1, 1) := by decide +kernel
theorem dX3_init_13 : decode cX3_init 13 = .ok (.newarray .int, 2) := by decide +kernel
theorem dX3_init_15 : decode cX3_init 15 = .ok (.putfield 15, 3) := by decide +kernel
theorem dX3_init_18 : decode cX3_init 18 = .ok (.return_, 1) := by decide +kernel
theorem dX3_thingAtPlace_0 : decode cX3_thingAtPlace 0 = .ok (.aload_n 0, 1) := by decide +kernel
theorem dX3_thingAtPlace_1 : decode cX3_thingAtPlace 1 = .ok (.getfield 9, 3) := by decide +kernel
theorem dX3_thingAtPlace_4 : decode cX3_thingAtPlace 4 = .ok (.iload_n 1, 1) := by decide +kernel
theorem dX3_thingAtPlace_5 : decode cX3_thingAtPlace 5 = .ok (.invokestatic 18, 3) := by decide +kernel
theorem dX3_thingAtPlace_8 : decode cX3_thingAtPlace 8 = .ok (.ireturn, 1) := by decide +kernel
theorem dX3_arrange_0 : decode cX3_arrange 0 = .ok (.iload_n 1, 1) := by decide +kernel
theorem dX3_arrange_1 : decode cX3_arrange 1 = .ok (.iconst 1, 1) := by decide +kernel
theorem dX3_arrange_2 : decode cX3_arrange 2 = .ok (.if_icmp .ne 9, 3) := by decide +kernel
theorem dX3_arrange_5 : decode cX3_arrange 5 = .ok (.aload_n 0, 1) := by decide +kernel
theorem dX3_arrange_6 : decode cX3_arrange 6 = .ok (.aload_n 2, 1) := by decide +kernel
theorem dX3_arrange_7 : decode cX3_arrange 7 = .ok (.invokevirtual 22, 3) := by decide +kernel
theorem dX3_arrange_10 : decode cX3_arrange 10 = .ok (.return_, 1) := by decide +kernel
theorem dX3_arrange_11 : decode cX3_arrange 11 = .ok (.iconst 0, 1) := by decide +kernel
theorem dX3_arrange_12 : decode cX3_arrange 12 = .ok (.istore_n 3, 1) := by decide +kernel
theorem dX3_arrange_13 : decode cX3_arrange 13 = .ok (.iload_n 3, 1) := by decide +kernel
theorem dX3_arrange_14 : decode cX3_arrange 14 = .ok (.aload_n 0, 1) := by decide +kernel
theorem dX3_arrange_15 : decode cX3_arrange 15 = .ok (.getfield 15, 3) := by decide +kernel
theorem dX3_arrange_18 : decode cX3_arrange 18 = .ok (.arraylength, 1) := by decide +kernel
theorem dX3_arrange_19 : decode cX3_arrange 19 = .ok (.if_icmp .ge 40, 3) := by decide +kernel
theorem dX3_arrange_22 : decode cX3_arrange 22 = .ok (.aload_n 2, 1) := by decide +kernel
theorem dX3_arrange_23 : decode cX3_arrange 23 = .ok (.iload_n 3, 1) := by decide +kernel
theorem dX3_arrange_24 : decode cX3_arrange 24 = .ok (.invokevirtual 26, 3) := by decide +kernel
theorem dX3_arrange_27 : decode cX3_arrange 27 = .ok (.lstore 4, 2) := by decide +kernel
theorem dX3_arrange_29 : decode cX3_arrange 29 = .ok (.aload_n 0, 1) := by decide +kernel
theorem dX3_arrange_30 : decode cX3_arrange 30 = .ok (.getfield 15, 3) := by decide +kernel
theorem dX3_arrange_33 : decode cX3_arrange 33 = .ok (.iload_n 3, 1) := by decide +kernel
theorem dX3_arrange_34 : decode cX3_arrange 34 = .ok (.iload_n 1, 1) := by decide +kernel
theorem dX3_arrange_35 : decode cX3_arrange 35 = .ok (.ifCond .ne 12, 3) := by decide +kernel
theorem dX3_arrange_38 : decode cX3_arrange 38 = .ok (.lload 4, 2) := by decide +kernel
theorem dX3_arrange_40 : decode cX3_arrange 40 = .ok (.invokestatic 32, 3) := by decide +kernel
theorem dX3_arrange_43 : decode cX3_arrange 43 = .ok (.ineg, 1) := by decide +kernel
theorem dX3_arrange_44 : decode cX3_arrange 44 = .ok (.goto 8, 3) := by decide +kernel
theorem dX3_arrange_47 : decode cX3_arrange 47 = .ok (.lload 4, 2) := by decide +kernel
theorem dX3_arrange_49 : decode cX3_arrange 49 = .ok (.invokestatic 38, 3) := by decide +kernel
theorem dX3_arrange_52 : decode cX3_arrange 52 = .ok (.iastore, 1) := by decide +kernel
theorem dX3_arrange_53 : decode cX3_arrange 53 = .ok (.iinc 3 1, 3) := by decide +kernel
theorem dX3_arrange_56 : decode cX3_arrange 56 = .ok (.goto (-43), 3) := by decide +kernel
theorem dX3_arrange_59 : decode cX3_arrange 59 = .ok (.aload_n 0, 1) := by decide +kernel
theorem dX3_arrange_60 : decode cX3_arrange 60 = .ok (.invokevirtual 41, 3) := by decide +kernel
theorem dX3_arrange_63 : decode cX3_arrange 63 = .ok (.return_, 1) := by decide +kernel
theorem dX3_leastKey_0 : decode cX3_leastKey 0 = .ok (.sipush 1024, 3) := by decide +kernel
theorem dX3_leastKey_3 : decode cX3_leastKey 3 = .ok (.istore_n 2, 1) := by decide +kernel
theorem dX3_leastKey_4 : decode cX3_leastKey 4 = .ok (.iconst 0, 1) := by decide +kernel
theorem dX3_leastKey_5 : decode cX3_leastKey 5 = .ok (.istore_n 3, 1) := by decide +kernel
theorem dX3_leastKey_6 : decode cX3_leastKey 6 = .ok (.iload_n 3, 1) := by decide +kernel
theorem dX3_leastKey_7 : decode cX3_leastKey 7 = .ok (.bipush 48, 2) := by decide +kernel
theorem dX3_leastKey_9 : decode cX3_leastKey 9 = .ok (.if_icmp .ge 32, 3) := by decide +kernel
theorem dX3_leastKey_12 : decode cX3_leastKey 12 = .ok (.lload_n 0, 1) := by decide +kernel
theorem dX3_leastKey_13 : decode cX3_leastKey 13 = .ok (.iload_n 3, 1) := by decide +kernel
theorem dX3_leastKey_14 : decode cX3_leastKey 14 = .ok (.invokestatic 44, 3) := by decide +kernel
theorem dX3_leastKey_17 : decode cX3_leastKey 17 = .ok (.ifCond .eq 18, 3) := by decide +kernel
theorem dX3_leastKey_20 : decode cX3_leastKey 20 = .ok (.iload_n 2, 1) := by decide +kernel
theorem dX3_leastKey_21 : decode cX3_leastKey 21 = .ok (.iload_n 3, 1) := by decide +kernel
theorem dX3_leastKey_22 : decode cX3_leastKey 22 = .ok (.ldc 48, 2) := by decide +kernel
theorem dX3_leastKey_24 : decode cX3_leastKey 24 = .ok (.imul, 1) := by decide +kernel
theorem dX3_leastKey_25 : decode cX3_leastKey 25 = .ok (.ldc 49, 2) := by decide +kernel
theorem dX3_leastKey_27 : decode cX3_leastKey 27 = .ok (.iand, 1) := by decide +kernel
theorem dX3_leastKey_28 : decode cX3_leastKey 28 = .ok (.bipush 6, 2) := by decide +kernel
theorem dX3_leastKey_30 : decode cX3_leastKey 30 = .ok (.ishr, 1) := by decide +kernel
theorem dX3_leastKey_31 : decode cX3_leastKey 31 = .ok (.invokestatic 50, 3) := by decide +kernel
theorem dX3_leastKey_34 : decode cX3_leastKey 34 = .ok (.istore_n 2, 1) := by decide +kernel
theorem dX3_leastKey_35 : decode cX3_leastKey 35 = .ok (.iinc 3 1, 3) := by decide +kernel
theorem dX3_leastKey_38 : decode cX3_leastKey 38 = .ok (.goto (-32), 3) := by decide +kernel
theorem dX3_leastKey_41 : decode cX3_leastKey 41 = .ok (.iload_n 2, 1) := by decide +kernel
theorem dX3_leastKey_42 : decode cX3_leastKey 42 = .ok (.ireturn, 1) := by decide +kernel
theorem dX3_layByKeys_0 : decode cX3_layByKeys 0 = .ok (.iconst 0, 1) := by decide +kernel
theorem dX3_layByKeys_1 : decode cX3_layByKeys 1 = .ok (.istore_n 1, 1) := by decide +kernel
theorem dX3_layByKeys_2 : decode cX3_layByKeys 2 = .ok (.iload_n 1, 1) := by decide +kernel
theorem dX3_layByKeys_3 : decode cX3_layByKeys 3 = .ok (.aload_n 0, 1) := by decide +kernel
theorem dX3_layByKeys_4 : decode cX3_layByKeys 4 = .ok (.getfield 9, 3) := by decide +kernel
theorem dX3_layByKeys_7 : decode cX3_layByKeys 7 = .ok (.arraylength, 1) := by decide +kernel
theorem dX3_layByKeys_8 : decode cX3_layByKeys 8 = .ok (.if_icmp .ge 77, 3) := by decide +kernel
theorem dX3_layByKeys_11 : decode cX3_layByKeys 11 = .ok (.iload_n 1, 1) := by decide +kernel
theorem dX3_layByKeys_12 : decode cX3_layByKeys 12 = .ok (.istore_n 2, 1) := by decide +kernel
theorem dX3_layByKeys_13 : decode cX3_layByKeys 13 = .ok (.iload_n 2, 1) := by decide +kernel
theorem dX3_layByKeys_14 : decode cX3_layByKeys 14 = .ok (.ifCond .le 58, 3) := by decide +kernel
theorem dX3_layByKeys_17 : decode cX3_layByKeys 17 = .ok (.iload_n 2, 1) := by decide +kernel
theorem dX3_layByKeys_18 : decode cX3_layByKeys 18 = .ok (.aload_n 0, 1) := by decide +kernel
theorem dX3_layByKeys_19 : decode cX3_layByKeys 19 = .ok (.getfield 9, 3) := by decide +kernel
theorem dX3_layByKeys_22 : decode cX3_layByKeys 22 = .ok (.arraylength, 1) := by decide +kernel
theorem dX3_layByKeys_23 : decode cX3_layByKeys 23 = .ok (.if_icmp .ge 49, 3) := by decide +kernel
theorem dX3_layByKeys_26 : decode cX3_layByKeys 26 = .ok (.aload_n 0, 1) := by decide +kernel
theorem dX3_layByKeys_27 : decode cX3_layByKeys 27 = .ok (.getfield 15, 3) := by decide +kernel
theorem dX3_layByKeys_30 : decode cX3_layByKeys 30 = .ok (.aload_n 0, 1) := by decide +kernel
end
section
theorem dX3_layByKeys_31 : decode cX3_layByKeys 31 = .ok (.getfield 9, 3) := by decide +kernel
theorem dX3_layByKeys_34 : decode cX3_layByKeys 34 = .ok (.iload_n 2, 1) := by decide +kernel
theorem dX3_layByKeys_35 : decode cX3_layByKeys 35 = .ok (.iconst 1, 1) := by decide +kernel
theorem dX3_layByKeys_36 : decode cX3_layByKeys 36 = .ok (.isub, 1) := by decide +kernel
theorem dX3_layByKeys_37 : decode cX3_layByKeys 37 = .ok (.iaload, 1) := by decide +kernel
theorem dX3_layByKeys_38 : decode cX3_layByKeys 38 = .ok (.invokestatic 18, 3) := by decide +kernel
theorem dX3_layByKeys_41 : decode cX3_layByKeys 41 = .ok (.aload_n 0, 1) := by decide +kernel
theorem dX3_layByKeys_42 : decode cX3_layByKeys 42 = .ok (.getfield 15, 3) := by decide +kernel
theorem dX3_layByKeys_45 : decode cX3_layByKeys 45 = .ok (.iload_n 1, 1) := by decide +kernel
theorem dX3_layByKeys_46 : decode cX3_layByKeys 46 = .ok (.invokestatic 18, 3) := by decide +kernel
theorem dX3_layByKeys_49 : decode cX3_layByKeys 49 = .ok (.if_icmp .le 23, 3) := by decide +kernel
theorem dX3_layByKeys_52 : decode cX3_layByKeys 52 = .ok (.aload_n 0, 1) := by decide +kernel
theorem dX3_layByKeys_53 : decode cX3_layByKeys 53 = .ok (.getfield 9, 3) := by decide +kernel
theorem dX3_layByKeys_56 : decode cX3_layByKeys 56 = .ok (.iload_n 2, 1) := by decide +kernel
theorem dX3_layByKeys_57 : decode cX3_layByKeys 57 = .ok (.aload_n 0, 1) := by decide +kernel
theorem dX3_layByKeys_58 : decode cX3_layByKeys 58 = .ok (.getfield 9, 3) := by decide +kernel
theorem dX3_layByKeys_61 : decode cX3_layByKeys 61 = .ok (.iload_n 2, 1) := by decide +kernel
theorem dX3_layByKeys_62 : decode cX3_layByKeys 62 = .ok (.iconst 1, 1) := by decide +kernel
theorem dX3_layByKeys_63 : decode cX3_layByKeys 63 = .ok (.isub, 1) := by decide +kernel
theorem dX3_layByKeys_64 : decode cX3_layByKeys 64 = .ok (.iaload, 1) := by decide +kernel
theorem dX3_layByKeys_65 : decode cX3_layByKeys 65 = .ok (.iastore, 1) := by decide +kernel
theorem dX3_layByKeys_66 : decode cX3_layByKeys 66 = .ok (.iinc 2 (-1), 3) := by decide +kernel
theorem dX3_layByKeys_69 : decode cX3_layByKeys 69 = .ok (.goto (-56), 3) := by decide +kernel
theorem dX3_layByKeys_72 : decode cX3_layByKeys 72 = .ok (.aload_n 0, 1) := by decide +kernel
theorem dX3_layByKeys_73 : decode cX3_layByKeys 73 = .ok (.getfield 9, 3) := by decide +kernel
theorem dX3_layByKeys_76 : decode cX3_layByKeys 76 = .ok (.iload_n 2, 1) := by decide +kernel
theorem dX3_layByKeys_77 : decode cX3_layByKeys 77 = .ok (.iload_n 1, 1) := by decide +kernel
theorem dX3_layByKeys_78 : decode cX3_layByKeys 78 = .ok (.iastore, 1) := by decide +kernel
theorem dX3_layByKeys_79 : decode cX3_layByKeys 79 = .ok (.iinc 1 1, 3) := by decide +kernel
theorem dX3_layByKeys_82 : decode cX3_layByKeys 82 = .ok (.goto (-80), 3) := by decide +kernel
theorem dX3_layByKeys_85 : decode cX3_layByKeys 85 = .ok (.return_, 1) := by decide +kernel
theorem dX3_layLayers_0 : decode cX3_layLayers 0 = .ok (.lconst 0, 1) := by decide +kernel
theorem dX3_layLayers_1 : decode cX3_layLayers 1 = .ok (.lstore_n 2, 1) := by decide +kernel
theorem dX3_layLayers_2 : decode cX3_layLayers 2 = .ok (.iconst 0, 1) := by decide +kernel
theorem dX3_layLayers_3 : decode cX3_layLayers 3 = .ok (.istore 4, 2) := by decide +kernel
theorem dX3_layLayers_5 : decode cX3_layLayers 5 = .ok (.iconst 0, 1) := by decide +kernel
theorem dX3_layLayers_6 : decode cX3_layLayers 6 = .ok (.istore 5, 2) := by decide +kernel
theorem dX3_layLayers_8 : decode cX3_layLayers 8 = .ok (.iload 5, 2) := by decide +kernel
theorem dX3_layLayers_10 : decode cX3_layLayers 10 = .ok (.aload_n 0, 1) := by decide +kernel
theorem dX3_layLayers_11 : decode cX3_layLayers 11 = .ok (.getfield 9, 3) := by decide +kernel
theorem dX3_layLayers_14 : decode cX3_layLayers 14 = .ok (.arraylength, 1) := by decide +kernel
theorem dX3_layLayers_15 : decode cX3_layLayers 15 = .ok (.if_icmp .ge 119, 3) := by decide +kernel
theorem dX3_layLayers_18 : decode cX3_layLayers 18 = .ok (.iload 5, 2) := by decide +kernel
theorem dX3_layLayers_20 : decode cX3_layLayers 20 = .ok (.iload 4, 2) := by decide +kernel
theorem dX3_layLayers_22 : decode cX3_layLayers 22 = .ok (.if_icmp .ne 34, 3) := by decide +kernel
theorem dX3_layLayers_25 : decode cX3_layLayers 25 = .ok (.aload_n 0, 1) := by decide +kernel
theorem dX3_layLayers_26 : decode cX3_layLayers 26 = .ok (.getfield 9, 3) := by decide +kernel
theorem dX3_layLayers_29 : decode cX3_layLayers 29 = .ok (.iload 5, 2) := by decide +kernel
theorem dX3_layLayers_31 : decode cX3_layLayers 31 = .ok (.lload_n 2, 1) := by decide +kernel
theorem dX3_layLayers_32 : decode cX3_layLayers 32 = .ok (.ldc2_w 56, 3) := by decide +kernel
theorem dX3_layLayers_35 : decode cX3_layLayers 35 = .ok (.lxor, 1) := by decide +kernel
theorem dX3_layLayers_36 : decode cX3_layLayers 36 = .ok (.iconst 0, 1) := by decide +kernel
theorem dX3_layLayers_37 : decode cX3_layLayers 37 = .ok (.invokestatic 58, 3) := by decide +kernel
theorem dX3_layLayers_40 : decode cX3_layLayers 40 = .ok (.iastore, 1) := by decide +kernel
theorem dX3_layLayers_41 : decode cX3_layLayers 41 = .ok (.lload_n 2, 1) := by decide +kernel
theorem dX3_layLayers_42 : decode cX3_layLayers 42 = .ok (.lconst 1, 1) := by decide +kernel
theorem dX3_layLayers_43 : decode cX3_layLayers 43 = .ok (.aload_n 0, 1) := by decide +kernel
theorem dX3_layLayers_44 : decode cX3_layLayers 44 = .ok (.getfield 9, 3) := by decide +kernel
theorem dX3_layLayers_47 : decode cX3_layLayers 47 = .ok (.iload 5, 2) := by decide +kernel
theorem dX3_layLayers_49 : decode cX3_layLayers 49 = .ok (.iaload, 1) := by decide +kernel
theorem dX3_layLayers_50 : decode cX3_layLayers 50 = .ok (.lshl, 1) := by decide +kernel
theorem dX3_layLayers_51 : decode cX3_layLayers 51 = .ok (.lor, 1) := by decide +kernel
theorem dX3_layLayers_52 : decode cX3_layLayers 52 = .ok (.lstore_n 2, 1) := by decide +kernel
theorem dX3_layLayers_53 : decode cX3_layLayers 53 = .ok (.iinc 4 1, 3) := by decide +kernel
theorem dX3_layLayers_56 : decode cX3_layLayers 56 = .ok (.aload_n 1, 1) := by decide +kernel
theorem dX3_layLayers_57 : decode cX3_layLayers 57 = .ok (.aload_n 0, 1) := by decide +kernel
theorem dX3_layLayers_58 : decode cX3_layLayers 58 = .ok (.getfield 9, 3) := by decide +kernel
theorem dX3_layLayers_61 : decode cX3_layLayers 61 = .ok (.iload 5, 2) := by decide +kernel
theorem dX3_layLayers_63 : decode cX3_layLayers 63 = .ok (.iaload, 1) := by decide +kernel
theorem dX3_layLayers_64 : decode cX3_layLayers 64 = .ok (.invokevirtual 26, 3) := by decide +kernel
theorem dX3_layLayers_67 : decode cX3_layLayers 67 = .ok (.lload_n 2, 1) := by decide +kernel
theorem dX3_layLayers_68 : decode cX3_layLayers 68 = .ok (.ldc2_w 56, 3) := by decide +kernel
theorem dX3_layLayers_71 : decode cX3_layLayers 71 = .ok (.lxor, 1) := by decide +kernel
theorem dX3_layLayers_72 : decode cX3_layLayers 72 = .ok (.land, 1) := by decide +kernel
theorem dX3_layLayers_73 : decode cX3_layLayers 73 = .ok (.lstore 6, 2) := by decide +kernel
theorem dX3_layLayers_75 : decode cX3_layLayers 75 = .ok (.iconst 0, 1) := by decide +kernel
theorem dX3_layLayers_76 : decode cX3_layLayers 76 = .ok (.istore 8, 2) := by decide +kernel
theorem dX3_layLayers_78 : decode cX3_layLayers 78 = .ok (.iload 8, 2) := by decide +kernel
theorem dX3_layLayers_80 : decode cX3_layLayers 80 = .ok (.bipush 48, 2) := by decide +kernel
theorem dX3_layLayers_82 : decode cX3_layLayers 82 = .ok (.if_icmp .ge 41, 3) := by decide +kernel
theorem dX3_layLayers_85 : decode cX3_layLayers 85 = .ok (.iload 4, 2) := by decide +kernel
theorem dX3_layLayers_87 : decode cX3_layLayers 87 = .ok (.aload_n 0, 1) := by decide +kernel
theorem dX3_layLayers_88 : decode cX3_layLayers 88 = .ok (.getfield 9, 3) := by decide +kernel
theorem dX3_layLayers_91 : decode cX3_layLayers 91 = .ok (.arraylength, 1) := by decide +kernel
theorem dX3_layLayers_92 : decode cX3_layLayers 92 = .ok (.if_icmp .ge 31, 3) := by decide +kernel
theorem dX3_layLayers_95 : decode cX3_layLayers 95 = .ok (.lload 6, 2) := by decide +kernel
theorem dX3_layLayers_97 : decode cX3_layLayers 97 = .ok (.iload 8, 2) := by decide +kernel
theorem dX3_layLayers_99 : decode cX3_layLayers 99 = .ok (.invokestatic 44, 3) := by decide +kernel
theorem dX3_layLayers_102 : decode cX3_layLayers 102 = .ok (.ifCond .eq 15, 3) := by decide +kernel
theorem dX3_layLayers_105 : decode cX3_layLayers 105 = .ok (.aload_n 0, 1) := by decide +kernel
theorem dX3_layLayers_106 : decode cX3_layLayers 106 = .ok (.getfield 9, 3) := by decide +kernel
theorem dX3_layLayers_109 : decode cX3_layLayers 109 = .ok (.iload 4, 2) := by decide +kernel
theorem dX3_layLayers_111 : decode cX3_layLayers 111 = .ok (.iload 8, 2) := by decide +kernel
theorem dX3_layLayers_113 : decode cX3_layLayers 113 = .ok (.iastore, 1) := by decide +kernel
theorem dX3_layLayers_114 : decode cX3_layLayers 114 = .ok (.iinc 4 1, 3) := by decide +kernel
theorem dX3_layLayers_117 : decode cX3_layLayers 117 = .ok (.iinc 8 1, 3) := by decide +kernel
theorem dX3_layLayers_120 : decode cX3_layLayers 120 = .ok (.goto (-42), 3) := by decide +kernel
theorem dX3_layLayers_123 : decode cX3_layLayers 123 = .ok (.lload_n 2, 1) := by decide +kernel
theorem dX3_layLayers_124 : decode cX3_layLayers 124 = .ok (.lload 6, 2) := by decide +kernel
theorem dX3_layLayers_126 : decode cX3_layLayers 126 = .ok (.lor, 1) := by decide +kernel
theorem dX3_layLayers_127 : decode cX3_layLayers 127 = .ok (.lstore_n 2, 1) := by decide +kernel
theorem dX3_layLayers_128 : decode cX3_layLayers 128 = .ok (.iinc 5 1, 3) := by decide +kernel
theorem dX3_layLayers_131 : decode cX3_layLayers 131 = .ok (.goto (-123), 3) := by decide +kernel
theorem dX3_layLayers_134 : decode cX3_layLayers 134 = .ok (.return_, 1) := by decide +kernel
theorem dX4_init_0 : decode cX4_init 0 = .ok (.aload_n 0, 1) := by decide +kernel
theorem dX4_init_1 : decode cX4_init 1 = .ok (.invokespecial 1, 3) := by decide +kernel
theorem dX4_init_4 : decode cX4_init 4 = .ok (.aload_n 0, 1) := by decide +kernel
theorem dX4_init_5 : decode cX4_init 5 = .ok (.iload_n 1, 1) := by decide +kernel
theorem dX4_init_6 : decode cX4_init 6 = .ok (.newarray .long, 2) := by decide +kernel
theorem dX4_init_8 : decode cX4_init 8 = .ok (.putfield 7, 3) := by decide +kernel
theorem dX4_init_11 : decode cX4_init 11 = .ok (.aload_n 0, 1) := by decide +kernel
theorem dX4_init_12 : decode cX4_init 12 = .ok (.iload_n 1, 1) := by decide +kernel
theorem dX4_init_13 : decode cX4_init 13 = .ok (.newarray .long, 2) := by decide +kernel
theorem dX4_init_15 : decode cX4_init 15 = .ok (.putfield 13, 3) := by decide +kernel
theorem dX4_init_18 : decode cX4_init 18 = .ok (.return_, 1) := by decide +kernel
theorem dX4_things_0 : decode cX4_things 0 = .ok (.aload_n 0, 1) := by decide +kernel
theorem dX4_things_1 : decode cX4_things 1 = .ok (.getfield 7, 3) := by decide +kernel
theorem dX4_things_4 : decode cX4_things 4 = .ok (.arraylength, 1) := by decide +kernel
theorem dX4_things_5 : decode cX4_things 5 = .ok (.ireturn, 1) := by decide +kernel
theorem dX4_isThing_0 : decode cX4_isThing 0 = .ok (.iload_n 1, 1) := by decide +kernel
theorem dX4_isThing_1 : decode cX4_isThing 1 = .ok (.ifCond .lt 16, 3) := by decide +kernel
theorem dX4_isThing_4 : decode cX4_isThing 4 = .ok (.iload_n 1, 1) := by decide +kernel
theorem dX4_isThing_5 : decode cX4_isThing 5 = .ok (.aload_n 0, 1) := by decide +kernel
theorem dX4_isThing_6 : decode cX4_isThing 6 = .ok (.getfield 7, 3) := by decide +kernel
theorem dX4_isThing_9 : decode cX4_isThing 9 = .ok (.arraylength, 1) := by decide +kernel
theorem dX4_isThing_10 : decode cX4_isThing 10 = .ok (.if_icmp .ge 7, 3) := by decide +kernel
theorem dX4_isThing_13 : decode cX4_isThing 13 = .ok (.iconst 1, 1) := by decide +kernel
theorem dX4_isThing_14 : decode cX4_isThing 14 = .ok (.goto 4, 3) := by decide +kernel
theorem dX4_isThing_17 : decode cX4_isThing 17 = .ok (.iconst 0, 1) := by decide +kernel
theorem dX4_isThing_18 : decode cX4_isThing 18 = .ok (.ireturn, 1) := by decide +kernel
theorem dX4_rowOf_0 : decode cX4_rowOf 0 = .ok (.iload_n 1, 1) := by decide +kernel
theorem dX4_rowOf_1 : decode cX4_rowOf 1 = .ok (.ifCond .lt 21, 3) := by decide +kernel
theorem dX4_rowOf_4 : decode cX4_rowOf 4 = .ok (.iload_n 1, 1) := by decide +kernel
theorem dX4_rowOf_5 : decode cX4_rowOf 5 = .ok (.aload_n 0, 1) := by decide +kernel
theorem dX4_rowOf_6 : decode cX4_rowOf 6 = .ok (.getfield 7, 3) := by decide +kernel
theorem dX4_rowOf_9 : decode cX4_rowOf 9 = .ok (.arraylength, 1) := by decide +kernel
theorem dX4_rowOf_10 : decode cX4_rowOf 10 = .ok (.if_icmp .ge 12, 3) := by decide +kernel
theorem dX4_rowOf_13 : decode cX4_rowOf 13 = .ok (.aload_n 0, 1) := by decide +kernel
theorem dX4_rowOf_14 : decode cX4_rowOf 14 = .ok (.getfield 7, 3) := by decide +kernel
theorem dX4_rowOf_17 : decode cX4_rowOf 17 = .ok (.iload_n 1, 1) := by decide +kernel
theorem dX4_rowOf_18 : decode cX4_rowOf 18 = .ok (.laload, 1) := by decide +kernel
theorem dX4_rowOf_19 : decode cX4_rowOf 19 = .ok (.goto 4, 3) := by decide +kernel
theorem dX4_rowOf_22 : decode cX4_rowOf 22 = .ok (.lconst 0, 1) := by decide +kernel
theorem dX4_rowOf_23 : decode cX4_rowOf 23 = .ok (.lreturn, 1) := by decide +kernel
theorem dX4_columnOf_0 : decode cX4_columnOf 0 = .ok (.lconst 0, 1) := by decide +kernel
theorem dX4_columnOf_1 : decode cX4_columnOf 1 = .ok (.lstore_n 2, 1) := by decide +kernel
theorem dX4_columnOf_2 : decode cX4_columnOf 2 = .ok (.iconst 0, 1) := by decide +kernel
theorem dX4_columnOf_3 : decode cX4_columnOf 3 = .ok (.istore 4, 2) := by decide +kernel
theorem dX4_columnOf_5 : decode cX4_columnOf 5 = .ok (.iload 4, 2) := by decide +kernel
theorem dX4_columnOf_7 : decode cX4_columnOf 7 = .ok (.aload_n 0, 1) := by decide +kernel
theorem dX4_columnOf_8 : decode cX4_columnOf 8 = .ok (.getfield 7, 3) := by decide +kernel
theorem dX4_columnOf_11 : decode cX4_columnOf 11 = .ok (.arraylength, 1) := by decide +kernel
theorem dX4_columnOf_12 : decode cX4_columnOf 12 = .ok (.if_icmp .ge 30, 3) := by decide +kernel
theorem dX4_columnOf_15 : decode cX4_columnOf 15 = .ok (.aload_n 0, 1) := by decide +kernel
theorem dX4_columnOf_16 : decode cX4_columnOf 16 = .ok (.getfield 7, 3) := by decide +kernel
theorem dX4_columnOf_19 : decode cX4_columnOf 19 = .ok (.iload 4, 2) := by decide +kernel
theorem dX4_columnOf_21 : decode cX4_columnOf 21 = .ok (.laload, 1) := by decide +kernel
theorem dX4_columnOf_22 : decode cX4_columnOf 22 = .ok (.iload_n 1, 1) := by decide +kernel
theorem dX4_columnOf_23 : decode cX4_columnOf 23 = .ok (.invokestatic 16, 3) := by decide +kernel
theorem dX4_columnOf_26 : decode cX4_columnOf 26 = .ok (.ifCond .eq 10, 3) := by decide +kernel
theorem dX4_columnOf_29 : decode cX4_columnOf 29 = .ok (.lload_n 2, 1) := by decide +kernel
theorem dX4_columnOf_30 : decode cX4_columnOf 30 = .ok (.lconst 1, 1) := by decide +kernel
theorem dX4_columnOf_31 : decode cX4_columnOf 31 = .ok (.iload 4, 2) := by decide +kernel
theorem dX4_columnOf_33 : decode cX4_columnOf 33 = .ok (.lshl, 1) := by decide +kernel
theorem dX4_columnOf_34 : decode cX4_columnOf 34 = .ok (.lor, 1) := by decide +kernel
theorem dX4_columnOf_35 : decode cX4_columnOf 35 = .ok (.lstore_n 2, 1) := by decide +kernel
theorem dX4_columnOf_36 : decode cX4_columnOf 36 = .ok (.iinc 4 1, 3) := by decide +kernel
theorem dX4_columnOf_39 : decode cX4_columnOf 39 = .ok (.goto (-34), 3) := by decide +kernel
theorem dX4_columnOf_42 : decode cX4_columnOf 42 = .ok (.lload_n 2, 1) := by decide +kernel
theorem dX4_columnOf_43 : decode cX4_columnOf 43 = .ok (.lreturn, 1) := by decide +kernel
theorem dX4_joined_0 : decode cX4_joined 0 = .ok (.aload_n 0, 1) := by decide +kernel
theorem dX4_joined_1 : decode cX4_joined 1 = .ok (.iload_n 1, 1) := by decide +kernel
theorem dX4_joined_2 : decode cX4_joined 2 = .ok (.invokevirtual 22, 3) := by decide +kernel
theorem dX4_joined_5 : decode cX4_joined 5 = .ok (.iload_n 2, 1) := by decide +kernel
theorem dX4_joined_6 : decode cX4_joined 6 = .ok (.invokestatic 16, 3) := by decide +kernel
theorem dX4_joined_9 : decode cX4_joined 9 = .ok (.ireturn, 1) := by decide +kernel
theorem dX4_flip_0 : decode cX4_flip 0 = .ok (.aload_n 0, 1) := by decide +kernel
theorem dX4_flip_1 : decode cX4_flip 1 = .ok (.iload_n 1, 1) := by decide +kernel
theorem dX4_flip_2 : decode cX4_flip 2 = .ok (.invokevirtual 26, 3) := by decide +kernel
theorem dX4_flip_5 : decode cX4_flip 5 = .ok (.ifCond .eq 23, 3) := by decide +kernel
theorem dX4_flip_8 : decode cX4_flip 8 = .ok (.aload_n 0, 1) := by decide +kernel
theorem dX4_flip_9 : decode cX4_flip 9 = .ok (.iload_n 2, 1) := by decide +kernel
theorem dX4_flip_10 : decode cX4_flip 10 = .ok (.invokevirtual 26, 3) := by decide +kernel
theorem dX4_flip_13 : decode cX4_flip 13 = .ok (.ifCond .eq 15, 3) := by decide +kernel
theorem dX4_flip_16 : decode cX4_flip 16 = .ok (.aload_n 0, 1) := by decide +kernel
theorem dX4_flip_17 : decode cX4_flip 17 = .ok (.getfield 7, 3) := by decide +kernel
theorem dX4_flip_20 : decode cX4_flip 20 = .ok (.iload_n 1, 1) := by decide +kernel
theorem dX4_flip_21 : decode cX4_flip 21 = .ok (.dup2, 1) := by decide +kernel
theorem dX4_flip_22 : decode cX4_flip 22 = .ok (.laload, 1) := by decide +kernel
theorem dX4_flip_23 : decode cX4_flip 23 = .ok (.lconst 1, 1) := by decide +kernel
theorem dX4_flip_24 : decode cX4_flip 24 = .ok (.iload_n 2, 1) := by decide +kernel
theorem dX4_flip_25 : decode cX4_flip 25 = .ok (.lshl, 1) := by decide +kernel
theorem dX4_flip_26 : decode cX4_flip 26 = .ok (.lxor, 1) := by decide +kernel
theorem dX4_flip_27 : decode cX4_flip 27 = .ok (.lastore, 1) := by decide +kernel
theorem dX4_flip_28 : decode cX4_flip 28 = .ok (.return_, 1) := by decide +kernel
theorem dX4_takeAllOf_0 : decode cX4_takeAllOf 0 = .ok (.iconst 0, 1) := by decide +kernel
theorem dX4_takeAllOf_1 : decode cX4_takeAllOf 1 = .ok (.istore_n 2, 1) := by decide +kernel
theorem dX4_takeAllOf_2 : decode cX4_takeAllOf 2 = .ok (.iload_n 2, 1) := by decide +kernel
theorem dX4_takeAllOf_3 : decode cX4_takeAllOf 3 = .ok (.aload_n 0, 1) := by decide +kernel
theorem dX4_takeAllOf_4 : decode cX4_takeAllOf 4 = .ok (.getfield 7, 3) := by decide +kernel
theorem dX4_takeAllOf_7 : decode cX4_takeAllOf 7 = .ok (.arraylength, 1) := by decide +kernel
theorem dX4_takeAllOf_8 : decode cX4_takeAllOf 8 = .ok (.if_icmp .ge 20, 3) := by decide +kernel
theorem dX4_takeAllOf_11 : decode cX4_takeAllOf 11 = .ok (.aload_n 0, 1) := by decide +kernel
theorem dX4_takeAllOf_12 : decode cX4_takeAllOf 12 = .ok (.getfield 7, 3) := by decide +kernel
theorem dX4_takeAllOf_15 : decode cX4_takeAllOf 15 = .ok (.iload_n 2, 1) := by decide +kernel
theorem dX4_takeAllOf_16 : decode cX4_takeAllOf 16 = .ok (.aload_n 1, 1) := by decide +kernel
theorem dX4_takeAllOf_17 : decode cX4_takeAllOf 17 = .ok (.iload_n 2, 1) := by decide +kernel
theorem dX4_takeAllOf_18 : decode cX4_takeAllOf 18 = .ok (.invokevirtual 22, 3) := by decide +kernel
theorem dX4_takeAllOf_21 : decode cX4_takeAllOf 21 = .ok (.lastore, 1) := by decide +kernel
theorem dX4_takeAllOf_22 : decode cX4_takeAllOf 22 = .ok (.iinc 2 1, 3) := by decide +kernel
theorem dX4_takeAllOf_25 : decode cX4_takeAllOf 25 = .ok (.goto (-23), 3) := by decide +kernel
theorem dX4_takeAllOf_28 : decode cX4_takeAllOf 28 = .ok (.return_, 1) := by decide +kernel
theorem dX4_countAll_0 : decode cX4_countAll 0 = .ok (.iconst 0, 1) := by decide +kernel
theorem dX4_countAll_1 : decode cX4_countAll 1 = .ok (.istore_n 1, 1) := by decide +kernel
theorem dX4_countAll_2 : decode cX4_countAll 2 = .ok (.iconst 0, 1) := by decide +kernel
theorem dX4_countAll_3 : decode cX4_countAll 3 = .ok (.istore_n 2, 1) := by decide +kernel
theorem dX4_countAll_4 : decode cX4_countAll 4 = .ok (.iload_n 2, 1) := by decide +kernel
theorem dX4_countAll_5 : decode cX4_countAll 5 = .ok (.aload_n 0, 1) := by decide +kernel
theorem dX4_countAll_6 : decode cX4_countAll 6 = .ok (.getfield 7, 3) := by decide +kernel
theorem dX4_countAll_9 : decode cX4_countAll 9 = .ok (.arraylength, 1) := by decide +kernel
theorem dX4_countAll_10 : decode cX4_countAll 10 = .ok (.if_icmp .ge 21, 3) := by decide +kernel
theorem dX4_countAll_13 : decode cX4_countAll 13 = .ok (.iload_n 1, 1) := by decide +kernel
theorem dX4_countAll_14 : decode cX4_countAll 14 = .ok (.aload_n 0, 1) := by decide +kernel
theorem dX4_countAll_15 : decode cX4_countAll 15 = .ok (.getfield 7, 3) := by decide +kernel
theorem dX4_countAll_18 : decode cX4_countAll 18 = .ok (.iload_n 2, 1) := by decide +kernel
theorem dX4_countAll_19 : decode cX4_countAll 19 = .ok (.laload, 1) := by decide +kernel
theorem dX4_countAll_20 : decode cX4_countAll 20 = .ok (.invokestatic 30, 3) := by decide +kernel
theorem dX4_countAll_23 : decode cX4_countAll 23 = .ok (.iadd, 1) := by decide +kernel
theorem dX4_countAll_24 : decode cX4_countAll 24 = .ok (.istore_n 1, 1) := by decide +kernel
theorem dX4_countAll_25 : decode cX4_countAll 25 = .ok (.iinc 2 1, 3) := by decide +kernel
theorem dX4_countAll_28 : decode cX4_countAll 28 = .ok (.goto (-24), 3) := by decide +kernel
theorem dX4_countAll_31 : decode cX4_countAll 31 = .ok (.iload_n 1, 1) := by decide +kernel
theorem dX4_countAll_32 : decode cX4_countAll 32 = .ok (.ireturn, 1) := by decide +kernel
theorem dX4_countToLesser_0 : decode cX4_countToLesser 0 = .ok (.iconst 0, 1) := by decide +kernel
theorem dX4_countToLesser_1 : decode cX4_countToLesser 1 = .ok (.istore_n 1, 1) := by decide +kernel
theorem dX4_countToLesser_2 : decode cX4_countToLesser 2 = .ok (.iconst 0, 1) := by decide +kernel
theorem dX4_countToLesser_3 : decode cX4_countToLesser 3 = .ok (.istore_n 2, 1) := by decide +kernel
theorem dX4_countToLesser_4 : decode cX4_countToLesser 4 = .ok (.iload_n 2, 1) := by decide +kernel
theorem dX4_countToLesser_5 : decode cX4_countToLesser 5 = .ok (.aload_n 0, 1) := by decide +kernel
theorem dX4_countToLesser_6 : decode cX4_countToLesser 6 = .ok (.getfield 7, 3) := by decide +kernel
theorem dX4_countToLesser_9 : decode cX4_countToLesser 9 = .ok (.arraylength, 1) := by decide +kernel
theorem dX4_countToLesser_10 : decode cX4_countToLesser 10 = .ok (.if_icmp .ge 27, 3) := by decide +kernel
theorem dX4_countToLesser_13 : decode cX4_countToLesser 13 = .ok (.iload_n 1, 1) := by decide +kernel
theorem dX4_countToLesser_14 : decode cX4_countToLesser 14 = .ok (.aload_n 0, 1) := by decide +kernel
theorem dX4_countToLesser_15 : decode cX4_countToLesser 15 = .ok (.getfield 7, 3) := by decide +kernel
theorem dX4_countToLesser_18 : decode cX4_countToLesser 18 = .ok (.iload_n 2, 1) := by decide +kernel
theorem dX4_countToLesser_19 : decode cX4_countToLesser 19 = .ok (.laload, 1) := by decide +kernel
theorem dX4_countToLesser_20 : decode cX4_countToLesser 20 = .ok (.lconst 1, 1) := by decide +kernel
theorem dX4_countToLesser_21 : decode cX4_countToLesser 21 = .ok (.iload_n 2, 1) := by decide +kernel
theorem dX4_countToLesser_22 : decode cX4_countToLesser 22 = .ok (.lshl, 1) := by decide +kernel
theorem dX4_countToLesser_23 : decode cX4_countToLesser 23 = .ok (.lconst 1, 1) := by decide +kernel
theorem dX4_countToLesser_24 : decode cX4_countToLesser 24 = .ok (.lsub, 1) := by decide +kernel
theorem dX4_countToLesser_25 : decode cX4_countToLesser 25 = .ok (.land, 1) := by decide +kernel
theorem dX4_countToLesser_26 : decode cX4_countToLesser 26 = .ok (.invokestatic 30, 3) := by decide +kernel
theorem dX4_countToLesser_29 : decode cX4_countToLesser 29 = .ok (.iadd, 1) := by decide +kernel
theorem dX4_countToLesser_30 : decode cX4_countToLesser 30 = .ok (.istore_n 1, 1) := by decide +kernel
theorem dX4_countToLesser_31 : decode cX4_countToLesser 31 = .ok (.iinc 2 1, 3) := by decide +kernel
theorem dX4_countToLesser_34 : decode cX4_countToLesser 34 = .ok (.goto (-30), 3) := by decide +kernel
theorem dX4_countToLesser_37 : decode cX4_countToLesser 37 = .ok (.iload_n 1, 1) := by decide +kernel
theorem dX4_countToLesser_38 : decode cX4_countToLesser 38 = .ok (.ireturn, 1) := by decide +kernel
theorem dX4_countOther_0 : decode cX4_countOther 0 = .ok (.iconst 0, 1) := by decide +kernel
theorem dX4_countOther_1 : decode cX4_countOther 1 = .ok (.istore_n 2, 1) := by decide +kernel
theorem dX4_countOther_2 : decode cX4_countOther 2 = .ok (.iconst 0, 1) := by decide +kernel
theorem dX4_countOther_3 : decode cX4_countOther 3 = .ok (.istore_n 3, 1) := by decide +kernel
theorem dX4_countOther_4 : decode cX4_countOther 4 = .ok (.iload_n 3, 1) := by decide +kernel
theorem dX4_countOther_5 : decode cX4_countOther 5 = .ok (.aload_n 0, 1) := by decide +kernel
theorem dX4_countOther_6 : decode cX4_countOther 6 = .ok (.getfield 7, 3) := by decide +kernel
theorem dX4_countOther_9 : decode cX4_countOther 9 = .ok (.arraylength, 1) := by decide +kernel
theorem dX4_countOther_10 : decode cX4_countOther 10 = .ok (.if_icmp .ge 27, 3) := by decide +kernel
theorem dX4_countOther_13 : decode cX4_countOther 13 = .ok (.iload_n 2, 1) := by decide +kernel
theorem dX4_countOther_14 : decode cX4_countOther 14 = .ok (.aload_n 0, 1) := by decide +kernel
theorem dX4_countOther_15 : decode cX4_countOther 15 = .ok (.getfield 7, 3) := by decide +kernel
theorem dX4_countOther_18 : decode cX4_countOther 18 = .ok (.iload_n 3, 1) := by decide +kernel
theorem dX4_countOther_19 : decode cX4_countOther 19 = .ok (.laload, 1) := by decide +kernel
theorem dX4_countOther_20 : decode cX4_countOther 20 = .ok (.aload_n 1, 1) := by decide +kernel
theorem dX4_countOther_21 : decode cX4_countOther 21 = .ok (.iload_n 3, 1) := by decide +kernel
theorem dX4_countOther_22 : decode cX4_countOther 22 = .ok (.invokevirtual 22, 3) := by decide +kernel
theorem dX4_countOther_25 : decode cX4_countOther 25 = .ok (.lxor, 1) := by decide +kernel
theorem dX4_countOther_26 : decode cX4_countOther 26 = .ok (.invokestatic 30, 3) := by decide +kernel
theorem dX4_countOther_29 : decode cX4_countOther 29 = .ok (.iadd, 1) := by decide +kernel
theorem dX4_countOther_30 : decode cX4_countOther 30 = .ok (.istore_n 2, 1) := by decide +kernel
theorem dX4_countOther_31 : decode cX4_countOther 31 = .ok (.iinc 3 1, 3) := by decide +kernel
theorem dX4_countOther_34 : decode cX4_countOther 34 = .ok (.goto (-30), 3) := by decide +kernel
theorem dX4_countOther_37 : decode cX4_countOther 37 = .ok (.iload_n 2, 1) := by decide +kernel
theorem dX4_countOther_38 : decode cX4_countOther 38 = .ok (.ireturn, 1) := by decide +kernel
theorem dX4_renumberBy_0 : decode cX4_renumberBy 0 = .ok (.iconst 0, 1) := by decide +kernel
theorem dX4_renumberBy_1 : decode cX4_renumberBy 1 = .ok (.istore_n 2, 1) := by decide +kernel
theorem dX4_renumberBy_2 : decode cX4_renumberBy 2 = .ok (.iload_n 2, 1) := by decide +kernel
theorem dX4_renumberBy_3 : decode cX4_renumberBy 3 = .ok (.aload_n 0, 1) := by decide +kernel
theorem dX4_renumberBy_4 : decode cX4_renumberBy 4 = .ok (.getfield 13, 3) := by decide +kernel
theorem dX4_renumberBy_7 : decode cX4_renumberBy 7 = .ok (.arraylength, 1) := by decide +kernel
theorem dX4_renumberBy_8 : decode cX4_renumberBy 8 = .ok (.if_icmp .ge 71, 3) := by decide +kernel
theorem dX4_renumberBy_11 : decode cX4_renumberBy 11 = .ok (.aload_n 0, 1) := by decide +kernel
theorem dX4_renumberBy_12 : decode cX4_renumberBy 12 = .ok (.aload_n 1, 1) := by decide +kernel
theorem dX4_renumberBy_13 : decode cX4_renumberBy 13 = .ok (.iload_n 2, 1) := by decide +kernel
theorem dX4_renumberBy_14 : decode cX4_renumberBy 14 = .ok (.invokevirtual 36, 3) := by decide +kernel
theorem dX4_renumberBy_17 : decode cX4_renumberBy 17 = .ok (.invokevirtual 22, 3) := by decide +kernel
theorem dX4_renumberBy_20 : decode cX4_renumberBy 20 = .ok (.lstore_n 3, 1) := by decide +kernel
theorem dX4_renumberBy_21 : decode cX4_renumberBy 21 = .ok (.lconst 0, 1) := by decide +kernel
theorem dX4_renumberBy_22 : decode cX4_renumberBy 22 = .ok (.lstore 5, 2) := by decide +kernel
theorem dX4_renumberBy_24 : decode cX4_renumberBy 24 = .ok (.iconst 0, 1) := by decide +kernel
theorem dX4_renumberBy_25 : decode cX4_renumberBy 25 = .ok (.istore 7, 2) := by decide +kernel
theorem dX4_renumberBy_27 : decode cX4_renumberBy 27 = .ok (.iload 7, 2) := by decide +kernel
theorem dX4_renumberBy_29 : decode cX4_renumberBy 29 = .ok (.aload_n 0, 1) := by decide +kernel
theorem dX4_renumberBy_30 : decode cX4_renumberBy 30 = .ok (.getfield 13, 3) := by decide +kernel
theorem dX4_renumberBy_33 : decode cX4_renumberBy 33 = .ok (.arraylength, 1) := by decide +kernel
theorem dX4_renumberBy_34 : decode cX4_renumberBy 34 = .ok (.if_icmp .ge 31, 3) := by decide +kernel
theorem dX4_renumberBy_37 : decode cX4_renumberBy 37 = .ok (.lload_n 3, 1) := by decide +kernel
theorem dX4_renumberBy_38 : decode cX4_renumberBy 38 = .ok (.aload_n 1, 1) := by decide +kernel
theorem dX4_renumberBy_39 : decode cX4_renumberBy 39 = .ok (.iload 7, 2) := by decide +kernel
theorem dX4_renumberBy_41 : decode cX4_renumberBy 41 = .ok (.invokevirtual 36, 3) := by decide +kernel
theorem dX4_renumberBy_44 : decode cX4_renumberBy 44 = .ok (.invokestatic 16, 3) := by decide +kernel
theorem dX4_renumberBy_47 : decode cX4_renumberBy 47 = .ok (.ifCond .eq 12, 3) := by decide +kernel
theorem dX4_renumberBy_50 : decode cX4_renumberBy 50 = .ok (.lload 5, 2) := by decide +kernel
theorem dX4_renumberBy_52 : decode cX4_renumberBy 52 = .ok (.lconst 1, 1) := by decide +kernel
theorem dX4_renumberBy_53 : decode cX4_renumberBy 53 = .ok (.iload 7, 2) := by decide +kernel
theorem dX4_renumberBy_55 : decode cX4_renumberBy 55 = .ok (.lshl, 1) := by decide +kernel
theorem dX4_renumberBy_56 : decode cX4_renumberBy 56 = .ok (.lor, 1) := by decide +kernel
theorem dX4_renumberBy_57 : decode cX4_renumberBy 57 = .ok (.lstore 5, 2) := by decide +kernel
theorem dX4_renumberBy_59 : decode cX4_renumberBy 59 = .ok (.iinc 7 1, 3) := by decide +kernel
theorem dX4_renumberBy_62 : decode cX4_renumberBy 62 = .ok (.goto (-35), 3) := by decide +kernel
theorem dX4_renumberBy_65 : decode cX4_renumberBy 65 = .ok (.aload_n 0, 1) := by decide +kernel
theorem dX4_renumberBy_66 : decode cX4_renumberBy 66 = .ok (.getfield 13, 3) := by decide +kernel
theorem dX4_renumberBy_69 : decode cX4_renumberBy 69 = .ok (.iload_n 2, 1) := by decide +kernel
theorem dX4_renumberBy_70 : decode cX4_renumberBy 70 = .ok (.lload 5, 2) := by decide +kernel
theorem dX4_renumberBy_72 : decode cX4_renumberBy 72 = .ok (.lastore, 1) := by decide +kernel
theorem dX4_renumberBy_73 : decode cX4_renumberBy 73 = .ok (.iinc 2 1, 3) := by decide +kernel
theorem dX4_renumberBy_76 : decode cX4_renumberBy 76 = .ok (.goto (-74), 3) := by decide +kernel
theorem dX4_renumberBy_79 : decode cX4_renumberBy 79 = .ok (.iconst 0, 1) := by decide +kernel
theorem dX4_renumberBy_80 : decode cX4_renumberBy 80 = .ok (.istore_n 2, 1) := by decide +kernel
theorem dX4_renumberBy_81 : decode cX4_renumberBy 81 = .ok (.iload_n 2, 1) := by decide +kernel
theorem dX4_renumberBy_82 : decode cX4_renumberBy 82 = .ok (.aload_n 0, 1) := by decide +kernel
theorem dX4_renumberBy_83 : decode cX4_renumberBy 83 = .ok (.getfield 7, 3) := by decide +kernel
theorem dX4_renumberBy_86 : decode cX4_renumberBy 86 = .ok (.arraylength, 1) := by decide +kernel
theorem dX4_renumberBy_87 : decode cX4_renumberBy 87 = .ok (.if_icmp .ge 30, 3) := by decide +kernel
theorem dX4_renumberBy_90 : decode cX4_renumberBy 90 = .ok (.iload_n 2, 1) := by decide +kernel
theorem dX4_renumberBy_91 : decode cX4_renumberBy 91 = .ok (.aload_n 0, 1) := by decide +kernel
theorem dX4_renumberBy_92 : decode cX4_renumberBy 92 = .ok (.getfield 13, 3) := by decide +kernel
theorem dX4_renumberBy_95 : decode cX4_renumberBy 95 = .ok (.arraylength, 1) := by decide +kernel
theorem dX4_renumberBy_96 : decode cX4_renumberBy 96 = .ok (.if_icmp .ge 21, 3) := by decide +kernel
theorem dX4_renumberBy_99 : decode cX4_renumberBy 99 = .ok (.aload_n 0, 1) := by decide +kernel
theorem dX4_renumberBy_100 : decode cX4_renumberBy 100 = .ok (.getfield 7, 3) := by decide +kernel
theorem dX4_renumberBy_103 : decode cX4_renumberBy 103 = .ok (.iload_n 2, 1) := by decide +kernel
theorem dX4_renumberBy_104 : decode cX4_renumberBy 104 = .ok (.aload_n 0, 1) := by decide +kernel
theorem dX4_renumberBy_105 : decode cX4_renumberBy 105 = .ok (.getfield 13, 3) := by decide +kernel
theorem dX4_renumberBy_108 : decode cX4_renumberBy 108 = .ok (.iload_n 2, 1) := by decide +kernel
theorem dX4_renumberBy_109 : decode cX4_renumberBy 109 = .ok (.laload, 1) := by decide +kernel
theorem dX4_renumberBy_110 : decode cX4_renumberBy 110 = .ok (.lastore, 1) := by decide +kernel
theorem dX4_renumberBy_111 : decode cX4_renumberBy 111 = .ok (.iinc 2 1, 3) := by decide +kernel
theorem dX4_renumberBy_114 : decode cX4_renumberBy 114 = .ok (.goto (-33), 3) := by decide +kernel
theorem dX4_renumberBy_117 : decode cX4_renumberBy 117 = .ok (.return_, 1) := by decide +kernel
theorem dX5_init_0 : decode cX5_init 0 = .ok (.aload_n 0, 1) := by decide +kernel
theorem dX5_init_1 : decode cX5_init 1 = .ok (.invokespecial 1, 3) := by decide +kernel
theorem dX5_init_4 : decode cX5_init 4 = .ok (.aload_n 0, 1) := by decide +kernel
theorem dX5_init_5 : decode cX5_init 5 = .ok (.bipush 8, 2) := by decide +kernel
theorem dX5_init_7 : decode cX5_init 7 = .ok (.newarray .int, 2) := by decide +kernel
theorem dX5_init_9 : decode cX5_init 9 = .ok (.dup, 1) := by decide +kernel
theorem dX5_init_10 : decode cX5_init 10 = .ok (.iconst 0, 1) := by decide +kernel
theorem dX5_init_11 : decode cX5_init 11 = .ok (.iconst 1, 1) := by decide +kernel
theorem dX5_init_12 : decode cX5_init 12 = .ok (.iastore, 1) := by decide +kernel
theorem dX5_init_13 : decode cX5_init 13 = .ok (.dup, 1) := by decide +kernel
theorem dX5_init_14 : decode cX5_init 14 = .ok (.iconst 1, 1) := by decide +kernel
theorem dX5_init_15 : decode cX5_init 15 = .ok (.iconst 1, 1) := by decide +kernel
theorem dX5_init_16 : decode cX5_init 16 = .ok (.iastore, 1) := by decide +kernel
theorem dX5_init_17 : decode cX5_init 17 = .ok (.dup, 1) := by decide +kernel
theorem dX5_init_18 : decode cX5_init 18 = .ok (.iconst 2, 1) := by decide +kernel
theorem dX5_init_19 : decode cX5_init 19 = .ok (.iconst 1, 1) := by decide +kernel
theorem dX5_init_20 : decode cX5_init 20 = .ok (.iastore, 1) := by decide +kernel
theorem dX5_init_21 : decode cX5_init 21 = .ok (.dup, 1) := by decide +kernel
theorem dX5_init_22 : decode cX5_init 22 = .ok (.iconst 3, 1) := by decide +kernel
theorem dX5_init_23 : decode cX5_init 23 = .ok (.iconst 1, 1) := by decide +kernel
theorem dX5_init_24 : decode cX5_init 24 = .ok (.iastore, 1) := by decide +kernel
theorem dX5_init_25 : decode cX5_init 25 = .ok (.dup, 1) := by decide +kernel
theorem dX5_init_26 : decode cX5_init 26 = .ok (.iconst 4, 1) := by decide +kernel
theorem dX5_init_27 : decode cX5_init 27 = .ok (.iconst 1, 1) := by decide +kernel
theorem dX5_init_28 : decode cX5_init 28 = .ok (.iastore, 1) := by decide +kernel
theorem dX5_init_29 : decode cX5_init 29 = .ok (.dup, 1) := by decide +kernel
theorem dX5_init_30 : decode cX5_init 30 = .ok (.iconst 5, 1) := by decide +kernel
theorem dX5_init_31 : decode cX5_init 31 = .ok (.iconst 1, 1) := by decide +kernel
theorem dX5_init_32 : decode cX5_init 32 = .ok (.iastore, 1) := by decide +kernel
theorem dX5_init_33 : decode cX5_init 33 = .ok (.dup, 1) := by decide +kernel
theorem dX5_init_34 : decode cX5_init 34 = .ok (.bipush 6, 2) := by decide +kernel
theorem dX5_init_36 : decode cX5_init 36 = .ok (.iconst 1, 1) := by decide +kernel
theorem dX5_init_37 : decode cX5_init 37 = .ok (.iastore, 1) := by decide +kernel
theorem dX5_init_38 : decode cX5_init 38 = .ok (.dup, 1) := by decide +kernel
theorem dX5_init_39 : decode cX5_init 39 = .ok (.bipush 7, 2) := by decide +kernel
theorem dX5_init_41 : decode cX5_init 41 = .ok (.iconst 1, 1) := by decide +kernel
theorem dX5_init_42 : decode cX5_init 42 = .ok (.iastore, 1) := by decide +kernel
theorem dX5_init_43 : decode cX5_init 43 = .ok (.putfield 7, 3) := by decide +kernel
theorem dX5_init_46 : decode cX5_init 46 = .ok (.aload_n 0, 1) := by decide +kernel
theorem dX5_init_47 : decode cX5_init 47 = .ok (.iconst 3, 1) := by decide +kernel
theorem dX5_init_48 : decode cX5_init 48 = .ok (.newarray .int, 2) := by decide +kernel
theorem dX5_init_50 : decode cX5_init 50 = .ok (.dup, 1) := by decide +kernel
theorem dX5_init_51 : decode cX5_init 51 = .ok (.iconst 0, 1) := by decide +kernel
theorem dX5_init_52 : decode cX5_init 52 = .ok (.iconst 3, 1) := by decide +kernel
theorem dX5_init_53 : decode cX5_init 53 = .ok (.iastore, 1) := by decide +kernel
theorem dX5_init_54 : decode cX5_init 54 = .ok (.dup, 1) := by decide +kernel
theorem dX5_init_55 : decode cX5_init 55 = .ok (.iconst 1, 1) := by decide +kernel
theorem dX5_init_56 : decode cX5_init 56 = .ok (.iconst 2, 1) := by decide +kernel
theorem dX5_init_57 : decode cX5_init 57 = .ok (.iastore, 1) := by decide +kernel
theorem dX5_init_58 : decode cX5_init 58 = .ok (.dup, 1) := by decide +kernel
theorem dX5_init_59 : decode cX5_init 59 = .ok (.iconst 2, 1) := by decide +kernel
theorem dX5_init_60 : decode cX5_init 60 = .ok (.iconst 4, 1) := by decide +kernel
theorem dX5_init_61 : decode cX5_init 61 = .ok (.iastore, 1) := by decide +kernel
theorem dX5_init_62 : decode cX5_init 62 = .ok (.putfield 13, 3) := by decide +kernel
theorem dX5_init_65 : decode cX5_init 65 = .ok (.return_, 1) := by decide +kernel
theorem dX5_formOf_0 : decode cX5_formOf 0 = .ok (.aload_n 0, 1) := by decide +kernel
theorem dX5_formOf_1 : decode cX5_formOf 1 = .ok (.getfield 7, 3) := by decide +kernel
theorem dX5_formOf_4 : decode cX5_formOf 4 = .ok (.iload_n 1, 1) := by decide +kernel
theorem dX5_formOf_5 : decode cX5_formOf 5 = .ok (.invokestatic 16, 3) := by decide +kernel
theorem dX5_formOf_8 : decode cX5_formOf 8 = .ok (.ireturn, 1) := by decide +kernel
theorem dX5_setForm_0 : decode cX5_setForm 0 = .ok (.iload_n 1, 1) := by decide +kernel
theorem dX5_setForm_1 : decode cX5_setForm 1 = .ok (.ifCond .lt 19, 3) := by decide +kernel
theorem dX5_setForm_4 : decode cX5_setForm 4 = .ok (.iload_n 1, 1) := by decide +kernel
theorem dX5_setForm_5 : decode cX5_setForm 5 = .ok (.aload_n 0, 1) := by decide +kernel
theorem dX5_setForm_6 : decode cX5_setForm 6 = .ok (.getfield 7, 3) := by decide +kernel
theorem dX5_setForm_9 : decode cX5_setForm 9 = .ok (.arraylength, 1) := by decide +kernel
theorem dX5_setForm_10 : decode cX5_setForm 10 = .ok (.if_icmp .ge 10, 3) := by decide +kernel
theorem dX5_setForm_13 : decode cX5_setForm 13 = .ok (.aload_n 0, 1) := by decide +kernel
theorem dX5_setForm_14 : decode cX5_setForm 14 = .ok (.getfield 7, 3) := by decide +kernel
theorem dX5_setForm_17 : decode cX5_setForm 17 = .ok (.iload_n 1, 1) := by decide +kernel
theorem dX5_setForm_18 : decode cX5_setForm 18 = .ok (.iload_n 2, 1) := by decide +kernel
theorem dX5_setForm_19 : decode cX5_setForm 19 = .ok (.iastore, 1) := by decide +kernel
theorem dX5_setForm_20 : decode cX5_setForm 20 = .ok (.return_, 1) := by decide +kernel
theorem dX5_allows_0 : decode cX5_allows 0 = .ok (.iload_n 1, 1) := by decide +kernel
theorem dX5_allows_1 : decode cX5_allows 1 = .ok (.aload_n 0, 1) := by decide +kernel
theorem dX5_allows_2 : decode cX5_allows 2 = .ok (.getfield 13, 3) := by decide +kernel
theorem dX5_allows_5 : decode cX5_allows 5 = .ok (.arraylength, 1) := by decide +kernel
theorem dX5_allows_6 : decode cX5_allows 6 = .ok (.invokestatic 22, 3) := by decide +kernel
theorem dX5_allows_9 : decode cX5_allows 9 = .ok (.ifCond .eq 29, 3) := by decide +kernel
theorem dX5_allows_12 : decode cX5_allows 12 = .ok (.iload_n 2, 1) := by decide +kernel
theorem dX5_allows_13 : decode cX5_allows 13 = .ok (.getstatic 26, 3) := by decide +kernel
theorem dX5_allows_16 : decode cX5_allows 16 = .ok (.iload_n 1, 1) := by decide +kernel
theorem dX5_allows_17 : decode cX5_allows 17 = .ok (.invokestatic 16, 3) := by decide +kernel
theorem dX5_allows_20 : decode cX5_allows 20 = .ok (.if_icmp .lt 18, 3) := by decide +kernel
theorem dX5_allows_23 : decode cX5_allows 23 = .ok (.iload_n 2, 1) := by decide +kernel
theorem dX5_allows_24 : decode cX5_allows 24 = .ok (.getstatic 29, 3) := by decide +kernel
theorem dX5_allows_27 : decode cX5_allows 27 = .ok (.iload_n 1, 1) := by decide +kernel
theorem dX5_allows_28 : decode cX5_allows 28 = .ok (.invokestatic 16, 3) := by decide +kernel
theorem dX5_allows_31 : decode cX5_allows 31 = .ok (.if_icmp .gt 7, 3) := by decide +kernel
theorem dX5_allows_34 : decode cX5_allows 34 = .ok (.iconst 1, 1) := by decide +kernel
theorem dX5_allows_35 : decode cX5_allows 35 = .ok (.goto 4, 3) := by decide +kernel
theorem dX5_allows_38 : decode cX5_allows 38 = .ok (.iconst 0, 1) := by decide +kernel
theorem dX5_allows_39 : decode cX5_allows 39 = .ok (.ireturn, 1) := by decide +kernel
theorem dX5_valueOf_0 : decode cX5_valueOf 0 = .ok (.aload_n 0, 1) := by decide +kernel
theorem dX5_valueOf_1 : decode cX5_valueOf 1 = .ok (.getfield 13, 3) := by decide +kernel
theorem dX5_valueOf_4 : decode cX5_valueOf 4 = .ok (.iload_n 1, 1) := by decide +kernel
theorem dX5_valueOf_5 : decode cX5_valueOf 5 = .ok (.invokestatic 16, 3) := by decide +kernel
theorem dX5_valueOf_8 : decode cX5_valueOf 8 = .ok (.ireturn, 1) := by decide +kernel
theorem dX5_setValue_0 : decode cX5_setValue 0 = .ok (.iload_n 1, 1) := by decide +kernel
theorem dX5_setValue_1 : decode cX5_setValue 1 = .ok (.ifCond .lt 19, 3) := by decide +kernel
theorem dX5_setValue_4 : decode cX5_setValue 4 = .ok (.iload_n 1, 1) := by decide +kernel
theorem dX5_setValue_5 : decode cX5_setValue 5 = .ok (.aload_n 0, 1) := by decide +kernel
theorem dX5_setValue_6 : decode cX5_setValue 6 = .ok (.getfield 13, 3) := by decide +kernel
theorem dX5_setValue_9 : decode cX5_setValue 9 = .ok (.arraylength, 1) := by decide +kernel
theorem dX5_setValue_10 : decode cX5_setValue 10 = .ok (.if_icmp .ge 10, 3) := by decide +kernel
theorem dX5_setValue_13 : decode cX5_setValue 13 = .ok (.aload_n 0, 1) := by decide +kernel
theorem dX5_setValue_14 : decode cX5_setValue 14 = .ok (.getfield 13, 3) := by decide +kernel
theorem dX5_setValue_17 : decode cX5_setValue 17 = .ok (.iload_n 1, 1) := by decide +kernel
theorem dX5_setValue_18 : decode cX5_setValue 18 = .ok (.iload_n 2, 1) := by decide +kernel
theorem dX5_setValue_19 : decode cX5_setValue 19 = .ok (.iastore, 1) := by decide +kernel
theorem dX5_setValue_20 : decode cX5_setValue 20 = .ok (.return_, 1) := by decide +kernel
theorem dX6_init_0 : decode cX6_init 0 = .ok (.aload_n 0, 1) := by decide +kernel
theorem dX6_init_1 : decode cX6_init 1 = .ok (.invokespecial 3, 3) := by decide +kernel
theorem dX6_init_4 : decode cX6_init 4 = .ok (.aload_n 0, 1) := by decide +kernel
theorem dX6_init_5 : decode cX6_init 5 = .ok (.sipush 160, 3) := by decide +kernel
theorem dX6_init_8 : decode cX6_init 8 = .ok (.newarray .int, 2) := by decide +kernel
theorem dX6_init_10 : decode cX6_init 10 = .ok (.putfield 11, 3) := by decide +kernel
theorem dX6_init_13 : decode cX6_init 13 = .ok (.aload_n 0, 1) := by decide +kernel
theorem dX6_init_14 : decode cX6_init 14 = .ok (.sipush 160, 3) := by decide +kernel
theorem dX6_init_17 : decode cX6_init 17 = .ok (.newarray .int, 2) := by decide +kernel
theorem dX6_init_19 : decode cX6_init 19 = .ok (.putfield 15, 3) := by decide +kernel
theorem dX6_init_22 : decode cX6_init 22 = .ok (.aload_n 0, 1) := by decide +kernel
theorem dX6_init_23 : decode cX6_init 23 = .ok (.iconst 0, 1) := by decide +kernel
theorem dX6_init_24 : decode cX6_init 24 = .ok (.putfield 18, 3) := by decide +kernel
theorem dX6_init_27 : decode cX6_init 27 = .ok (.return_, 1) := by decide +kernel
theorem dX6_size_0 : decode cX6_size 0 = .ok (.aload_n 0, 1) := by decide +kernel
theorem dX6_size_1 : decode cX6_size 1 = .ok (.getfield 18, 3) := by decide +kernel
theorem dX6_size_4 : decode cX6_size 4 = .ok (.ireturn, 1) := by decide +kernel
theorem dX6_useAt_0 : decode cX6_useAt 0 = .ok (.aload_n 0, 1) := by decide +kernel
theorem dX6_useAt_1 : decode cX6_useAt 1 = .ok (.getfield 11, 3) := by decide +kernel
theorem dX6_useAt_4 : decode cX6_useAt 4 = .ok (.iload_n 1, 1) := by decide +kernel
theorem dX6_useAt_5 : decode cX6_useAt 5 = .ok (.invokestatic 22, 3) := by decide +kernel
theorem dX6_useAt_8 : decode cX6_useAt 8 = .ok (.ireturn, 1) := by decide +kernel
theorem dX6_numberAt_0 : decode cX6_numberAt 0 = .ok (.aload_n 0, 1) := by decide +kernel
theorem dX6_numberAt_1 : decode cX6_numberAt 1 = .ok (.getfield 15, 3) := by decide +kernel
theorem dX6_numberAt_4 : decode cX6_numberAt 4 = .ok (.iload_n 1, 1) := by decide +kernel
theorem dX6_numberAt_5 : decode cX6_numberAt 5 = .ok (.invokestatic 22, 3) := by decide +kernel
theorem dX6_numberAt_8 : decode cX6_numberAt 8 = .ok (.ireturn, 1) := by decide +kernel
theorem dX6_tell_0 : decode cX6_tell 0 = .ok (.aload_n 1, 1) := by decide +kernel
theorem dX6_tell_1 : decode cX6_tell 1 = .ok (.iload_n 2, 1) := by decide +kernel
theorem dX6_tell_2 : decode cX6_tell 2 = .ok (.invokevirtual 26, 3) := by decide +kernel
theorem dX6_tell_5 : decode cX6_tell 5 = .ok (.lstore 5, 2) := by decide +kernel
theorem dX6_tell_7 : decode cX6_tell 7 = .ok (.aload_n 0, 1) := by decide +kernel
theorem dX6_tell_8 : decode cX6_tell 8 = .ok (.iconst 0, 1) := by decide +kernel
theorem dX6_tell_9 : decode cX6_tell 9 = .ok (.putfield 18, 3) := by decide +kernel
theorem dX6_tell_12 : decode cX6_tell 12 = .ok (.aload_n 0, 1) := by decide +kernel
theorem dX6_tell_13 : decode cX6_tell 13 = .ok (.iconst 0, 1) := by decide +kernel
theorem dX6_tell_14 : decode cX6_tell 14 = .ok (.iload_n 3, 1) := by decide +kernel
theorem dX6_tell_15 : decode cX6_tell 15 = .ok (.invokevirtual 32, 3) := by decide +kernel
theorem dX6_tell_18 : decode cX6_tell 18 = .ok (.iload_n 3, 1) := by decide +kernel
theorem dX6_tell_19 : decode cX6_tell 19 = .ok (.tableswitch 129 0 3 #[29, 38, 52, 100], 29) := by decide +kernel
theorem dX6_tell_48 : decode cX6_tell 48 = .ok (.aload_n 0, 1) := by decide +kernel
theorem dX6_tell_49 : decode cX6_tell 49 = .ok (.iload_n 2, 1) := by decide +kernel
theorem dX6_tell_50 : decode cX6_tell 50 = .ok (.lload 5, 2) := by decide +kernel
theorem dX6_tell_52 : decode cX6_tell 52 = .ok (.invokevirtual 36, 3) := by decide +kernel
theorem dX6_tell_55 : decode cX6_tell 55 = .ok (.iconst 1, 1) := by decide +kernel
theorem dX6_tell_56 : decode cX6_tell 56 = .ok (.ireturn, 1) := by decide +kernel
theorem dX6_tell_57 : decode cX6_tell 57 = .ok (.aload_n 0, 1) := by decide +kernel
theorem dX6_tell_58 : decode cX6_tell 58 = .ok (.iload_n 2, 1) := by decide +kernel
theorem dX6_tell_59 : decode cX6_tell 59 = .ok (.aload_n 0, 1) := by decide +kernel
theorem dX6_tell_60 : decode cX6_tell 60 = .ok (.iload_n 2, 1) := by decide +kernel
theorem dX6_tell_61 : decode cX6_tell 61 = .ok (.lload 5, 2) := by decide +kernel
theorem dX6_tell_63 : decode cX6_tell 63 = .ok (.invokevirtual 40, 3) := by decide +kernel
theorem dX6_tell_66 : decode cX6_tell 66 = .ok (.invokevirtual 36, 3) := by decide +kernel
theorem dX6_tell_69 : decode cX6_tell 69 = .ok (.iconst 1, 1) := by decide +kernel
theorem dX6_tell_70 : decode cX6_tell 70 = .ok (.ireturn, 1) := by decide +kernel
theorem dX6_tell_71 : decode cX6_tell 71 = .ok (.aload_n 1, 1) := by decide +kernel
theorem dX6_tell_72 : decode cX6_tell 72 = .ok (.iload_n 2, 1) := by decide +kernel
theorem dX6_tell_73 : decode cX6_tell 73 = .ok (.iload 4, 2) := by decide +kernel
theorem dX6_tell_75 : decode cX6_tell 75 = .ok (.isub, 1) := by decide +kernel
theorem dX6_tell_76 : decode cX6_tell 76 = .ok (.invokevirtual 26, 3) := by decide +kernel
theorem dX6_tell_79 : decode cX6_tell 79 = .ok (.lstore 7, 2) := by decide +kernel
theorem dX6_tell_81 : decode cX6_tell 81 = .ok (.aload_n 0, 1) := by decide +kernel
theorem dX6_tell_82 : decode cX6_tell 82 = .ok (.iconst 4, 1) := by decide +kernel
theorem dX6_tell_83 : decode cX6_tell 83 = .ok (.iload 4, 2) := by decide +kernel
theorem dX6_tell_85 : decode cX6_tell 85 = .ok (.iconst 1, 1) := by decide +kernel
theorem dX6_tell_86 : decode cX6_tell 86 = .ok (.isub, 1) := by decide +kernel
theorem dX6_tell_87 : decode cX6_tell 87 = .ok (.invokevirtual 32, 3) := by decide +kernel
theorem dX6_tell_90 : decode cX6_tell 90 = .ok (.aload_n 0, 1) := by decide +kernel
theorem dX6_tell_91 : decode cX6_tell 91 = .ok (.lload 5, 2) := by decide +kernel
theorem dX6_tell_93 : decode cX6_tell 93 = .ok (.lload 7, 2) := by decide +kernel
theorem dX6_tell_95 : decode cX6_tell 95 = .ok (.invokevirtual 44, 3) := by decide +kernel
theorem dX6_tell_98 : decode cX6_tell 98 = .ok (.aload_n 0, 1) := by decide +kernel
theorem dX6_tell_99 : decode cX6_tell 99 = .ok (.iload_n 2, 1) := by decide +kernel
theorem dX6_tell_100 : decode cX6_tell 100 = .ok (.aload_n 0, 1) := by decide +kernel
theorem dX6_tell_101 : decode cX6_tell 101 = .ok (.iload_n 2, 1) := by decide +kernel
theorem dX6_tell_102 : decode cX6_tell 102 = .ok (.lload 5, 2) := by decide +kernel
theorem dX6_tell_104 : decode cX6_tell 104 = .ok (.lload 7, 2) := by decide +kernel
theorem dX6_tell_106 : decode cX6_tell 106 = .ok (.ldc2_w 48, 3) := by decide +kernel
theorem dX6_tell_109 : decode cX6_tell 109 = .ok (.lxor, 1) := by decide +kernel
theorem dX6_tell_110 : decode cX6_tell 110 = .ok (.land, 1) := by decide +kernel
theorem dX6_tell_111 : decode cX6_tell 111 = .ok (.invokevirtual 40, 3) := by decide +kernel
theorem dX6_tell_114 : decode cX6_tell 114 = .ok (.invokevirtual 36, 3) := by decide +kernel
theorem dX6_tell_117 : decode cX6_tell 117 = .ok (.iconst 1, 1) := by decide +kernel
theorem dX6_tell_118 : decode cX6_tell 118 = .ok (.ireturn, 1) := by decide +kernel
theorem dX6_tell_119 : decode cX6_tell 119 = .ok (.aload_n 0, 1) := by decide +kernel
theorem dX6_tell_120 : decode cX6_tell 120 = .ok (.iconst 4, 1) := by decide +kernel
theorem dX6_tell_121 : decode cX6_tell 121 = .ok (.iload 4, 2) := by decide +kernel
theorem dX6_tell_123 : decode cX6_tell 123 = .ok (.iconst 1, 1) := by decide +kernel
theorem dX6_tell_124 : decode cX6_tell 124 = .ok (.isub, 1) := by decide +kernel
theorem dX6_tell_125 : decode cX6_tell 125 = .ok (.invokevirtual 32, 3) := by decide +kernel
theorem dX6_tell_128 : decode cX6_tell 128 = .ok (.lload 5, 2) := by decide +kernel
theorem dX6_tell_130 : decode cX6_tell 130 = .ok (.aload_n 1, 1) := by decide +kernel
theorem dX6_tell_131 : decode cX6_tell 131 = .ok (.iload_n 2, 1) := by decide +kernel
theorem dX6_tell_132 : decode cX6_tell 132 = .ok (.iload 4, 2) := by decide +kernel
theorem dX6_tell_134 : decode cX6_tell 134 = .ok (.isub, 1) := by decide +kernel
theorem dX6_tell_135 : decode cX6_tell 135 = .ok (.invokevirtual 26, 3) := by decide +kernel
theorem dX6_tell_138 : decode cX6_tell 138 = .ok (.lcmp, 1) := by decide +kernel
theorem dX6_tell_139 : decode cX6_tell 139 = .ok (.ifCond .ne 7, 3) := by decide +kernel
theorem dX6_tell_142 : decode cX6_tell 142 = .ok (.iconst 1, 1) := by decide +kernel
theorem dX6_tell_143 : decode cX6_tell 143 = .ok (.goto 4, 3) := by decide +kernel
theorem dX6_tell_146 : decode cX6_tell 146 = .ok (.iconst 0, 1) := by decide +kernel
theorem dX6_tell_147 : decode cX6_tell 147 = .ok (.ireturn, 1) := by decide +kernel
theorem dX6_tell_148 : decode cX6_tell 148 = .ok (.lload 5, 2) := by decide +kernel
theorem dX6_tell_150 : decode cX6_tell 150 = .ok (.lconst 0, 1) := by decide +kernel
theorem dX6_tell_151 : decode cX6_tell 151 = .ok (.lcmp, 1) := by decide +kernel
theorem dX6_tell_152 : decode cX6_tell 152 = .ok (.ifCond .ne 5, 3) := by decide +kernel
theorem dX6_tell_155 : decode cX6_tell 155 = .ok (.iconst 0, 1) := by decide +kernel
theorem dX6_tell_156 : decode cX6_tell 156 = .ok (.ireturn, 1) := by decide +kernel
theorem dX6_tell_157 : decode cX6_tell 157 = .ok (.aload_n 0, 1) := by decide +kernel
theorem dX6_tell_158 : decode cX6_tell 158 = .ok (.iload_n 2, 1) := by decide +kernel
theorem dX6_tell_159 : decode cX6_tell 159 = .ok (.lload 5, 2) := by decide +kernel
theorem dX6_tell_161 : decode cX6_tell 161 = .ok (.invokevirtual 50, 3) := by decide +kernel
theorem dX6_tell_164 : decode cX6_tell 164 = .ok (.iconst 1, 1) := by decide +kernel
theorem dX6_tell_165 : decode cX6_tell 165 = .ok (.ireturn, 1) := by decide +kernel
theorem dX6_bitsToTell_0 : decode cX6_bitsToTell 0 = .ok (.aload_n 0, 1) := by decide +kernel
theorem dX6_bitsToTell_1 : decode cX6_bitsToTell 1 = .ok (.aload_n 1, 1) := by decide +kernel
theorem dX6_bitsToTell_2 : decode cX6_bitsToTell 2 = .ok (.iload_n 2, 1) := by decide +kernel
theorem dX6_bitsToTell_3 : decode cX6_bitsToTell 3 = .ok (.iload_n 3, 1) := by decide +kernel
theorem dX6_bitsToTell_4 : decode cX6_bitsToTell 4 = .ok (.iload 4, 2) := by decide +kernel
theorem dX6_bitsToTell_6 : decode cX6_bitsToTell 6 = .ok (.invokevirtual 53, 3) := by decide +kernel
theorem dX6_bitsToTell_9 : decode cX6_bitsToTell 9 = .ok (.ifCond .ne 6, 3) := by decide +kernel
theorem dX6_bitsToTell_12 : decode cX6_bitsToTell 12 = .ok (.ldc 57, 2) := by decide +kernel
theorem dX6_bitsToTell_14 : decode cX6_bitsToTell 14 = .ok (.ireturn, 1) := by decide +kernel
theorem dX6_bitsToTell_15 : decode cX6_bitsToTell 15 = .ok (.iconst 0, 1) := by decide +kernel
theorem dX6_bitsToTell_16 : decode cX6_bitsToTell 16 = .ok (.istore 6, 2) := by decide +kernel
theorem dX6_bitsToTell_18 : decode cX6_bitsToTell 18 = .ok (.iconst 0, 1) := by decide +kernel
theorem dX6_bitsToTell_19 : decode cX6_bitsToTell 19 = .ok (.istore 7, 2) := by decide +kernel
theorem dX6_bitsToTell_21 : decode cX6_bitsToTell 21 = .ok (.iload 7, 2) := by decide +kernel
theorem dX6_bitsToTell_23 : decode cX6_bitsToTell 23 = .ok (.aload_n 0, 1) := by decide +kernel
theorem dX6_bitsToTell_24 : decode cX6_bitsToTell 24 = .ok (.getfield 18, 3) := by decide +kernel
theorem dX6_bitsToTell_27 : decode cX6_bitsToTell 27 = .ok (.if_icmp .ge 49, 3) := by decide +kernel
theorem dX6_bitsToTell_30 : decode cX6_bitsToTell 30 = .ok (.aload_n 0, 1) := by decide +kernel
theorem dX6_bitsToTell_31 : decode cX6_bitsToTell 31 = .ok (.iload 7, 2) := by decide +kernel
theorem dX6_bitsToTell_33 : decode cX6_bitsToTell 33 = .ok (.invokevirtual 58, 3) := by decide +kernel
theorem dX6_bitsToTell_36 : decode cX6_bitsToTell 36 = .ok (.istore 8, 2) := by decide +kernel
theorem dX6_bitsToTell_38 : decode cX6_bitsToTell 38 = .ok (.iload 6, 2) := by decide +kernel
theorem dX6_bitsToTell_40 : decode cX6_bitsToTell 40 = .ok (.iload 8, 2) := by decide +kernel
theorem dX6_bitsToTell_42 : decode cX6_bitsToTell 42 = .ok (.bipush 8, 2) := by decide +kernel
theorem dX6_bitsToTell_44 : decode cX6_bitsToTell 44 = .ok (.if_icmp .ne 7, 3) := by decide +kernel
theorem dX6_bitsToTell_47 : decode cX6_bitsToTell 47 = .ok (.iconst 1, 1) := by decide +kernel
theorem dX6_bitsToTell_48 : decode cX6_bitsToTell 48 = .ok (.goto 19, 3) := by decide +kernel
theorem dX6_bitsToTell_51 : decode cX6_bitsToTell 51 = .ok (.aload 5, 2) := by decide +kernel
theorem dX6_bitsToTell_53 : decode cX6_bitsToTell 53 = .ok (.iload 8, 2) := by decide +kernel
theorem dX6_bitsToTell_55 : decode cX6_bitsToTell 55 = .ok (.invokevirtual 62, 3) := by decide +kernel
theorem dX6_bitsToTell_58 : decode cX6_bitsToTell 58 = .ok (.aload_n 0, 1) := by decide +kernel
theorem dX6_bitsToTell_59 : decode cX6_bitsToTell 59 = .ok (.iload 7, 2) := by decide +kernel
theorem dX6_bitsToTell_61 : decode cX6_bitsToTell 61 = .ok (.invokevirtual 67, 3) := by decide +kernel
theorem dX6_bitsToTell_64 : decode cX6_bitsToTell 64 = .ok (.invokestatic 70, 3) := by decide +kernel
theorem dX6_bitsToTell_67 : decode cX6_bitsToTell 67 = .ok (.iadd, 1) := by decide +kernel
theorem dX6_bitsToTell_68 : decode cX6_bitsToTell 68 = .ok (.istore 6, 2) := by decide +kernel
theorem dX6_bitsToTell_70 : decode cX6_bitsToTell 70 = .ok (.iinc 7 1, 3) := by decide +kernel
theorem dX6_bitsToTell_73 : decode cX6_bitsToTell 73 = .ok (.goto (-52), 3) := by decide +kernel
theorem dX6_bitsToTell_76 : decode cX6_bitsToTell 76 = .ok (.iload 6, 2) := by decide +kernel
theorem dX6_bitsToTell_78 : decode cX6_bitsToTell 78 = .ok (.ireturn, 1) := by decide +kernel
theorem dX6_add_0 : decode cX6_add 0 = .ok (.aload_n 0, 1) := by decide +kernel
theorem dX6_add_1 : decode cX6_add 1 = .ok (.getfield 18, 3) := by decide +kernel
theorem dX6_add_4 : decode cX6_add 4 = .ok (.ifCond .lt 57, 3) := by decide +kernel
theorem dX6_add_7 : decode cX6_add 7 = .ok (.aload_n 0, 1) := by decide +kernel
theorem dX6_add_8 : decode cX6_add 8 = .ok (.getfield 18, 3) := by decide +kernel
theorem dX6_add_11 : decode cX6_add 11 = .ok (.aload_n 0, 1) := by decide +kernel
theorem dX6_add_12 : decode cX6_add 12 = .ok (.getfield 11, 3) := by decide +kernel
theorem dX6_add_15 : decode cX6_add 15 = .ok (.arraylength, 1) := by decide +kernel
theorem dX6_add_16 : decode cX6_add 16 = .ok (.if_icmp .ge 45, 3) := by decide +kernel
theorem dX6_add_19 : decode cX6_add 19 = .ok (.aload_n 0, 1) := by decide +kernel
theorem dX6_add_20 : decode cX6_add 20 = .ok (.getfield 18, 3) := by decide +kernel
theorem dX6_add_23 : decode cX6_add 23 = .ok (.aload_n 0, 1) := by decide +kernel
theorem dX6_add_24 : decode cX6_add 24 = .ok (.getfield 15, 3) := by decide +kernel
theorem dX6_add_27 : decode cX6_add 27 = .ok (.arraylength, 1) := by decide +kernel
theorem dX6_add_28 : decode cX6_add 28 = .ok (.if_icmp .ge 33, 3) := by decide +kernel
theorem dX6_add_31 : decode cX6_add 31 = .ok (.aload_n 0, 1) := by decide +kernel
theorem dX6_add_32 : decode cX6_add 32 = .ok (.getfield 11, 3) := by decide +kernel
theorem dX6_add_35 : decode cX6_add 35 = .ok (.aload_n 0, 1) := by decide +kernel
theorem dX6_add_36 : decode cX6_add 36 = .ok (.getfield 18, 3) := by decide +kernel
theorem dX6_add_39 : decode cX6_add 39 = .ok (.iload_n 1, 1) := by decide +kernel
theorem dX6_add_40 : decode cX6_add 40 = .ok (.iastore, 1) := by decide +kernel
theorem dX6_add_41 : decode cX6_add 41 = .ok (.aload_n 0, 1) := by decide +kernel
theorem dX6_add_42 : decode cX6_add 42 = .ok (.getfield 15, 3) := by decide +kernel
theorem dX6_add_45 : decode cX6_add 45 = .ok (.aload_n 0, 1) := by decide +kernel
theorem dX6_add_46 : decode cX6_add 46 = .ok (.getfield 18, 3) := by decide +kernel
theorem dX6_add_49 : decode cX6_add 49 = .ok (.iload_n 2, 1) := by decide +kernel
theorem dX6_add_50 : decode cX6_add 50 = .ok (.iastore, 1) := by decide +kernel
theorem dX6_add_51 : decode cX6_add 51 = .ok (.aload_n 0, 1) := by decide +kernel
theorem dX6_add_52 : decode cX6_add 52 = .ok (.dup, 1) := by decide +kernel
theorem dX6_add_53 : decode cX6_add 53 = .ok (.getfield 18, 3) := by decide +kernel
theorem dX6_add_56 : decode cX6_add 56 = .ok (.iconst 1, 1) := by decide +kernel
theorem dX6_add_57 : decode cX6_add 57 = .ok (.iadd, 1) := by decide +kernel
theorem dX6_add_58 : decode cX6_add 58 = .ok (.putfield 18, 3) := by decide +kernel
theorem dX6_add_61 : decode cX6_add 61 = .ok (.return_, 1) := by decide +kernel
theorem dX6_tellPlain_0 : decode cX6_tellPlain 0 = .ok (.aload_n 0, 1) := by decide +kernel
theorem dX6_tellPlain_1 : decode cX6_tellPlain 1 = .ok (.iconst 1, 1) := by decide +kernel
theorem dX6_tellPlain_2 : decode cX6_tellPlain 2 = .ok (.lload_n 2, 1) := by decide +kernel
theorem dX6_tellPlain_3 : decode cX6_tellPlain 3 = .ok (.invokestatic 74, 3) := by decide +kernel
theorem dX6_tellPlain_6 : decode cX6_tellPlain 6 = .ok (.invokevirtual 32, 3) := by decide +kernel
theorem dX6_tellPlain_9 : decode cX6_tellPlain 9 = .ok (.iconst (-1), 1) := by decide +kernel
theorem dX6_tellPlain_10 : decode cX6_tellPlain 10 = .ok (.istore 4, 2) := by decide +kernel
theorem dX6_tellPlain_12 : decode cX6_tellPlain 12 = .ok (.iconst 0, 1) := by decide +kernel
theorem dX6_tellPlain_13 : decode cX6_tellPlain 13 = .ok (.istore 5, 2) := by decide +kernel
theorem dX6_tellPlain_15 : decode cX6_tellPlain 15 = .ok (.iload 5, 2) := by decide +kernel
theorem dX6_tellPlain_17 : decode cX6_tellPlain 17 = .ok (.bipush 48, 2) := by decide +kernel
theorem dX6_tellPlain_19 : decode cX6_tellPlain 19 = .ok (.if_icmp .ge 55, 3) := by decide +kernel
theorem dX6_tellPlain_22 : decode cX6_tellPlain 22 = .ok (.lload_n 2, 1) := by decide +kernel
theorem dX6_tellPlain_23 : decode cX6_tellPlain 23 = .ok (.iload 5, 2) := by decide +kernel
theorem dX6_tellPlain_25 : decode cX6_tellPlain 25 = .ok (.invokestatic 80, 3) := by decide +kernel
theorem dX6_tellPlain_28 : decode cX6_tellPlain 28 = .ok (.ifCond .eq 40, 3) := by decide +kernel
theorem dX6_tellPlain_31 : decode cX6_tellPlain 31 = .ok (.iload 4, 2) := by decide +kernel
theorem dX6_tellPlain_33 : decode cX6_tellPlain 33 = .ok (.iconst (-1), 1) := by decide +kernel
theorem dX6_tellPlain_34 : decode cX6_tellPlain 34 = .ok (.if_icmp .ne 18, 3) := by decide +kernel
theorem dX6_tellPlain_37 : decode cX6_tellPlain 37 = .ok (.aload_n 0, 1) := by decide +kernel
theorem dX6_tellPlain_38 : decode cX6_tellPlain 38 = .ok (.iconst 2, 1) := by decide +kernel
theorem dX6_tellPlain_39 : decode cX6_tellPlain 39 = .ok (.iload 5, 2) := by decide +kernel
theorem dX6_tellPlain_41 : decode cX6_tellPlain 41 = .ok (.iload_n 1, 1) := by decide +kernel
theorem dX6_tellPlain_42 : decode cX6_tellPlain 42 = .ok (.isub, 1) := by decide +kernel
theorem dX6_tellPlain_43 : decode cX6_tellPlain 43 = .ok (.invokestatic 84, 3) := by decide +kernel
theorem dX6_tellPlain_46 : decode cX6_tellPlain 46 = .ok (.invokevirtual 32, 3) := by decide +kernel
theorem dX6_tellPlain_49 : decode cX6_tellPlain 49 = .ok (.goto 15, 3) := by decide +kernel
theorem dX6_tellPlain_52 : decode cX6_tellPlain 52 = .ok (.aload_n 0, 1) := by decide +kernel
theorem dX6_tellPlain_53 : decode cX6_tellPlain 53 = .ok (.iconst 3, 1) := by decide +kernel
theorem dX6_tellPlain_54 : decode cX6_tellPlain 54 = .ok (.iload 5, 2) := by decide +kernel
theorem dX6_tellPlain_56 : decode cX6_tellPlain 56 = .ok (.iload 4, 2) := by decide +kernel
theorem dX6_tellPlain_58 : decode cX6_tellPlain 58 = .ok (.isub, 1) := by decide +kernel
theorem dX6_tellPlain_59 : decode cX6_tellPlain 59 = .ok (.iconst 1, 1) := by decide +kernel
theorem dX6_tellPlain_60 : decode cX6_tellPlain 60 = .ok (.isub, 1) := by decide +kernel
theorem dX6_tellPlain_61 : decode cX6_tellPlain 61 = .ok (.invokevirtual 32, 3) := by decide +kernel
theorem dX6_tellPlain_64 : decode cX6_tellPlain 64 = .ok (.iload 5, 2) := by decide +kernel
theorem dX6_tellPlain_66 : decode cX6_tellPlain 66 = .ok (.istore 4, 2) := by decide +kernel
theorem dX6_tellPlain_68 : decode cX6_tellPlain 68 = .ok (.iinc 5 1, 3) := by decide +kernel
theorem dX6_tellPlain_71 : decode cX6_tellPlain 71 = .ok (.goto (-56), 3) := by decide +kernel
theorem dX6_tellPlain_74 : decode cX6_tellPlain 74 = .ok (.return_, 1) := by decide +kernel
theorem dX6_tellSpans_0 : decode cX6_tellSpans 0 = .ok (.lload_n 2, 1) := by decide +kernel
theorem dX6_tellSpans_1 : decode cX6_tellSpans 1 = .ok (.lload_n 2, 1) := by decide +kernel
theorem dX6_tellSpans_2 : decode cX6_tellSpans 2 = .ok (.iconst 1, 1) := by decide +kernel
theorem dX6_tellSpans_3 : decode cX6_tellSpans 3 = .ok (.lshl, 1) := by decide +kernel
theorem dX6_tellSpans_4 : decode cX6_tellSpans 4 = .ok (.land, 1) := by decide +kernel
theorem dX6_tellSpans_5 : decode cX6_tellSpans 5 = .ok (.lload_n 2, 1) := by decide +kernel
theorem dX6_tellSpans_6 : decode cX6_tellSpans 6 = .ok (.iconst 1, 1) := by decide +kernel
theorem dX6_tellSpans_7 : decode cX6_tellSpans 7 = .ok (.lushr, 1) := by decide +kernel
theorem dX6_tellSpans_8 : decode cX6_tellSpans 8 = .ok (.land, 1) := by decide +kernel
theorem dX6_tellSpans_9 : decode cX6_tellSpans 9 = .ok (.lstore 4, 2) := by decide +kernel
theorem dX6_tellSpans_11 : decode cX6_tellSpans 11 = .ok (.lload 4, 2) := by decide +kernel
theorem dX6_tellSpans_13 : decode cX6_tellSpans 13 = .ok (.lload 4, 2) := by decide +kernel
theorem dX6_tellSpans_15 : decode cX6_tellSpans 15 = .ok (.iconst 1, 1) := by decide +kernel
theorem dX6_tellSpans_16 : decode cX6_tellSpans 16 = .ok (.lshl, 1) := by decide +kernel
theorem dX6_tellSpans_17 : decode cX6_tellSpans 17 = .ok (.lor, 1) := by decide +kernel
theorem dX6_tellSpans_18 : decode cX6_tellSpans 18 = .ok (.lload 4, 2) := by decide +kernel
theorem dX6_tellSpans_20 : decode cX6_tellSpans 20 = .ok (.iconst 1, 1) := by decide +kernel
theorem dX6_tellSpans_21 : decode cX6_tellSpans 21 = .ok (.lushr, 1) := by decide +kernel
theorem dX6_tellSpans_22 : decode cX6_tellSpans 22 = .ok (.lor, 1) := by decide +kernel
theorem dX6_tellSpans_23 : decode cX6_tellSpans 23 = .ok (.lstore 6, 2) := by decide +kernel
theorem dX6_tellSpans_25 : decode cX6_tellSpans 25 = .ok (.lload 6, 2) := by decide +kernel
theorem dX6_tellSpans_27 : decode cX6_tellSpans 27 = .ok (.lload 6, 2) := by decide +kernel
theorem dX6_tellSpans_29 : decode cX6_tellSpans 29 = .ok (.iconst 1, 1) := by decide +kernel
theorem dX6_tellSpans_30 : decode cX6_tellSpans 30 = .ok (.lshl, 1) := by decide +kernel
theorem dX6_tellSpans_31 : decode cX6_tellSpans 31 = .ok (.ldc2_w 48, 3) := by decide +kernel
theorem dX6_tellSpans_34 : decode cX6_tellSpans 34 = .ok (.lxor, 1) := by decide +kernel
theorem dX6_tellSpans_35 : decode cX6_tellSpans 35 = .ok (.land, 1) := by decide +kernel
theorem dX6_tellSpans_36 : decode cX6_tellSpans 36 = .ok (.lstore 8, 2) := by decide +kernel
theorem dX6_tellSpans_38 : decode cX6_tellSpans 38 = .ok (.lload 6, 2) := by decide +kernel
theorem dX6_tellSpans_40 : decode cX6_tellSpans 40 = .ok (.lload 6, 2) := by decide +kernel
theorem dX6_tellSpans_42 : decode cX6_tellSpans 42 = .ok (.iconst 1, 1) := by decide +kernel
theorem dX6_tellSpans_43 : decode cX6_tellSpans 43 = .ok (.lushr, 1) := by decide +kernel
theorem dX6_tellSpans_44 : decode cX6_tellSpans 44 = .ok (.ldc2_w 48, 3) := by decide +kernel
theorem dX6_tellSpans_47 : decode cX6_tellSpans 47 = .ok (.lxor, 1) := by decide +kernel
theorem dX6_tellSpans_48 : decode cX6_tellSpans 48 = .ok (.land, 1) := by decide +kernel
theorem dX6_tellSpans_49 : decode cX6_tellSpans 49 = .ok (.lstore 10, 2) := by decide +kernel
theorem dX6_tellSpans_51 : decode cX6_tellSpans 51 = .ok (.aload_n 0, 1) := by decide +kernel
theorem dX6_tellSpans_52 : decode cX6_tellSpans 52 = .ok (.iconst 1, 1) := by decide +kernel
theorem dX6_tellSpans_53 : decode cX6_tellSpans 53 = .ok (.lload 8, 2) := by decide +kernel
theorem dX6_tellSpans_55 : decode cX6_tellSpans 55 = .ok (.invokestatic 74, 3) := by decide +kernel
theorem dX6_tellSpans_58 : decode cX6_tellSpans 58 = .ok (.invokevirtual 32, 3) := by decide +kernel
theorem dX6_tellSpans_61 : decode cX6_tellSpans 61 = .ok (.iconst 0, 1) := by decide +kernel
theorem dX6_tellSpans_62 : decode cX6_tellSpans 62 = .ok (.istore 12, 2) := by decide +kernel
theorem dX6_tellSpans_64 : decode cX6_tellSpans 64 = .ok (.iconst (-1), 1) := by decide +kernel
theorem dX6_tellSpans_65 : decode cX6_tellSpans 65 = .ok (.istore 13, 2) := by decide +kernel
theorem dX6_tellSpans_67 : decode cX6_tellSpans 67 = .ok (.iconst 0, 1) := by decide +kernel
theorem dX6_tellSpans_68 : decode cX6_tellSpans 68 = .ok (.istore 14, 2) := by decide +kernel
theorem dX6_tellSpans_70 : decode cX6_tellSpans 70 = .ok (.iload 14, 2) := by decide +kernel
theorem dX6_tellSpans_72 : decode cX6_tellSpans 72 = .ok (.bipush 48, 2) := by decide +kernel
theorem dX6_tellSpans_74 : decode cX6_tellSpans 74 = .ok (.if_icmp .ge 86, 3) := by decide +kernel
theorem dX6_tellSpans_77 : decode cX6_tellSpans 77 = .ok (.lload 8, 2) := by decide +kernel
theorem dX6_tellSpans_79 : decode cX6_tellSpans 79 = .ok (.iload 14, 2) := by decide +kernel
theorem dX6_tellSpans_81 : decode cX6_tellSpans 81 = .ok (.invokestatic 80, 3) := by decide +kernel
theorem dX6_tellSpans_84 : decode cX6_tellSpans 84 = .ok (.ifCond .eq 41, 3) := by decide +kernel
theorem dX6_tellSpans_87 : decode cX6_tellSpans 87 = .ok (.iload 13, 2) := by decide +kernel
theorem dX6_tellSpans_89 : decode cX6_tellSpans 89 = .ok (.iconst (-1), 1) := by decide +kernel
theorem dX6_tellSpans_90 : decode cX6_tellSpans 90 = .ok (.if_icmp .ne 19, 3) := by decide +kernel
theorem dX6_tellSpans_93 : decode cX6_tellSpans 93 = .ok (.aload_n 0, 1) := by decide +kernel
theorem dX6_tellSpans_94 : decode cX6_tellSpans 94 = .ok (.bipush 6, 2) := by decide +kernel
theorem dX6_tellSpans_96 : decode cX6_tellSpans 96 = .ok (.iload 14, 2) := by decide +kernel
theorem dX6_tellSpans_98 : decode cX6_tellSpans 98 = .ok (.iload_n 1, 1) := by decide +kernel
theorem dX6_tellSpans_99 : decode cX6_tellSpans 99 = .ok (.isub, 1) := by decide +kernel
theorem dX6_tellSpans_100 : decode cX6_tellSpans 100 = .ok (.invokestatic 84, 3) := by decide +kernel
theorem dX6_tellSpans_103 : decode cX6_tellSpans 103 = .ok (.invokevirtual 32, 3) := by decide +kernel
theorem dX6_tellSpans_106 : decode cX6_tellSpans 106 = .ok (.goto 15, 3) := by decide +kernel
theorem dX6_tellSpans_109 : decode cX6_tellSpans 109 = .ok (.aload_n 0, 1) := by decide +kernel
theorem dX6_tellSpans_110 : decode cX6_tellSpans 110 = .ok (.iconst 3, 1) := by decide +kernel
theorem dX6_tellSpans_111 : decode cX6_tellSpans 111 = .ok (.iload 14, 2) := by decide +kernel
theorem dX6_tellSpans_113 : decode cX6_tellSpans 113 = .ok (.iload 13, 2) := by decide +kernel
theorem dX6_tellSpans_115 : decode cX6_tellSpans 115 = .ok (.isub, 1) := by decide +kernel
theorem dX6_tellSpans_116 : decode cX6_tellSpans 116 = .ok (.iconst 2, 1) := by decide +kernel
theorem dX6_tellSpans_117 : decode cX6_tellSpans 117 = .ok (.isub, 1) := by decide +kernel
theorem dX6_tellSpans_118 : decode cX6_tellSpans 118 = .ok (.invokevirtual 32, 3) := by decide +kernel
theorem dX6_tellSpans_121 : decode cX6_tellSpans 121 = .ok (.iload 14, 2) := by decide +kernel
theorem dX6_tellSpans_123 : decode cX6_tellSpans 123 = .ok (.istore 12, 2) := by decide +kernel
theorem dX6_tellSpans_125 : decode cX6_tellSpans 125 = .ok (.lload 10, 2) := by decide +kernel
theorem dX6_tellSpans_127 : decode cX6_tellSpans 127 = .ok (.iload 14, 2) := by decide +kernel
theorem dX6_tellSpans_129 : decode cX6_tellSpans 129 = .ok (.invokestatic 80, 3) := by decide +kernel
theorem dX6_tellSpans_132 : decode cX6_tellSpans 132 = .ok (.ifCond .eq 22, 3) := by decide +kernel
theorem dX6_tellSpans_135 : decode cX6_tellSpans 135 = .ok (.aload_n 0, 1) := by decide +kernel
theorem dX6_tellSpans_136 : decode cX6_tellSpans 136 = .ok (.bipush 7, 2) := by decide +kernel
theorem dX6_tellSpans_138 : decode cX6_tellSpans 138 = .ok (.iload 14, 2) := by decide +kernel
theorem dX6_tellSpans_140 : decode cX6_tellSpans 140 = .ok (.iload 12, 2) := by decide +kernel
theorem dX6_tellSpans_142 : decode cX6_tellSpans 142 = .ok (.isub, 1) := by decide +kernel
theorem dX6_tellSpans_143 : decode cX6_tellSpans 143 = .ok (.iconst 1, 1) := by decide +kernel
theorem dX6_tellSpans_144 : decode cX6_tellSpans 144 = .ok (.iadd, 1) := by decide +kernel
theorem dX6_tellSpans_145 : decode cX6_tellSpans 145 = .ok (.iconst 3, 1) := by decide +kernel
theorem dX6_tellSpans_146 : decode cX6_tellSpans 146 = .ok (.isub, 1) := by decide +kernel
theorem dX6_tellSpans_147 : decode cX6_tellSpans 147 = .ok (.invokevirtual 32, 3) := by decide +kernel
theorem dX6_tellSpans_150 : decode cX6_tellSpans 150 = .ok (.iload 14, 2) := by decide +kernel
theorem dX6_tellSpans_152 : decode cX6_tellSpans 152 = .ok (.istore 13, 2) := by decide +kernel
theorem dX6_tellSpans_154 : decode cX6_tellSpans 154 = .ok (.iinc 14 1, 3) := by decide +kernel
theorem dX6_tellSpans_157 : decode cX6_tellSpans 157 = .ok (.goto (-87), 3) := by decide +kernel
theorem dX6_tellSpans_160 : decode cX6_tellSpans 160 = .ok (.lload_n 2, 1) := by decide +kernel
theorem dX6_tellSpans_161 : decode cX6_tellSpans 161 = .ok (.lload 6, 2) := by decide +kernel
theorem dX6_tellSpans_163 : decode cX6_tellSpans 163 = .ok (.ldc2_w 48, 3) := by decide +kernel
theorem dX6_tellSpans_166 : decode cX6_tellSpans 166 = .ok (.lxor, 1) := by decide +kernel
theorem dX6_tellSpans_167 : decode cX6_tellSpans 167 = .ok (.land, 1) := by decide +kernel
theorem dX6_tellSpans_168 : decode cX6_tellSpans 168 = .ok (.lreturn, 1) := by decide +kernel
theorem dX6_tellBlocks_0 : decode cX6_tellBlocks 0 = .ok (.aload_n 0, 1) := by decide +kernel
theorem dX6_tellBlocks_1 : decode cX6_tellBlocks 1 = .ok (.getfield 18, 3) := by decide +kernel
theorem dX6_tellBlocks_4 : decode cX6_tellBlocks 4 = .ok (.istore 5, 2) := by decide +kernel
theorem dX6_tellBlocks_6 : decode cX6_tellBlocks 6 = .ok (.aload_n 0, 1) := by decide +kernel
theorem dX6_tellBlocks_7 : decode cX6_tellBlocks 7 = .ok (.iconst 1, 1) := by decide +kernel
theorem dX6_tellBlocks_8 : decode cX6_tellBlocks 8 = .ok (.iconst 0, 1) := by decide +kernel
theorem dX6_tellBlocks_9 : decode cX6_tellBlocks 9 = .ok (.invokevirtual 32, 3) := by decide +kernel
theorem dX6_tellBlocks_12 : decode cX6_tellBlocks 12 = .ok (.iconst 1, 1) := by decide +kernel
theorem dX6_tellBlocks_13 : decode cX6_tellBlocks 13 = .ok (.istore 6, 2) := by decide +kernel
theorem dX6_tellBlocks_15 : decode cX6_tellBlocks 15 = .ok (.iconst 0, 1) := by decide +kernel
theorem dX6_tellBlocks_16 : decode cX6_tellBlocks 16 = .ok (.istore 7, 2) := by decide +kernel
theorem dX6_tellBlocks_18 : decode cX6_tellBlocks 18 = .ok (.iconst 0, 1) := by decide +kernel
theorem dX6_tellBlocks_19 : decode cX6_tellBlocks 19 = .ok (.istore 8, 2) := by decide +kernel
theorem dX6_tellBlocks_21 : decode cX6_tellBlocks 21 = .ok (.iconst 0, 1) := by decide +kernel
theorem dX6_tellBlocks_22 : decode cX6_tellBlocks 22 = .ok (.istore 9, 2) := by decide +kernel
theorem dX6_tellBlocks_24 : decode cX6_tellBlocks 24 = .ok (.iload 9, 2) := by decide +kernel
theorem dX6_tellBlocks_26 : decode cX6_tellBlocks 26 = .ok (.bipush 48, 2) := by decide +kernel
theorem dX6_tellBlocks_28 : decode cX6_tellBlocks 28 = .ok (.if_icmp .ge 72, 3) := by decide +kernel
theorem dX6_tellBlocks_31 : decode cX6_tellBlocks 31 = .ok (.lload_n 3, 1) := by decide +kernel
theorem dX6_tellBlocks_32 : decode cX6_tellBlocks 32 = .ok (.iload 9, 2) := by decide +kernel
theorem dX6_tellBlocks_34 : decode cX6_tellBlocks 34 = .ok (.invokestatic 80, 3) := by decide +kernel
theorem dX6_tellBlocks_37 : decode cX6_tellBlocks 37 = .ok (.ifCond .eq 57, 3) := by decide +kernel
theorem dX6_tellBlocks_40 : decode cX6_tellBlocks 40 = .ok (.lload_n 1, 1) := by decide +kernel
theorem dX6_tellBlocks_41 : decode cX6_tellBlocks 41 = .ok (.iload 9, 2) := by decide +kernel
theorem dX6_tellBlocks_43 : decode cX6_tellBlocks 43 = .ok (.invokestatic 80, 3) := by decide +kernel
theorem dX6_tellBlocks_46 : decode cX6_tellBlocks 46 = .ok (.iload 6, 2) := by decide +kernel
theorem dX6_tellBlocks_48 : decode cX6_tellBlocks 48 = .ok (.if_icmp .ne 9, 3) := by decide +kernel
theorem dX6_tellBlocks_51 : decode cX6_tellBlocks 51 = .ok (.iinc 7 1, 3) := by decide +kernel
theorem dX6_tellBlocks_54 : decode cX6_tellBlocks 54 = .ok (.goto 40, 3) := by decide +kernel
theorem dX6_tellBlocks_57 : decode cX6_tellBlocks 57 = .ok (.aload_n 0, 1) := by decide +kernel
theorem dX6_tellBlocks_58 : decode cX6_tellBlocks 58 = .ok (.iconst 5, 1) := by decide +kernel
theorem dX6_tellBlocks_59 : decode cX6_tellBlocks 59 = .ok (.iload 8, 2) := by decide +kernel
theorem dX6_tellBlocks_61 : decode cX6_tellBlocks 61 = .ok (.ifCond .ne 8, 3) := by decide +kernel
theorem dX6_tellBlocks_64 : decode cX6_tellBlocks 64 = .ok (.iload 7, 2) := by decide +kernel
theorem dX6_tellBlocks_66 : decode cX6_tellBlocks 66 = .ok (.goto 7, 3) := by decide +kernel
theorem dX6_tellBlocks_69 : decode cX6_tellBlocks 69 = .ok (.iload 7, 2) := by decide +kernel
theorem dX6_tellBlocks_71 : decode cX6_tellBlocks 71 = .ok (.iconst 1, 1) := by decide +kernel
theorem dX6_tellBlocks_72 : decode cX6_tellBlocks 72 = .ok (.isub, 1) := by decide +kernel
theorem dX6_tellBlocks_73 : decode cX6_tellBlocks 73 = .ok (.invokevirtual 32, 3) := by decide +kernel
theorem dX6_tellBlocks_76 : decode cX6_tellBlocks 76 = .ok (.iinc 8 1, 3) := by decide +kernel
theorem dX6_tellBlocks_79 : decode cX6_tellBlocks 79 = .ok (.iload 6, 2) := by decide +kernel
theorem dX6_tellBlocks_81 : decode cX6_tellBlocks 81 = .ok (.ifCond .ne 7, 3) := by decide +kernel
theorem dX6_tellBlocks_84 : decode cX6_tellBlocks 84 = .ok (.iconst 1, 1) := by decide +kernel
theorem dX6_tellBlocks_85 : decode cX6_tellBlocks 85 = .ok (.goto 4, 3) := by decide +kernel
theorem dX6_tellBlocks_88 : decode cX6_tellBlocks 88 = .ok (.iconst 0, 1) := by decide +kernel
theorem dX6_tellBlocks_89 : decode cX6_tellBlocks 89 = .ok (.istore 6, 2) := by decide +kernel
theorem dX6_tellBlocks_91 : decode cX6_tellBlocks 91 = .ok (.iconst 1, 1) := by decide +kernel
theorem dX6_tellBlocks_92 : decode cX6_tellBlocks 92 = .ok (.istore 7, 2) := by decide +kernel
theorem dX6_tellBlocks_94 : decode cX6_tellBlocks 94 = .ok (.iinc 9 1, 3) := by decide +kernel
theorem dX6_tellBlocks_97 : decode cX6_tellBlocks 97 = .ok (.goto (-73), 3) := by decide +kernel
theorem dX6_tellBlocks_100 : decode cX6_tellBlocks 100 = .ok (.iload 5, 2) := by decide +kernel
theorem dX6_tellBlocks_102 : decode cX6_tellBlocks 102 = .ok (.ifCond .lt 22, 3) := by decide +kernel
theorem dX6_tellBlocks_105 : decode cX6_tellBlocks 105 = .ok (.iload 5, 2) := by decide +kernel
theorem dX6_tellBlocks_107 : decode cX6_tellBlocks 107 = .ok (.aload_n 0, 1) := by decide +kernel
theorem dX6_tellBlocks_108 : decode cX6_tellBlocks 108 = .ok (.getfield 15, 3) := by decide +kernel
theorem dX6_tellBlocks_111 : decode cX6_tellBlocks 111 = .ok (.arraylength, 1) := by decide +kernel
theorem dX6_tellBlocks_112 : decode cX6_tellBlocks 112 = .ok (.if_icmp .ge 12, 3) := by decide +kernel
theorem dX6_tellBlocks_115 : decode cX6_tellBlocks 115 = .ok (.aload_n 0, 1) := by decide +kernel
theorem dX6_tellBlocks_116 : decode cX6_tellBlocks 116 = .ok (.getfield 15, 3) := by decide +kernel
theorem dX6_tellBlocks_119 : decode cX6_tellBlocks 119 = .ok (.iload 5, 2) := by decide +kernel
theorem dX6_tellBlocks_121 : decode cX6_tellBlocks 121 = .ok (.iload 8, 2) := by decide +kernel
theorem dX6_tellBlocks_123 : decode cX6_tellBlocks 123 = .ok (.iastore, 1) := by decide +kernel
theorem dX6_tellBlocks_124 : decode cX6_tellBlocks 124 = .ok (.return_, 1) := by decide +kernel
theorem dX6_tellDense_0 : decode cX6_tellDense 0 = .ok (.lload_n 2, 1) := by decide +kernel
theorem dX6_tellDense_1 : decode cX6_tellDense 1 = .ok (.iconst 0, 1) := by decide +kernel
theorem dX6_tellDense_2 : decode cX6_tellDense 2 = .ok (.invokestatic 87, 3) := by decide +kernel
theorem dX6_tellDense_5 : decode cX6_tellDense 5 = .ok (.istore 4, 2) := by decide +kernel
theorem dX6_tellDense_7 : decode cX6_tellDense 7 = .ok (.lload_n 2, 1) := by decide +kernel
theorem dX6_tellDense_8 : decode cX6_tellDense 8 = .ok (.invokestatic 91, 3) := by decide +kernel
theorem dX6_tellDense_11 : decode cX6_tellDense 11 = .ok (.istore 5, 2) := by decide +kernel
theorem dX6_tellDense_13 : decode cX6_tellDense 13 = .ok (.aload_n 0, 1) := by decide +kernel
theorem dX6_tellDense_14 : decode cX6_tellDense 14 = .ok (.iconst 2, 1) := by decide +kernel
theorem dX6_tellDense_15 : decode cX6_tellDense 15 = .ok (.iload 4, 2) := by decide +kernel
theorem dX6_tellDense_17 : decode cX6_tellDense 17 = .ok (.iload_n 1, 1) := by decide +kernel
theorem dX6_tellDense_18 : decode cX6_tellDense 18 = .ok (.isub, 1) := by decide +kernel
theorem dX6_tellDense_19 : decode cX6_tellDense 19 = .ok (.invokestatic 84, 3) := by decide +kernel
theorem dX6_tellDense_22 : decode cX6_tellDense 22 = .ok (.invokevirtual 32, 3) := by decide +kernel
theorem dX6_tellDense_25 : decode cX6_tellDense 25 = .ok (.aload_n 0, 1) := by decide +kernel
theorem dX6_tellDense_26 : decode cX6_tellDense 26 = .ok (.iconst 1, 1) := by decide +kernel
theorem dX6_tellDense_27 : decode cX6_tellDense 27 = .ok (.iload 5, 2) := by decide +kernel
theorem dX6_tellDense_29 : decode cX6_tellDense 29 = .ok (.iload 4, 2) := by decide +kernel
theorem dX6_tellDense_31 : decode cX6_tellDense 31 = .ok (.isub, 1) := by decide +kernel
theorem dX6_tellDense_32 : decode cX6_tellDense 32 = .ok (.invokevirtual 32, 3) := by decide +kernel
theorem dX6_tellDense_35 : decode cX6_tellDense 35 = .ok (.iload 4, 2) := by decide +kernel
theorem dX6_tellDense_37 : decode cX6_tellDense 37 = .ok (.iconst 1, 1) := by decide +kernel
theorem dX6_tellDense_38 : decode cX6_tellDense 38 = .ok (.iadd, 1) := by decide +kernel
theorem dX6_tellDense_39 : decode cX6_tellDense 39 = .ok (.istore 6, 2) := by decide +kernel
theorem dX6_tellDense_41 : decode cX6_tellDense 41 = .ok (.iload 6, 2) := by decide +kernel
theorem dX6_tellDense_43 : decode cX6_tellDense 43 = .ok (.iload 5, 2) := by decide +kernel
theorem dX6_tellDense_45 : decode cX6_tellDense 45 = .ok (.if_icmp .ge 29, 3) := by decide +kernel
theorem dX6_tellDense_48 : decode cX6_tellDense 48 = .ok (.aload_n 0, 1) := by decide +kernel
theorem dX6_tellDense_49 : decode cX6_tellDense 49 = .ok (.bipush 8, 2) := by decide +kernel
theorem dX6_tellDense_51 : decode cX6_tellDense 51 = .ok (.lload_n 2, 1) := by decide +kernel
theorem dX6_tellDense_52 : decode cX6_tellDense 52 = .ok (.iload 6, 2) := by decide +kernel
theorem dX6_tellDense_54 : decode cX6_tellDense 54 = .ok (.invokestatic 80, 3) := by decide +kernel
theorem dX6_tellDense_57 : decode cX6_tellDense 57 = .ok (.ifCond .eq 7, 3) := by decide +kernel
theorem dX6_tellDense_60 : decode cX6_tellDense 60 = .ok (.iconst 1, 1) := by decide +kernel
theorem dX6_tellDense_61 : decode cX6_tellDense 61 = .ok (.goto 4, 3) := by decide +kernel
theorem dX6_tellDense_64 : decode cX6_tellDense 64 = .ok (.iconst 0, 1) := by decide +kernel
theorem dX6_tellDense_65 : decode cX6_tellDense 65 = .ok (.invokevirtual 32, 3) := by decide +kernel
theorem dX6_tellDense_68 : decode cX6_tellDense 68 = .ok (.iinc 6 1, 3) := by decide +kernel
theorem dX6_tellDense_71 : decode cX6_tellDense 71 = .ok (.goto (-30), 3) := by decide +kernel
theorem dX6_tellDense_74 : decode cX6_tellDense 74 = .ok (.return_, 1) := by decide +kernel
theorem dX7_init_0 : decode cX7_init 0 = .ok (.aload_n 0, 1) := by decide +kernel
theorem dX7_init_1 : decode cX7_init 1 = .ok (.invokespecial 3, 3) := by decide +kernel
theorem dX7_init_4 : decode cX7_init 4 = .ok (.aload_n 0, 1) := by decide +kernel
theorem dX7_init_5 : decode cX7_init 5 = .ok (.iload_n 1, 1) := by decide +kernel
theorem dX7_init_6 : decode cX7_init 6 = .ok (.newarray .long, 2) := by decide +kernel
theorem dX7_init_8 : decode cX7_init 8 = .ok (.putfield 9, 3) := by decide +kernel
theorem dX7_init_11 : decode cX7_init 11 = .ok (.return_, 1) := by decide +kernel
theorem dX7_countThrees_0 : decode cX7_countThrees 0 = .ok (.aload_n 0, 1) := by decide +kernel
theorem dX7_countThrees_1 : decode cX7_countThrees 1 = .ok (.aload_n 1, 1) := by decide +kernel
theorem dX7_countThrees_2 : decode cX7_countThrees 2 = .ok (.invokevirtual 15, 3) := by decide +kernel
theorem dX7_countThrees_5 : decode cX7_countThrees 5 = .ok (.iconst 0, 1) := by decide +kernel
theorem dX7_countThrees_6 : decode cX7_countThrees 6 = .ok (.istore_n 2, 1) := by decide +kernel
theorem dX7_countThrees_7 : decode cX7_countThrees 7 = .ok (.iconst 0, 1) := by decide +kernel
theorem dX7_countThrees_8 : decode cX7_countThrees 8 = .ok (.istore_n 3, 1) := by decide +kernel
theorem dX7_countThrees_9 : decode cX7_countThrees 9 = .ok (.iload_n 3, 1) := by decide +kernel
theorem dX7_countThrees_10 : decode cX7_countThrees 10 = .ok (.aload_n 0, 1) := by decide +kernel
theorem dX7_countThrees_11 : decode cX7_countThrees 11 = .ok (.getfield 9, 3) := by decide +kernel
theorem dX7_countThrees_14 : decode cX7_countThrees 14 = .ok (.arraylength, 1) := by decide +kernel
theorem dX7_countThrees_15 : decode cX7_countThrees 15 = .ok (.if_icmp .ge 77, 3) := by decide +kernel
theorem dX7_countThrees_18 : decode cX7_countThrees 18 = .ok (.iload_n 3, 1) := by decide +kernel
theorem dX7_countThrees_19 : decode cX7_countThrees 19 = .ok (.iconst 1, 1) := by decide +kernel
theorem dX7_countThrees_20 : decode cX7_countThrees 20 = .ok (.iadd, 1) := by decide +kernel
theorem dX7_countThrees_21 : decode cX7_countThrees 21 = .ok (.istore 4, 2) := by decide +kernel
theorem dX7_countThrees_23 : decode cX7_countThrees 23 = .ok (.iload 4, 2) := by decide +kernel
theorem dX7_countThrees_25 : decode cX7_countThrees 25 = .ok (.aload_n 0, 1) := by decide +kernel
theorem dX7_countThrees_26 : decode cX7_countThrees 26 = .ok (.getfield 9, 3) := by decide +kernel
theorem dX7_countThrees_29 : decode cX7_countThrees 29 = .ok (.arraylength, 1) := by decide +kernel
theorem dX7_countThrees_30 : decode cX7_countThrees 30 = .ok (.if_icmp .ge 56, 3) := by decide +kernel
theorem dX7_countThrees_33 : decode cX7_countThrees 33 = .ok (.aload_n 0, 1) := by decide +kernel
theorem dX7_countThrees_34 : decode cX7_countThrees 34 = .ok (.getfield 9, 3) := by decide +kernel
theorem dX7_countThrees_37 : decode cX7_countThrees 37 = .ok (.iload_n 3, 1) := by decide +kernel
theorem dX7_countThrees_38 : decode cX7_countThrees 38 = .ok (.laload, 1) := by decide +kernel
theorem dX7_countThrees_39 : decode cX7_countThrees 39 = .ok (.iload 4, 2) := by decide +kernel
theorem dX7_countThrees_41 : decode cX7_countThrees 41 = .ok (.invokestatic 19, 3) := by decide +kernel
theorem dX7_countThrees_44 : decode cX7_countThrees 44 = .ok (.ifCond .eq 36, 3) := by decide +kernel
theorem dX7_countThrees_47 : decode cX7_countThrees 47 = .ok (.ldc2_w 23, 3) := by decide +kernel
theorem dX7_countThrees_50 : decode cX7_countThrees 50 = .ok (.iload 4, 2) := by decide +kernel
theorem dX7_countThrees_52 : decode cX7_countThrees 52 = .ok (.lshl, 1) := by decide +kernel
theorem dX7_countThrees_53 : decode cX7_countThrees 53 = .ok (.iconst 1, 1) := by decide +kernel
theorem dX7_countThrees_54 : decode cX7_countThrees 54 = .ok (.lshl, 1) := by decide +kernel
theorem dX7_countThrees_55 : decode cX7_countThrees 55 = .ok (.lstore 5, 2) := by decide +kernel
theorem dX7_countThrees_57 : decode cX7_countThrees 57 = .ok (.iload_n 2, 1) := by decide +kernel
theorem dX7_countThrees_58 : decode cX7_countThrees 58 = .ok (.aload_n 0, 1) := by decide +kernel
theorem dX7_countThrees_59 : decode cX7_countThrees 59 = .ok (.getfield 9, 3) := by decide +kernel
theorem dX7_countThrees_62 : decode cX7_countThrees 62 = .ok (.iload_n 3, 1) := by decide +kernel
theorem dX7_countThrees_63 : decode cX7_countThrees 63 = .ok (.laload, 1) := by decide +kernel
theorem dX7_countThrees_64 : decode cX7_countThrees 64 = .ok (.aload_n 0, 1) := by decide +kernel
theorem dX7_countThrees_65 : decode cX7_countThrees 65 = .ok (.getfield 9, 3) := by decide +kernel
theorem dX7_countThrees_68 : decode cX7_countThrees 68 = .ok (.iload 4, 2) := by decide +kernel
theorem dX7_countThrees_70 : decode cX7_countThrees 70 = .ok (.laload, 1) := by decide +kernel
theorem dX7_countThrees_71 : decode cX7_countThrees 71 = .ok (.land, 1) := by decide +kernel
theorem dX7_countThrees_72 : decode cX7_countThrees 72 = .ok (.lload 5, 2) := by decide +kernel
theorem dX7_countThrees_74 : decode cX7_countThrees 74 = .ok (.land, 1) := by decide +kernel
theorem dX7_countThrees_75 : decode cX7_countThrees 75 = .ok (.invokestatic 25, 3) := by decide +kernel
theorem dX7_countThrees_78 : decode cX7_countThrees 78 = .ok (.iadd, 1) := by decide +kernel
theorem dX7_countThrees_79 : decode cX7_countThrees 79 = .ok (.istore_n 2, 1) := by decide +kernel
theorem dX7_countThrees_80 : decode cX7_countThrees 80 = .ok (.iinc 4 1, 3) := by decide +kernel
theorem dX7_countThrees_83 : decode cX7_countThrees 83 = .ok (.goto (-60), 3) := by decide +kernel
theorem dX7_countThrees_86 : decode cX7_countThrees 86 = .ok (.iinc 3 1, 3) := by decide +kernel
theorem dX7_countThrees_89 : decode cX7_countThrees 89 = .ok (.goto (-80), 3) := by decide +kernel
theorem dX7_countThrees_92 : decode cX7_countThrees 92 = .ok (.iload_n 2, 1) := by decide +kernel
theorem dX7_countThrees_93 : decode cX7_countThrees 93 = .ok (.ireturn, 1) := by decide +kernel
theorem dX7_countParts_0 : decode cX7_countParts 0 = .ok (.aload_n 0, 1) := by decide +kernel
theorem dX7_countParts_1 : decode cX7_countParts 1 = .ok (.aload_n 1, 1) := by decide +kernel
theorem dX7_countParts_2 : decode cX7_countParts 2 = .ok (.invokevirtual 15, 3) := by decide +kernel
theorem dX7_countParts_5 : decode cX7_countParts 5 = .ok (.lconst 0, 1) := by decide +kernel
theorem dX7_countParts_6 : decode cX7_countParts 6 = .ok (.lstore_n 2, 1) := by decide +kernel
theorem dX7_countParts_7 : decode cX7_countParts 7 = .ok (.iconst 0, 1) := by decide +kernel
theorem dX7_countParts_8 : decode cX7_countParts 8 = .ok (.istore 4, 2) := by decide +kernel
theorem dX7_countParts_10 : decode cX7_countParts 10 = .ok (.iconst 0, 1) := by decide +kernel
theorem dX7_countParts_11 : decode cX7_countParts 11 = .ok (.istore 5, 2) := by decide +kernel
theorem dX7_countParts_13 : decode cX7_countParts 13 = .ok (.iload 5, 2) := by decide +kernel
theorem dX7_countParts_15 : decode cX7_countParts 15 = .ok (.aload_n 0, 1) := by decide +kernel
theorem dX7_countParts_16 : decode cX7_countParts 16 = .ok (.getfield 9, 3) := by decide +kernel
theorem dX7_countParts_19 : decode cX7_countParts 19 = .ok (.arraylength, 1) := by decide +kernel
theorem dX7_countParts_20 : decode cX7_countParts 20 = .ok (.if_icmp .ge 30, 3) := by decide +kernel
theorem dX7_countParts_23 : decode cX7_countParts 23 = .ok (.lload_n 2, 1) := by decide +kernel
theorem dX7_countParts_24 : decode cX7_countParts 24 = .ok (.iload 5, 2) := by decide +kernel
theorem dX7_countParts_26 : decode cX7_countParts 26 = .ok (.invokestatic 19, 3) := by decide +kernel
theorem dX7_countParts_29 : decode cX7_countParts 29 = .ok (.ifCond .ne 15, 3) := by decide +kernel
theorem dX7_countParts_32 : decode cX7_countParts 32 = .ok (.lload_n 2, 1) := by decide +kernel
theorem dX7_countParts_33 : decode cX7_countParts 33 = .ok (.aload_n 0, 1) := by decide +kernel
theorem dX7_countParts_34 : decode cX7_countParts 34 = .ok (.iload 5, 2) := by decide +kernel
theorem dX7_countParts_36 : decode cX7_countParts 36 = .ok (.invokevirtual 31, 3) := by decide +kernel
theorem dX7_countParts_39 : decode cX7_countParts 39 = .ok (.lor, 1) := by decide +kernel
theorem dX7_countParts_40 : decode cX7_countParts 40 = .ok (.lstore_n 2, 1) := by decide +kernel
theorem dX7_countParts_41 : decode cX7_countParts 41 = .ok (.iinc 4 1, 3) := by decide +kernel
theorem dX7_countParts_44 : decode cX7_countParts 44 = .ok (.iinc 5 1, 3) := by decide +kernel
theorem dX7_countParts_47 : decode cX7_countParts 47 = .ok (.goto (-34), 3) := by decide +kernel
theorem dX7_countParts_50 : decode cX7_countParts 50 = .ok (.iload 4, 2) := by decide +kernel
theorem dX7_countParts_52 : decode cX7_countParts 52 = .ok (.ireturn, 1) := by decide +kernel
theorem dX7_sizeOfPart_0 : decode cX7_sizeOfPart 0 = .ok (.aload_n 0, 1) := by decide +kernel
theorem dX7_sizeOfPart_1 : decode cX7_sizeOfPart 1 = .ok (.aload_n 1, 1) := by decide +kernel
theorem dX7_sizeOfPart_2 : decode cX7_sizeOfPart 2 = .ok (.invokevirtual 15, 3) := by decide +kernel
theorem dX7_sizeOfPart_5 : decode cX7_sizeOfPart 5 = .ok (.aload_n 0, 1) := by decide +kernel
theorem dX7_sizeOfPart_6 : decode cX7_sizeOfPart 6 = .ok (.iload_n 2, 1) := by decide +kernel
theorem dX7_sizeOfPart_7 : decode cX7_sizeOfPart 7 = .ok (.invokevirtual 31, 3) := by decide +kernel
theorem dX7_sizeOfPart_10 : decode cX7_sizeOfPart 10 = .ok (.invokestatic 25, 3) := by decide +kernel
theorem dX7_sizeOfPart_13 : decode cX7_sizeOfPart 13 = .ok (.ireturn, 1) := by decide +kernel
theorem dX7_stepsBetween_0 : decode cX7_stepsBetween 0 = .ok (.lconst 1, 1) := by decide +kernel
theorem dX7_stepsBetween_1 : decode cX7_stepsBetween 1 = .ok (.iload_n 2, 1) := by decide +kernel
theorem dX7_stepsBetween_2 : decode cX7_stepsBetween 2 = .ok (.lshl, 1) := by decide +kernel
theorem dX7_stepsBetween_3 : decode cX7_stepsBetween 3 = .ok (.lstore 4, 2) := by decide +kernel
theorem dX7_stepsBetween_5 : decode cX7_stepsBetween 5 = .ok (.iconst 0, 1) := by decide +kernel
theorem dX7_stepsBetween_6 : decode cX7_stepsBetween 6 = .ok (.istore 6, 2) := by decide +kernel
theorem dX7_stepsBetween_8 : decode cX7_stepsBetween 8 = .ok (.iload 6, 2) := by decide +kernel
theorem dX7_stepsBetween_10 : decode cX7_stepsBetween 10 = .ok (.aload_n 1, 1) := by decide +kernel
theorem dX7_stepsBetween_11 : decode cX7_stepsBetween 11 = .ok (.invokevirtual 35, 3) := by decide +kernel
theorem dX7_stepsBetween_14 : decode cX7_stepsBetween 14 = .ok (.if_icmp .ge 68, 3) := by decide +kernel
theorem dX7_stepsBetween_17 : decode cX7_stepsBetween 17 = .ok (.lload 4, 2) := by decide +kernel
theorem dX7_stepsBetween_19 : decode cX7_stepsBetween 19 = .ok (.iload_n 3, 1) := by decide +kernel
theorem dX7_stepsBetween_20 : decode cX7_stepsBetween 20 = .ok (.invokestatic 19, 3) := by decide +kernel
theorem dX7_stepsBetween_23 : decode cX7_stepsBetween 23 = .ok (.ifCond .eq 6, 3) := by decide +kernel
theorem dX7_stepsBetween_26 : decode cX7_stepsBetween 26 = .ok (.iload 6, 2) := by decide +kernel
theorem dX7_stepsBetween_28 : decode cX7_stepsBetween 28 = .ok (.ireturn, 1) := by decide +kernel
theorem dX7_stepsBetween_29 : decode cX7_stepsBetween 29 = .ok (.lload 4, 2) := by decide +kernel
theorem dX7_stepsBetween_31 : decode cX7_stepsBetween 31 = .ok (.lstore 7, 2) := by decide +kernel
theorem dX7_stepsBetween_33 : decode cX7_stepsBetween 33 = .ok (.iconst 0, 1) := by decide +kernel
theorem dX7_stepsBetween_34 : decode cX7_stepsBetween 34 = .ok (.istore 9, 2) := by decide +kernel
theorem dX7_stepsBetween_36 : decode cX7_stepsBetween 36 = .ok (.iload 9, 2) := by decide +kernel
theorem dX7_stepsBetween_38 : decode cX7_stepsBetween 38 = .ok (.aload_n 1, 1) := by decide +kernel
theorem dX7_stepsBetween_39 : decode cX7_stepsBetween 39 = .ok (.invokevirtual 35, 3) := by decide +kernel
theorem dX7_stepsBetween_42 : decode cX7_stepsBetween 42 = .ok (.if_icmp .ge 30, 3) := by decide +kernel
theorem dX7_stepsBetween_45 : decode cX7_stepsBetween 45 = .ok (.lload 4, 2) := by decide +kernel
theorem dX7_stepsBetween_47 : decode cX7_stepsBetween 47 = .ok (.iload 9, 2) := by decide +kernel
theorem dX7_stepsBetween_49 : decode cX7_stepsBetween 49 = .ok (.invokestatic 19, 3) := by decide +kernel
theorem dX7_stepsBetween_52 : decode cX7_stepsBetween 52 = .ok (.ifCond .eq 14, 3) := by decide +kernel
theorem dX7_stepsBetween_55 : decode cX7_stepsBetween 55 = .ok (.lload 7, 2) := by decide +kernel
theorem dX7_stepsBetween_57 : decode cX7_stepsBetween 57 = .ok (.aload_n 1, 1) := by decide +kernel
theorem dX7_stepsBetween_58 : decode cX7_stepsBetween 58 = .ok (.iload 9, 2) := by decide +kernel
theorem dX7_stepsBetween_60 : decode cX7_stepsBetween 60 = .ok (.invokevirtual 41, 3) := by decide +kernel
theorem dX7_stepsBetween_63 : decode cX7_stepsBetween 63 = .ok (.lor, 1) := by decide +kernel
theorem dX7_stepsBetween_64 : decode cX7_stepsBetween 64 = .ok (.lstore 7, 2) := by decide +kernel
theorem dX7_stepsBetween_66 : decode cX7_stepsBetween 66 = .ok (.iinc 9 1, 3) := by decide +kernel
theorem dX7_stepsBetween_69 : decode cX7_stepsBetween 69 = .ok (.goto (-33), 3) := by decide +kernel
theorem dX7_stepsBetween_72 : decode cX7_stepsBetween 72 = .ok (.lload 7, 2) := by decide +kernel
theorem dX7_stepsBetween_74 : decode cX7_stepsBetween 74 = .ok (.lstore 4, 2) := by decide +kernel
theorem dX7_stepsBetween_76 : decode cX7_stepsBetween 76 = .ok (.iinc 6 1, 3) := by decide +kernel
theorem dX7_stepsBetween_79 : decode cX7_stepsBetween 79 = .ok (.goto (-71), 3) := by decide +kernel
theorem dX7_stepsBetween_82 : decode cX7_stepsBetween 82 = .ok (.iconst (-1), 1) := by decide +kernel
theorem dX7_stepsBetween_83 : decode cX7_stepsBetween 83 = .ok (.ireturn, 1) := by decide +kernel
theorem dX7_findNear_0 : decode cX7_findNear 0 = .ok (.iconst 0, 1) := by decide +kernel
theorem dX7_findNear_1 : decode cX7_findNear 1 = .ok (.istore_n 2, 1) := by decide +kernel
theorem dX7_findNear_2 : decode cX7_findNear 2 = .ok (.iload_n 2, 1) := by decide +kernel
theorem dX7_findNear_3 : decode cX7_findNear 3 = .ok (.aload_n 0, 1) := by decide +kernel
theorem dX7_findNear_4 : decode cX7_findNear 4 = .ok (.getfield 9, 3) := by decide +kernel
theorem dX7_findNear_7 : decode cX7_findNear 7 = .ok (.arraylength, 1) := by decide +kernel
theorem dX7_findNear_8 : decode cX7_findNear 8 = .ok (.if_icmp .ge 34, 3) := by decide +kernel
theorem dX7_findNear_11 : decode cX7_findNear 11 = .ok (.aload_n 0, 1) := by decide +kernel
theorem dX7_findNear_12 : decode cX7_findNear 12 = .ok (.getfield 9, 3) := by decide +kernel
theorem dX7_findNear_15 : decode cX7_findNear 15 = .ok (.iload_n 2, 1) := by decide +kernel
theorem dX7_findNear_16 : decode cX7_findNear 16 = .ok (.aload_n 1, 1) := by decide +kernel
theorem dX7_findNear_17 : decode cX7_findNear 17 = .ok (.iload_n 2, 1) := by decide +kernel
theorem dX7_findNear_18 : decode cX7_findNear 18 = .ok (.invokevirtual 41, 3) := by decide +kernel
theorem dX7_findNear_21 : decode cX7_findNear 21 = .ok (.aload_n 1, 1) := by decide +kernel
theorem dX7_findNear_22 : decode cX7_findNear 22 = .ok (.iload_n 2, 1) := by decide +kernel
theorem dX7_findNear_23 : decode cX7_findNear 23 = .ok (.invokevirtual 44, 3) := by decide +kernel
theorem dX7_findNear_26 : decode cX7_findNear 26 = .ok (.lor, 1) := by decide +kernel
theorem dX7_findNear_27 : decode cX7_findNear 27 = .ok (.lconst 1, 1) := by decide +kernel
theorem dX7_findNear_28 : decode cX7_findNear 28 = .ok (.iload_n 2, 1) := by decide +kernel
theorem dX7_findNear_29 : decode cX7_findNear 29 = .ok (.lshl, 1) := by decide +kernel
theorem dX7_findNear_30 : decode cX7_findNear 30 = .ok (.ldc2_w 23, 3) := by decide +kernel
theorem dX7_findNear_33 : decode cX7_findNear 33 = .ok (.lxor, 1) := by decide +kernel
theorem dX7_findNear_34 : decode cX7_findNear 34 = .ok (.land, 1) := by decide +kernel
theorem dX7_findNear_35 : decode cX7_findNear 35 = .ok (.lastore, 1) := by decide +kernel
theorem dX7_findNear_36 : decode cX7_findNear 36 = .ok (.iinc 2 1, 3) := by decide +kernel
theorem dX7_findNear_39 : decode cX7_findNear 39 = .ok (.goto (-37), 3) := by decide +kernel
theorem dX7_findNear_42 : decode cX7_findNear 42 = .ok (.return_, 1) := by decide +kernel
theorem dX7_partOf_0 : decode cX7_partOf 0 = .ok (.lconst 1, 1) := by decide +kernel
theorem dX7_partOf_1 : decode cX7_partOf 1 = .ok (.iload_n 1, 1) := by decide +kernel
theorem dX7_partOf_2 : decode cX7_partOf 2 = .ok (.lshl, 1) := by decide +kernel
theorem dX7_partOf_3 : decode cX7_partOf 3 = .ok (.lstore_n 2, 1) := by decide +kernel
theorem dX7_partOf_4 : decode cX7_partOf 4 = .ok (.iconst 0, 1) := by decide +kernel
theorem dX7_partOf_5 : decode cX7_partOf 5 = .ok (.istore 4, 2) := by decide +kernel
theorem dX7_partOf_7 : decode cX7_partOf 7 = .ok (.iload 4, 2) := by decide +kernel
theorem dX7_partOf_9 : decode cX7_partOf 9 = .ok (.aload_n 0, 1) := by decide +kernel
theorem dX7_partOf_10 : decode cX7_partOf 10 = .ok (.getfield 9, 3) := by decide +kernel
theorem dX7_partOf_13 : decode cX7_partOf 13 = .ok (.arraylength, 1) := by decide +kernel
theorem dX7_partOf_14 : decode cX7_partOf 14 = .ok (.if_icmp .ge 65, 3) := by decide +kernel
theorem dX7_partOf_17 : decode cX7_partOf 17 = .ok (.lload_n 2, 1) := by decide +kernel
theorem dX7_partOf_18 : decode cX7_partOf 18 = .ok (.lstore 5, 2) := by decide +kernel
theorem dX7_partOf_20 : decode cX7_partOf 20 = .ok (.iconst 0, 1) := by decide +kernel
theorem dX7_partOf_21 : decode cX7_partOf 21 = .ok (.istore 7, 2) := by decide +kernel
theorem dX7_partOf_23 : decode cX7_partOf 23 = .ok (.iload 7, 2) := by decide +kernel
theorem dX7_partOf_25 : decode cX7_partOf 25 = .ok (.aload_n 0, 1) := by decide +kernel
theorem dX7_partOf_26 : decode cX7_partOf 26 = .ok (.getfield 9, 3) := by decide +kernel
theorem dX7_partOf_29 : decode cX7_partOf 29 = .ok (.arraylength, 1) := by decide +kernel
theorem dX7_partOf_30 : decode cX7_partOf 30 = .ok (.if_icmp .ge 30, 3) := by decide +kernel
theorem dX7_partOf_33 : decode cX7_partOf 33 = .ok (.lload_n 2, 1) := by decide +kernel
theorem dX7_partOf_34 : decode cX7_partOf 34 = .ok (.iload 7, 2) := by decide +kernel
theorem dX7_partOf_36 : decode cX7_partOf 36 = .ok (.invokestatic 19, 3) := by decide +kernel
theorem dX7_partOf_39 : decode cX7_partOf 39 = .ok (.ifCond .eq 15, 3) := by decide +kernel
theorem dX7_partOf_42 : decode cX7_partOf 42 = .ok (.lload 5, 2) := by decide +kernel
theorem dX7_partOf_44 : decode cX7_partOf 44 = .ok (.aload_n 0, 1) := by decide +kernel
theorem dX7_partOf_45 : decode cX7_partOf 45 = .ok (.getfield 9, 3) := by decide +kernel
theorem dX7_partOf_48 : decode cX7_partOf 48 = .ok (.iload 7, 2) := by decide +kernel
theorem dX7_partOf_50 : decode cX7_partOf 50 = .ok (.laload, 1) := by decide +kernel
theorem dX7_partOf_51 : decode cX7_partOf 51 = .ok (.lor, 1) := by decide +kernel
theorem dX7_partOf_52 : decode cX7_partOf 52 = .ok (.lstore 5, 2) := by decide +kernel
theorem dX7_partOf_54 : decode cX7_partOf 54 = .ok (.iinc 7 1, 3) := by decide +kernel
theorem dX7_partOf_57 : decode cX7_partOf 57 = .ok (.goto (-34), 3) := by decide +kernel
theorem dX7_partOf_60 : decode cX7_partOf 60 = .ok (.lload 5, 2) := by decide +kernel
theorem dX7_partOf_62 : decode cX7_partOf 62 = .ok (.lload_n 2, 1) := by decide +kernel
theorem dX7_partOf_63 : decode cX7_partOf 63 = .ok (.lcmp, 1) := by decide +kernel
theorem dX7_partOf_64 : decode cX7_partOf 64 = .ok (.ifCond .ne 6, 3) := by decide +kernel
theorem dX7_partOf_67 : decode cX7_partOf 67 = .ok (.goto 12, 3) := by decide +kernel
theorem dX7_partOf_70 : decode cX7_partOf 70 = .ok (.lload 5, 2) := by decide +kernel
theorem dX7_partOf_72 : decode cX7_partOf 72 = .ok (.lstore_n 2, 1) := by decide +kernel
theorem dX7_partOf_73 : decode cX7_partOf 73 = .ok (.iinc 4 1, 3) := by decide +kernel
theorem dX7_partOf_76 : decode cX7_partOf 76 = .ok (.goto (-69), 3) := by decide +kernel
theorem dX7_partOf_79 : decode cX7_partOf 79 = .ok (.lload_n 2, 1) := by decide +kernel
theorem dX7_partOf_80 : decode cX7_partOf 80 = .ok (.lreturn, 1) := by decide +kernel
theorem dX8_init_0 : decode cX8_init 0 = .ok (.aload_n 0, 1) := by decide +kernel
theorem dX8_init_1 : decode cX8_init 1 = .ok (.invokespecial 1, 3) := by decide +kernel
theorem dX8_init_4 : decode cX8_init 4 = .ok (.iconst 1, 1) := by decide +kernel
theorem dX8_init_5 : decode cX8_init 5 = .ok (.bipush 48, 2) := by decide +kernel
theorem dX8_init_7 : decode cX8_init 7 = .ok (.iload_n 1, 1) := by decide +kernel
theorem dX8_init_8 : decode cX8_init 8 = .ok (.invokestatic 9, 3) := by decide +kernel
theorem dX8_init_11 : decode cX8_init 11 = .ok (.invokestatic 15, 3) := by decide +kernel
theorem dX8_init_14 : decode cX8_init 14 = .ok (.istore_n 2, 1) := by decide +kernel
theorem dX8_init_15 : decode cX8_init 15 = .ok (.aload_n 0, 1) := by decide +kernel
theorem dX8_init_16 : decode cX8_init 16 = .ok (.new 18, 3) := by decide +kernel
theorem dX8_init_19 : decode cX8_init 19 = .ok (.dup, 1) := by decide +kernel
theorem dX8_init_20 : decode cX8_init 20 = .ok (.iload_n 2, 1) := by decide +kernel
theorem dX8_init_21 : decode cX8_init 21 = .ok (.invokespecial 20, 3) := by decide +kernel
theorem dX8_init_24 : decode cX8_init 24 = .ok (.putfield 23, 3) := by decide +kernel
theorem dX8_init_27 : decode cX8_init 27 = .ok (.aload_n 0, 1) := by decide +kernel
theorem dX8_init_28 : decode cX8_init 28 = .ok (.new 27, 3) := by decide +kernel
theorem dX8_init_31 : decode cX8_init 31 = .ok (.dup, 1) := by decide +kernel
theorem dX8_init_32 : decode cX8_init 32 = .ok (.invokespecial 29, 3) := by decide +kernel
theorem dX8_init_35 : decode cX8_init 35 = .ok (.putfield 30, 3) := by decide +kernel
theorem dX8_init_38 : decode cX8_init 38 = .ok (.aload_n 0, 1) := by decide +kernel
theorem dX8_init_39 : decode cX8_init 39 = .ok (.new 34, 3) := by decide +kernel
theorem dX8_init_42 : decode cX8_init 42 = .ok (.dup, 1) := by decide +kernel
theorem dX8_init_43 : decode cX8_init 43 = .ok (.invokespecial 36, 3) := by decide +kernel
theorem dX8_init_46 : decode cX8_init 46 = .ok (.putfield 37, 3) := by decide +kernel
theorem dX8_init_49 : decode cX8_init 49 = .ok (.aload_n 0, 1) := by decide +kernel
theorem dX8_init_50 : decode cX8_init 50 = .ok (.new 41, 3) := by decide +kernel
theorem dX8_init_53 : decode cX8_init 53 = .ok (.dup, 1) := by decide +kernel
theorem dX8_init_54 : decode cX8_init 54 = .ok (.iload_n 2, 1) := by decide +kernel
theorem dX8_init_55 : decode cX8_init 55 = .ok (.invokespecial 43, 3) := by decide +kernel
theorem dX8_init_58 : decode cX8_init 58 = .ok (.putfield 44, 3) := by decide +kernel
theorem dX8_init_61 : decode cX8_init 61 = .ok (.aload_n 0, 1) := by decide +kernel
theorem dX8_init_62 : decode cX8_init 62 = .ok (.new 48, 3) := by decide +kernel
theorem dX8_init_65 : decode cX8_init 65 = .ok (.dup, 1) := by decide +kernel
theorem dX8_init_66 : decode cX8_init 66 = .ok (.iload_n 2, 1) := by decide +kernel
theorem dX8_init_67 : decode cX8_init 67 = .ok (.invokespecial 50, 3) := by decide +kernel
theorem dX8_init_70 : decode cX8_init 70 = .ok (.putfield 51, 3) := by decide +kernel
theorem dX8_init_73 : decode cX8_init 73 = .ok (.aload_n 0, 1) := by decide +kernel
theorem dX8_init_74 : decode cX8_init 74 = .ok (.new 55, 3) := by decide +kernel
theorem dX8_init_77 : decode cX8_init 77 = .ok (.dup, 1) := by decide +kernel
theorem dX8_init_78 : decode cX8_init 78 = .ok (.iload_n 2, 1) := by decide +kernel
theorem dX8_init_79 : decode cX8_init 79 = .ok (.invokespecial 57, 3) := by decide +kernel
theorem dX8_init_82 : decode cX8_init 82 = .ok (.putfield 58, 3) := by decide +kernel
theorem dX8_init_85 : decode cX8_init 85 = .ok (.aload_n 0, 1) := by decide +kernel
theorem dX8_init_86 : decode cX8_init 86 = .ok (.new 62, 3) := by decide +kernel
theorem dX8_init_89 : decode cX8_init 89 = .ok (.dup, 1) := by decide +kernel
theorem dX8_init_90 : decode cX8_init 90 = .ok (.iload_n 2, 1) := by decide +kernel
end
section
theorem dX8_init_91 : decode cX8_init 91 = .ok (.invokespecial 64, 3) := by decide +kernel
theorem dX8_init_94 : decode cX8_init 94 = .ok (.putfield 65, 3) := by decide +kernel
theorem dX8_init_97 : decode cX8_init 97 = .ok (.return_, 1) := by decide +kernel
theorem dX8_pair_0 : decode cX8_pair 0 = .ok (.aload_n 0, 1) := by decide +kernel
theorem dX8_pair_1 : decode cX8_pair 1 = .ok (.iload_n 1, 1) := by decide +kernel
theorem dX8_pair_2 : decode cX8_pair 2 = .ok (.iload_n 2, 1) := by decide +kernel
theorem dX8_pair_3 : decode cX8_pair 3 = .ok (.iconst 1, 1) := by decide +kernel
theorem dX8_pair_4 : decode cX8_pair 4 = .ok (.invokevirtual 69, 3) := by decide +kernel
theorem dX8_pair_7 : decode cX8_pair 7 = .ok (.ireturn, 1) := by decide +kernel
theorem dX8_drop_0 : decode cX8_drop 0 = .ok (.aload_n 0, 1) := by decide +kernel
theorem dX8_drop_1 : decode cX8_drop 1 = .ok (.iload_n 1, 1) := by decide +kernel
theorem dX8_drop_2 : decode cX8_drop 2 = .ok (.iload_n 2, 1) := by decide +kernel
theorem dX8_drop_3 : decode cX8_drop 3 = .ok (.iconst 0, 1) := by decide +kernel
theorem dX8_drop_4 : decode cX8_drop 4 = .ok (.invokevirtual 69, 3) := by decide +kernel
theorem dX8_drop_7 : decode cX8_drop 7 = .ok (.ireturn, 1) := by decide +kernel
theorem dX8_has_0 : decode cX8_has 0 = .ok (.aload_n 0, 1) := by decide +kernel
theorem dX8_has_1 : decode cX8_has 1 = .ok (.getfield 23, 3) := by decide +kernel
theorem dX8_has_4 : decode cX8_has 4 = .ok (.iload_n 1, 1) := by decide +kernel
theorem dX8_has_5 : decode cX8_has 5 = .ok (.invokevirtual 73, 3) := by decide +kernel
theorem dX8_has_8 : decode cX8_has 8 = .ok (.ifCond .eq 14, 3) := by decide +kernel
theorem dX8_has_11 : decode cX8_has 11 = .ok (.aload_n 0, 1) := by decide +kernel
theorem dX8_has_12 : decode cX8_has 12 = .ok (.getfield 23, 3) := by decide +kernel
theorem dX8_has_15 : decode cX8_has 15 = .ok (.iload_n 2, 1) := by decide +kernel
theorem dX8_has_16 : decode cX8_has 16 = .ok (.invokevirtual 73, 3) := by decide +kernel
theorem dX8_has_19 : decode cX8_has 19 = .ok (.ifCond .ne 6, 3) := by decide +kernel
theorem dX8_has_22 : decode cX8_has 22 = .ok (.bipush (-2), 2) := by decide +kernel
theorem dX8_has_24 : decode cX8_has 24 = .ok (.ireturn, 1) := by decide +kernel
theorem dX8_has_25 : decode cX8_has 25 = .ok (.aload_n 0, 1) := by decide +kernel
theorem dX8_has_26 : decode cX8_has 26 = .ok (.getfield 23, 3) := by decide +kernel
theorem dX8_has_29 : decode cX8_has 29 = .ok (.iload_n 1, 1) := by decide +kernel
theorem dX8_has_30 : decode cX8_has 30 = .ok (.iload_n 2, 1) := by decide +kernel
theorem dX8_has_31 : decode cX8_has 31 = .ok (.invokevirtual 77, 3) := by decide +kernel
theorem dX8_has_34 : decode cX8_has 34 = .ok (.ifCond .eq 7, 3) := by decide +kernel
theorem dX8_has_37 : decode cX8_has 37 = .ok (.iconst 1, 1) := by decide +kernel
theorem dX8_has_38 : decode cX8_has 38 = .ok (.goto 4, 3) := by decide +kernel
theorem dX8_has_41 : decode cX8_has 41 = .ok (.iconst 0, 1) := by decide +kernel
theorem dX8_has_42 : decode cX8_has 42 = .ok (.ireturn, 1) := by decide +kernel
theorem dX8_next_0 : decode cX8_next 0 = .ok (.aload_n 0, 1) := by decide +kernel
theorem dX8_next_1 : decode cX8_next 1 = .ok (.getfield 23, 3) := by decide +kernel
theorem dX8_next_4 : decode cX8_next 4 = .ok (.iload_n 1, 1) := by decide +kernel
theorem dX8_next_5 : decode cX8_next 5 = .ok (.invokevirtual 73, 3) := by decide +kernel
theorem dX8_next_8 : decode cX8_next 8 = .ok (.ifCond .eq 7, 3) := by decide +kernel
theorem dX8_next_11 : decode cX8_next 11 = .ok (.iload_n 2, 1) := by decide +kernel
theorem dX8_next_12 : decode cX8_next 12 = .ok (.ifCond .ge 6, 3) := by decide +kernel
theorem dX8_next_15 : decode cX8_next 15 = .ok (.bipush (-2), 2) := by decide +kernel
theorem dX8_next_17 : decode cX8_next 17 = .ok (.ireturn, 1) := by decide +kernel
theorem dX8_next_18 : decode cX8_next 18 = .ok (.aload_n 0, 1) := by decide +kernel
theorem dX8_next_19 : decode cX8_next 19 = .ok (.getfield 23, 3) := by decide +kernel
theorem dX8_next_22 : decode cX8_next 22 = .ok (.iload_n 1, 1) := by decide +kernel
theorem dX8_next_23 : decode cX8_next 23 = .ok (.invokevirtual 81, 3) := by decide +kernel
theorem dX8_next_26 : decode cX8_next 26 = .ok (.iload_n 2, 1) := by decide +kernel
theorem dX8_next_27 : decode cX8_next 27 = .ok (.invokestatic 85, 3) := by decide +kernel
theorem dX8_next_30 : decode cX8_next 30 = .ok (.ireturn, 1) := by decide +kernel
theorem dX8_degree_0 : decode cX8_degree 0 = .ok (.aload_n 0, 1) := by decide +kernel
theorem dX8_degree_1 : decode cX8_degree 1 = .ok (.getfield 23, 3) := by decide +kernel
theorem dX8_degree_4 : decode cX8_degree 4 = .ok (.iload_n 1, 1) := by decide +kernel
theorem dX8_degree_5 : decode cX8_degree 5 = .ok (.invokevirtual 73, 3) := by decide +kernel
theorem dX8_degree_8 : decode cX8_degree 8 = .ok (.ifCond .eq 11, 3) := by decide +kernel
theorem dX8_degree_11 : decode cX8_degree 11 = .ok (.iload_n 2, 1) := by decide +kernel
theorem dX8_degree_12 : decode cX8_degree 12 = .ok (.iconst 2, 1) := by decide +kernel
theorem dX8_degree_13 : decode cX8_degree 13 = .ok (.invokestatic 89, 3) := by decide +kernel
theorem dX8_degree_16 : decode cX8_degree 16 = .ok (.ifCond .ne 6, 3) := by decide +kernel
theorem dX8_degree_19 : decode cX8_degree 19 = .ok (.bipush (-2), 2) := by decide +kernel
theorem dX8_degree_21 : decode cX8_degree 21 = .ok (.ireturn, 1) := by decide +kernel
theorem dX8_degree_22 : decode cX8_degree 22 = .ok (.iload_n 2, 1) := by decide +kernel
theorem dX8_degree_23 : decode cX8_degree 23 = .ok (.ifCond .ne 14, 3) := by decide +kernel
theorem dX8_degree_26 : decode cX8_degree 26 = .ok (.aload_n 0, 1) := by decide +kernel
theorem dX8_degree_27 : decode cX8_degree 27 = .ok (.getfield 23, 3) := by decide +kernel
theorem dX8_degree_30 : decode cX8_degree 30 = .ok (.iload_n 1, 1) := by decide +kernel
theorem dX8_degree_31 : decode cX8_degree 31 = .ok (.invokevirtual 81, 3) := by decide +kernel
theorem dX8_degree_34 : decode cX8_degree 34 = .ok (.goto 11, 3) := by decide +kernel
theorem dX8_degree_37 : decode cX8_degree 37 = .ok (.aload_n 0, 1) := by decide +kernel
theorem dX8_degree_38 : decode cX8_degree 38 = .ok (.getfield 23, 3) := by decide +kernel
theorem dX8_degree_41 : decode cX8_degree 41 = .ok (.iload_n 1, 1) := by decide +kernel
theorem dX8_degree_42 : decode cX8_degree 42 = .ok (.invokevirtual 92, 3) := by decide +kernel
theorem dX8_degree_45 : decode cX8_degree 45 = .ok (.invokestatic 95, 3) := by decide +kernel
theorem dX8_degree_48 : decode cX8_degree 48 = .ok (.ireturn, 1) := by decide +kernel
theorem dX8_meet_0 : decode cX8_meet 0 = .ok (.aload_n 0, 1) := by decide +kernel
theorem dX8_meet_1 : decode cX8_meet 1 = .ok (.getfield 23, 3) := by decide +kernel
theorem dX8_meet_4 : decode cX8_meet 4 = .ok (.iload_n 1, 1) := by decide +kernel
theorem dX8_meet_5 : decode cX8_meet 5 = .ok (.invokevirtual 73, 3) := by decide +kernel
theorem dX8_meet_8 : decode cX8_meet 8 = .ok (.ifCond .eq 14, 3) := by decide +kernel
theorem dX8_meet_11 : decode cX8_meet 11 = .ok (.aload_n 0, 1) := by decide +kernel
theorem dX8_meet_12 : decode cX8_meet 12 = .ok (.getfield 23, 3) := by decide +kernel
theorem dX8_meet_15 : decode cX8_meet 15 = .ok (.iload_n 2, 1) := by decide +kernel
theorem dX8_meet_16 : decode cX8_meet 16 = .ok (.invokevirtual 73, 3) := by decide +kernel
theorem dX8_meet_19 : decode cX8_meet 19 = .ok (.ifCond .ne 6, 3) := by decide +kernel
theorem dX8_meet_22 : decode cX8_meet 22 = .ok (.bipush (-2), 2) := by decide +kernel
theorem dX8_meet_24 : decode cX8_meet 24 = .ok (.ireturn, 1) := by decide +kernel
theorem dX8_meet_25 : decode cX8_meet 25 = .ok (.aload_n 0, 1) := by decide +kernel
theorem dX8_meet_26 : decode cX8_meet 26 = .ok (.getfield 23, 3) := by decide +kernel
theorem dX8_meet_29 : decode cX8_meet 29 = .ok (.iload_n 1, 1) := by decide +kernel
theorem dX8_meet_30 : decode cX8_meet 30 = .ok (.invokevirtual 81, 3) := by decide +kernel
theorem dX8_meet_33 : decode cX8_meet 33 = .ok (.aload_n 0, 1) := by decide +kernel
theorem dX8_meet_34 : decode cX8_meet 34 = .ok (.getfield 23, 3) := by decide +kernel
theorem dX8_meet_37 : decode cX8_meet 37 = .ok (.iload_n 2, 1) := by decide +kernel
theorem dX8_meet_38 : decode cX8_meet 38 = .ok (.invokevirtual 81, 3) := by decide +kernel
theorem dX8_meet_41 : decode cX8_meet 41 = .ok (.land, 1) := by decide +kernel
theorem dX8_meet_42 : decode cX8_meet 42 = .ok (.invokestatic 95, 3) := by decide +kernel
theorem dX8_meet_45 : decode cX8_meet 45 = .ok (.ireturn, 1) := by decide +kernel
theorem dX8_back_0 : decode cX8_back 0 = .ok (.aload_n 0, 1) := by decide +kernel
theorem dX8_back_1 : decode cX8_back 1 = .ok (.getfield 23, 3) := by decide +kernel
theorem dX8_back_4 : decode cX8_back 4 = .ok (.iload_n 1, 1) := by decide +kernel
theorem dX8_back_5 : decode cX8_back 5 = .ok (.invokevirtual 73, 3) := by decide +kernel
theorem dX8_back_8 : decode cX8_back 8 = .ok (.ifCond .ne 6, 3) := by decide +kernel
theorem dX8_back_11 : decode cX8_back 11 = .ok (.bipush (-2), 2) := by decide +kernel
theorem dX8_back_13 : decode cX8_back 13 = .ok (.ireturn, 1) := by decide +kernel
theorem dX8_back_14 : decode cX8_back 14 = .ok (.aload_n 0, 1) := by decide +kernel
theorem dX8_back_15 : decode cX8_back 15 = .ok (.getfield 23, 3) := by decide +kernel
theorem dX8_back_18 : decode cX8_back 18 = .ok (.iload_n 1, 1) := by decide +kernel
theorem dX8_back_19 : decode cX8_back 19 = .ok (.invokevirtual 92, 3) := by decide +kernel
theorem dX8_back_22 : decode cX8_back 22 = .ok (.iload_n 2, 1) := by decide +kernel
theorem dX8_back_23 : decode cX8_back 23 = .ok (.invokestatic 101, 3) := by decide +kernel
theorem dX8_back_26 : decode cX8_back 26 = .ok (.ireturn, 1) := by decide +kernel
theorem dX8_form_0 : decode cX8_form 0 = .ok (.iload_n 1, 1) := by decide +kernel
theorem dX8_form_1 : decode cX8_form 1 = .ok (.bipush 8, 2) := by decide +kernel
theorem dX8_form_3 : decode cX8_form 3 = .ok (.invokestatic 89, 3) := by decide +kernel
theorem dX8_form_6 : decode cX8_form 6 = .ok (.ifCond .eq 12, 3) := by decide +kernel
theorem dX8_form_9 : decode cX8_form 9 = .ok (.iload_n 2, 1) := by decide +kernel
theorem dX8_form_10 : decode cX8_form 10 = .ok (.bipush 10, 2) := by decide +kernel
theorem dX8_form_12 : decode cX8_form 12 = .ok (.invokestatic 89, 3) := by decide +kernel
theorem dX8_form_15 : decode cX8_form 15 = .ok (.ifCond .ne 6, 3) := by decide +kernel
theorem dX8_form_18 : decode cX8_form 18 = .ok (.bipush (-2), 2) := by decide +kernel
theorem dX8_form_20 : decode cX8_form 20 = .ok (.ireturn, 1) := by decide +kernel
theorem dX8_form_21 : decode cX8_form 21 = .ok (.aload_n 0, 1) := by decide +kernel
theorem dX8_form_22 : decode cX8_form 22 = .ok (.getfield 30, 3) := by decide +kernel
theorem dX8_form_25 : decode cX8_form 25 = .ok (.iload_n 1, 1) := by decide +kernel
theorem dX8_form_26 : decode cX8_form 26 = .ok (.invokevirtual 104, 3) := by decide +kernel
theorem dX8_form_29 : decode cX8_form 29 = .ok (.istore_n 3, 1) := by decide +kernel
theorem dX8_form_30 : decode cX8_form 30 = .ok (.aload_n 0, 1) := by decide +kernel
theorem dX8_form_31 : decode cX8_form 31 = .ok (.getfield 30, 3) := by decide +kernel
theorem dX8_form_34 : decode cX8_form 34 = .ok (.iload_n 1, 1) := by decide +kernel
theorem dX8_form_35 : decode cX8_form 35 = .ok (.iload_n 2, 1) := by decide +kernel
theorem dX8_form_36 : decode cX8_form 36 = .ok (.invokevirtual 108, 3) := by decide +kernel
theorem dX8_form_39 : decode cX8_form 39 = .ok (.iload_n 3, 1) := by decide +kernel
theorem dX8_form_40 : decode cX8_form 40 = .ok (.ireturn, 1) := by decide +kernel
theorem dX8_setting_0 : decode cX8_setting 0 = .ok (.aload_n 0, 1) := by decide +kernel
theorem dX8_setting_1 : decode cX8_setting 1 = .ok (.getfield 30, 3) := by decide +kernel
theorem dX8_setting_4 : decode cX8_setting 4 = .ok (.iload_n 1, 1) := by decide +kernel
theorem dX8_setting_5 : decode cX8_setting 5 = .ok (.iload_n 2, 1) := by decide +kernel
theorem dX8_setting_6 : decode cX8_setting 6 = .ok (.invokevirtual 112, 3) := by decide +kernel
theorem dX8_setting_9 : decode cX8_setting 9 = .ok (.ifCond .ne 6, 3) := by decide +kernel
theorem dX8_setting_12 : decode cX8_setting 12 = .ok (.bipush (-2), 2) := by decide +kernel
theorem dX8_setting_14 : decode cX8_setting 14 = .ok (.ireturn, 1) := by decide +kernel
theorem dX8_setting_15 : decode cX8_setting 15 = .ok (.aload_n 0, 1) := by decide +kernel
theorem dX8_setting_16 : decode cX8_setting 16 = .ok (.getfield 30, 3) := by decide +kernel
theorem dX8_setting_19 : decode cX8_setting 19 = .ok (.iload_n 1, 1) := by decide +kernel
theorem dX8_setting_20 : decode cX8_setting 20 = .ok (.invokevirtual 115, 3) := by decide +kernel
theorem dX8_setting_23 : decode cX8_setting 23 = .ok (.istore_n 3, 1) := by decide +kernel
theorem dX8_setting_24 : decode cX8_setting 24 = .ok (.aload_n 0, 1) := by decide +kernel
theorem dX8_setting_25 : decode cX8_setting 25 = .ok (.getfield 30, 3) := by decide +kernel
theorem dX8_setting_28 : decode cX8_setting 28 = .ok (.iload_n 1, 1) := by decide +kernel
theorem dX8_setting_29 : decode cX8_setting 29 = .ok (.iload_n 2, 1) := by decide +kernel
theorem dX8_setting_30 : decode cX8_setting 30 = .ok (.invokevirtual 118, 3) := by decide +kernel
theorem dX8_setting_33 : decode cX8_setting 33 = .ok (.iload_n 3, 1) := by decide +kernel
theorem dX8_setting_34 : decode cX8_setting 34 = .ok (.ireturn, 1) := by decide +kernel
theorem dX8_length_0 : decode cX8_length 0 = .ok (.iload_n 1, 1) := by decide +kernel
theorem dX8_length_1 : decode cX8_length 1 = .ok (.bipush 10, 2) := by decide +kernel
theorem dX8_length_3 : decode cX8_length 3 = .ok (.invokestatic 89, 3) := by decide +kernel
theorem dX8_length_6 : decode cX8_length 6 = .ok (.ifCond .eq 13, 3) := by decide +kernel
theorem dX8_length_9 : decode cX8_length 9 = .ok (.iload_n 2, 1) := by decide +kernel
theorem dX8_length_10 : decode cX8_length 10 = .ok (.ifCond .lt 9, 3) := by decide +kernel
theorem dX8_length_13 : decode cX8_length 13 = .ok (.iload_n 2, 1) := by decide +kernel
theorem dX8_length_14 : decode cX8_length 14 = .ok (.ldc 121, 2) := by decide +kernel
theorem dX8_length_16 : decode cX8_length 16 = .ok (.if_icmp .le 6, 3) := by decide +kernel
theorem dX8_length_19 : decode cX8_length 19 = .ok (.bipush (-2), 2) := by decide +kernel
theorem dX8_length_21 : decode cX8_length 21 = .ok (.ireturn, 1) := by decide +kernel
theorem dX8_length_22 : decode cX8_length 22 = .ok (.iload_n 1, 1) := by decide +kernel
theorem dX8_length_23 : decode cX8_length 23 = .ok (.iload_n 2, 1) := by decide +kernel
theorem dX8_length_24 : decode cX8_length 24 = .ok (.invokestatic 122, 3) := by decide +kernel
theorem dX8_length_27 : decode cX8_length 27 = .ok (.ireturn, 1) := by decide +kernel
theorem dX8_cost_0 : decode cX8_cost 0 = .ok (.aload_n 0, 1) := by decide +kernel
theorem dX8_cost_1 : decode cX8_cost 1 = .ok (.getfield 23, 3) := by decide +kernel
theorem dX8_cost_4 : decode cX8_cost 4 = .ok (.iload_n 1, 1) := by decide +kernel
theorem dX8_cost_5 : decode cX8_cost 5 = .ok (.invokevirtual 73, 3) := by decide +kernel
theorem dX8_cost_8 : decode cX8_cost 8 = .ok (.ifCond .eq 11, 3) := by decide +kernel
theorem dX8_cost_11 : decode cX8_cost 11 = .ok (.iload_n 2, 1) := by decide +kernel
theorem dX8_cost_12 : decode cX8_cost 12 = .ok (.iconst 5, 1) := by decide +kernel
theorem dX8_cost_13 : decode cX8_cost 13 = .ok (.invokestatic 89, 3) := by decide +kernel
theorem dX8_cost_16 : decode cX8_cost 16 = .ok (.ifCond .ne 6, 3) := by decide +kernel
theorem dX8_cost_19 : decode cX8_cost 19 = .ok (.bipush (-2), 2) := by decide +kernel
theorem dX8_cost_21 : decode cX8_cost 21 = .ok (.ireturn, 1) := by decide +kernel
theorem dX8_cost_22 : decode cX8_cost 22 = .ok (.iload_n 2, 1) := by decide +kernel
theorem dX8_cost_23 : decode cX8_cost 23 = .ok (.invokestatic 125, 3) := by decide +kernel
theorem dX8_cost_26 : decode cX8_cost 26 = .ok (.ifCond .eq 16, 3) := by decide +kernel
theorem dX8_cost_29 : decode cX8_cost 29 = .ok (.iload_n 3, 1) := by decide +kernel
theorem dX8_cost_30 : decode cX8_cost 30 = .ok (.iconst 1, 1) := by decide +kernel
theorem dX8_cost_31 : decode cX8_cost 31 = .ok (.if_icmp .lt 8, 3) := by decide +kernel
theorem dX8_cost_34 : decode cX8_cost 34 = .ok (.iload_n 3, 1) := by decide +kernel
theorem dX8_cost_35 : decode cX8_cost 35 = .ok (.iload_n 1, 1) := by decide +kernel
theorem dX8_cost_36 : decode cX8_cost 36 = .ok (.if_icmp .le 6, 3) := by decide +kernel
theorem dX8_cost_39 : decode cX8_cost 39 = .ok (.bipush (-2), 2) := by decide +kernel
theorem dX8_cost_41 : decode cX8_cost 41 = .ok (.ireturn, 1) := by decide +kernel
theorem dX8_cost_42 : decode cX8_cost 42 = .ok (.aload_n 0, 1) := by decide +kernel
theorem dX8_cost_43 : decode cX8_cost 43 = .ok (.getfield 37, 3) := by decide +kernel
theorem dX8_cost_46 : decode cX8_cost 46 = .ok (.aload_n 0, 1) := by decide +kernel
theorem dX8_cost_47 : decode cX8_cost 47 = .ok (.getfield 23, 3) := by decide +kernel
theorem dX8_cost_50 : decode cX8_cost 50 = .ok (.iload_n 1, 1) := by decide +kernel
theorem dX8_cost_51 : decode cX8_cost 51 = .ok (.iload_n 2, 1) := by decide +kernel
theorem dX8_cost_52 : decode cX8_cost 52 = .ok (.iload_n 3, 1) := by decide +kernel
theorem dX8_cost_53 : decode cX8_cost 53 = .ok (.aload_n 0, 1) := by decide +kernel
theorem dX8_cost_54 : decode cX8_cost 54 = .ok (.getfield 30, 3) := by decide +kernel
theorem dX8_cost_57 : decode cX8_cost 57 = .ok (.invokevirtual 128, 3) := by decide +kernel
theorem dX8_cost_60 : decode cX8_cost 60 = .ok (.istore 4, 2) := by decide +kernel
theorem dX8_cost_62 : decode cX8_cost 62 = .ok (.iload 4, 2) := by decide +kernel
theorem dX8_cost_64 : decode cX8_cost 64 = .ok (.ldc 132, 2) := by decide +kernel
theorem dX8_cost_66 : decode cX8_cost 66 = .ok (.if_icmp .ne 8, 3) := by decide +kernel
theorem dX8_cost_69 : decode cX8_cost 69 = .ok (.bipush (-3), 2) := by decide +kernel
theorem dX8_cost_71 : decode cX8_cost 71 = .ok (.goto 5, 3) := by decide +kernel
theorem dX8_cost_74 : decode cX8_cost 74 = .ok (.iload 4, 2) := by decide +kernel
theorem dX8_cost_76 : decode cX8_cost 76 = .ok (.ireturn, 1) := by decide +kernel
theorem dX8_pack_0 : decode cX8_pack 0 = .ok (.aload_n 0, 1) := by decide +kernel
theorem dX8_pack_1 : decode cX8_pack 1 = .ok (.getfield 44, 3) := by decide +kernel
theorem dX8_pack_4 : decode cX8_pack 4 = .ok (.aload_n 0, 1) := by decide +kernel
theorem dX8_pack_5 : decode cX8_pack 5 = .ok (.getfield 23, 3) := by decide +kernel
theorem dX8_pack_8 : decode cX8_pack 8 = .ok (.aload_n 0, 1) := by decide +kernel
theorem dX8_pack_9 : decode cX8_pack 9 = .ok (.getfield 30, 3) := by decide +kernel
theorem dX8_pack_12 : decode cX8_pack 12 = .ok (.aload_n 0, 1) := by decide +kernel
theorem dX8_pack_13 : decode cX8_pack 13 = .ok (.getfield 37, 3) := by decide +kernel
theorem dX8_pack_16 : decode cX8_pack 16 = .ok (.invokevirtual 133, 3) := by decide +kernel
theorem dX8_pack_19 : decode cX8_pack 19 = .ok (.aload_n 0, 1) := by decide +kernel
theorem dX8_pack_20 : decode cX8_pack 20 = .ok (.getfield 44, 3) := by decide +kernel
theorem dX8_pack_23 : decode cX8_pack 23 = .ok (.aload_n 0, 1) := by decide +kernel
theorem dX8_pack_24 : decode cX8_pack 24 = .ok (.getfield 30, 3) := by decide +kernel
theorem dX8_pack_27 : decode cX8_pack 27 = .ok (.aload_n 0, 1) := by decide +kernel
theorem dX8_pack_28 : decode cX8_pack 28 = .ok (.getfield 37, 3) := by decide +kernel
theorem dX8_pack_31 : decode cX8_pack 31 = .ok (.invokevirtual 137, 3) := by decide +kernel
theorem dX8_pack_34 : decode cX8_pack 34 = .ok (.ireturn, 1) := by decide +kernel
theorem dX8_told_0 : decode cX8_told 0 = .ok (.aload_n 0, 1) := by decide +kernel
theorem dX8_told_1 : decode cX8_told 1 = .ok (.getfield 23, 3) := by decide +kernel
theorem dX8_told_4 : decode cX8_told 4 = .ok (.iload_n 1, 1) := by decide +kernel
theorem dX8_told_5 : decode cX8_told 5 = .ok (.invokevirtual 73, 3) := by decide +kernel
theorem dX8_told_8 : decode cX8_told 8 = .ok (.ifCond .eq 11, 3) := by decide +kernel
theorem dX8_told_11 : decode cX8_told 11 = .ok (.iload_n 2, 1) := by decide +kernel
theorem dX8_told_12 : decode cX8_told 12 = .ok (.iconst 5, 1) := by decide +kernel
theorem dX8_told_13 : decode cX8_told 13 = .ok (.invokestatic 89, 3) := by decide +kernel
theorem dX8_told_16 : decode cX8_told 16 = .ok (.ifCond .ne 6, 3) := by decide +kernel
theorem dX8_told_19 : decode cX8_told 19 = .ok (.bipush (-2), 2) := by decide +kernel
theorem dX8_told_21 : decode cX8_told 21 = .ok (.ireturn, 1) := by decide +kernel
theorem dX8_told_22 : decode cX8_told 22 = .ok (.aload_n 0, 1) := by decide +kernel
theorem dX8_told_23 : decode cX8_told 23 = .ok (.getfield 44, 3) := by decide +kernel
theorem dX8_told_26 : decode cX8_told 26 = .ok (.invokevirtual 141, 3) := by decide +kernel
theorem dX8_told_29 : decode cX8_told 29 = .ok (.ifCond .ne 6, 3) := by decide +kernel
theorem dX8_told_32 : decode cX8_told 32 = .ok (.bipush (-3), 2) := by decide +kernel
theorem dX8_told_34 : decode cX8_told 34 = .ok (.ireturn, 1) := by decide +kernel
theorem dX8_told_35 : decode cX8_told 35 = .ok (.iload_n 2, 1) := by decide +kernel
theorem dX8_told_36 : decode cX8_told 36 = .ok (.tableswitch 68 0 3 #[32, 41, 50, 59], 32) := by decide +kernel
theorem dX8_told_68 : decode cX8_told 68 = .ok (.aload_n 0, 1) := by decide +kernel
theorem dX8_told_69 : decode cX8_told 69 = .ok (.getfield 44, 3) := by decide +kernel
theorem dX8_told_72 : decode cX8_told 72 = .ok (.iload_n 1, 1) := by decide +kernel
theorem dX8_told_73 : decode cX8_told 73 = .ok (.invokevirtual 145, 3) := by decide +kernel
theorem dX8_told_76 : decode cX8_told 76 = .ok (.ireturn, 1) := by decide +kernel
theorem dX8_told_77 : decode cX8_told 77 = .ok (.aload_n 0, 1) := by decide +kernel
theorem dX8_told_78 : decode cX8_told 78 = .ok (.getfield 44, 3) := by decide +kernel
theorem dX8_told_81 : decode cX8_told 81 = .ok (.iload_n 1, 1) := by decide +kernel
theorem dX8_told_82 : decode cX8_told 82 = .ok (.invokevirtual 148, 3) := by decide +kernel
theorem dX8_told_85 : decode cX8_told 85 = .ok (.ireturn, 1) := by decide +kernel
theorem dX8_told_86 : decode cX8_told 86 = .ok (.aload_n 0, 1) := by decide +kernel
theorem dX8_told_87 : decode cX8_told 87 = .ok (.getfield 44, 3) := by decide +kernel
theorem dX8_told_90 : decode cX8_told 90 = .ok (.iload_n 1, 1) := by decide +kernel
theorem dX8_told_91 : decode cX8_told 91 = .ok (.invokevirtual 151, 3) := by decide +kernel
theorem dX8_told_94 : decode cX8_told 94 = .ok (.ireturn, 1) := by decide +kernel
theorem dX8_told_95 : decode cX8_told 95 = .ok (.aload_n 0, 1) := by decide +kernel
theorem dX8_told_96 : decode cX8_told 96 = .ok (.getfield 44, 3) := by decide +kernel
theorem dX8_told_99 : decode cX8_told 99 = .ok (.iload_n 1, 1) := by decide +kernel
theorem dX8_told_100 : decode cX8_told 100 = .ok (.invokevirtual 154, 3) := by decide +kernel
theorem dX8_told_103 : decode cX8_told 103 = .ok (.ireturn, 1) := by decide +kernel
theorem dX8_told_104 : decode cX8_told 104 = .ok (.aload_n 0, 1) := by decide +kernel
theorem dX8_told_105 : decode cX8_told 105 = .ok (.getfield 44, 3) := by decide +kernel
theorem dX8_told_108 : decode cX8_told 108 = .ok (.iload_n 1, 1) := by decide +kernel
theorem dX8_told_109 : decode cX8_told 109 = .ok (.iconst 1, 1) := by decide +kernel
theorem dX8_told_110 : decode cX8_told 110 = .ok (.iadd, 1) := by decide +kernel
theorem dX8_told_111 : decode cX8_told 111 = .ok (.invokevirtual 154, 3) := by decide +kernel
theorem dX8_told_114 : decode cX8_told 114 = .ok (.aload_n 0, 1) := by decide +kernel
theorem dX8_told_115 : decode cX8_told 115 = .ok (.getfield 44, 3) := by decide +kernel
theorem dX8_told_118 : decode cX8_told 118 = .ok (.iload_n 1, 1) := by decide +kernel
theorem dX8_told_119 : decode cX8_told 119 = .ok (.invokevirtual 154, 3) := by decide +kernel
theorem dX8_told_122 : decode cX8_told 122 = .ok (.isub, 1) := by decide +kernel
theorem dX8_told_123 : decode cX8_told 123 = .ok (.ireturn, 1) := by decide +kernel
theorem dX8_looked_0 : decode cX8_looked 0 = .ok (.aload_n 0, 1) := by decide +kernel
theorem dX8_looked_1 : decode cX8_looked 1 = .ok (.getfield 23, 3) := by decide +kernel
theorem dX8_looked_4 : decode cX8_looked 4 = .ok (.iload_n 1, 1) := by decide +kernel
theorem dX8_looked_5 : decode cX8_looked 5 = .ok (.invokevirtual 73, 3) := by decide +kernel
theorem dX8_looked_8 : decode cX8_looked 8 = .ok (.ifCond .ne 6, 3) := by decide +kernel
theorem dX8_looked_11 : decode cX8_looked 11 = .ok (.bipush (-2), 2) := by decide +kernel
theorem dX8_looked_13 : decode cX8_looked 13 = .ok (.ireturn, 1) := by decide +kernel
theorem dX8_looked_14 : decode cX8_looked 14 = .ok (.aload_n 0, 1) := by decide +kernel
theorem dX8_looked_15 : decode cX8_looked 15 = .ok (.getfield 44, 3) := by decide +kernel
theorem dX8_looked_18 : decode cX8_looked 18 = .ok (.invokevirtual 141, 3) := by decide +kernel
theorem dX8_looked_21 : decode cX8_looked 21 = .ok (.ifCond .eq 14, 3) := by decide +kernel
theorem dX8_looked_24 : decode cX8_looked 24 = .ok (.aload_n 0, 1) := by decide +kernel
theorem dX8_looked_25 : decode cX8_looked 25 = .ok (.getfield 44, 3) := by decide +kernel
theorem dX8_looked_28 : decode cX8_looked 28 = .ok (.iload_n 1, 1) := by decide +kernel
theorem dX8_looked_29 : decode cX8_looked 29 = .ok (.invokevirtual 157, 3) := by decide +kernel
theorem dX8_looked_32 : decode cX8_looked 32 = .ok (.goto 5, 3) := by decide +kernel
theorem dX8_looked_35 : decode cX8_looked 35 = .ok (.bipush (-3), 2) := by decide +kernel
theorem dX8_looked_37 : decode cX8_looked 37 = .ok (.ireturn, 1) := by decide +kernel
theorem dX8_would_0 : decode cX8_would 0 = .ok (.iload_n 1, 1) := by decide +kernel
theorem dX8_would_1 : decode cX8_would 1 = .ok (.bipush 8, 2) := by decide +kernel
theorem dX8_would_3 : decode cX8_would 3 = .ok (.invokestatic 89, 3) := by decide +kernel
theorem dX8_would_6 : decode cX8_would 6 = .ok (.ifCond .eq 12, 3) := by decide +kernel
theorem dX8_would_9 : decode cX8_would 9 = .ok (.iload_n 2, 1) := by decide +kernel
theorem dX8_would_10 : decode cX8_would 10 = .ok (.bipush 10, 2) := by decide +kernel
theorem dX8_would_12 : decode cX8_would 12 = .ok (.invokestatic 89, 3) := by decide +kernel
theorem dX8_would_15 : decode cX8_would 15 = .ok (.ifCond .ne 6, 3) := by decide +kernel
theorem dX8_would_18 : decode cX8_would 18 = .ok (.bipush (-2), 2) := by decide +kernel
theorem dX8_would_20 : decode cX8_would 20 = .ok (.ireturn, 1) := by decide +kernel
theorem dX8_would_21 : decode cX8_would 21 = .ok (.aload_n 0, 1) := by decide +kernel
theorem dX8_would_22 : decode cX8_would 22 = .ok (.getfield 44, 3) := by decide +kernel
theorem dX8_would_25 : decode cX8_would 25 = .ok (.invokevirtual 141, 3) := by decide +kernel
theorem dX8_would_28 : decode cX8_would 28 = .ok (.ifCond .eq 15, 3) := by decide +kernel
theorem dX8_would_31 : decode cX8_would 31 = .ok (.aload_n 0, 1) := by decide +kernel
theorem dX8_would_32 : decode cX8_would 32 = .ok (.getfield 44, 3) := by decide +kernel
theorem dX8_would_35 : decode cX8_would 35 = .ok (.iload_n 1, 1) := by decide +kernel
theorem dX8_would_36 : decode cX8_would 36 = .ok (.iload_n 2, 1) := by decide +kernel
theorem dX8_would_37 : decode cX8_would 37 = .ok (.invokevirtual 160, 3) := by decide +kernel
theorem dX8_would_40 : decode cX8_would 40 = .ok (.goto 5, 3) := by decide +kernel
theorem dX8_would_43 : decode cX8_would 43 = .ok (.bipush (-3), 2) := by decide +kernel
theorem dX8_would_45 : decode cX8_would 45 = .ok (.ireturn, 1) := by decide +kernel
theorem dX8_forms_0 : decode cX8_forms 0 = .ok (.aload_n 0, 1) := by decide +kernel
theorem dX8_forms_1 : decode cX8_forms 1 = .ok (.getfield 44, 3) := by decide +kernel
theorem dX8_forms_4 : decode cX8_forms 4 = .ok (.invokevirtual 141, 3) := by decide +kernel
theorem dX8_forms_7 : decode cX8_forms 7 = .ok (.ifCond .eq 17, 3) := by decide +kernel
theorem dX8_forms_10 : decode cX8_forms 10 = .ok (.aload_n 0, 1) := by decide +kernel
theorem dX8_forms_11 : decode cX8_forms 11 = .ok (.getfield 44, 3) := by decide +kernel
theorem dX8_forms_14 : decode cX8_forms 14 = .ok (.aload_n 0, 1) := by decide +kernel
theorem dX8_forms_15 : decode cX8_forms 15 = .ok (.getfield 23, 3) := by decide +kernel
theorem dX8_forms_18 : decode cX8_forms 18 = .ok (.invokevirtual 163, 3) := by decide +kernel
theorem dX8_forms_21 : decode cX8_forms 21 = .ok (.ifCond .le 6, 3) := by decide +kernel
theorem dX8_forms_24 : decode cX8_forms 24 = .ok (.bipush (-3), 2) := by decide +kernel
theorem dX8_forms_26 : decode cX8_forms 26 = .ok (.ireturn, 1) := by decide +kernel
theorem dX8_forms_27 : decode cX8_forms 27 = .ok (.iconst 0, 1) := by decide +kernel
theorem dX8_forms_28 : decode cX8_forms 28 = .ok (.istore_n 1, 1) := by decide +kernel
theorem dX8_forms_29 : decode cX8_forms 29 = .ok (.iload_n 1, 1) := by decide +kernel
theorem dX8_forms_30 : decode cX8_forms 30 = .ok (.bipush 8, 2) := by decide +kernel
theorem dX8_forms_32 : decode cX8_forms 32 = .ok (.if_icmp .ge 25, 3) := by decide +kernel
theorem dX8_forms_35 : decode cX8_forms 35 = .ok (.aload_n 0, 1) := by decide +kernel
theorem dX8_forms_36 : decode cX8_forms 36 = .ok (.getfield 30, 3) := by decide +kernel
theorem dX8_forms_39 : decode cX8_forms 39 = .ok (.iload_n 1, 1) := by decide +kernel
theorem dX8_forms_40 : decode cX8_forms 40 = .ok (.aload_n 0, 1) := by decide +kernel
theorem dX8_forms_41 : decode cX8_forms 41 = .ok (.getfield 44, 3) := by decide +kernel
theorem dX8_forms_44 : decode cX8_forms 44 = .ok (.iload_n 1, 1) := by decide +kernel
theorem dX8_forms_45 : decode cX8_forms 45 = .ok (.invokevirtual 167, 3) := by decide +kernel
theorem dX8_forms_48 : decode cX8_forms 48 = .ok (.invokevirtual 108, 3) := by decide +kernel
theorem dX8_forms_51 : decode cX8_forms 51 = .ok (.iinc 1 1, 3) := by decide +kernel
theorem dX8_forms_54 : decode cX8_forms 54 = .ok (.goto (-25), 3) := by decide +kernel
theorem dX8_forms_57 : decode cX8_forms 57 = .ok (.aload_n 0, 1) := by decide +kernel
theorem dX8_forms_58 : decode cX8_forms 58 = .ok (.getfield 44, 3) := by decide +kernel
theorem dX8_forms_61 : decode cX8_forms 61 = .ok (.aload_n 0, 1) := by decide +kernel
theorem dX8_forms_62 : decode cX8_forms 62 = .ok (.getfield 30, 3) := by decide +kernel
theorem dX8_forms_65 : decode cX8_forms 65 = .ok (.aload_n 0, 1) := by decide +kernel
theorem dX8_forms_66 : decode cX8_forms 66 = .ok (.getfield 37, 3) := by decide +kernel
theorem dX8_forms_69 : decode cX8_forms 69 = .ok (.invokevirtual 137, 3) := by decide +kernel
theorem dX8_forms_72 : decode cX8_forms 72 = .ok (.ireturn, 1) := by decide +kernel
theorem dX8_best_0 : decode cX8_best 0 = .ok (.aload_n 0, 1) := by decide +kernel
theorem dX8_best_1 : decode cX8_best 1 = .ok (.getfield 51, 3) := by decide +kernel
theorem dX8_best_4 : decode cX8_best 4 = .ok (.aload_n 0, 1) := by decide +kernel
theorem dX8_best_5 : decode cX8_best 5 = .ok (.getfield 23, 3) := by decide +kernel
theorem dX8_best_8 : decode cX8_best 8 = .ok (.aload_n 0, 1) := by decide +kernel
theorem dX8_best_9 : decode cX8_best 9 = .ok (.getfield 30, 3) := by decide +kernel
theorem dX8_best_12 : decode cX8_best 12 = .ok (.aload_n 0, 1) := by decide +kernel
theorem dX8_best_13 : decode cX8_best 13 = .ok (.getfield 37, 3) := by decide +kernel
theorem dX8_best_16 : decode cX8_best 16 = .ok (.invokevirtual 170, 3) := by decide +kernel
theorem dX8_best_19 : decode cX8_best 19 = .ok (.ireturn, 1) := by decide +kernel
theorem dX8_bit_0 : decode cX8_bit 0 = .ok (.aload_n 0, 1) := by decide +kernel
theorem dX8_bit_1 : decode cX8_bit 1 = .ok (.getfield 44, 3) := by decide +kernel
theorem dX8_bit_4 : decode cX8_bit 4 = .ok (.invokevirtual 141, 3) := by decide +kernel
theorem dX8_bit_7 : decode cX8_bit 7 = .ok (.ifCond .eq 17, 3) := by decide +kernel
theorem dX8_bit_10 : decode cX8_bit 10 = .ok (.aload_n 0, 1) := by decide +kernel
theorem dX8_bit_11 : decode cX8_bit 11 = .ok (.getfield 44, 3) := by decide +kernel
theorem dX8_bit_14 : decode cX8_bit 14 = .ok (.invokevirtual 174, 3) := by decide +kernel
theorem dX8_bit_17 : decode cX8_bit 17 = .ok (.iload_n 1, 1) := by decide +kernel
theorem dX8_bit_18 : decode cX8_bit 18 = .ok (.invokevirtual 178, 3) := by decide +kernel
theorem dX8_bit_21 : decode cX8_bit 21 = .ok (.goto 4, 3) := by decide +kernel
theorem dX8_bit_24 : decode cX8_bit 24 = .ok (.iconst (-1), 1) := by decide +kernel
theorem dX8_bit_25 : decode cX8_bit 25 = .ok (.ireturn, 1) := by decide +kernel
theorem dX8_place_0 : decode cX8_place 0 = .ok (.iload_n 1, 1) := by decide +kernel
theorem dX8_place_1 : decode cX8_place 1 = .ok (.aload_n 0, 1) := by decide +kernel
theorem dX8_place_2 : decode cX8_place 2 = .ok (.getfield 44, 3) := by decide +kernel
theorem dX8_place_5 : decode cX8_place 5 = .ok (.invokevirtual 183, 3) := by decide +kernel
theorem dX8_place_8 : decode cX8_place 8 = .ok (.invokestatic 89, 3) := by decide +kernel
theorem dX8_place_11 : decode cX8_place 11 = .ok (.ifCond .ne 5, 3) := by decide +kernel
theorem dX8_place_14 : decode cX8_place 14 = .ok (.iconst (-1), 1) := by decide +kernel
theorem dX8_place_15 : decode cX8_place 15 = .ok (.ireturn, 1) := by decide +kernel
theorem dX8_place_16 : decode cX8_place 16 = .ok (.aload_n 0, 1) := by decide +kernel
theorem dX8_place_17 : decode cX8_place 17 = .ok (.getfield 44, 3) := by decide +kernel
theorem dX8_place_20 : decode cX8_place 20 = .ok (.iload_n 1, 1) := by decide +kernel
theorem dX8_place_21 : decode cX8_place 21 = .ok (.invokevirtual 187, 3) := by decide +kernel
theorem dX8_place_24 : decode cX8_place 24 = .ok (.ireturn, 1) := by decide +kernel
theorem dX8_sum_0 : decode cX8_sum 0 = .ok (.aload_n 0, 1) := by decide +kernel
theorem dX8_sum_1 : decode cX8_sum 1 = .ok (.getfield 44, 3) := by decide +kernel
theorem dX8_sum_4 : decode cX8_sum 4 = .ok (.invokevirtual 141, 3) := by decide +kernel
theorem dX8_sum_7 : decode cX8_sum 7 = .ok (.ifCond .eq 16, 3) := by decide +kernel
theorem dX8_sum_10 : decode cX8_sum 10 = .ok (.aload_n 0, 1) := by decide +kernel
theorem dX8_sum_11 : decode cX8_sum 11 = .ok (.getfield 44, 3) := by decide +kernel
theorem dX8_sum_14 : decode cX8_sum 14 = .ok (.invokevirtual 174, 3) := by decide +kernel
theorem dX8_sum_17 : decode cX8_sum 17 = .ok (.invokevirtual 190, 3) := by decide +kernel
theorem dX8_sum_20 : decode cX8_sum 20 = .ok (.goto 6, 3) := by decide +kernel
theorem dX8_sum_23 : decode cX8_sum 23 = .ok (.ldc2_w 194, 3) := by decide +kernel
theorem dX8_sum_26 : decode cX8_sum 26 = .ok (.lreturn, 1) := by decide +kernel
theorem dX8_alter_0 : decode cX8_alter 0 = .ok (.aload_n 0, 1) := by decide +kernel
theorem dX8_alter_1 : decode cX8_alter 1 = .ok (.getfield 44, 3) := by decide +kernel
theorem dX8_alter_4 : decode cX8_alter 4 = .ok (.invokevirtual 141, 3) := by decide +kernel
theorem dX8_alter_7 : decode cX8_alter 7 = .ok (.ifCond .ne 6, 3) := by decide +kernel
theorem dX8_alter_10 : decode cX8_alter 10 = .ok (.bipush (-3), 2) := by decide +kernel
theorem dX8_alter_12 : decode cX8_alter 12 = .ok (.ireturn, 1) := by decide +kernel
theorem dX8_alter_13 : decode cX8_alter 13 = .ok (.iload_n 1, 1) := by decide +kernel
theorem dX8_alter_14 : decode cX8_alter 14 = .ok (.aload_n 0, 1) := by decide +kernel
theorem dX8_alter_15 : decode cX8_alter 15 = .ok (.getfield 44, 3) := by decide +kernel
theorem dX8_alter_18 : decode cX8_alter 18 = .ok (.invokevirtual 174, 3) := by decide +kernel
theorem dX8_alter_21 : decode cX8_alter 21 = .ok (.invokevirtual 196, 3) := by decide +kernel
theorem dX8_alter_24 : decode cX8_alter 24 = .ok (.invokestatic 89, 3) := by decide +kernel
theorem dX8_alter_27 : decode cX8_alter 27 = .ok (.ifCond .eq 15, 3) := by decide +kernel
theorem dX8_alter_30 : decode cX8_alter 30 = .ok (.iload_n 2, 1) := by decide +kernel
theorem dX8_alter_31 : decode cX8_alter 31 = .ok (.iconst 1, 1) := by decide +kernel
theorem dX8_alter_32 : decode cX8_alter 32 = .ok (.if_icmp .lt 10, 3) := by decide +kernel
theorem dX8_alter_35 : decode cX8_alter 35 = .ok (.iload_n 2, 1) := by decide +kernel
theorem dX8_alter_36 : decode cX8_alter 36 = .ok (.sipush 255, 3) := by decide +kernel
theorem dX8_alter_39 : decode cX8_alter 39 = .ok (.if_icmp .le 6, 3) := by decide +kernel
theorem dX8_alter_42 : decode cX8_alter 42 = .ok (.bipush (-2), 2) := by decide +kernel
theorem dX8_alter_44 : decode cX8_alter 44 = .ok (.ireturn, 1) := by decide +kernel
theorem dX8_alter_45 : decode cX8_alter 45 = .ok (.aload_n 0, 1) := by decide +kernel
theorem dX8_alter_46 : decode cX8_alter 46 = .ok (.getfield 44, 3) := by decide +kernel
theorem dX8_alter_49 : decode cX8_alter 49 = .ok (.invokevirtual 174, 3) := by decide +kernel
theorem dX8_alter_52 : decode cX8_alter 52 = .ok (.iload_n 1, 1) := by decide +kernel
theorem dX8_alter_53 : decode cX8_alter 53 = .ok (.iload_n 2, 1) := by decide +kernel
theorem dX8_alter_54 : decode cX8_alter 54 = .ok (.invokevirtual 199, 3) := by decide +kernel
theorem dX8_alter_57 : decode cX8_alter 57 = .ok (.ireturn, 1) := by decide +kernel
theorem dX8_judge_0 : decode cX8_judge 0 = .ok (.aload_n 0, 1) := by decide +kernel
theorem dX8_judge_1 : decode cX8_judge 1 = .ok (.getfield 44, 3) := by decide +kernel
theorem dX8_judge_4 : decode cX8_judge 4 = .ok (.invokevirtual 141, 3) := by decide +kernel
theorem dX8_judge_7 : decode cX8_judge 7 = .ok (.ifCond .eq 13, 3) := by decide +kernel
theorem dX8_judge_10 : decode cX8_judge 10 = .ok (.aload_n 0, 1) := by decide +kernel
theorem dX8_judge_11 : decode cX8_judge 11 = .ok (.getfield 44, 3) := by decide +kernel
theorem dX8_judge_14 : decode cX8_judge 14 = .ok (.invokevirtual 202, 3) := by decide +kernel
theorem dX8_judge_17 : decode cX8_judge 17 = .ok (.goto 5, 3) := by decide +kernel
theorem dX8_judge_20 : decode cX8_judge 20 = .ok (.bipush (-3), 2) := by decide +kernel
theorem dX8_judge_22 : decode cX8_judge 22 = .ok (.ireturn, 1) := by decide +kernel
theorem dX8_order_0 : decode cX8_order 0 = .ok (.iload_n 1, 1) := by decide +kernel
theorem dX8_order_1 : decode cX8_order 1 = .ok (.iconst 3, 1) := by decide +kernel
theorem dX8_order_2 : decode cX8_order 2 = .ok (.invokestatic 89, 3) := by decide +kernel
theorem dX8_order_5 : decode cX8_order 5 = .ok (.ifCond .ne 6, 3) := by decide +kernel
theorem dX8_order_8 : decode cX8_order 8 = .ok (.bipush (-2), 2) := by decide +kernel
theorem dX8_order_10 : decode cX8_order 10 = .ok (.ireturn, 1) := by decide +kernel
theorem dX8_order_11 : decode cX8_order 11 = .ok (.aload_n 0, 1) := by decide +kernel
theorem dX8_order_12 : decode cX8_order 12 = .ok (.getfield 23, 3) := by decide +kernel
theorem dX8_order_15 : decode cX8_order 15 = .ok (.iload_n 2, 1) := by decide +kernel
theorem dX8_order_16 : decode cX8_order 16 = .ok (.invokevirtual 73, 3) := by decide +kernel
theorem dX8_order_19 : decode cX8_order 19 = .ok (.ifCond .ne 5, 3) := by decide +kernel
theorem dX8_order_22 : decode cX8_order 22 = .ok (.iconst (-1), 1) := by decide +kernel
theorem dX8_order_23 : decode cX8_order 23 = .ok (.ireturn, 1) := by decide +kernel
theorem dX8_order_24 : decode cX8_order 24 = .ok (.aload_n 0, 1) := by decide +kernel
theorem dX8_order_25 : decode cX8_order 25 = .ok (.getfield 58, 3) := by decide +kernel
theorem dX8_order_28 : decode cX8_order 28 = .ok (.iload_n 1, 1) := by decide +kernel
theorem dX8_order_29 : decode cX8_order 29 = .ok (.aload_n 0, 1) := by decide +kernel
theorem dX8_order_30 : decode cX8_order 30 = .ok (.getfield 23, 3) := by decide +kernel
theorem dX8_order_33 : decode cX8_order 33 = .ok (.invokevirtual 205, 3) := by decide +kernel
theorem dX8_order_36 : decode cX8_order 36 = .ok (.aload_n 0, 1) := by decide +kernel
theorem dX8_order_37 : decode cX8_order 37 = .ok (.getfield 58, 3) := by decide +kernel
theorem dX8_order_40 : decode cX8_order 40 = .ok (.iload_n 2, 1) := by decide +kernel
theorem dX8_order_41 : decode cX8_order 41 = .ok (.invokevirtual 209, 3) := by decide +kernel
theorem dX8_order_44 : decode cX8_order 44 = .ok (.ireturn, 1) := by decide +kernel
theorem dX8_renumber_0 : decode cX8_renumber 0 = .ok (.iload_n 1, 1) := by decide +kernel
theorem dX8_renumber_1 : decode cX8_renumber 1 = .ok (.iconst 3, 1) := by decide +kernel
theorem dX8_renumber_2 : decode cX8_renumber 2 = .ok (.invokestatic 89, 3) := by decide +kernel
theorem dX8_renumber_5 : decode cX8_renumber 5 = .ok (.ifCond .ne 6, 3) := by decide +kernel
theorem dX8_renumber_8 : decode cX8_renumber 8 = .ok (.bipush (-2), 2) := by decide +kernel
theorem dX8_renumber_10 : decode cX8_renumber 10 = .ok (.ireturn, 1) := by decide +kernel
theorem dX8_renumber_11 : decode cX8_renumber 11 = .ok (.aload_n 0, 1) := by decide +kernel
theorem dX8_renumber_12 : decode cX8_renumber 12 = .ok (.getfield 58, 3) := by decide +kernel
theorem dX8_renumber_15 : decode cX8_renumber 15 = .ok (.iload_n 1, 1) := by decide +kernel
theorem dX8_renumber_16 : decode cX8_renumber 16 = .ok (.aload_n 0, 1) := by decide +kernel
theorem dX8_renumber_17 : decode cX8_renumber 17 = .ok (.getfield 23, 3) := by decide +kernel
theorem dX8_renumber_20 : decode cX8_renumber 20 = .ok (.invokevirtual 205, 3) := by decide +kernel
theorem dX8_renumber_23 : decode cX8_renumber 23 = .ok (.aload_n 0, 1) := by decide +kernel
theorem dX8_renumber_24 : decode cX8_renumber 24 = .ok (.getfield 23, 3) := by decide +kernel
theorem dX8_renumber_27 : decode cX8_renumber 27 = .ok (.aload_n 0, 1) := by decide +kernel
theorem dX8_renumber_28 : decode cX8_renumber 28 = .ok (.getfield 58, 3) := by decide +kernel
theorem dX8_renumber_31 : decode cX8_renumber 31 = .ok (.invokevirtual 212, 3) := by decide +kernel
theorem dX8_renumber_34 : decode cX8_renumber 34 = .ok (.aload_n 0, 1) := by decide +kernel
theorem dX8_renumber_35 : decode cX8_renumber 35 = .ok (.getfield 44, 3) := by decide +kernel
theorem dX8_renumber_38 : decode cX8_renumber 38 = .ok (.invokevirtual 216, 3) := by decide +kernel
theorem dX8_renumber_41 : decode cX8_renumber 41 = .ok (.aload_n 0, 1) := by decide +kernel
theorem dX8_renumber_42 : decode cX8_renumber 42 = .ok (.getfield 23, 3) := by decide +kernel
theorem dX8_renumber_45 : decode cX8_renumber 45 = .ok (.invokevirtual 219, 3) := by decide +kernel
theorem dX8_renumber_48 : decode cX8_renumber 48 = .ok (.ireturn, 1) := by decide +kernel
theorem dX8_threes_0 : decode cX8_threes 0 = .ok (.aload_n 0, 1) := by decide +kernel
theorem dX8_threes_1 : decode cX8_threes 1 = .ok (.getfield 65, 3) := by decide +kernel
theorem dX8_threes_4 : decode cX8_threes 4 = .ok (.aload_n 0, 1) := by decide +kernel
theorem dX8_threes_5 : decode cX8_threes 5 = .ok (.getfield 23, 3) := by decide +kernel
theorem dX8_threes_8 : decode cX8_threes 8 = .ok (.invokevirtual 222, 3) := by decide +kernel
theorem dX8_threes_11 : decode cX8_threes 11 = .ok (.ireturn, 1) := by decide +kernel
theorem dX8_parts_0 : decode cX8_parts 0 = .ok (.iload_n 1, 1) := by decide +kernel
theorem dX8_parts_1 : decode cX8_parts 1 = .ok (.iconst (-1), 1) := by decide +kernel
theorem dX8_parts_2 : decode cX8_parts 2 = .ok (.if_icmp .eq 17, 3) := by decide +kernel
theorem dX8_parts_5 : decode cX8_parts 5 = .ok (.aload_n 0, 1) := by decide +kernel
theorem dX8_parts_6 : decode cX8_parts 6 = .ok (.getfield 23, 3) := by decide +kernel
theorem dX8_parts_9 : decode cX8_parts 9 = .ok (.iload_n 1, 1) := by decide +kernel
theorem dX8_parts_10 : decode cX8_parts 10 = .ok (.invokevirtual 73, 3) := by decide +kernel
theorem dX8_parts_13 : decode cX8_parts 13 = .ok (.ifCond .ne 6, 3) := by decide +kernel
theorem dX8_parts_16 : decode cX8_parts 16 = .ok (.bipush (-2), 2) := by decide +kernel
theorem dX8_parts_18 : decode cX8_parts 18 = .ok (.ireturn, 1) := by decide +kernel
theorem dX8_parts_19 : decode cX8_parts 19 = .ok (.iload_n 1, 1) := by decide +kernel
theorem dX8_parts_20 : decode cX8_parts 20 = .ok (.iconst (-1), 1) := by decide +kernel
theorem dX8_parts_21 : decode cX8_parts 21 = .ok (.if_icmp .ne 17, 3) := by decide +kernel
theorem dX8_parts_24 : decode cX8_parts 24 = .ok (.aload_n 0, 1) := by decide +kernel
theorem dX8_parts_25 : decode cX8_parts 25 = .ok (.getfield 65, 3) := by decide +kernel
theorem dX8_parts_28 : decode cX8_parts 28 = .ok (.aload_n 0, 1) := by decide +kernel
theorem dX8_parts_29 : decode cX8_parts 29 = .ok (.getfield 23, 3) := by decide +kernel
theorem dX8_parts_32 : decode cX8_parts 32 = .ok (.invokevirtual 225, 3) := by decide +kernel
theorem dX8_parts_35 : decode cX8_parts 35 = .ok (.goto 15, 3) := by decide +kernel
theorem dX8_parts_38 : decode cX8_parts 38 = .ok (.aload_n 0, 1) := by decide +kernel
theorem dX8_parts_39 : decode cX8_parts 39 = .ok (.getfield 65, 3) := by decide +kernel
theorem dX8_parts_42 : decode cX8_parts 42 = .ok (.aload_n 0, 1) := by decide +kernel
theorem dX8_parts_43 : decode cX8_parts 43 = .ok (.getfield 23, 3) := by decide +kernel
theorem dX8_parts_46 : decode cX8_parts 46 = .ok (.iload_n 1, 1) := by decide +kernel
theorem dX8_parts_47 : decode cX8_parts 47 = .ok (.invokevirtual 228, 3) := by decide +kernel
theorem dX8_parts_50 : decode cX8_parts 50 = .ok (.ireturn, 1) := by decide +kernel
theorem dX8_far_0 : decode cX8_far 0 = .ok (.aload_n 0, 1) := by decide +kernel
theorem dX8_far_1 : decode cX8_far 1 = .ok (.getfield 23, 3) := by decide +kernel
theorem dX8_far_4 : decode cX8_far 4 = .ok (.iload_n 1, 1) := by decide +kernel
theorem dX8_far_5 : decode cX8_far 5 = .ok (.invokevirtual 73, 3) := by decide +kernel
theorem dX8_far_8 : decode cX8_far 8 = .ok (.ifCond .eq 14, 3) := by decide +kernel
theorem dX8_far_11 : decode cX8_far 11 = .ok (.aload_n 0, 1) := by decide +kernel
theorem dX8_far_12 : decode cX8_far 12 = .ok (.getfield 23, 3) := by decide +kernel
theorem dX8_far_15 : decode cX8_far 15 = .ok (.iload_n 2, 1) := by decide +kernel
theorem dX8_far_16 : decode cX8_far 16 = .ok (.invokevirtual 73, 3) := by decide +kernel
theorem dX8_far_19 : decode cX8_far 19 = .ok (.ifCond .ne 6, 3) := by decide +kernel
theorem dX8_far_22 : decode cX8_far 22 = .ok (.bipush (-2), 2) := by decide +kernel
theorem dX8_far_24 : decode cX8_far 24 = .ok (.ireturn, 1) := by decide +kernel
theorem dX8_far_25 : decode cX8_far 25 = .ok (.aload_n 0, 1) := by decide +kernel
theorem dX8_far_26 : decode cX8_far 26 = .ok (.getfield 65, 3) := by decide +kernel
theorem dX8_far_29 : decode cX8_far 29 = .ok (.aload_n 0, 1) := by decide +kernel
theorem dX8_far_30 : decode cX8_far 30 = .ok (.getfield 23, 3) := by decide +kernel
theorem dX8_far_33 : decode cX8_far 33 = .ok (.iload_n 1, 1) := by decide +kernel
theorem dX8_far_34 : decode cX8_far 34 = .ok (.iload_n 2, 1) := by decide +kernel
theorem dX8_far_35 : decode cX8_far 35 = .ok (.invokevirtual 232, 3) := by decide +kernel
theorem dX8_far_38 : decode cX8_far 38 = .ok (.ireturn, 1) := by decide +kernel
theorem dX8_count_0 : decode cX8_count 0 = .ok (.iload_n 1, 1) := by decide +kernel
theorem dX8_count_1 : decode cX8_count 1 = .ok (.tableswitch 120 0 6 #[43, 51, 59, 71, 96, 104, 112], 43) := by decide +kernel
theorem dX8_count_44 : decode cX8_count 44 = .ok (.aload_n 0, 1) := by decide +kernel
theorem dX8_count_45 : decode cX8_count 45 = .ok (.getfield 23, 3) := by decide +kernel
theorem dX8_count_48 : decode cX8_count 48 = .ok (.invokevirtual 236, 3) := by decide +kernel
theorem dX8_count_51 : decode cX8_count 51 = .ok (.ireturn, 1) := by decide +kernel
theorem dX8_count_52 : decode cX8_count 52 = .ok (.aload_n 0, 1) := by decide +kernel
theorem dX8_count_53 : decode cX8_count 53 = .ok (.getfield 23, 3) := by decide +kernel
theorem dX8_count_56 : decode cX8_count 56 = .ok (.invokevirtual 239, 3) := by decide +kernel
theorem dX8_count_59 : decode cX8_count 59 = .ok (.ireturn, 1) := by decide +kernel
theorem dX8_count_60 : decode cX8_count 60 = .ok (.aload_n 0, 1) := by decide +kernel
theorem dX8_count_61 : decode cX8_count 61 = .ok (.getfield 44, 3) := by decide +kernel
theorem dX8_count_64 : decode cX8_count 64 = .ok (.aload_n 0, 1) := by decide +kernel
theorem dX8_count_65 : decode cX8_count 65 = .ok (.getfield 23, 3) := by decide +kernel
theorem dX8_count_68 : decode cX8_count 68 = .ok (.invokevirtual 163, 3) := by decide +kernel
theorem dX8_count_71 : decode cX8_count 71 = .ok (.ireturn, 1) := by decide +kernel
theorem dX8_count_72 : decode cX8_count 72 = .ok (.aload_n 0, 1) := by decide +kernel
theorem dX8_count_73 : decode cX8_count 73 = .ok (.getfield 44, 3) := by decide +kernel
theorem dX8_count_76 : decode cX8_count 76 = .ok (.invokevirtual 141, 3) := by decide +kernel
theorem dX8_count_79 : decode cX8_count 79 = .ok (.ifCond .eq 16, 3) := by decide +kernel
theorem dX8_count_82 : decode cX8_count 82 = .ok (.aload_n 0, 1) := by decide +kernel
theorem dX8_count_83 : decode cX8_count 83 = .ok (.getfield 44, 3) := by decide +kernel
theorem dX8_count_86 : decode cX8_count 86 = .ok (.invokevirtual 174, 3) := by decide +kernel
theorem dX8_count_89 : decode cX8_count 89 = .ok (.invokevirtual 242, 3) := by decide +kernel
theorem dX8_count_92 : decode cX8_count 92 = .ok (.goto 4, 3) := by decide +kernel
theorem dX8_count_95 : decode cX8_count 95 = .ok (.iconst 0, 1) := by decide +kernel
theorem dX8_count_96 : decode cX8_count 96 = .ok (.ireturn, 1) := by decide +kernel
theorem dX8_count_97 : decode cX8_count 97 = .ok (.aload_n 0, 1) := by decide +kernel
theorem dX8_count_98 : decode cX8_count 98 = .ok (.getfield 44, 3) := by decide +kernel
theorem dX8_count_101 : decode cX8_count 101 = .ok (.invokevirtual 183, 3) := by decide +kernel
theorem dX8_count_104 : decode cX8_count 104 = .ok (.ireturn, 1) := by decide +kernel
theorem dX8_count_105 : decode cX8_count 105 = .ok (.aload_n 0, 1) := by decide +kernel
theorem dX8_count_106 : decode cX8_count 106 = .ok (.getfield 44, 3) := by decide +kernel
theorem dX8_count_109 : decode cX8_count 109 = .ok (.invokevirtual 245, 3) := by decide +kernel
theorem dX8_count_112 : decode cX8_count 112 = .ok (.ireturn, 1) := by decide +kernel
theorem dX8_count_113 : decode cX8_count 113 = .ok (.aload_n 0, 1) := by decide +kernel
theorem dX8_count_114 : decode cX8_count 114 = .ok (.getfield 44, 3) := by decide +kernel
theorem dX8_count_117 : decode cX8_count 117 = .ok (.invokevirtual 248, 3) := by decide +kernel
theorem dX8_count_120 : decode cX8_count 120 = .ok (.ireturn, 1) := by decide +kernel
theorem dX8_count_121 : decode cX8_count 121 = .ok (.bipush (-2), 2) := by decide +kernel
theorem dX8_count_123 : decode cX8_count 123 = .ok (.ireturn, 1) := by decide +kernel
theorem dX8_change_0 : decode cX8_change 0 = .ok (.aload_n 0, 1) := by decide +kernel
theorem dX8_change_1 : decode cX8_change 1 = .ok (.getfield 23, 3) := by decide +kernel
theorem dX8_change_4 : decode cX8_change 4 = .ok (.iload_n 1, 1) := by decide +kernel
theorem dX8_change_5 : decode cX8_change 5 = .ok (.invokevirtual 73, 3) := by decide +kernel
theorem dX8_change_8 : decode cX8_change 8 = .ok (.ifCond .eq 14, 3) := by decide +kernel
theorem dX8_change_11 : decode cX8_change 11 = .ok (.aload_n 0, 1) := by decide +kernel
theorem dX8_change_12 : decode cX8_change 12 = .ok (.getfield 23, 3) := by decide +kernel
theorem dX8_change_15 : decode cX8_change 15 = .ok (.iload_n 2, 1) := by decide +kernel
theorem dX8_change_16 : decode cX8_change 16 = .ok (.invokevirtual 73, 3) := by decide +kernel
theorem dX8_change_19 : decode cX8_change 19 = .ok (.ifCond .ne 6, 3) := by decide +kernel
theorem dX8_change_22 : decode cX8_change 22 = .ok (.bipush (-2), 2) := by decide +kernel
theorem dX8_change_24 : decode cX8_change 24 = .ok (.ireturn, 1) := by decide +kernel
theorem dX8_change_25 : decode cX8_change 25 = .ok (.aload_n 0, 1) := by decide +kernel
theorem dX8_change_26 : decode cX8_change 26 = .ok (.getfield 23, 3) := by decide +kernel
theorem dX8_change_29 : decode cX8_change 29 = .ok (.iload_n 1, 1) := by decide +kernel
theorem dX8_change_30 : decode cX8_change 30 = .ok (.iload_n 2, 1) := by decide +kernel
theorem dX8_change_31 : decode cX8_change 31 = .ok (.invokevirtual 77, 3) := by decide +kernel
theorem dX8_change_34 : decode cX8_change 34 = .ok (.iload_n 3, 1) := by decide +kernel
theorem dX8_change_35 : decode cX8_change 35 = .ok (.if_icmp .ne 5, 3) := by decide +kernel
theorem dX8_change_38 : decode cX8_change 38 = .ok (.iconst 0, 1) := by decide +kernel
theorem dX8_change_39 : decode cX8_change 39 = .ok (.ireturn, 1) := by decide +kernel
theorem dX8_change_40 : decode cX8_change 40 = .ok (.aload_n 0, 1) := by decide +kernel
theorem dX8_change_41 : decode cX8_change 41 = .ok (.getfield 44, 3) := by decide +kernel
theorem dX8_change_44 : decode cX8_change 44 = .ok (.invokevirtual 141, 3) := by decide +kernel
theorem dX8_change_47 : decode cX8_change 47 = .ok (.ifCond .eq 23, 3) := by decide +kernel
theorem dX8_change_50 : decode cX8_change 50 = .ok (.aload_n 0, 1) := by decide +kernel
theorem dX8_change_51 : decode cX8_change 51 = .ok (.getfield 44, 3) := by decide +kernel
theorem dX8_change_54 : decode cX8_change 54 = .ok (.aload_n 0, 1) := by decide +kernel
theorem dX8_change_55 : decode cX8_change 55 = .ok (.getfield 23, 3) := by decide +kernel
theorem dX8_change_58 : decode cX8_change 58 = .ok (.iload_n 1, 1) := by decide +kernel
theorem dX8_change_59 : decode cX8_change 59 = .ok (.iload_n 2, 1) := by decide +kernel
theorem dX8_change_60 : decode cX8_change 60 = .ok (.invokevirtual 251, 3) := by decide +kernel
theorem dX8_change_63 : decode cX8_change 63 = .ok (.ifCond .ne 7, 3) := by decide +kernel
theorem dX8_change_66 : decode cX8_change 66 = .ok (.iconst 1, 1) := by decide +kernel
theorem dX8_change_67 : decode cX8_change 67 = .ok (.goto 4, 3) := by decide +kernel
theorem dX8_change_70 : decode cX8_change 70 = .ok (.iconst 0, 1) := by decide +kernel
theorem dX8_change_71 : decode cX8_change 71 = .ok (.istore 4, 2) := by decide +kernel
theorem dX8_change_73 : decode cX8_change 73 = .ok (.iload 4, 2) := by decide +kernel
theorem dX8_change_75 : decode cX8_change 75 = .ok (.ifCond .eq 22, 3) := by decide +kernel
theorem dX8_change_78 : decode cX8_change 78 = .ok (.aload_n 0, 1) := by decide +kernel
theorem dX8_change_79 : decode cX8_change 79 = .ok (.getfield 44, 3) := by decide +kernel
theorem dX8_change_82 : decode cX8_change 82 = .ok (.aload_n 0, 1) := by decide +kernel
theorem dX8_change_83 : decode cX8_change 83 = .ok (.getfield 23, 3) := by decide +kernel
theorem dX8_change_86 : decode cX8_change 86 = .ok (.invokevirtual 163, 3) := by decide +kernel
theorem dX8_change_89 : decode cX8_change 89 = .ok (.bipush 40, 2) := by decide +kernel
theorem dX8_change_91 : decode cX8_change 91 = .ok (.if_icmp .lt 6, 3) := by decide +kernel
theorem dX8_change_94 : decode cX8_change 94 = .ok (.bipush (-4), 2) := by decide +kernel
theorem dX8_change_96 : decode cX8_change 96 = .ok (.ireturn, 1) := by decide +kernel
theorem dX8_change_97 : decode cX8_change 97 = .ok (.aload_n 0, 1) := by decide +kernel
theorem dX8_change_98 : decode cX8_change 98 = .ok (.getfield 23, 3) := by decide +kernel
theorem dX8_change_101 : decode cX8_change 101 = .ok (.iload_n 1, 1) := by decide +kernel
theorem dX8_change_102 : decode cX8_change 102 = .ok (.iload_n 2, 1) := by decide +kernel
theorem dX8_change_103 : decode cX8_change 103 = .ok (.invokevirtual 255, 3) := by decide +kernel
theorem dX8_change_106 : decode cX8_change 106 = .ok (.iconst 1, 1) := by decide +kernel
theorem dX8_change_107 : decode cX8_change 107 = .ok (.ireturn, 1) := by decide +kernel
theorem dX8_isBelow_0 : decode cX8_isBelow 0 = .ok (.iload_n 0, 1) := by decide +kernel
theorem dX8_isBelow_1 : decode cX8_isBelow 1 = .ok (.ifCond .lt 12, 3) := by decide +kernel
theorem dX8_isBelow_4 : decode cX8_isBelow 4 = .ok (.iload_n 0, 1) := by decide +kernel
theorem dX8_isBelow_5 : decode cX8_isBelow 5 = .ok (.iload_n 1, 1) := by decide +kernel
theorem dX8_isBelow_6 : decode cX8_isBelow 6 = .ok (.if_icmp .ge 7, 3) := by decide +kernel
theorem dX8_isBelow_9 : decode cX8_isBelow 9 = .ok (.iconst 1, 1) := by decide +kernel
theorem dX8_isBelow_10 : decode cX8_isBelow 10 = .ok (.goto 4, 3) := by decide +kernel
theorem dX8_isBelow_13 : decode cX8_isBelow 13 = .ok (.iconst 0, 1) := by decide +kernel
theorem dX8_isBelow_14 : decode cX8_isBelow 14 = .ok (.ireturn, 1) := by decide +kernel
theorem dX8_isCopy_0 : decode cX8_isCopy 0 = .ok (.iload_n 0, 1) := by decide +kernel
theorem dX8_isCopy_1 : decode cX8_isCopy 1 = .ok (.iconst 2, 1) := by decide +kernel
theorem dX8_isCopy_2 : decode cX8_isCopy 2 = .ok (.if_icmp .eq 8, 3) := by decide +kernel
theorem dX8_isCopy_5 : decode cX8_isCopy 5 = .ok (.iload_n 0, 1) := by decide +kernel
theorem dX8_isCopy_6 : decode cX8_isCopy 6 = .ok (.iconst 3, 1) := by decide +kernel
theorem dX8_isCopy_7 : decode cX8_isCopy 7 = .ok (.if_icmp .ne 7, 3) := by decide +kernel
theorem dX8_isCopy_10 : decode cX8_isCopy 10 = .ok (.iconst 1, 1) := by decide +kernel
theorem dX8_isCopy_11 : decode cX8_isCopy 11 = .ok (.goto 4, 3) := by decide +kernel
theorem dX8_isCopy_14 : decode cX8_isCopy 14 = .ok (.iconst 0, 1) := by decide +kernel
theorem dX8_isCopy_15 : decode cX8_isCopy 15 = .ok (.ireturn, 1) := by decide +kernel
theorem dX8_element_0 : decode cX8_element 0 = .ok (.iload_n 1, 1) := by decide +kernel
theorem dX8_element_1 : decode cX8_element 1 = .ok (.ifCond .lt 15, 3) := by decide +kernel
theorem dX8_element_4 : decode cX8_element 4 = .ok (.iload_n 1, 1) := by decide +kernel
theorem dX8_element_5 : decode cX8_element 5 = .ok (.aload_n 0, 1) := by decide +kernel
theorem dX8_element_6 : decode cX8_element 6 = .ok (.arraylength, 1) := by decide +kernel
theorem dX8_element_7 : decode cX8_element 7 = .ok (.if_icmp .ge 9, 3) := by decide +kernel
theorem dX8_element_10 : decode cX8_element 10 = .ok (.aload_n 0, 1) := by decide +kernel
theorem dX8_element_11 : decode cX8_element 11 = .ok (.iload_n 1, 1) := by decide +kernel
theorem dX8_element_12 : decode cX8_element 12 = .ok (.iaload, 1) := by decide +kernel
theorem dX8_element_13 : decode cX8_element 13 = .ok (.goto 4, 3) := by decide +kernel
theorem dX8_element_16 : decode cX8_element 16 = .ok (.iconst 0, 1) := by decide +kernel
theorem dX8_element_17 : decode cX8_element 17 = .ok (.ireturn, 1) := by decide +kernel
theorem dX8_isIn_0 : decode cX8_isIn 0 = .ok (.iload_n 2, 1) := by decide +kernel
theorem dX8_isIn_1 : decode cX8_isIn 1 = .ok (.ifCond .lt 23, 3) := by decide +kernel
theorem dX8_isIn_4 : decode cX8_isIn 4 = .ok (.iload_n 2, 1) := by decide +kernel
theorem dX8_isIn_5 : decode cX8_isIn 5 = .ok (.bipush 48, 2) := by decide +kernel
theorem dX8_isIn_7 : decode cX8_isIn 7 = .ok (.if_icmp .ge 17, 3) := by decide +kernel
theorem dX8_isIn_10 : decode cX8_isIn 10 = .ok (.lload_n 0, 1) := by decide +kernel
theorem dX8_isIn_11 : decode cX8_isIn 11 = .ok (.iload_n 2, 1) := by decide +kernel
theorem dX8_isIn_12 : decode cX8_isIn 12 = .ok (.lushr, 1) := by decide +kernel
theorem dX8_isIn_13 : decode cX8_isIn 13 = .ok (.lconst 1, 1) := by decide +kernel
theorem dX8_isIn_14 : decode cX8_isIn 14 = .ok (.land, 1) := by decide +kernel
theorem dX8_isIn_15 : decode cX8_isIn 15 = .ok (.lconst 0, 1) := by decide +kernel
theorem dX8_isIn_16 : decode cX8_isIn 16 = .ok (.lcmp, 1) := by decide +kernel
theorem dX8_isIn_17 : decode cX8_isIn 17 = .ok (.ifCond .eq 7, 3) := by decide +kernel
theorem dX8_isIn_20 : decode cX8_isIn 20 = .ok (.iconst 1, 1) := by decide +kernel
theorem dX8_isIn_21 : decode cX8_isIn 21 = .ok (.goto 4, 3) := by decide +kernel
theorem dX8_isIn_24 : decode cX8_isIn 24 = .ok (.iconst 0, 1) := by decide +kernel
theorem dX8_isIn_25 : decode cX8_isIn 25 = .ok (.ireturn, 1) := by decide +kernel
theorem dX8_firstFrom_0 : decode cX8_firstFrom 0 = .ok (.iconst 0, 1) := by decide +kernel
theorem dX8_firstFrom_1 : decode cX8_firstFrom 1 = .ok (.iload_n 2, 1) := by decide +kernel
theorem dX8_firstFrom_2 : decode cX8_firstFrom 2 = .ok (.invokestatic 15, 3) := by decide +kernel
theorem dX8_firstFrom_5 : decode cX8_firstFrom 5 = .ok (.istore_n 3, 1) := by decide +kernel
theorem dX8_firstFrom_6 : decode cX8_firstFrom 6 = .ok (.iload_n 3, 1) := by decide +kernel
theorem dX8_firstFrom_7 : decode cX8_firstFrom 7 = .ok (.bipush 48, 2) := by decide +kernel
theorem dX8_firstFrom_9 : decode cX8_firstFrom 9 = .ok (.if_icmp .ge 21, 3) := by decide +kernel
theorem dX8_firstFrom_12 : decode cX8_firstFrom 12 = .ok (.lload_n 0, 1) := by decide +kernel
theorem dX8_firstFrom_13 : decode cX8_firstFrom 13 = .ok (.iload_n 3, 1) := by decide +kernel
theorem dX8_firstFrom_14 : decode cX8_firstFrom 14 = .ok (.lushr, 1) := by decide +kernel
theorem dX8_firstFrom_15 : decode cX8_firstFrom 15 = .ok (.lconst 1, 1) := by decide +kernel
theorem dX8_firstFrom_16 : decode cX8_firstFrom 16 = .ok (.land, 1) := by decide +kernel
theorem dX8_firstFrom_17 : decode cX8_firstFrom 17 = .ok (.lconst 0, 1) := by decide +kernel
theorem dX8_firstFrom_18 : decode cX8_firstFrom 18 = .ok (.lcmp, 1) := by decide +kernel
theorem dX8_firstFrom_19 : decode cX8_firstFrom 19 = .ok (.ifCond .eq 5, 3) := by decide +kernel
theorem dX8_firstFrom_22 : decode cX8_firstFrom 22 = .ok (.iload_n 3, 1) := by decide +kernel
theorem dX8_firstFrom_23 : decode cX8_firstFrom 23 = .ok (.ireturn, 1) := by decide +kernel
theorem dX8_firstFrom_24 : decode cX8_firstFrom 24 = .ok (.iinc 3 1, 3) := by decide +kernel
theorem dX8_firstFrom_27 : decode cX8_firstFrom 27 = .ok (.goto (-21), 3) := by decide +kernel
theorem dX8_firstFrom_30 : decode cX8_firstFrom 30 = .ok (.iconst (-1), 1) := by decide +kernel
theorem dX8_firstFrom_31 : decode cX8_firstFrom 31 = .ok (.ireturn, 1) := by decide +kernel
theorem dX8_lastOf_0 : decode cX8_lastOf 0 = .ok (.bipush 47, 2) := by decide +kernel
theorem dX8_lastOf_2 : decode cX8_lastOf 2 = .ok (.istore_n 2, 1) := by decide +kernel
theorem dX8_lastOf_3 : decode cX8_lastOf 3 = .ok (.iload_n 2, 1) := by decide +kernel
theorem dX8_lastOf_4 : decode cX8_lastOf 4 = .ok (.ifCond .lt 21, 3) := by decide +kernel
theorem dX8_lastOf_7 : decode cX8_lastOf 7 = .ok (.lload_n 0, 1) := by decide +kernel
theorem dX8_lastOf_8 : decode cX8_lastOf 8 = .ok (.iload_n 2, 1) := by decide +kernel
theorem dX8_lastOf_9 : decode cX8_lastOf 9 = .ok (.lushr, 1) := by decide +kernel
theorem dX8_lastOf_10 : decode cX8_lastOf 10 = .ok (.lconst 1, 1) := by decide +kernel
theorem dX8_lastOf_11 : decode cX8_lastOf 11 = .ok (.land, 1) := by decide +kernel
theorem dX8_lastOf_12 : decode cX8_lastOf 12 = .ok (.lconst 0, 1) := by decide +kernel
theorem dX8_lastOf_13 : decode cX8_lastOf 13 = .ok (.lcmp, 1) := by decide +kernel
theorem dX8_lastOf_14 : decode cX8_lastOf 14 = .ok (.ifCond .eq 5, 3) := by decide +kernel
theorem dX8_lastOf_17 : decode cX8_lastOf 17 = .ok (.iload_n 2, 1) := by decide +kernel
theorem dX8_lastOf_18 : decode cX8_lastOf 18 = .ok (.ireturn, 1) := by decide +kernel
theorem dX8_lastOf_19 : decode cX8_lastOf 19 = .ok (.iinc 2 (-1), 3) := by decide +kernel
theorem dX8_lastOf_22 : decode cX8_lastOf 22 = .ok (.goto (-19), 3) := by decide +kernel
theorem dX8_lastOf_25 : decode cX8_lastOf 25 = .ok (.iconst (-1), 1) := by decide +kernel
theorem dX8_lastOf_26 : decode cX8_lastOf 26 = .ok (.ireturn, 1) := by decide +kernel
theorem dX8_thingAt_0 : decode cX8_thingAt 0 = .ok (.iconst 0, 1) := by decide +kernel
theorem dX8_thingAt_1 : decode cX8_thingAt 1 = .ok (.istore_n 3, 1) := by decide +kernel
theorem dX8_thingAt_2 : decode cX8_thingAt 2 = .ok (.iconst 0, 1) := by decide +kernel
theorem dX8_thingAt_3 : decode cX8_thingAt 3 = .ok (.istore 4, 2) := by decide +kernel
theorem dX8_thingAt_5 : decode cX8_thingAt 5 = .ok (.iload 4, 2) := by decide +kernel
theorem dX8_thingAt_7 : decode cX8_thingAt 7 = .ok (.bipush 48, 2) := by decide +kernel
theorem dX8_thingAt_9 : decode cX8_thingAt 9 = .ok (.if_icmp .ge 29, 3) := by decide +kernel
theorem dX8_thingAt_12 : decode cX8_thingAt 12 = .ok (.lload_n 0, 1) := by decide +kernel
theorem dX8_thingAt_13 : decode cX8_thingAt 13 = .ok (.iload 4, 2) := by decide +kernel
theorem dX8_thingAt_15 : decode cX8_thingAt 15 = .ok (.invokestatic 258, 3) := by decide +kernel
theorem dX8_thingAt_18 : decode cX8_thingAt 18 = .ok (.ifCond .eq 14, 3) := by decide +kernel
theorem dX8_thingAt_21 : decode cX8_thingAt 21 = .ok (.iload_n 3, 1) := by decide +kernel
theorem dX8_thingAt_22 : decode cX8_thingAt 22 = .ok (.iload_n 2, 1) := by decide +kernel
theorem dX8_thingAt_23 : decode cX8_thingAt 23 = .ok (.if_icmp .ne 6, 3) := by decide +kernel
theorem dX8_thingAt_26 : decode cX8_thingAt 26 = .ok (.iload 4, 2) := by decide +kernel
theorem dX8_thingAt_28 : decode cX8_thingAt 28 = .ok (.ireturn, 1) := by decide +kernel
theorem dX8_thingAt_29 : decode cX8_thingAt 29 = .ok (.iinc 3 1, 3) := by decide +kernel
theorem dX8_thingAt_32 : decode cX8_thingAt 32 = .ok (.iinc 4 1, 3) := by decide +kernel
theorem dX8_thingAt_35 : decode cX8_thingAt 35 = .ok (.goto (-30), 3) := by decide +kernel
theorem dX8_thingAt_38 : decode cX8_thingAt 38 = .ok (.iconst (-1), 1) := by decide +kernel
theorem dX8_thingAt_39 : decode cX8_thingAt 39 = .ok (.ireturn, 1) := by decide +kernel
theorem dX8_folded_0 : decode cX8_folded 0 = .ok (.iload_n 0, 1) := by decide +kernel
theorem dX8_folded_1 : decode cX8_folded 1 = .ok (.ifCond .ge 12, 3) := by decide +kernel
theorem dX8_folded_4 : decode cX8_folded 4 = .ok (.bipush (-2), 2) := by decide +kernel
theorem dX8_folded_6 : decode cX8_folded 6 = .ok (.iload_n 0, 1) := by decide +kernel
theorem dX8_folded_7 : decode cX8_folded 7 = .ok (.imul, 1) := by decide +kernel
theorem dX8_folded_8 : decode cX8_folded 8 = .ok (.iconst 1, 1) := by decide +kernel
theorem dX8_folded_9 : decode cX8_folded 9 = .ok (.isub, 1) := by decide +kernel
theorem dX8_folded_10 : decode cX8_folded 10 = .ok (.goto 6, 3) := by decide +kernel
theorem dX8_folded_13 : decode cX8_folded 13 = .ok (.iconst 2, 1) := by decide +kernel
theorem dX8_folded_14 : decode cX8_folded 14 = .ok (.iload_n 0, 1) := by decide +kernel
theorem dX8_folded_15 : decode cX8_folded 15 = .ok (.imul, 1) := by decide +kernel
theorem dX8_folded_16 : decode cX8_folded 16 = .ok (.ireturn, 1) := by decide +kernel
theorem dX8_digitsOf_0 : decode cX8_digitsOf 0 = .ok (.iconst 1, 1) := by decide +kernel
theorem dX8_digitsOf_1 : decode cX8_digitsOf 1 = .ok (.istore_n 1, 1) := by decide +kernel
theorem dX8_digitsOf_2 : decode cX8_digitsOf 2 = .ok (.iload_n 1, 1) := by decide +kernel
theorem dX8_digitsOf_3 : decode cX8_digitsOf 3 = .ok (.bipush 31, 2) := by decide +kernel
theorem dX8_digitsOf_5 : decode cX8_digitsOf 5 = .ok (.if_icmp .ge 15, 3) := by decide +kernel
theorem dX8_digitsOf_8 : decode cX8_digitsOf 8 = .ok (.iload_n 0, 1) := by decide +kernel
theorem dX8_digitsOf_9 : decode cX8_digitsOf 9 = .ok (.iload_n 1, 1) := by decide +kernel
theorem dX8_digitsOf_10 : decode cX8_digitsOf 10 = .ok (.ishr, 1) := by decide +kernel
theorem dX8_digitsOf_11 : decode cX8_digitsOf 11 = .ok (.ifCond .le 9, 3) := by decide +kernel
theorem dX8_digitsOf_14 : decode cX8_digitsOf 14 = .ok (.iinc 1 1, 3) := by decide +kernel
theorem dX8_digitsOf_17 : decode cX8_digitsOf 17 = .ok (.goto (-15), 3) := by decide +kernel
theorem dX8_digitsOf_20 : decode cX8_digitsOf 20 = .ok (.iload_n 1, 1) := by decide +kernel
theorem dX8_digitsOf_21 : decode cX8_digitsOf 21 = .ok (.ireturn, 1) := by decide +kernel
theorem dX8_bitsIn_0 : decode cX8_bitsIn 0 = .ok (.iload_n 0, 1) := by decide +kernel
theorem dX8_bitsIn_1 : decode cX8_bitsIn 1 = .ok (.tableswitch 64 0 2 #[27, 31, 42], 27) := by decide +kernel
theorem dX8_bitsIn_28 : decode cX8_bitsIn 28 = .ok (.iload_n 1, 1) := by decide +kernel
theorem dX8_bitsIn_29 : decode cX8_bitsIn 29 = .ok (.iconst 1, 1) := by decide +kernel
theorem dX8_bitsIn_30 : decode cX8_bitsIn 30 = .ok (.iadd, 1) := by decide +kernel
theorem dX8_bitsIn_31 : decode cX8_bitsIn 31 = .ok (.ireturn, 1) := by decide +kernel
theorem dX8_bitsIn_32 : decode cX8_bitsIn 32 = .ok (.iconst 2, 1) := by decide +kernel
theorem dX8_bitsIn_33 : decode cX8_bitsIn 33 = .ok (.iload_n 1, 1) := by decide +kernel
theorem dX8_bitsIn_34 : decode cX8_bitsIn 34 = .ok (.iconst 1, 1) := by decide +kernel
theorem dX8_bitsIn_35 : decode cX8_bitsIn 35 = .ok (.iadd, 1) := by decide +kernel
theorem dX8_bitsIn_36 : decode cX8_bitsIn 36 = .ok (.invokestatic 262, 3) := by decide +kernel
theorem dX8_bitsIn_39 : decode cX8_bitsIn 39 = .ok (.imul, 1) := by decide +kernel
theorem dX8_bitsIn_40 : decode cX8_bitsIn 40 = .ok (.iconst 1, 1) := by decide +kernel
theorem dX8_bitsIn_41 : decode cX8_bitsIn 41 = .ok (.isub, 1) := by decide +kernel
theorem dX8_bitsIn_42 : decode cX8_bitsIn 42 = .ok (.ireturn, 1) := by decide +kernel
theorem dX8_bitsIn_43 : decode cX8_bitsIn 43 = .ok (.iload_n 1, 1) := by decide +kernel
theorem dX8_bitsIn_44 : decode cX8_bitsIn 44 = .ok (.iconst 1, 1) := by decide +kernel
theorem dX8_bitsIn_45 : decode cX8_bitsIn 45 = .ok (.iadd, 1) := by decide +kernel
theorem dX8_bitsIn_46 : decode cX8_bitsIn 46 = .ok (.invokestatic 262, 3) := by decide +kernel
theorem dX8_bitsIn_49 : decode cX8_bitsIn 49 = .ok (.iconst 1, 1) := by decide +kernel
theorem dX8_bitsIn_50 : decode cX8_bitsIn 50 = .ok (.isub, 1) := by decide +kernel
theorem dX8_bitsIn_51 : decode cX8_bitsIn 51 = .ok (.istore_n 2, 1) := by decide +kernel
theorem dX8_bitsIn_52 : decode cX8_bitsIn 52 = .ok (.iconst 2, 1) := by decide +kernel
theorem dX8_bitsIn_53 : decode cX8_bitsIn 53 = .ok (.iload_n 2, 1) := by decide +kernel
theorem dX8_bitsIn_54 : decode cX8_bitsIn 54 = .ok (.iconst 1, 1) := by decide +kernel
theorem dX8_bitsIn_55 : decode cX8_bitsIn 55 = .ok (.iadd, 1) := by decide +kernel
theorem dX8_bitsIn_56 : decode cX8_bitsIn 56 = .ok (.invokestatic 262, 3) := by decide +kernel
theorem dX8_bitsIn_59 : decode cX8_bitsIn 59 = .ok (.imul, 1) := by decide +kernel
theorem dX8_bitsIn_60 : decode cX8_bitsIn 60 = .ok (.iconst 1, 1) := by decide +kernel
theorem dX8_bitsIn_61 : decode cX8_bitsIn 61 = .ok (.isub, 1) := by decide +kernel
theorem dX8_bitsIn_62 : decode cX8_bitsIn 62 = .ok (.iload_n 2, 1) := by decide +kernel
theorem dX8_bitsIn_63 : decode cX8_bitsIn 63 = .ok (.iadd, 1) := by decide +kernel
theorem dX8_bitsIn_64 : decode cX8_bitsIn 64 = .ok (.ireturn, 1) := by decide +kernel
theorem dX8_bitsIn_65 : decode cX8_bitsIn 65 = .ok (.iload_n 0, 1) := by decide +kernel
theorem dX8_bitsIn_66 : decode cX8_bitsIn 66 = .ok (.iconst 3, 1) := by decide +kernel
theorem dX8_bitsIn_67 : decode cX8_bitsIn 67 = .ok (.isub, 1) := by decide +kernel
theorem dX8_bitsIn_68 : decode cX8_bitsIn 68 = .ok (.istore_n 3, 1) := by decide +kernel
theorem dX8_bitsIn_69 : decode cX8_bitsIn 69 = .ok (.iload_n 1, 1) := by decide +kernel
theorem dX8_bitsIn_70 : decode cX8_bitsIn 70 = .ok (.iload_n 3, 1) := by decide +kernel
theorem dX8_bitsIn_71 : decode cX8_bitsIn 71 = .ok (.ishr, 1) := by decide +kernel
theorem dX8_bitsIn_72 : decode cX8_bitsIn 72 = .ok (.iconst 1, 1) := by decide +kernel
theorem dX8_bitsIn_73 : decode cX8_bitsIn 73 = .ok (.iadd, 1) := by decide +kernel
theorem dX8_bitsIn_74 : decode cX8_bitsIn 74 = .ok (.iload_n 3, 1) := by decide +kernel
theorem dX8_bitsIn_75 : decode cX8_bitsIn 75 = .ok (.iadd, 1) := by decide +kernel
theorem dX8_bitsIn_76 : decode cX8_bitsIn 76 = .ok (.ireturn, 1) := by decide +kernel
theorem dX9_in_0 : decode cX9_in 0 = .ok (.lload_n 0, 1) := by decide +kernel
theorem dX9_in_1 : decode cX9_in 1 = .ok (.lload_n 2, 1) := by decide +kernel
theorem dX9_in_2 : decode cX9_in 2 = .ok (.lcmp, 1) := by decide +kernel
theorem dX9_in_3 : decode cX9_in 3 = .ok (.ifCond .lt 14, 3) := by decide +kernel
theorem dX9_in_6 : decode cX9_in 6 = .ok (.lload_n 0, 1) := by decide +kernel
theorem dX9_in_7 : decode cX9_in 7 = .ok (.lload 4, 2) := by decide +kernel
theorem dX9_in_9 : decode cX9_in 9 = .ok (.lcmp, 1) := by decide +kernel
theorem dX9_in_10 : decode cX9_in 10 = .ok (.ifCond .gt 7, 3) := by decide +kernel
theorem dX9_in_13 : decode cX9_in 13 = .ok (.iconst 1, 1) := by decide +kernel
theorem dX9_in_14 : decode cX9_in 14 = .ok (.goto 4, 3) := by decide +kernel
theorem dX9_in_17 : decode cX9_in 17 = .ok (.iconst 0, 1) := by decide +kernel
theorem dX9_in_18 : decode cX9_in 18 = .ok (.ireturn, 1) := by decide +kernel
theorem dX9_init_0 : decode cX9_init 0 = .ok (.aload_n 0, 1) := by decide +kernel
theorem dX9_init_1 : decode cX9_init 1 = .ok (.invokespecial 7, 3) := by decide +kernel
theorem dX9_init_4 : decode cX9_init 4 = .ok (.aload_n 0, 1) := by decide +kernel
theorem dX9_init_5 : decode cX9_init 5 = .ok (.sipush 2304, 3) := by decide +kernel
theorem dX9_init_8 : decode cX9_init 8 = .ok (.newarray .boolean, 2) := by decide +kernel
theorem dX9_init_10 : decode cX9_init 10 = .ok (.putfield 13, 3) := by decide +kernel
theorem dX9_init_13 : decode cX9_init 13 = .ok (.aload_n 0, 1) := by decide +kernel
theorem dX9_init_14 : decode cX9_init 14 = .ok (.sipush 2304, 3) := by decide +kernel
theorem dX9_init_17 : decode cX9_init 17 = .ok (.newarray .boolean, 2) := by decide +kernel
theorem dX9_init_19 : decode cX9_init 19 = .ok (.putfield 17, 3) := by decide +kernel
theorem dX9_init_22 : decode cX9_init 22 = .ok (.aload_n 0, 1) := by decide +kernel
theorem dX9_init_23 : decode cX9_init 23 = .ok (.sipush 2304, 3) := by decide +kernel
theorem dX9_init_26 : decode cX9_init 26 = .ok (.newarray .boolean, 2) := by decide +kernel
theorem dX9_init_28 : decode cX9_init 28 = .ok (.putfield 20, 3) := by decide +kernel
theorem dX9_init_31 : decode cX9_init 31 = .ok (.aload_n 0, 1) := by decide +kernel
theorem dX9_init_32 : decode cX9_init 32 = .ok (.bipush 8, 2) := by decide +kernel
theorem dX9_init_34 : decode cX9_init 34 = .ok (.newarray .int, 2) := by decide +kernel
theorem dX9_init_36 : decode cX9_init 36 = .ok (.putfield 23, 3) := by decide +kernel
theorem dX9_init_39 : decode cX9_init 39 = .ok (.aload_n 0, 1) := by decide +kernel
theorem dX9_init_40 : decode cX9_init 40 = .ok (.iconst 3, 1) := by decide +kernel
theorem dX9_init_41 : decode cX9_init 41 = .ok (.putfield 27, 3) := by decide +kernel
theorem dX9_init_44 : decode cX9_init 44 = .ok (.aload_n 0, 1) := by decide +kernel
theorem dX9_init_45 : decode cX9_init 45 = .ok (.iconst 2, 1) := by decide +kernel
theorem dX9_init_46 : decode cX9_init 46 = .ok (.putfield 30, 3) := by decide +kernel
theorem dX9_init_49 : decode cX9_init 49 = .ok (.aload_n 0, 1) := by decide +kernel
theorem dX9_init_50 : decode cX9_init 50 = .ok (.iconst 4, 1) := by decide +kernel
theorem dX9_init_51 : decode cX9_init 51 = .ok (.putfield 33, 3) := by decide +kernel
theorem dX9_init_54 : decode cX9_init 54 = .ok (.aload_n 0, 1) := by decide +kernel
theorem dX9_init_55 : decode cX9_init 55 = .ok (.sipush 16384, 3) := by decide +kernel
theorem dX9_init_58 : decode cX9_init 58 = .ok (.newarray .int, 2) := by decide +kernel
theorem dX9_init_60 : decode cX9_init 60 = .ok (.putfield 36, 3) := by decide +kernel
theorem dX9_init_63 : decode cX9_init 63 = .ok (.aload_n 0, 1) := by decide +kernel
theorem dX9_init_64 : decode cX9_init 64 = .ok (.sipush 16384, 3) := by decide +kernel
theorem dX9_init_67 : decode cX9_init 67 = .ok (.newarray .int, 2) := by decide +kernel
theorem dX9_init_69 : decode cX9_init 69 = .ok (.putfield 39, 3) := by decide +kernel
theorem dX9_init_72 : decode cX9_init 72 = .ok (.aload_n 0, 1) := by decide +kernel
theorem dX9_init_73 : decode cX9_init 73 = .ok (.sipush 400, 3) := by decide +kernel
theorem dX9_init_76 : decode cX9_init 76 = .ok (.newarray .int, 2) := by decide +kernel
theorem dX9_init_78 : decode cX9_init 78 = .ok (.putfield 42, 3) := by decide +kernel
theorem dX9_init_81 : decode cX9_init 81 = .ok (.aload_n 0, 1) := by decide +kernel
theorem dX9_init_82 : decode cX9_init 82 = .ok (.sipush 400, 3) := by decide +kernel
theorem dX9_init_85 : decode cX9_init 85 = .ok (.newarray .int, 2) := by decide +kernel
theorem dX9_init_87 : decode cX9_init 87 = .ok (.putfield 45, 3) := by decide +kernel
theorem dX9_init_90 : decode cX9_init 90 = .ok (.aload_n 0, 1) := by decide +kernel
theorem dX9_init_91 : decode cX9_init 91 = .ok (.bipush 48, 2) := by decide +kernel
theorem dX9_init_93 : decode cX9_init 93 = .ok (.newarray .int, 2) := by decide +kernel
theorem dX9_init_95 : decode cX9_init 95 = .ok (.putfield 48, 3) := by decide +kernel
theorem dX9_init_98 : decode cX9_init 98 = .ok (.aload_n 0, 1) := by decide +kernel
theorem dX9_init_99 : decode cX9_init 99 = .ok (.bipush 48, 2) := by decide +kernel
theorem dX9_init_101 : decode cX9_init 101 = .ok (.newarray .int, 2) := by decide +kernel
theorem dX9_init_103 : decode cX9_init 103 = .ok (.putfield 51, 3) := by decide +kernel
theorem dX9_init_106 : decode cX9_init 106 = .ok (.aload_n 0, 1) := by decide +kernel
theorem dX9_init_107 : decode cX9_init 107 = .ok (.bipush 50, 2) := by decide +kernel
theorem dX9_init_109 : decode cX9_init 109 = .ok (.newarray .int, 2) := by decide +kernel
theorem dX9_init_111 : decode cX9_init 111 = .ok (.putfield 54, 3) := by decide +kernel
theorem dX9_init_114 : decode cX9_init 114 = .ok (.aload_n 0, 1) := by decide +kernel
theorem dX9_init_115 : decode cX9_init 115 = .ok (.bipush 48, 2) := by decide +kernel
theorem dX9_init_117 : decode cX9_init 117 = .ok (.newarray .int, 2) := by decide +kernel
theorem dX9_init_119 : decode cX9_init 119 = .ok (.putfield 57, 3) := by decide +kernel
theorem dX9_init_122 : decode cX9_init 122 = .ok (.aload_n 0, 1) := by decide +kernel
theorem dX9_init_123 : decode cX9_init 123 = .ok (.bipush 48, 2) := by decide +kernel
theorem dX9_init_125 : decode cX9_init 125 = .ok (.newarray .int, 2) := by decide +kernel
theorem dX9_init_127 : decode cX9_init 127 = .ok (.putfield 60, 3) := by decide +kernel
theorem dX9_init_130 : decode cX9_init 130 = .ok (.aload_n 0, 1) := by decide +kernel
theorem dX9_init_131 : decode cX9_init 131 = .ok (.bipush 48, 2) := by decide +kernel
theorem dX9_init_133 : decode cX9_init 133 = .ok (.newarray .int, 2) := by decide +kernel
theorem dX9_init_135 : decode cX9_init 135 = .ok (.putfield 63, 3) := by decide +kernel
theorem dX9_init_138 : decode cX9_init 138 = .ok (.aload_n 0, 1) := by decide +kernel
theorem dX9_init_139 : decode cX9_init 139 = .ok (.bipush 49, 2) := by decide +kernel
theorem dX9_init_141 : decode cX9_init 141 = .ok (.newarray .int, 2) := by decide +kernel
theorem dX9_init_143 : decode cX9_init 143 = .ok (.putfield 66, 3) := by decide +kernel
theorem dX9_init_146 : decode cX9_init 146 = .ok (.aload_n 0, 1) := by decide +kernel
theorem dX9_init_147 : decode cX9_init 147 = .ok (.bipush 48, 2) := by decide +kernel
theorem dX9_init_149 : decode cX9_init 149 = .ok (.newarray .int, 2) := by decide +kernel
theorem dX9_init_151 : decode cX9_init 151 = .ok (.putfield 69, 3) := by decide +kernel
theorem dX9_init_154 : decode cX9_init 154 = .ok (.aload_n 0, 1) := by decide +kernel
theorem dX9_init_155 : decode cX9_init 155 = .ok (.bipush 48, 2) := by decide +kernel
theorem dX9_init_157 : decode cX9_init 157 = .ok (.newarray .int, 2) := by decide +kernel
theorem dX9_init_159 : decode cX9_init 159 = .ok (.putfield 72, 3) := by decide +kernel
theorem dX9_init_162 : decode cX9_init 162 = .ok (.aload_n 0, 1) := by decide +kernel
theorem dX9_init_163 : decode cX9_init 163 = .ok (.bipush 48, 2) := by decide +kernel
theorem dX9_init_165 : decode cX9_init 165 = .ok (.newarray .int, 2) := by decide +kernel
theorem dX9_init_167 : decode cX9_init 167 = .ok (.putfield 75, 3) := by decide +kernel
theorem dX9_init_170 : decode cX9_init 170 = .ok (.aload_n 0, 1) := by decide +kernel
theorem dX9_init_171 : decode cX9_init 171 = .ok (.sipush 336, 3) := by decide +kernel
theorem dX9_init_174 : decode cX9_init 174 = .ok (.newarray .int, 2) := by decide +kernel
theorem dX9_init_176 : decode cX9_init 176 = .ok (.putfield 78, 3) := by decide +kernel
theorem dX9_init_179 : decode cX9_init 179 = .ok (.aload_n 0, 1) := by decide +kernel
theorem dX9_init_180 : decode cX9_init 180 = .ok (.bipush 48, 2) := by decide +kernel
theorem dX9_init_182 : decode cX9_init 182 = .ok (.newarray .int, 2) := by decide +kernel
theorem dX9_init_184 : decode cX9_init 184 = .ok (.putfield 81, 3) := by decide +kernel
theorem dX9_init_187 : decode cX9_init 187 = .ok (.aload_n 0, 1) := by decide +kernel
theorem dX9_init_188 : decode cX9_init 188 = .ok (.bipush 48, 2) := by decide +kernel
theorem dX9_init_190 : decode cX9_init 190 = .ok (.newarray .boolean, 2) := by decide +kernel
theorem dX9_init_192 : decode cX9_init 192 = .ok (.putfield 84, 3) := by decide +kernel
theorem dX9_init_195 : decode cX9_init 195 = .ok (.aload_n 0, 1) := by decide +kernel
theorem dX9_init_196 : decode cX9_init 196 = .ok (.bipush 48, 2) := by decide +kernel
theorem dX9_init_198 : decode cX9_init 198 = .ok (.newarray .int, 2) := by decide +kernel
theorem dX9_init_200 : decode cX9_init 200 = .ok (.putfield 87, 3) := by decide +kernel
theorem dX9_init_203 : decode cX9_init 203 = .ok (.aload_n 0, 1) := by decide +kernel
theorem dX9_init_204 : decode cX9_init 204 = .ok (.bipush 48, 2) := by decide +kernel
theorem dX9_init_206 : decode cX9_init 206 = .ok (.newarray .int, 2) := by decide +kernel
theorem dX9_init_208 : decode cX9_init 208 = .ok (.putfield 90, 3) := by decide +kernel
theorem dX9_init_211 : decode cX9_init 211 = .ok (.aload_n 0, 1) := by decide +kernel
theorem dX9_init_212 : decode cX9_init 212 = .ok (.iload_n 1, 1) := by decide +kernel
theorem dX9_init_213 : decode cX9_init 213 = .ok (.iconst 1, 1) := by decide +kernel
theorem dX9_init_214 : decode cX9_init 214 = .ok (.if_icmp .ge 7, 3) := by decide +kernel
theorem dX9_init_217 : decode cX9_init 217 = .ok (.iconst 1, 1) := by decide +kernel
theorem dX9_init_218 : decode cX9_init 218 = .ok (.goto 15, 3) := by decide +kernel
theorem dX9_init_221 : decode cX9_init 221 = .ok (.iload_n 1, 1) := by decide +kernel
theorem dX9_init_222 : decode cX9_init 222 = .ok (.bipush 48, 2) := by decide +kernel
theorem dX9_init_224 : decode cX9_init 224 = .ok (.if_icmp .le 8, 3) := by decide +kernel
theorem dX9_init_227 : decode cX9_init 227 = .ok (.bipush 48, 2) := by decide +kernel
theorem dX9_init_229 : decode cX9_init 229 = .ok (.goto 4, 3) := by decide +kernel
theorem dX9_init_232 : decode cX9_init 232 = .ok (.iload_n 1, 1) := by decide +kernel
theorem dX9_init_233 : decode cX9_init 233 = .ok (.putfield 93, 3) := by decide +kernel
theorem dX9_init_236 : decode cX9_init 236 = .ok (.iconst 0, 1) := by decide +kernel
theorem dX9_init_237 : decode cX9_init 237 = .ok (.istore_n 2, 1) := by decide +kernel
theorem dX9_init_238 : decode cX9_init 238 = .ok (.iload_n 2, 1) := by decide +kernel
theorem dX9_init_239 : decode cX9_init 239 = .ok (.bipush 8, 2) := by decide +kernel
theorem dX9_init_241 : decode cX9_init 241 = .ok (.if_icmp .ge 16, 3) := by decide +kernel
theorem dX9_init_244 : decode cX9_init 244 = .ok (.aload_n 0, 1) := by decide +kernel
theorem dX9_init_245 : decode cX9_init 245 = .ok (.getfield 23, 3) := by decide +kernel
theorem dX9_init_248 : decode cX9_init 248 = .ok (.iload_n 2, 1) := by decide +kernel
theorem dX9_init_249 : decode cX9_init 249 = .ok (.iconst 1, 1) := by decide +kernel
theorem dX9_init_250 : decode cX9_init 250 = .ok (.iastore, 1) := by decide +kernel
theorem dX9_init_251 : decode cX9_init 251 = .ok (.iinc 2 1, 3) := by decide +kernel
theorem dX9_init_254 : decode cX9_init 254 = .ok (.goto (-16), 3) := by decide +kernel
theorem dX9_init_257 : decode cX9_init 257 = .ok (.return_, 1) := by decide +kernel
theorem dX9_isThing_0 : decode cX9_isThing 0 = .ok (.iload_n 1, 1) := by decide +kernel
theorem dX9_isThing_1 : decode cX9_isThing 1 = .ok (.i2l, 1) := by decide +kernel
theorem dX9_isThing_2 : decode cX9_isThing 2 = .ok (.lconst 0, 1) := by decide +kernel
theorem dX9_isThing_3 : decode cX9_isThing 3 = .ok (.aload_n 0, 1) := by decide +kernel
theorem dX9_isThing_4 : decode cX9_isThing 4 = .ok (.getfield 93, 3) := by decide +kernel
theorem dX9_isThing_7 : decode cX9_isThing 7 = .ok (.iconst 1, 1) := by decide +kernel
theorem dX9_isThing_8 : decode cX9_isThing 8 = .ok (.isub, 1) := by decide +kernel
theorem dX9_isThing_9 : decode cX9_isThing 9 = .ok (.i2l, 1) := by decide +kernel
theorem dX9_isThing_10 : decode cX9_isThing 10 = .ok (.invokestatic 96, 3) := by decide +kernel
theorem dX9_isThing_13 : decode cX9_isThing 13 = .ok (.ireturn, 1) := by decide +kernel
theorem dX9_turn_0 : decode cX9_turn 0 = .ok (.bipush 48, 2) := by decide +kernel
theorem dX9_turn_2 : decode cX9_turn 2 = .ok (.iload_n 1, 1) := by decide +kernel
theorem dX9_turn_3 : decode cX9_turn 3 = .ok (.imul, 1) := by decide +kernel
theorem dX9_turn_4 : decode cX9_turn 4 = .ok (.iload_n 2, 1) := by decide +kernel
theorem dX9_turn_5 : decode cX9_turn 5 = .ok (.iadd, 1) := by decide +kernel
theorem dX9_turn_6 : decode cX9_turn 6 = .ok (.istore 4, 2) := by decide +kernel
theorem dX9_turn_8 : decode cX9_turn 8 = .ok (.aload_n 0, 1) := by decide +kernel
theorem dX9_turn_9 : decode cX9_turn 9 = .ok (.getfield 13, 3) := by decide +kernel
theorem dX9_turn_12 : decode cX9_turn 12 = .ok (.iload 4, 2) := by decide +kernel
theorem dX9_turn_14 : decode cX9_turn 14 = .ok (.baload, 1) := by decide +kernel
theorem dX9_turn_15 : decode cX9_turn 15 = .ok (.iload_n 3, 1) := by decide +kernel
theorem dX9_turn_16 : decode cX9_turn 16 = .ok (.if_icmp .ne 5, 3) := by decide +kernel
theorem dX9_turn_19 : decode cX9_turn 19 = .ok (.iconst 0, 1) := by decide +kernel
theorem dX9_turn_20 : decode cX9_turn 20 = .ok (.ireturn, 1) := by decide +kernel
theorem dX9_turn_21 : decode cX9_turn 21 = .ok (.aload_n 0, 1) := by decide +kernel
theorem dX9_turn_22 : decode cX9_turn 22 = .ok (.getfield 100, 3) := by decide +kernel
theorem dX9_turn_25 : decode cX9_turn 25 = .ok (.ifCond .eq 18, 3) := by decide +kernel
theorem dX9_turn_28 : decode cX9_turn 28 = .ok (.aload_n 0, 1) := by decide +kernel
theorem dX9_turn_29 : decode cX9_turn 29 = .ok (.getfield 17, 3) := by decide +kernel
theorem dX9_turn_32 : decode cX9_turn 32 = .ok (.iload 4, 2) := by decide +kernel
theorem dX9_turn_34 : decode cX9_turn 34 = .ok (.baload, 1) := by decide +kernel
theorem dX9_turn_35 : decode cX9_turn 35 = .ok (.iload_n 3, 1) := by decide +kernel
theorem dX9_turn_36 : decode cX9_turn 36 = .ok (.if_icmp .eq 7, 3) := by decide +kernel
theorem dX9_turn_39 : decode cX9_turn 39 = .ok (.iconst 1, 1) := by decide +kernel
theorem dX9_turn_40 : decode cX9_turn 40 = .ok (.goto 4, 3) := by decide +kernel
theorem dX9_turn_43 : decode cX9_turn 43 = .ok (.iconst 0, 1) := by decide +kernel
theorem dX9_turn_44 : decode cX9_turn 44 = .ok (.istore 5, 2) := by decide +kernel
theorem dX9_turn_46 : decode cX9_turn 46 = .ok (.iload 5, 2) := by decide +kernel
theorem dX9_turn_48 : decode cX9_turn 48 = .ok (.ifCond .eq 15, 3) := by decide +kernel
theorem dX9_turn_51 : decode cX9_turn 51 = .ok (.aload_n 0, 1) := by decide +kernel
theorem dX9_turn_52 : decode cX9_turn 52 = .ok (.getfield 104, 3) := by decide +kernel
theorem dX9_turn_55 : decode cX9_turn 55 = .ok (.bipush 40, 2) := by decide +kernel
theorem dX9_turn_57 : decode cX9_turn 57 = .ok (.if_icmp .ne 6, 3) := by decide +kernel
theorem dX9_turn_60 : decode cX9_turn 60 = .ok (.bipush (-4), 2) := by decide +kernel
theorem dX9_turn_62 : decode cX9_turn 62 = .ok (.ireturn, 1) := by decide +kernel
theorem dX9_turn_63 : decode cX9_turn 63 = .ok (.aload_n 0, 1) := by decide +kernel
theorem dX9_turn_64 : decode cX9_turn 64 = .ok (.dup, 1) := by decide +kernel
theorem dX9_turn_65 : decode cX9_turn 65 = .ok (.getfield 104, 3) := by decide +kernel
theorem dX9_turn_68 : decode cX9_turn 68 = .ok (.aload_n 0, 1) := by decide +kernel
theorem dX9_turn_69 : decode cX9_turn 69 = .ok (.getfield 100, 3) := by decide +kernel
theorem dX9_turn_72 : decode cX9_turn 72 = .ok (.ifCond .ne 7, 3) := by decide +kernel
theorem dX9_turn_75 : decode cX9_turn 75 = .ok (.iconst 0, 1) := by decide +kernel
theorem dX9_turn_76 : decode cX9_turn 76 = .ok (.goto 13, 3) := by decide +kernel
theorem dX9_turn_79 : decode cX9_turn 79 = .ok (.iload 5, 2) := by decide +kernel
theorem dX9_turn_81 : decode cX9_turn 81 = .ok (.ifCond .eq 7, 3) := by decide +kernel
theorem dX9_turn_84 : decode cX9_turn 84 = .ok (.iconst 1, 1) := by decide +kernel
theorem dX9_turn_85 : decode cX9_turn 85 = .ok (.goto 4, 3) := by decide +kernel
theorem dX9_turn_88 : decode cX9_turn 88 = .ok (.iconst (-1), 1) := by decide +kernel
theorem dX9_turn_89 : decode cX9_turn 89 = .ok (.iadd, 1) := by decide +kernel
theorem dX9_turn_90 : decode cX9_turn 90 = .ok (.putfield 104, 3) := by decide +kernel
theorem dX9_turn_93 : decode cX9_turn 93 = .ok (.aload_n 0, 1) := by decide +kernel
theorem dX9_turn_94 : decode cX9_turn 94 = .ok (.getfield 13, 3) := by decide +kernel
theorem dX9_turn_97 : decode cX9_turn 97 = .ok (.iload 4, 2) := by decide +kernel
theorem dX9_turn_99 : decode cX9_turn 99 = .ok (.iload_n 3, 1) := by decide +kernel
theorem dX9_turn_100 : decode cX9_turn 100 = .ok (.bastore, 1) := by decide +kernel
theorem dX9_turn_101 : decode cX9_turn 101 = .ok (.iconst 1, 1) := by decide +kernel
theorem dX9_turn_102 : decode cX9_turn 102 = .ok (.ireturn, 1) := by decide +kernel
theorem dX9_pair_0 : decode cX9_pair 0 = .ok (.aload_n 0, 1) := by decide +kernel
theorem dX9_pair_1 : decode cX9_pair 1 = .ok (.iconst 0, 1) := by decide +kernel
theorem dX9_pair_2 : decode cX9_pair 2 = .ok (.putfield 1, 3) := by decide +kernel
theorem dX9_pair_5 : decode cX9_pair 5 = .ok (.aload_n 0, 1) := by decide +kernel
theorem dX9_pair_6 : decode cX9_pair 6 = .ok (.iload_n 1, 1) := by decide +kernel
theorem dX9_pair_7 : decode cX9_pair 7 = .ok (.invokevirtual 107, 3) := by decide +kernel
theorem dX9_pair_10 : decode cX9_pair 10 = .ok (.ifCond .eq 11, 3) := by decide +kernel
theorem dX9_pair_13 : decode cX9_pair 13 = .ok (.aload_n 0, 1) := by decide +kernel
theorem dX9_pair_14 : decode cX9_pair 14 = .ok (.iload_n 2, 1) := by decide +kernel
theorem dX9_pair_15 : decode cX9_pair 15 = .ok (.invokevirtual 107, 3) := by decide +kernel
theorem dX9_pair_18 : decode cX9_pair 18 = .ok (.ifCond .ne 8, 3) := by decide +kernel
theorem dX9_pair_21 : decode cX9_pair 21 = .ok (.bipush (-2), 2) := by decide +kernel
theorem dX9_pair_23 : decode cX9_pair 23 = .ok (.goto 10, 3) := by decide +kernel
theorem dX9_pair_26 : decode cX9_pair 26 = .ok (.aload_n 0, 1) := by decide +kernel
theorem dX9_pair_27 : decode cX9_pair 27 = .ok (.iload_n 1, 1) := by decide +kernel
theorem dX9_pair_28 : decode cX9_pair 28 = .ok (.iload_n 2, 1) := by decide +kernel
theorem dX9_pair_29 : decode cX9_pair 29 = .ok (.iconst 1, 1) := by decide +kernel
theorem dX9_pair_30 : decode cX9_pair 30 = .ok (.invokevirtual 111, 3) := by decide +kernel
theorem dX9_pair_33 : decode cX9_pair 33 = .ok (.ireturn, 1) := by decide +kernel
theorem dX9_drop_0 : decode cX9_drop 0 = .ok (.aload_n 0, 1) := by decide +kernel
theorem dX9_drop_1 : decode cX9_drop 1 = .ok (.iconst 0, 1) := by decide +kernel
theorem dX9_drop_2 : decode cX9_drop 2 = .ok (.putfield 1, 3) := by decide +kernel
theorem dX9_drop_5 : decode cX9_drop 5 = .ok (.aload_n 0, 1) := by decide +kernel
theorem dX9_drop_6 : decode cX9_drop 6 = .ok (.iload_n 1, 1) := by decide +kernel
theorem dX9_drop_7 : decode cX9_drop 7 = .ok (.invokevirtual 107, 3) := by decide +kernel
theorem dX9_drop_10 : decode cX9_drop 10 = .ok (.ifCond .eq 11, 3) := by decide +kernel
theorem dX9_drop_13 : decode cX9_drop 13 = .ok (.aload_n 0, 1) := by decide +kernel
theorem dX9_drop_14 : decode cX9_drop 14 = .ok (.iload_n 2, 1) := by decide +kernel
theorem dX9_drop_15 : decode cX9_drop 15 = .ok (.invokevirtual 107, 3) := by decide +kernel
theorem dX9_drop_18 : decode cX9_drop 18 = .ok (.ifCond .ne 8, 3) := by decide +kernel
theorem dX9_drop_21 : decode cX9_drop 21 = .ok (.bipush (-2), 2) := by decide +kernel
theorem dX9_drop_23 : decode cX9_drop 23 = .ok (.goto 10, 3) := by decide +kernel
theorem dX9_drop_26 : decode cX9_drop 26 = .ok (.aload_n 0, 1) := by decide +kernel
theorem dX9_drop_27 : decode cX9_drop 27 = .ok (.iload_n 1, 1) := by decide +kernel
theorem dX9_drop_28 : decode cX9_drop 28 = .ok (.iload_n 2, 1) := by decide +kernel
theorem dX9_drop_29 : decode cX9_drop 29 = .ok (.iconst 0, 1) := by decide +kernel
theorem dX9_drop_30 : decode cX9_drop 30 = .ok (.invokevirtual 111, 3) := by decide +kernel
theorem dX9_drop_33 : decode cX9_drop 33 = .ok (.ireturn, 1) := by decide +kernel
theorem dX9_has_0 : decode cX9_has 0 = .ok (.aload_n 0, 1) := by decide +kernel
theorem dX9_has_1 : decode cX9_has 1 = .ok (.iconst 0, 1) := by decide +kernel
theorem dX9_has_2 : decode cX9_has 2 = .ok (.putfield 1, 3) := by decide +kernel
theorem dX9_has_5 : decode cX9_has 5 = .ok (.aload_n 0, 1) := by decide +kernel
theorem dX9_has_6 : decode cX9_has 6 = .ok (.iload_n 1, 1) := by decide +kernel
theorem dX9_has_7 : decode cX9_has 7 = .ok (.invokevirtual 107, 3) := by decide +kernel
theorem dX9_has_10 : decode cX9_has 10 = .ok (.ifCond .eq 11, 3) := by decide +kernel
theorem dX9_has_13 : decode cX9_has 13 = .ok (.aload_n 0, 1) := by decide +kernel
theorem dX9_has_14 : decode cX9_has 14 = .ok (.iload_n 2, 1) := by decide +kernel
theorem dX9_has_15 : decode cX9_has 15 = .ok (.invokevirtual 107, 3) := by decide +kernel
theorem dX9_has_18 : decode cX9_has 18 = .ok (.ifCond .ne 8, 3) := by decide +kernel
theorem dX9_has_21 : decode cX9_has 21 = .ok (.bipush (-2), 2) := by decide +kernel
theorem dX9_has_23 : decode cX9_has 23 = .ok (.goto 22, 3) := by decide +kernel
theorem dX9_has_26 : decode cX9_has 26 = .ok (.aload_n 0, 1) := by decide +kernel
theorem dX9_has_27 : decode cX9_has 27 = .ok (.getfield 13, 3) := by decide +kernel
theorem dX9_has_30 : decode cX9_has 30 = .ok (.bipush 48, 2) := by decide +kernel
theorem dX9_has_32 : decode cX9_has 32 = .ok (.iload_n 1, 1) := by decide +kernel
theorem dX9_has_33 : decode cX9_has 33 = .ok (.imul, 1) := by decide +kernel
theorem dX9_has_34 : decode cX9_has 34 = .ok (.iload_n 2, 1) := by decide +kernel
theorem dX9_has_35 : decode cX9_has 35 = .ok (.iadd, 1) := by decide +kernel
theorem dX9_has_36 : decode cX9_has 36 = .ok (.baload, 1) := by decide +kernel
theorem dX9_has_37 : decode cX9_has 37 = .ok (.ifCond .eq 7, 3) := by decide +kernel
theorem dX9_has_40 : decode cX9_has 40 = .ok (.iconst 1, 1) := by decide +kernel
theorem dX9_has_41 : decode cX9_has 41 = .ok (.goto 4, 3) := by decide +kernel
theorem dX9_has_44 : decode cX9_has 44 = .ok (.iconst 0, 1) := by decide +kernel
theorem dX9_has_45 : decode cX9_has 45 = .ok (.ireturn, 1) := by decide +kernel
theorem dX9_next_0 : decode cX9_next 0 = .ok (.aload_n 0, 1) := by decide +kernel
theorem dX9_next_1 : decode cX9_next 1 = .ok (.iconst 0, 1) := by decide +kernel
theorem dX9_next_2 : decode cX9_next 2 = .ok (.putfield 1, 3) := by decide +kernel
theorem dX9_next_5 : decode cX9_next 5 = .ok (.aload_n 0, 1) := by decide +kernel
theorem dX9_next_6 : decode cX9_next 6 = .ok (.iload_n 1, 1) := by decide +kernel
theorem dX9_next_7 : decode cX9_next 7 = .ok (.invokevirtual 107, 3) := by decide +kernel
theorem dX9_next_10 : decode cX9_next 10 = .ok (.ifCond .eq 7, 3) := by decide +kernel
theorem dX9_next_13 : decode cX9_next 13 = .ok (.iload_n 2, 1) := by decide +kernel
theorem dX9_next_14 : decode cX9_next 14 = .ok (.ifCond .ge 6, 3) := by decide +kernel
theorem dX9_next_17 : decode cX9_next 17 = .ok (.bipush (-2), 2) := by decide +kernel
theorem dX9_next_19 : decode cX9_next 19 = .ok (.ireturn, 1) := by decide +kernel
theorem dX9_next_20 : decode cX9_next 20 = .ok (.iload_n 2, 1) := by decide +kernel
theorem dX9_next_21 : decode cX9_next 21 = .ok (.istore_n 3, 1) := by decide +kernel
theorem dX9_next_22 : decode cX9_next 22 = .ok (.iload_n 3, 1) := by decide +kernel
theorem dX9_next_23 : decode cX9_next 23 = .ok (.aload_n 0, 1) := by decide +kernel
theorem dX9_next_24 : decode cX9_next 24 = .ok (.getfield 93, 3) := by decide +kernel
theorem dX9_next_27 : decode cX9_next 27 = .ok (.if_icmp .ge 25, 3) := by decide +kernel
theorem dX9_next_30 : decode cX9_next 30 = .ok (.aload_n 0, 1) := by decide +kernel
theorem dX9_next_31 : decode cX9_next 31 = .ok (.getfield 13, 3) := by decide +kernel
theorem dX9_next_34 : decode cX9_next 34 = .ok (.bipush 48, 2) := by decide +kernel
theorem dX9_next_36 : decode cX9_next 36 = .ok (.iload_n 1, 1) := by decide +kernel
theorem dX9_next_37 : decode cX9_next 37 = .ok (.imul, 1) := by decide +kernel
theorem dX9_next_38 : decode cX9_next 38 = .ok (.iload_n 3, 1) := by decide +kernel
theorem dX9_next_39 : decode cX9_next 39 = .ok (.iadd, 1) := by decide +kernel
theorem dX9_next_40 : decode cX9_next 40 = .ok (.baload, 1) := by decide +kernel
theorem dX9_next_41 : decode cX9_next 41 = .ok (.ifCond .eq 5, 3) := by decide +kernel
theorem dX9_next_44 : decode cX9_next 44 = .ok (.iload_n 3, 1) := by decide +kernel
theorem dX9_next_45 : decode cX9_next 45 = .ok (.ireturn, 1) := by decide +kernel
theorem dX9_next_46 : decode cX9_next 46 = .ok (.iinc 3 1, 3) := by decide +kernel
theorem dX9_next_49 : decode cX9_next 49 = .ok (.goto (-27), 3) := by decide +kernel
theorem dX9_next_52 : decode cX9_next 52 = .ok (.iconst (-1), 1) := by decide +kernel
theorem dX9_next_53 : decode cX9_next 53 = .ok (.ireturn, 1) := by decide +kernel
theorem dX9_rowSize_0 : decode cX9_rowSize 0 = .ok (.iconst 0, 1) := by decide +kernel
theorem dX9_rowSize_1 : decode cX9_rowSize 1 = .ok (.istore_n 2, 1) := by decide +kernel
theorem dX9_rowSize_2 : decode cX9_rowSize 2 = .ok (.iconst 0, 1) := by decide +kernel
theorem dX9_rowSize_3 : decode cX9_rowSize 3 = .ok (.istore_n 3, 1) := by decide +kernel
theorem dX9_rowSize_4 : decode cX9_rowSize 4 = .ok (.iload_n 3, 1) := by decide +kernel
theorem dX9_rowSize_5 : decode cX9_rowSize 5 = .ok (.aload_n 0, 1) := by decide +kernel
theorem dX9_rowSize_6 : decode cX9_rowSize 6 = .ok (.getfield 93, 3) := by decide +kernel
theorem dX9_rowSize_9 : decode cX9_rowSize 9 = .ok (.if_icmp .ge 31, 3) := by decide +kernel
theorem dX9_rowSize_12 : decode cX9_rowSize 12 = .ok (.iload_n 2, 1) := by decide +kernel
theorem dX9_rowSize_13 : decode cX9_rowSize 13 = .ok (.aload_n 0, 1) := by decide +kernel
theorem dX9_rowSize_14 : decode cX9_rowSize 14 = .ok (.getfield 13, 3) := by decide +kernel
theorem dX9_rowSize_17 : decode cX9_rowSize 17 = .ok (.bipush 48, 2) := by decide +kernel
theorem dX9_rowSize_19 : decode cX9_rowSize 19 = .ok (.iload_n 1, 1) := by decide +kernel
theorem dX9_rowSize_20 : decode cX9_rowSize 20 = .ok (.imul, 1) := by decide +kernel
theorem dX9_rowSize_21 : decode cX9_rowSize 21 = .ok (.iload_n 3, 1) := by decide +kernel
theorem dX9_rowSize_22 : decode cX9_rowSize 22 = .ok (.iadd, 1) := by decide +kernel
theorem dX9_rowSize_23 : decode cX9_rowSize 23 = .ok (.baload, 1) := by decide +kernel
theorem dX9_rowSize_24 : decode cX9_rowSize 24 = .ok (.ifCond .eq 7, 3) := by decide +kernel
theorem dX9_rowSize_27 : decode cX9_rowSize 27 = .ok (.iconst 1, 1) := by decide +kernel
theorem dX9_rowSize_28 : decode cX9_rowSize 28 = .ok (.goto 4, 3) := by decide +kernel
theorem dX9_rowSize_31 : decode cX9_rowSize 31 = .ok (.iconst 0, 1) := by decide +kernel
theorem dX9_rowSize_32 : decode cX9_rowSize 32 = .ok (.iadd, 1) := by decide +kernel
theorem dX9_rowSize_33 : decode cX9_rowSize 33 = .ok (.istore_n 2, 1) := by decide +kernel
theorem dX9_rowSize_34 : decode cX9_rowSize 34 = .ok (.iinc 3 1, 3) := by decide +kernel
theorem dX9_rowSize_37 : decode cX9_rowSize 37 = .ok (.goto (-33), 3) := by decide +kernel
theorem dX9_rowSize_40 : decode cX9_rowSize 40 = .ok (.iload_n 2, 1) := by decide +kernel
theorem dX9_rowSize_41 : decode cX9_rowSize 41 = .ok (.ireturn, 1) := by decide +kernel
theorem dX9_degree_0 : decode cX9_degree 0 = .ok (.aload_n 0, 1) := by decide +kernel
theorem dX9_degree_1 : decode cX9_degree 1 = .ok (.iconst 0, 1) := by decide +kernel
theorem dX9_degree_2 : decode cX9_degree 2 = .ok (.putfield 1, 3) := by decide +kernel
theorem dX9_degree_5 : decode cX9_degree 5 = .ok (.aload_n 0, 1) := by decide +kernel
theorem dX9_degree_6 : decode cX9_degree 6 = .ok (.iload_n 1, 1) := by decide +kernel
theorem dX9_degree_7 : decode cX9_degree 7 = .ok (.invokevirtual 107, 3) := by decide +kernel
theorem dX9_degree_10 : decode cX9_degree 10 = .ok (.ifCond .eq 13, 3) := by decide +kernel
end
section
theorem dX9_degree_13 : decode cX9_degree 13 = .ok (.iload_n 2, 1) := by decide +kernel
theorem dX9_degree_14 : decode cX9_degree 14 = .ok (.i2l, 1) := by decide +kernel
theorem dX9_degree_15 : decode cX9_degree 15 = .ok (.lconst 0, 1) := by decide +kernel
theorem dX9_degree_16 : decode cX9_degree 16 = .ok (.lconst 1, 1) := by decide +kernel
theorem dX9_degree_17 : decode cX9_degree 17 = .ok (.invokestatic 96, 3) := by decide +kernel
theorem dX9_degree_20 : decode cX9_degree 20 = .ok (.ifCond .ne 6, 3) := by decide +kernel
theorem dX9_degree_23 : decode cX9_degree 23 = .ok (.bipush (-2), 2) := by decide +kernel
theorem dX9_degree_25 : decode cX9_degree 25 = .ok (.ireturn, 1) := by decide +kernel
theorem dX9_degree_26 : decode cX9_degree 26 = .ok (.iconst 0, 1) := by decide +kernel
theorem dX9_degree_27 : decode cX9_degree 27 = .ok (.istore_n 3, 1) := by decide +kernel
theorem dX9_degree_28 : decode cX9_degree 28 = .ok (.iconst 0, 1) := by decide +kernel
theorem dX9_degree_29 : decode cX9_degree 29 = .ok (.istore 4, 2) := by decide +kernel
theorem dX9_degree_31 : decode cX9_degree 31 = .ok (.iload 4, 2) := by decide +kernel
theorem dX9_degree_33 : decode cX9_degree 33 = .ok (.aload_n 0, 1) := by decide +kernel
theorem dX9_degree_34 : decode cX9_degree 34 = .ok (.getfield 93, 3) := by decide +kernel
theorem dX9_degree_37 : decode cX9_degree 37 = .ok (.if_icmp .ge 32, 3) := by decide +kernel
theorem dX9_degree_40 : decode cX9_degree 40 = .ok (.iload_n 3, 1) := by decide +kernel
theorem dX9_degree_41 : decode cX9_degree 41 = .ok (.aload_n 0, 1) := by decide +kernel
theorem dX9_degree_42 : decode cX9_degree 42 = .ok (.getfield 13, 3) := by decide +kernel
theorem dX9_degree_45 : decode cX9_degree 45 = .ok (.bipush 48, 2) := by decide +kernel
theorem dX9_degree_47 : decode cX9_degree 47 = .ok (.iload 4, 2) := by decide +kernel
theorem dX9_degree_49 : decode cX9_degree 49 = .ok (.imul, 1) := by decide +kernel
theorem dX9_degree_50 : decode cX9_degree 50 = .ok (.iload_n 1, 1) := by decide +kernel
theorem dX9_degree_51 : decode cX9_degree 51 = .ok (.iadd, 1) := by decide +kernel
theorem dX9_degree_52 : decode cX9_degree 52 = .ok (.baload, 1) := by decide +kernel
theorem dX9_degree_53 : decode cX9_degree 53 = .ok (.ifCond .eq 7, 3) := by decide +kernel
theorem dX9_degree_56 : decode cX9_degree 56 = .ok (.iconst 1, 1) := by decide +kernel
theorem dX9_degree_57 : decode cX9_degree 57 = .ok (.goto 4, 3) := by decide +kernel
theorem dX9_degree_60 : decode cX9_degree 60 = .ok (.iconst 0, 1) := by decide +kernel
theorem dX9_degree_61 : decode cX9_degree 61 = .ok (.iadd, 1) := by decide +kernel
theorem dX9_degree_62 : decode cX9_degree 62 = .ok (.istore_n 3, 1) := by decide +kernel
theorem dX9_degree_63 : decode cX9_degree 63 = .ok (.iinc 4 1, 3) := by decide +kernel
theorem dX9_degree_66 : decode cX9_degree 66 = .ok (.goto (-35), 3) := by decide +kernel
theorem dX9_degree_69 : decode cX9_degree 69 = .ok (.iload_n 2, 1) := by decide +kernel
theorem dX9_degree_70 : decode cX9_degree 70 = .ok (.ifCond .ne 11, 3) := by decide +kernel
theorem dX9_degree_73 : decode cX9_degree 73 = .ok (.aload_n 0, 1) := by decide +kernel
theorem dX9_degree_74 : decode cX9_degree 74 = .ok (.iload_n 1, 1) := by decide +kernel
theorem dX9_degree_75 : decode cX9_degree 75 = .ok (.invokevirtual 115, 3) := by decide +kernel
theorem dX9_degree_78 : decode cX9_degree 78 = .ok (.goto 4, 3) := by decide +kernel
theorem dX9_degree_81 : decode cX9_degree 81 = .ok (.iload_n 3, 1) := by decide +kernel
theorem dX9_degree_82 : decode cX9_degree 82 = .ok (.ireturn, 1) := by decide +kernel
theorem dX9_meet_0 : decode cX9_meet 0 = .ok (.aload_n 0, 1) := by decide +kernel
theorem dX9_meet_1 : decode cX9_meet 1 = .ok (.iconst 0, 1) := by decide +kernel
theorem dX9_meet_2 : decode cX9_meet 2 = .ok (.putfield 1, 3) := by decide +kernel
theorem dX9_meet_5 : decode cX9_meet 5 = .ok (.aload_n 0, 1) := by decide +kernel
theorem dX9_meet_6 : decode cX9_meet 6 = .ok (.iload_n 1, 1) := by decide +kernel
theorem dX9_meet_7 : decode cX9_meet 7 = .ok (.invokevirtual 107, 3) := by decide +kernel
theorem dX9_meet_10 : decode cX9_meet 10 = .ok (.ifCond .eq 11, 3) := by decide +kernel
theorem dX9_meet_13 : decode cX9_meet 13 = .ok (.aload_n 0, 1) := by decide +kernel
theorem dX9_meet_14 : decode cX9_meet 14 = .ok (.iload_n 2, 1) := by decide +kernel
theorem dX9_meet_15 : decode cX9_meet 15 = .ok (.invokevirtual 107, 3) := by decide +kernel
theorem dX9_meet_18 : decode cX9_meet 18 = .ok (.ifCond .ne 6, 3) := by decide +kernel
theorem dX9_meet_21 : decode cX9_meet 21 = .ok (.bipush (-2), 2) := by decide +kernel
theorem dX9_meet_23 : decode cX9_meet 23 = .ok (.ireturn, 1) := by decide +kernel
theorem dX9_meet_24 : decode cX9_meet 24 = .ok (.iconst 0, 1) := by decide +kernel
theorem dX9_meet_25 : decode cX9_meet 25 = .ok (.istore_n 3, 1) := by decide +kernel
theorem dX9_meet_26 : decode cX9_meet 26 = .ok (.iconst 0, 1) := by decide +kernel
theorem dX9_meet_27 : decode cX9_meet 27 = .ok (.istore 4, 2) := by decide +kernel
theorem dX9_meet_29 : decode cX9_meet 29 = .ok (.iload 4, 2) := by decide +kernel
theorem dX9_meet_31 : decode cX9_meet 31 = .ok (.aload_n 0, 1) := by decide +kernel
theorem dX9_meet_32 : decode cX9_meet 32 = .ok (.getfield 93, 3) := by decide +kernel
theorem dX9_meet_35 : decode cX9_meet 35 = .ok (.if_icmp .ge 47, 3) := by decide +kernel
theorem dX9_meet_38 : decode cX9_meet 38 = .ok (.iload_n 3, 1) := by decide +kernel
theorem dX9_meet_39 : decode cX9_meet 39 = .ok (.aload_n 0, 1) := by decide +kernel
theorem dX9_meet_40 : decode cX9_meet 40 = .ok (.getfield 13, 3) := by decide +kernel
theorem dX9_meet_43 : decode cX9_meet 43 = .ok (.bipush 48, 2) := by decide +kernel
theorem dX9_meet_45 : decode cX9_meet 45 = .ok (.iload_n 1, 1) := by decide +kernel
theorem dX9_meet_46 : decode cX9_meet 46 = .ok (.imul, 1) := by decide +kernel
theorem dX9_meet_47 : decode cX9_meet 47 = .ok (.iload 4, 2) := by decide +kernel
theorem dX9_meet_49 : decode cX9_meet 49 = .ok (.iadd, 1) := by decide +kernel
theorem dX9_meet_50 : decode cX9_meet 50 = .ok (.baload, 1) := by decide +kernel
theorem dX9_meet_51 : decode cX9_meet 51 = .ok (.ifCond .eq 22, 3) := by decide +kernel
theorem dX9_meet_54 : decode cX9_meet 54 = .ok (.aload_n 0, 1) := by decide +kernel
theorem dX9_meet_55 : decode cX9_meet 55 = .ok (.getfield 13, 3) := by decide +kernel
theorem dX9_meet_58 : decode cX9_meet 58 = .ok (.bipush 48, 2) := by decide +kernel
theorem dX9_meet_60 : decode cX9_meet 60 = .ok (.iload_n 2, 1) := by decide +kernel
theorem dX9_meet_61 : decode cX9_meet 61 = .ok (.imul, 1) := by decide +kernel
theorem dX9_meet_62 : decode cX9_meet 62 = .ok (.iload 4, 2) := by decide +kernel
theorem dX9_meet_64 : decode cX9_meet 64 = .ok (.iadd, 1) := by decide +kernel
theorem dX9_meet_65 : decode cX9_meet 65 = .ok (.baload, 1) := by decide +kernel
theorem dX9_meet_66 : decode cX9_meet 66 = .ok (.ifCond .eq 7, 3) := by decide +kernel
theorem dX9_meet_69 : decode cX9_meet 69 = .ok (.iconst 1, 1) := by decide +kernel
theorem dX9_meet_70 : decode cX9_meet 70 = .ok (.goto 4, 3) := by decide +kernel
theorem dX9_meet_73 : decode cX9_meet 73 = .ok (.iconst 0, 1) := by decide +kernel
theorem dX9_meet_74 : decode cX9_meet 74 = .ok (.iadd, 1) := by decide +kernel
theorem dX9_meet_75 : decode cX9_meet 75 = .ok (.istore_n 3, 1) := by decide +kernel
theorem dX9_meet_76 : decode cX9_meet 76 = .ok (.iinc 4 1, 3) := by decide +kernel
theorem dX9_meet_79 : decode cX9_meet 79 = .ok (.goto (-50), 3) := by decide +kernel
theorem dX9_meet_82 : decode cX9_meet 82 = .ok (.iload_n 3, 1) := by decide +kernel
theorem dX9_meet_83 : decode cX9_meet 83 = .ok (.ireturn, 1) := by decide +kernel
theorem dX9_back_0 : decode cX9_back 0 = .ok (.aload_n 0, 1) := by decide +kernel
theorem dX9_back_1 : decode cX9_back 1 = .ok (.iconst 0, 1) := by decide +kernel
theorem dX9_back_2 : decode cX9_back 2 = .ok (.putfield 1, 3) := by decide +kernel
theorem dX9_back_5 : decode cX9_back 5 = .ok (.aload_n 0, 1) := by decide +kernel
theorem dX9_back_6 : decode cX9_back 6 = .ok (.iload_n 1, 1) := by decide +kernel
theorem dX9_back_7 : decode cX9_back 7 = .ok (.invokevirtual 107, 3) := by decide +kernel
theorem dX9_back_10 : decode cX9_back 10 = .ok (.ifCond .ne 6, 3) := by decide +kernel
theorem dX9_back_13 : decode cX9_back 13 = .ok (.bipush (-2), 2) := by decide +kernel
theorem dX9_back_15 : decode cX9_back 15 = .ok (.ireturn, 1) := by decide +kernel
theorem dX9_back_16 : decode cX9_back 16 = .ok (.iload_n 2, 1) := by decide +kernel
theorem dX9_back_17 : decode cX9_back 17 = .ok (.istore_n 3, 1) := by decide +kernel
theorem dX9_back_18 : decode cX9_back 18 = .ok (.iconst 0, 1) := by decide +kernel
theorem dX9_back_19 : decode cX9_back 19 = .ok (.istore 4, 2) := by decide +kernel
theorem dX9_back_21 : decode cX9_back 21 = .ok (.iload 4, 2) := by decide +kernel
theorem dX9_back_23 : decode cX9_back 23 = .ok (.aload_n 0, 1) := by decide +kernel
theorem dX9_back_24 : decode cX9_back 24 = .ok (.getfield 93, 3) := by decide +kernel
theorem dX9_back_27 : decode cX9_back 27 = .ok (.if_icmp .ge 34, 3) := by decide +kernel
theorem dX9_back_30 : decode cX9_back 30 = .ok (.aload_n 0, 1) := by decide +kernel
theorem dX9_back_31 : decode cX9_back 31 = .ok (.getfield 13, 3) := by decide +kernel
theorem dX9_back_34 : decode cX9_back 34 = .ok (.bipush 48, 2) := by decide +kernel
theorem dX9_back_36 : decode cX9_back 36 = .ok (.iload 4, 2) := by decide +kernel
theorem dX9_back_38 : decode cX9_back 38 = .ok (.imul, 1) := by decide +kernel
theorem dX9_back_39 : decode cX9_back 39 = .ok (.iload_n 1, 1) := by decide +kernel
theorem dX9_back_40 : decode cX9_back 40 = .ok (.iadd, 1) := by decide +kernel
theorem dX9_back_41 : decode cX9_back 41 = .ok (.baload, 1) := by decide +kernel
theorem dX9_back_42 : decode cX9_back 42 = .ok (.ifCond .eq 13, 3) := by decide +kernel
theorem dX9_back_45 : decode cX9_back 45 = .ok (.iload_n 3, 1) := by decide +kernel
theorem dX9_back_46 : decode cX9_back 46 = .ok (.ifCond .ne 6, 3) := by decide +kernel
theorem dX9_back_49 : decode cX9_back 49 = .ok (.iload 4, 2) := by decide +kernel
theorem dX9_back_51 : decode cX9_back 51 = .ok (.ireturn, 1) := by decide +kernel
theorem dX9_back_52 : decode cX9_back 52 = .ok (.iinc 3 (-1), 3) := by decide +kernel
theorem dX9_back_55 : decode cX9_back 55 = .ok (.iinc 4 1, 3) := by decide +kernel
theorem dX9_back_58 : decode cX9_back 58 = .ok (.goto (-37), 3) := by decide +kernel
theorem dX9_back_61 : decode cX9_back 61 = .ok (.iconst (-1), 1) := by decide +kernel
theorem dX9_back_62 : decode cX9_back 62 = .ok (.ireturn, 1) := by decide +kernel
theorem dX9_bitsOf_0 : decode cX9_bitsOf 0 = .ok (.iconst 0, 1) := by decide +kernel
theorem dX9_bitsOf_1 : decode cX9_bitsOf 1 = .ok (.istore_n 1, 1) := by decide +kernel
theorem dX9_bitsOf_2 : decode cX9_bitsOf 2 = .ok (.iload_n 0, 1) := by decide +kernel
theorem dX9_bitsOf_3 : decode cX9_bitsOf 3 = .ok (.istore_n 2, 1) := by decide +kernel
theorem dX9_bitsOf_4 : decode cX9_bitsOf 4 = .ok (.iload_n 2, 1) := by decide +kernel
theorem dX9_bitsOf_5 : decode cX9_bitsOf 5 = .ok (.ifCond .le 13, 3) := by decide +kernel
theorem dX9_bitsOf_8 : decode cX9_bitsOf 8 = .ok (.iinc 1 1, 3) := by decide +kernel
theorem dX9_bitsOf_11 : decode cX9_bitsOf 11 = .ok (.iload_n 2, 1) := by decide +kernel
theorem dX9_bitsOf_12 : decode cX9_bitsOf 12 = .ok (.iconst 2, 1) := by decide +kernel
theorem dX9_bitsOf_13 : decode cX9_bitsOf 13 = .ok (.idiv, 1) := by decide +kernel
theorem dX9_bitsOf_14 : decode cX9_bitsOf 14 = .ok (.istore_n 2, 1) := by decide +kernel
theorem dX9_bitsOf_15 : decode cX9_bitsOf 15 = .ok (.goto (-11), 3) := by decide +kernel
theorem dX9_bitsOf_18 : decode cX9_bitsOf 18 = .ok (.iload_n 1, 1) := by decide +kernel
theorem dX9_bitsOf_19 : decode cX9_bitsOf 19 = .ok (.ireturn, 1) := by decide +kernel
theorem dX9_lengthIn_0 : decode cX9_lengthIn 0 = .ok (.iload_n 1, 1) := by decide +kernel
theorem dX9_lengthIn_1 : decode cX9_lengthIn 1 = .ok (.iconst 1, 1) := by decide +kernel
theorem dX9_lengthIn_2 : decode cX9_lengthIn 2 = .ok (.iadd, 1) := by decide +kernel
theorem dX9_lengthIn_3 : decode cX9_lengthIn 3 = .ok (.invokestatic 119, 3) := by decide +kernel
theorem dX9_lengthIn_6 : decode cX9_lengthIn 6 = .ok (.istore_n 2, 1) := by decide +kernel
theorem dX9_lengthIn_7 : decode cX9_lengthIn 7 = .ok (.iload_n 0, 1) := by decide +kernel
theorem dX9_lengthIn_8 : decode cX9_lengthIn 8 = .ok (.ifCond .ne 9, 3) := by decide +kernel
theorem dX9_lengthIn_11 : decode cX9_lengthIn 11 = .ok (.iload_n 1, 1) := by decide +kernel
theorem dX9_lengthIn_12 : decode cX9_lengthIn 12 = .ok (.iconst 1, 1) := by decide +kernel
theorem dX9_lengthIn_13 : decode cX9_lengthIn 13 = .ok (.iadd, 1) := by decide +kernel
theorem dX9_lengthIn_14 : decode cX9_lengthIn 14 = .ok (.goto 47, 3) := by decide +kernel
theorem dX9_lengthIn_17 : decode cX9_lengthIn 17 = .ok (.iload_n 0, 1) := by decide +kernel
theorem dX9_lengthIn_18 : decode cX9_lengthIn 18 = .ok (.iconst 1, 1) := by decide +kernel
theorem dX9_lengthIn_19 : decode cX9_lengthIn 19 = .ok (.if_icmp .ne 11, 3) := by decide +kernel
theorem dX9_lengthIn_22 : decode cX9_lengthIn 22 = .ok (.iconst 2, 1) := by decide +kernel
theorem dX9_lengthIn_23 : decode cX9_lengthIn 23 = .ok (.iload_n 2, 1) := by decide +kernel
theorem dX9_lengthIn_24 : decode cX9_lengthIn 24 = .ok (.imul, 1) := by decide +kernel
theorem dX9_lengthIn_25 : decode cX9_lengthIn 25 = .ok (.iconst 1, 1) := by decide +kernel
theorem dX9_lengthIn_26 : decode cX9_lengthIn 26 = .ok (.isub, 1) := by decide +kernel
theorem dX9_lengthIn_27 : decode cX9_lengthIn 27 = .ok (.goto 34, 3) := by decide +kernel
theorem dX9_lengthIn_30 : decode cX9_lengthIn 30 = .ok (.iload_n 0, 1) := by decide +kernel
theorem dX9_lengthIn_31 : decode cX9_lengthIn 31 = .ok (.iconst 2, 1) := by decide +kernel
theorem dX9_lengthIn_32 : decode cX9_lengthIn 32 = .ok (.if_icmp .ne 18, 3) := by decide +kernel
theorem dX9_lengthIn_35 : decode cX9_lengthIn 35 = .ok (.iconst 2, 1) := by decide +kernel
theorem dX9_lengthIn_36 : decode cX9_lengthIn 36 = .ok (.iload_n 2, 1) := by decide +kernel
theorem dX9_lengthIn_37 : decode cX9_lengthIn 37 = .ok (.invokestatic 119, 3) := by decide +kernel
theorem dX9_lengthIn_40 : decode cX9_lengthIn 40 = .ok (.imul, 1) := by decide +kernel
theorem dX9_lengthIn_41 : decode cX9_lengthIn 41 = .ok (.iconst 1, 1) := by decide +kernel
theorem dX9_lengthIn_42 : decode cX9_lengthIn 42 = .ok (.isub, 1) := by decide +kernel
theorem dX9_lengthIn_43 : decode cX9_lengthIn 43 = .ok (.iload_n 2, 1) := by decide +kernel
theorem dX9_lengthIn_44 : decode cX9_lengthIn 44 = .ok (.iadd, 1) := by decide +kernel
theorem dX9_lengthIn_45 : decode cX9_lengthIn 45 = .ok (.iconst 1, 1) := by decide +kernel
theorem dX9_lengthIn_46 : decode cX9_lengthIn 46 = .ok (.isub, 1) := by decide +kernel
theorem dX9_lengthIn_47 : decode cX9_lengthIn 47 = .ok (.goto 14, 3) := by decide +kernel
theorem dX9_lengthIn_50 : decode cX9_lengthIn 50 = .ok (.iload_n 1, 1) := by decide +kernel
theorem dX9_lengthIn_51 : decode cX9_lengthIn 51 = .ok (.iload_n 0, 1) := by decide +kernel
theorem dX9_lengthIn_52 : decode cX9_lengthIn 52 = .ok (.iconst 3, 1) := by decide +kernel
theorem dX9_lengthIn_53 : decode cX9_lengthIn 53 = .ok (.isub, 1) := by decide +kernel
theorem dX9_lengthIn_54 : decode cX9_lengthIn 54 = .ok (.ishr, 1) := by decide +kernel
theorem dX9_lengthIn_55 : decode cX9_lengthIn 55 = .ok (.iconst 1, 1) := by decide +kernel
theorem dX9_lengthIn_56 : decode cX9_lengthIn 56 = .ok (.iadd, 1) := by decide +kernel
theorem dX9_lengthIn_57 : decode cX9_lengthIn 57 = .ok (.iload_n 0, 1) := by decide +kernel
theorem dX9_lengthIn_58 : decode cX9_lengthIn 58 = .ok (.iadd, 1) := by decide +kernel
theorem dX9_lengthIn_59 : decode cX9_lengthIn 59 = .ok (.iconst 3, 1) := by decide +kernel
theorem dX9_lengthIn_60 : decode cX9_lengthIn 60 = .ok (.isub, 1) := by decide +kernel
theorem dX9_lengthIn_61 : decode cX9_lengthIn 61 = .ok (.ireturn, 1) := by decide +kernel
theorem dX9_putBit_0 : decode cX9_putBit 0 = .ok (.aload_n 0, 1) := by decide +kernel
theorem dX9_putBit_1 : decode cX9_putBit 1 = .ok (.getfield 36, 3) := by decide +kernel
theorem dX9_putBit_4 : decode cX9_putBit 4 = .ok (.aload_n 0, 1) := by decide +kernel
theorem dX9_putBit_5 : decode cX9_putBit 5 = .ok (.getfield 122, 3) := by decide +kernel
theorem dX9_putBit_8 : decode cX9_putBit 8 = .ok (.iload_n 1, 1) := by decide +kernel
theorem dX9_putBit_9 : decode cX9_putBit 9 = .ok (.iastore, 1) := by decide +kernel
theorem dX9_putBit_10 : decode cX9_putBit 10 = .ok (.aload_n 0, 1) := by decide +kernel
theorem dX9_putBit_11 : decode cX9_putBit 11 = .ok (.dup, 1) := by decide +kernel
theorem dX9_putBit_12 : decode cX9_putBit 12 = .ok (.getfield 122, 3) := by decide +kernel
theorem dX9_putBit_15 : decode cX9_putBit 15 = .ok (.iconst 1, 1) := by decide +kernel
theorem dX9_putBit_16 : decode cX9_putBit 16 = .ok (.iadd, 1) := by decide +kernel
theorem dX9_putBit_17 : decode cX9_putBit 17 = .ok (.putfield 122, 3) := by decide +kernel
theorem dX9_putBit_20 : decode cX9_putBit 20 = .ok (.return_, 1) := by decide +kernel
theorem dX9_putBits_0 : decode cX9_putBits 0 = .ok (.iload_n 2, 1) := by decide +kernel
theorem dX9_putBits_1 : decode cX9_putBits 1 = .ok (.iconst 1, 1) := by decide +kernel
theorem dX9_putBits_2 : decode cX9_putBits 2 = .ok (.isub, 1) := by decide +kernel
theorem dX9_putBits_3 : decode cX9_putBits 3 = .ok (.istore_n 3, 1) := by decide +kernel
theorem dX9_putBits_4 : decode cX9_putBits 4 = .ok (.iload_n 3, 1) := by decide +kernel
theorem dX9_putBits_5 : decode cX9_putBits 5 = .ok (.ifCond .lt 18, 3) := by decide +kernel
theorem dX9_putBits_8 : decode cX9_putBits 8 = .ok (.aload_n 0, 1) := by decide +kernel
theorem dX9_putBits_9 : decode cX9_putBits 9 = .ok (.iload_n 1, 1) := by decide +kernel
theorem dX9_putBits_10 : decode cX9_putBits 10 = .ok (.iload_n 3, 1) := by decide +kernel
theorem dX9_putBits_11 : decode cX9_putBits 11 = .ok (.ishr, 1) := by decide +kernel
theorem dX9_putBits_12 : decode cX9_putBits 12 = .ok (.iconst 1, 1) := by decide +kernel
theorem dX9_putBits_13 : decode cX9_putBits 13 = .ok (.iand, 1) := by decide +kernel
theorem dX9_putBits_14 : decode cX9_putBits 14 = .ok (.invokevirtual 125, 3) := by decide +kernel
theorem dX9_putBits_17 : decode cX9_putBits 17 = .ok (.iinc 3 (-1), 3) := by decide +kernel
theorem dX9_putBits_20 : decode cX9_putBits 20 = .ok (.goto (-16), 3) := by decide +kernel
theorem dX9_putBits_23 : decode cX9_putBits 23 = .ok (.return_, 1) := by decide +kernel
theorem dX9_putUnary_0 : decode cX9_putUnary 0 = .ok (.iconst 0, 1) := by decide +kernel
theorem dX9_putUnary_1 : decode cX9_putUnary 1 = .ok (.istore_n 2, 1) := by decide +kernel
theorem dX9_putUnary_2 : decode cX9_putUnary 2 = .ok (.iload_n 2, 1) := by decide +kernel
theorem dX9_putUnary_3 : decode cX9_putUnary 3 = .ok (.iload_n 1, 1) := by decide +kernel
theorem dX9_putUnary_4 : decode cX9_putUnary 4 = .ok (.if_icmp .ge 14, 3) := by decide +kernel
theorem dX9_putUnary_7 : decode cX9_putUnary 7 = .ok (.aload_n 0, 1) := by decide +kernel
theorem dX9_putUnary_8 : decode cX9_putUnary 8 = .ok (.iconst 0, 1) := by decide +kernel
theorem dX9_putUnary_9 : decode cX9_putUnary 9 = .ok (.invokevirtual 125, 3) := by decide +kernel
theorem dX9_putUnary_12 : decode cX9_putUnary 12 = .ok (.iinc 2 1, 3) := by decide +kernel
theorem dX9_putUnary_15 : decode cX9_putUnary 15 = .ok (.goto (-13), 3) := by decide +kernel
theorem dX9_putUnary_18 : decode cX9_putUnary 18 = .ok (.aload_n 0, 1) := by decide +kernel
theorem dX9_putUnary_19 : decode cX9_putUnary 19 = .ok (.iconst 1, 1) := by decide +kernel
theorem dX9_putUnary_20 : decode cX9_putUnary 20 = .ok (.invokevirtual 125, 3) := by decide +kernel
theorem dX9_putUnary_23 : decode cX9_putUnary 23 = .ok (.return_, 1) := by decide +kernel
theorem dX9_putDoubled_0 : decode cX9_putDoubled 0 = .ok (.iload_n 1, 1) := by decide +kernel
theorem dX9_putDoubled_1 : decode cX9_putDoubled 1 = .ok (.iconst 1, 1) := by decide +kernel
theorem dX9_putDoubled_2 : decode cX9_putDoubled 2 = .ok (.iadd, 1) := by decide +kernel
theorem dX9_putDoubled_3 : decode cX9_putDoubled 3 = .ok (.invokestatic 119, 3) := by decide +kernel
theorem dX9_putDoubled_6 : decode cX9_putDoubled 6 = .ok (.istore_n 2, 1) := by decide +kernel
theorem dX9_putDoubled_7 : decode cX9_putDoubled 7 = .ok (.iconst 1, 1) := by decide +kernel
theorem dX9_putDoubled_8 : decode cX9_putDoubled 8 = .ok (.istore_n 3, 1) := by decide +kernel
theorem dX9_putDoubled_9 : decode cX9_putDoubled 9 = .ok (.iload_n 3, 1) := by decide +kernel
theorem dX9_putDoubled_10 : decode cX9_putDoubled 10 = .ok (.iload_n 2, 1) := by decide +kernel
theorem dX9_putDoubled_11 : decode cX9_putDoubled 11 = .ok (.if_icmp .ge 14, 3) := by decide +kernel
theorem dX9_putDoubled_14 : decode cX9_putDoubled 14 = .ok (.aload_n 0, 1) := by decide +kernel
theorem dX9_putDoubled_15 : decode cX9_putDoubled 15 = .ok (.iconst 0, 1) := by decide +kernel
theorem dX9_putDoubled_16 : decode cX9_putDoubled 16 = .ok (.invokevirtual 125, 3) := by decide +kernel
theorem dX9_putDoubled_19 : decode cX9_putDoubled 19 = .ok (.iinc 3 1, 3) := by decide +kernel
theorem dX9_putDoubled_22 : decode cX9_putDoubled 22 = .ok (.goto (-13), 3) := by decide +kernel
theorem dX9_putDoubled_25 : decode cX9_putDoubled 25 = .ok (.aload_n 0, 1) := by decide +kernel
theorem dX9_putDoubled_26 : decode cX9_putDoubled 26 = .ok (.iload_n 1, 1) := by decide +kernel
theorem dX9_putDoubled_27 : decode cX9_putDoubled 27 = .ok (.iconst 1, 1) := by decide +kernel
theorem dX9_putDoubled_28 : decode cX9_putDoubled 28 = .ok (.iadd, 1) := by decide +kernel
theorem dX9_putDoubled_29 : decode cX9_putDoubled 29 = .ok (.iload_n 2, 1) := by decide +kernel
theorem dX9_putDoubled_30 : decode cX9_putDoubled 30 = .ok (.invokevirtual 129, 3) := by decide +kernel
theorem dX9_putDoubled_33 : decode cX9_putDoubled 33 = .ok (.return_, 1) := by decide +kernel
theorem dX9_putNumber_0 : decode cX9_putNumber 0 = .ok (.iload_n 1, 1) := by decide +kernel
theorem dX9_putNumber_1 : decode cX9_putNumber 1 = .ok (.ifCond .ne 11, 3) := by decide +kernel
theorem dX9_putNumber_4 : decode cX9_putNumber 4 = .ok (.aload_n 0, 1) := by decide +kernel
theorem dX9_putNumber_5 : decode cX9_putNumber 5 = .ok (.iload_n 2, 1) := by decide +kernel
theorem dX9_putNumber_6 : decode cX9_putNumber 6 = .ok (.invokevirtual 133, 3) := by decide +kernel
theorem dX9_putNumber_9 : decode cX9_putNumber 9 = .ok (.goto 65, 3) := by decide +kernel
theorem dX9_putNumber_12 : decode cX9_putNumber 12 = .ok (.iload_n 1, 1) := by decide +kernel
theorem dX9_putNumber_13 : decode cX9_putNumber 13 = .ok (.iconst 1, 1) := by decide +kernel
theorem dX9_putNumber_14 : decode cX9_putNumber 14 = .ok (.if_icmp .ne 11, 3) := by decide +kernel
theorem dX9_putNumber_17 : decode cX9_putNumber 17 = .ok (.aload_n 0, 1) := by decide +kernel
theorem dX9_putNumber_18 : decode cX9_putNumber 18 = .ok (.iload_n 2, 1) := by decide +kernel
theorem dX9_putNumber_19 : decode cX9_putNumber 19 = .ok (.invokevirtual 136, 3) := by decide +kernel
theorem dX9_putNumber_22 : decode cX9_putNumber 22 = .ok (.goto 52, 3) := by decide +kernel
theorem dX9_putNumber_25 : decode cX9_putNumber 25 = .ok (.iload_n 1, 1) := by decide +kernel
theorem dX9_putNumber_26 : decode cX9_putNumber 26 = .ok (.iconst 2, 1) := by decide +kernel
theorem dX9_putNumber_27 : decode cX9_putNumber 27 = .ok (.if_icmp .ne 30, 3) := by decide +kernel
theorem dX9_putNumber_30 : decode cX9_putNumber 30 = .ok (.iload_n 2, 1) := by decide +kernel
theorem dX9_putNumber_31 : decode cX9_putNumber 31 = .ok (.iconst 1, 1) := by decide +kernel
theorem dX9_putNumber_32 : decode cX9_putNumber 32 = .ok (.iadd, 1) := by decide +kernel
theorem dX9_putNumber_33 : decode cX9_putNumber 33 = .ok (.invokestatic 119, 3) := by decide +kernel
theorem dX9_putNumber_36 : decode cX9_putNumber 36 = .ok (.istore_n 3, 1) := by decide +kernel
theorem dX9_putNumber_37 : decode cX9_putNumber 37 = .ok (.aload_n 0, 1) := by decide +kernel
theorem dX9_putNumber_38 : decode cX9_putNumber 38 = .ok (.iload_n 3, 1) := by decide +kernel
theorem dX9_putNumber_39 : decode cX9_putNumber 39 = .ok (.iconst 1, 1) := by decide +kernel
theorem dX9_putNumber_40 : decode cX9_putNumber 40 = .ok (.isub, 1) := by decide +kernel
theorem dX9_putNumber_41 : decode cX9_putNumber 41 = .ok (.invokevirtual 136, 3) := by decide +kernel
theorem dX9_putNumber_44 : decode cX9_putNumber 44 = .ok (.aload_n 0, 1) := by decide +kernel
theorem dX9_putNumber_45 : decode cX9_putNumber 45 = .ok (.iload_n 2, 1) := by decide +kernel
theorem dX9_putNumber_46 : decode cX9_putNumber 46 = .ok (.iconst 1, 1) := by decide +kernel
theorem dX9_putNumber_47 : decode cX9_putNumber 47 = .ok (.iadd, 1) := by decide +kernel
theorem dX9_putNumber_48 : decode cX9_putNumber 48 = .ok (.iload_n 3, 1) := by decide +kernel
theorem dX9_putNumber_49 : decode cX9_putNumber 49 = .ok (.iconst 1, 1) := by decide +kernel
theorem dX9_putNumber_50 : decode cX9_putNumber 50 = .ok (.isub, 1) := by decide +kernel
theorem dX9_putNumber_51 : decode cX9_putNumber 51 = .ok (.invokevirtual 129, 3) := by decide +kernel
theorem dX9_putNumber_54 : decode cX9_putNumber 54 = .ok (.goto 20, 3) := by decide +kernel
theorem dX9_putNumber_57 : decode cX9_putNumber 57 = .ok (.aload_n 0, 1) := by decide +kernel
theorem dX9_putNumber_58 : decode cX9_putNumber 58 = .ok (.iload_n 2, 1) := by decide +kernel
theorem dX9_putNumber_59 : decode cX9_putNumber 59 = .ok (.iload_n 1, 1) := by decide +kernel
theorem dX9_putNumber_60 : decode cX9_putNumber 60 = .ok (.iconst 3, 1) := by decide +kernel
theorem dX9_putNumber_61 : decode cX9_putNumber 61 = .ok (.isub, 1) := by decide +kernel
theorem dX9_putNumber_62 : decode cX9_putNumber 62 = .ok (.ishr, 1) := by decide +kernel
theorem dX9_putNumber_63 : decode cX9_putNumber 63 = .ok (.invokevirtual 133, 3) := by decide +kernel
theorem dX9_putNumber_66 : decode cX9_putNumber 66 = .ok (.aload_n 0, 1) := by decide +kernel
theorem dX9_putNumber_67 : decode cX9_putNumber 67 = .ok (.iload_n 2, 1) := by decide +kernel
theorem dX9_putNumber_68 : decode cX9_putNumber 68 = .ok (.iload_n 1, 1) := by decide +kernel
theorem dX9_putNumber_69 : decode cX9_putNumber 69 = .ok (.iconst 3, 1) := by decide +kernel
theorem dX9_putNumber_70 : decode cX9_putNumber 70 = .ok (.isub, 1) := by decide +kernel
theorem dX9_putNumber_71 : decode cX9_putNumber 71 = .ok (.invokevirtual 129, 3) := by decide +kernel
theorem dX9_putNumber_74 : decode cX9_putNumber 74 = .ok (.return_, 1) := by decide +kernel
theorem dX9_folded_0 : decode cX9_folded 0 = .ok (.iload_n 0, 1) := by decide +kernel
theorem dX9_folded_1 : decode cX9_folded 1 = .ok (.ifCond .ge 12, 3) := by decide +kernel
theorem dX9_folded_4 : decode cX9_folded 4 = .ok (.bipush (-2), 2) := by decide +kernel
theorem dX9_folded_6 : decode cX9_folded 6 = .ok (.iload_n 0, 1) := by decide +kernel
theorem dX9_folded_7 : decode cX9_folded 7 = .ok (.imul, 1) := by decide +kernel
theorem dX9_folded_8 : decode cX9_folded 8 = .ok (.iconst 1, 1) := by decide +kernel
theorem dX9_folded_9 : decode cX9_folded 9 = .ok (.isub, 1) := by decide +kernel
theorem dX9_folded_10 : decode cX9_folded 10 = .ok (.goto 6, 3) := by decide +kernel
theorem dX9_folded_13 : decode cX9_folded 13 = .ok (.iconst 2, 1) := by decide +kernel
theorem dX9_folded_14 : decode cX9_folded 14 = .ok (.iload_n 0, 1) := by decide +kernel
theorem dX9_folded_15 : decode cX9_folded 15 = .ok (.imul, 1) := by decide +kernel
theorem dX9_folded_16 : decode cX9_folded 16 = .ok (.ireturn, 1) := by decide +kernel
theorem dX9_say_0 : decode cX9_say 0 = .ok (.aload_n 0, 1) := by decide +kernel
theorem dX9_say_1 : decode cX9_say 1 = .ok (.getfield 42, 3) := by decide +kernel
theorem dX9_say_4 : decode cX9_say 4 = .ok (.aload_n 0, 1) := by decide +kernel
theorem dX9_say_5 : decode cX9_say 5 = .ok (.getfield 139, 3) := by decide +kernel
theorem dX9_say_8 : decode cX9_say 8 = .ok (.iload_n 1, 1) := by decide +kernel
theorem dX9_say_9 : decode cX9_say 9 = .ok (.iastore, 1) := by decide +kernel
theorem dX9_say_10 : decode cX9_say 10 = .ok (.aload_n 0, 1) := by decide +kernel
theorem dX9_say_11 : decode cX9_say 11 = .ok (.getfield 45, 3) := by decide +kernel
theorem dX9_say_14 : decode cX9_say 14 = .ok (.aload_n 0, 1) := by decide +kernel
theorem dX9_say_15 : decode cX9_say 15 = .ok (.getfield 139, 3) := by decide +kernel
theorem dX9_say_18 : decode cX9_say 18 = .ok (.iload_n 2, 1) := by decide +kernel
theorem dX9_say_19 : decode cX9_say 19 = .ok (.iastore, 1) := by decide +kernel
theorem dX9_say_20 : decode cX9_say 20 = .ok (.aload_n 0, 1) := by decide +kernel
theorem dX9_say_21 : decode cX9_say 21 = .ok (.dup, 1) := by decide +kernel
theorem dX9_say_22 : decode cX9_say 22 = .ok (.getfield 139, 3) := by decide +kernel
theorem dX9_say_25 : decode cX9_say 25 = .ok (.iconst 1, 1) := by decide +kernel
theorem dX9_say_26 : decode cX9_say 26 = .ok (.iadd, 1) := by decide +kernel
theorem dX9_say_27 : decode cX9_say 27 = .ok (.putfield 139, 3) := by decide +kernel
theorem dX9_say_30 : decode cX9_say 30 = .ok (.return_, 1) := by decide +kernel
theorem dX9_take_0 : decode cX9_take 0 = .ok (.aload_n 0, 1) := by decide +kernel
theorem dX9_take_1 : decode cX9_take 1 = .ok (.iconst 0, 1) := by decide +kernel
theorem dX9_take_2 : decode cX9_take 2 = .ok (.putfield 142, 3) := by decide +kernel
theorem dX9_take_5 : decode cX9_take 5 = .ok (.iconst 0, 1) := by decide +kernel
theorem dX9_take_6 : decode cX9_take 6 = .ok (.istore 4, 2) := by decide +kernel
theorem dX9_take_8 : decode cX9_take 8 = .ok (.iload 4, 2) := by decide +kernel
theorem dX9_take_10 : decode cX9_take 10 = .ok (.aload_n 0, 1) := by decide +kernel
theorem dX9_take_11 : decode cX9_take 11 = .ok (.getfield 93, 3) := by decide +kernel
theorem dX9_take_14 : decode cX9_take 14 = .ok (.if_icmp .ge 59, 3) := by decide +kernel
theorem dX9_take_17 : decode cX9_take 17 = .ok (.aload_n 1, 1) := by decide +kernel
theorem dX9_take_18 : decode cX9_take 18 = .ok (.bipush 48, 2) := by decide +kernel
theorem dX9_take_20 : decode cX9_take 20 = .ok (.iload_n 2, 1) := by decide +kernel
theorem dX9_take_21 : decode cX9_take 21 = .ok (.imul, 1) := by decide +kernel
theorem dX9_take_22 : decode cX9_take 22 = .ok (.iload 4, 2) := by decide +kernel
theorem dX9_take_24 : decode cX9_take 24 = .ok (.iadd, 1) := by decide +kernel
theorem dX9_take_25 : decode cX9_take 25 = .ok (.baload, 1) := by decide +kernel
theorem dX9_take_26 : decode cX9_take 26 = .ok (.ifCond .eq 41, 3) := by decide +kernel
theorem dX9_take_29 : decode cX9_take 29 = .ok (.iload_n 3, 1) := by decide +kernel
theorem dX9_take_30 : decode cX9_take 30 = .ok (.iload_n 2, 1) := by decide +kernel
theorem dX9_take_31 : decode cX9_take 31 = .ok (.if_icmp .eq 15, 3) := by decide +kernel
theorem dX9_take_34 : decode cX9_take 34 = .ok (.aload_n 1, 1) := by decide +kernel
theorem dX9_take_35 : decode cX9_take 35 = .ok (.bipush 48, 2) := by decide +kernel
theorem dX9_take_37 : decode cX9_take 37 = .ok (.iload_n 3, 1) := by decide +kernel
theorem dX9_take_38 : decode cX9_take 38 = .ok (.imul, 1) := by decide +kernel
theorem dX9_take_39 : decode cX9_take 39 = .ok (.iload 4, 2) := by decide +kernel
theorem dX9_take_41 : decode cX9_take 41 = .ok (.iadd, 1) := by decide +kernel
theorem dX9_take_42 : decode cX9_take 42 = .ok (.baload, 1) := by decide +kernel
theorem dX9_take_43 : decode cX9_take 43 = .ok (.ifCond .ne 24, 3) := by decide +kernel
theorem dX9_take_46 : decode cX9_take 46 = .ok (.aload_n 0, 1) := by decide +kernel
theorem dX9_take_47 : decode cX9_take 47 = .ok (.getfield 48, 3) := by decide +kernel
theorem dX9_take_50 : decode cX9_take 50 = .ok (.aload_n 0, 1) := by decide +kernel
theorem dX9_take_51 : decode cX9_take 51 = .ok (.getfield 142, 3) := by decide +kernel
theorem dX9_take_54 : decode cX9_take 54 = .ok (.iload 4, 2) := by decide +kernel
theorem dX9_take_56 : decode cX9_take 56 = .ok (.iastore, 1) := by decide +kernel
theorem dX9_take_57 : decode cX9_take 57 = .ok (.aload_n 0, 1) := by decide +kernel
theorem dX9_take_58 : decode cX9_take 58 = .ok (.dup, 1) := by decide +kernel
theorem dX9_take_59 : decode cX9_take 59 = .ok (.getfield 142, 3) := by decide +kernel
theorem dX9_take_62 : decode cX9_take 62 = .ok (.iconst 1, 1) := by decide +kernel
theorem dX9_take_63 : decode cX9_take 63 = .ok (.iadd, 1) := by decide +kernel
theorem dX9_take_64 : decode cX9_take 64 = .ok (.putfield 142, 3) := by decide +kernel
theorem dX9_take_67 : decode cX9_take 67 = .ok (.iinc 4 1, 3) := by decide +kernel
theorem dX9_take_70 : decode cX9_take 70 = .ok (.goto (-62), 3) := by decide +kernel
theorem dX9_take_73 : decode cX9_take 73 = .ok (.return_, 1) := by decide +kernel
theorem dX9_tellPlain_0 : decode cX9_tellPlain 0 = .ok (.aload_n 0, 1) := by decide +kernel
theorem dX9_tellPlain_1 : decode cX9_tellPlain 1 = .ok (.iconst 1, 1) := by decide +kernel
theorem dX9_tellPlain_2 : decode cX9_tellPlain 2 = .ok (.aload_n 0, 1) := by decide +kernel
theorem dX9_tellPlain_3 : decode cX9_tellPlain 3 = .ok (.getfield 142, 3) := by decide +kernel
theorem dX9_tellPlain_6 : decode cX9_tellPlain 6 = .ok (.invokevirtual 145, 3) := by decide +kernel
theorem dX9_tellPlain_9 : decode cX9_tellPlain 9 = .ok (.iconst 0, 1) := by decide +kernel
theorem dX9_tellPlain_10 : decode cX9_tellPlain 10 = .ok (.istore_n 2, 1) := by decide +kernel
theorem dX9_tellPlain_11 : decode cX9_tellPlain 11 = .ok (.iload_n 2, 1) := by decide +kernel
theorem dX9_tellPlain_12 : decode cX9_tellPlain 12 = .ok (.aload_n 0, 1) := by decide +kernel
theorem dX9_tellPlain_13 : decode cX9_tellPlain 13 = .ok (.getfield 142, 3) := by decide +kernel
theorem dX9_tellPlain_16 : decode cX9_tellPlain 16 = .ok (.if_icmp .ge 54, 3) := by decide +kernel
theorem dX9_tellPlain_19 : decode cX9_tellPlain 19 = .ok (.iload_n 2, 1) := by decide +kernel
theorem dX9_tellPlain_20 : decode cX9_tellPlain 20 = .ok (.ifCond .ne 22, 3) := by decide +kernel
theorem dX9_tellPlain_23 : decode cX9_tellPlain 23 = .ok (.aload_n 0, 1) := by decide +kernel
theorem dX9_tellPlain_24 : decode cX9_tellPlain 24 = .ok (.iconst 2, 1) := by decide +kernel
theorem dX9_tellPlain_25 : decode cX9_tellPlain 25 = .ok (.aload_n 0, 1) := by decide +kernel
theorem dX9_tellPlain_26 : decode cX9_tellPlain 26 = .ok (.getfield 48, 3) := by decide +kernel
theorem dX9_tellPlain_29 : decode cX9_tellPlain 29 = .ok (.iconst 0, 1) := by decide +kernel
theorem dX9_tellPlain_30 : decode cX9_tellPlain 30 = .ok (.iaload, 1) := by decide +kernel
theorem dX9_tellPlain_31 : decode cX9_tellPlain 31 = .ok (.iload_n 1, 1) := by decide +kernel
theorem dX9_tellPlain_32 : decode cX9_tellPlain 32 = .ok (.isub, 1) := by decide +kernel
theorem dX9_tellPlain_33 : decode cX9_tellPlain 33 = .ok (.invokestatic 148, 3) := by decide +kernel
theorem dX9_tellPlain_36 : decode cX9_tellPlain 36 = .ok (.invokevirtual 145, 3) := by decide +kernel
theorem dX9_tellPlain_39 : decode cX9_tellPlain 39 = .ok (.goto 25, 3) := by decide +kernel
theorem dX9_tellPlain_42 : decode cX9_tellPlain 42 = .ok (.aload_n 0, 1) := by decide +kernel
theorem dX9_tellPlain_43 : decode cX9_tellPlain 43 = .ok (.iconst 3, 1) := by decide +kernel
theorem dX9_tellPlain_44 : decode cX9_tellPlain 44 = .ok (.aload_n 0, 1) := by decide +kernel
theorem dX9_tellPlain_45 : decode cX9_tellPlain 45 = .ok (.getfield 48, 3) := by decide +kernel
theorem dX9_tellPlain_48 : decode cX9_tellPlain 48 = .ok (.iload_n 2, 1) := by decide +kernel
theorem dX9_tellPlain_49 : decode cX9_tellPlain 49 = .ok (.iaload, 1) := by decide +kernel
theorem dX9_tellPlain_50 : decode cX9_tellPlain 50 = .ok (.aload_n 0, 1) := by decide +kernel
theorem dX9_tellPlain_51 : decode cX9_tellPlain 51 = .ok (.getfield 48, 3) := by decide +kernel
theorem dX9_tellPlain_54 : decode cX9_tellPlain 54 = .ok (.iload_n 2, 1) := by decide +kernel
theorem dX9_tellPlain_55 : decode cX9_tellPlain 55 = .ok (.iconst 1, 1) := by decide +kernel
theorem dX9_tellPlain_56 : decode cX9_tellPlain 56 = .ok (.isub, 1) := by decide +kernel
theorem dX9_tellPlain_57 : decode cX9_tellPlain 57 = .ok (.iaload, 1) := by decide +kernel
theorem dX9_tellPlain_58 : decode cX9_tellPlain 58 = .ok (.isub, 1) := by decide +kernel
theorem dX9_tellPlain_59 : decode cX9_tellPlain 59 = .ok (.iconst 1, 1) := by decide +kernel
theorem dX9_tellPlain_60 : decode cX9_tellPlain 60 = .ok (.isub, 1) := by decide +kernel
theorem dX9_tellPlain_61 : decode cX9_tellPlain 61 = .ok (.invokevirtual 145, 3) := by decide +kernel
theorem dX9_tellPlain_64 : decode cX9_tellPlain 64 = .ok (.iinc 2 1, 3) := by decide +kernel
theorem dX9_tellPlain_67 : decode cX9_tellPlain 67 = .ok (.goto (-56), 3) := by decide +kernel
theorem dX9_tellPlain_70 : decode cX9_tellPlain 70 = .ok (.return_, 1) := by decide +kernel
theorem dX9_runEnd_0 : decode cX9_runEnd 0 = .ok (.iload_n 1, 1) := by decide +kernel
theorem dX9_runEnd_1 : decode cX9_runEnd 1 = .ok (.iconst 1, 1) := by decide +kernel
theorem dX9_runEnd_2 : decode cX9_runEnd 2 = .ok (.iadd, 1) := by decide +kernel
theorem dX9_runEnd_3 : decode cX9_runEnd 3 = .ok (.istore_n 2, 1) := by decide +kernel
theorem dX9_runEnd_4 : decode cX9_runEnd 4 = .ok (.iload_n 2, 1) := by decide +kernel
theorem dX9_runEnd_5 : decode cX9_runEnd 5 = .ok (.aload_n 0, 1) := by decide +kernel
theorem dX9_runEnd_6 : decode cX9_runEnd 6 = .ok (.getfield 142, 3) := by decide +kernel
theorem dX9_runEnd_9 : decode cX9_runEnd 9 = .ok (.if_icmp .ge 28, 3) := by decide +kernel
theorem dX9_runEnd_12 : decode cX9_runEnd 12 = .ok (.aload_n 0, 1) := by decide +kernel
theorem dX9_runEnd_13 : decode cX9_runEnd 13 = .ok (.getfield 48, 3) := by decide +kernel
theorem dX9_runEnd_16 : decode cX9_runEnd 16 = .ok (.iload_n 2, 1) := by decide +kernel
theorem dX9_runEnd_17 : decode cX9_runEnd 17 = .ok (.iaload, 1) := by decide +kernel
theorem dX9_runEnd_18 : decode cX9_runEnd 18 = .ok (.aload_n 0, 1) := by decide +kernel
theorem dX9_runEnd_19 : decode cX9_runEnd 19 = .ok (.getfield 48, 3) := by decide +kernel
theorem dX9_runEnd_22 : decode cX9_runEnd 22 = .ok (.iload_n 2, 1) := by decide +kernel
theorem dX9_runEnd_23 : decode cX9_runEnd 23 = .ok (.iconst 1, 1) := by decide +kernel
theorem dX9_runEnd_24 : decode cX9_runEnd 24 = .ok (.isub, 1) := by decide +kernel
theorem dX9_runEnd_25 : decode cX9_runEnd 25 = .ok (.iaload, 1) := by decide +kernel
theorem dX9_runEnd_26 : decode cX9_runEnd 26 = .ok (.iconst 1, 1) := by decide +kernel
theorem dX9_runEnd_27 : decode cX9_runEnd 27 = .ok (.iadd, 1) := by decide +kernel
theorem dX9_runEnd_28 : decode cX9_runEnd 28 = .ok (.if_icmp .ne 9, 3) := by decide +kernel
theorem dX9_runEnd_31 : decode cX9_runEnd 31 = .ok (.iinc 2 1, 3) := by decide +kernel
theorem dX9_runEnd_34 : decode cX9_runEnd 34 = .ok (.goto (-30), 3) := by decide +kernel
theorem dX9_runEnd_37 : decode cX9_runEnd 37 = .ok (.iload_n 2, 1) := by decide +kernel
theorem dX9_runEnd_38 : decode cX9_runEnd 38 = .ok (.ireturn, 1) := by decide +kernel
theorem dX9_tellSpans_0 : decode cX9_tellSpans 0 = .ok (.iconst 0, 1) := by decide +kernel
theorem dX9_tellSpans_1 : decode cX9_tellSpans 1 = .ok (.istore_n 2, 1) := by decide +kernel
theorem dX9_tellSpans_2 : decode cX9_tellSpans 2 = .ok (.iconst 0, 1) := by decide +kernel
theorem dX9_tellSpans_3 : decode cX9_tellSpans 3 = .ok (.istore_n 3, 1) := by decide +kernel
theorem dX9_tellSpans_4 : decode cX9_tellSpans 4 = .ok (.iload_n 3, 1) := by decide +kernel
theorem dX9_tellSpans_5 : decode cX9_tellSpans 5 = .ok (.aload_n 0, 1) := by decide +kernel
theorem dX9_tellSpans_6 : decode cX9_tellSpans 6 = .ok (.getfield 142, 3) := by decide +kernel
theorem dX9_tellSpans_9 : decode cX9_tellSpans 9 = .ok (.if_icmp .ge 31, 3) := by decide +kernel
theorem dX9_tellSpans_12 : decode cX9_tellSpans 12 = .ok (.iload_n 2, 1) := by decide +kernel
theorem dX9_tellSpans_13 : decode cX9_tellSpans 13 = .ok (.aload_n 0, 1) := by decide +kernel
theorem dX9_tellSpans_14 : decode cX9_tellSpans 14 = .ok (.iload_n 3, 1) := by decide +kernel
theorem dX9_tellSpans_15 : decode cX9_tellSpans 15 = .ok (.invokevirtual 151, 3) := by decide +kernel
theorem dX9_tellSpans_18 : decode cX9_tellSpans 18 = .ok (.iload_n 3, 1) := by decide +kernel
theorem dX9_tellSpans_19 : decode cX9_tellSpans 19 = .ok (.isub, 1) := by decide +kernel
theorem dX9_tellSpans_20 : decode cX9_tellSpans 20 = .ok (.iconst 3, 1) := by decide +kernel
theorem dX9_tellSpans_21 : decode cX9_tellSpans 21 = .ok (.if_icmp .lt 7, 3) := by decide +kernel
theorem dX9_tellSpans_24 : decode cX9_tellSpans 24 = .ok (.iconst 1, 1) := by decide +kernel
theorem dX9_tellSpans_25 : decode cX9_tellSpans 25 = .ok (.goto 4, 3) := by decide +kernel
theorem dX9_tellSpans_28 : decode cX9_tellSpans 28 = .ok (.iconst 0, 1) := by decide +kernel
theorem dX9_tellSpans_29 : decode cX9_tellSpans 29 = .ok (.iadd, 1) := by decide +kernel
theorem dX9_tellSpans_30 : decode cX9_tellSpans 30 = .ok (.istore_n 2, 1) := by decide +kernel
theorem dX9_tellSpans_31 : decode cX9_tellSpans 31 = .ok (.aload_n 0, 1) := by decide +kernel
theorem dX9_tellSpans_32 : decode cX9_tellSpans 32 = .ok (.iload_n 3, 1) := by decide +kernel
theorem dX9_tellSpans_33 : decode cX9_tellSpans 33 = .ok (.invokevirtual 151, 3) := by decide +kernel
theorem dX9_tellSpans_36 : decode cX9_tellSpans 36 = .ok (.istore_n 3, 1) := by decide +kernel
theorem dX9_tellSpans_37 : decode cX9_tellSpans 37 = .ok (.goto (-33), 3) := by decide +kernel
theorem dX9_tellSpans_40 : decode cX9_tellSpans 40 = .ok (.aload_n 0, 1) := by decide +kernel
theorem dX9_tellSpans_41 : decode cX9_tellSpans 41 = .ok (.iconst 1, 1) := by decide +kernel
theorem dX9_tellSpans_42 : decode cX9_tellSpans 42 = .ok (.iload_n 2, 1) := by decide +kernel
theorem dX9_tellSpans_43 : decode cX9_tellSpans 43 = .ok (.invokevirtual 145, 3) := by decide +kernel
theorem dX9_tellSpans_46 : decode cX9_tellSpans 46 = .ok (.iconst (-1), 1) := by decide +kernel
theorem dX9_tellSpans_47 : decode cX9_tellSpans 47 = .ok (.istore_n 3, 1) := by decide +kernel
theorem dX9_tellSpans_48 : decode cX9_tellSpans 48 = .ok (.iconst 0, 1) := by decide +kernel
theorem dX9_tellSpans_49 : decode cX9_tellSpans 49 = .ok (.istore 4, 2) := by decide +kernel
theorem dX9_tellSpans_51 : decode cX9_tellSpans 51 = .ok (.iconst 0, 1) := by decide +kernel
theorem dX9_tellSpans_52 : decode cX9_tellSpans 52 = .ok (.istore 5, 2) := by decide +kernel
theorem dX9_tellSpans_54 : decode cX9_tellSpans 54 = .ok (.iload 5, 2) := by decide +kernel
theorem dX9_tellSpans_56 : decode cX9_tellSpans 56 = .ok (.aload_n 0, 1) := by decide +kernel
theorem dX9_tellSpans_57 : decode cX9_tellSpans 57 = .ok (.getfield 142, 3) := by decide +kernel
theorem dX9_tellSpans_60 : decode cX9_tellSpans 60 = .ok (.if_icmp .ge 128, 3) := by decide +kernel
theorem dX9_tellSpans_63 : decode cX9_tellSpans 63 = .ok (.aload_n 0, 1) := by decide +kernel
theorem dX9_tellSpans_64 : decode cX9_tellSpans 64 = .ok (.iload 5, 2) := by decide +kernel
theorem dX9_tellSpans_66 : decode cX9_tellSpans 66 = .ok (.invokevirtual 151, 3) := by decide +kernel
theorem dX9_tellSpans_69 : decode cX9_tellSpans 69 = .ok (.istore 6, 2) := by decide +kernel
theorem dX9_tellSpans_71 : decode cX9_tellSpans 71 = .ok (.iload 6, 2) := by decide +kernel
theorem dX9_tellSpans_73 : decode cX9_tellSpans 73 = .ok (.iload 5, 2) := by decide +kernel
theorem dX9_tellSpans_75 : decode cX9_tellSpans 75 = .ok (.isub, 1) := by decide +kernel
theorem dX9_tellSpans_76 : decode cX9_tellSpans 76 = .ok (.iconst 3, 1) := by decide +kernel
theorem dX9_tellSpans_77 : decode cX9_tellSpans 77 = .ok (.if_icmp .lt 78, 3) := by decide +kernel
theorem dX9_tellSpans_80 : decode cX9_tellSpans 80 = .ok (.aload_n 0, 1) := by decide +kernel
theorem dX9_tellSpans_81 : decode cX9_tellSpans 81 = .ok (.getfield 48, 3) := by decide +kernel
theorem dX9_tellSpans_84 : decode cX9_tellSpans 84 = .ok (.iload 5, 2) := by decide +kernel
theorem dX9_tellSpans_86 : decode cX9_tellSpans 86 = .ok (.iaload, 1) := by decide +kernel
theorem dX9_tellSpans_87 : decode cX9_tellSpans 87 = .ok (.istore 7, 2) := by decide +kernel
theorem dX9_tellSpans_89 : decode cX9_tellSpans 89 = .ok (.aload_n 0, 1) := by decide +kernel
theorem dX9_tellSpans_90 : decode cX9_tellSpans 90 = .ok (.getfield 48, 3) := by decide +kernel
theorem dX9_tellSpans_93 : decode cX9_tellSpans 93 = .ok (.iload 6, 2) := by decide +kernel
theorem dX9_tellSpans_95 : decode cX9_tellSpans 95 = .ok (.iconst 1, 1) := by decide +kernel
theorem dX9_tellSpans_96 : decode cX9_tellSpans 96 = .ok (.isub, 1) := by decide +kernel
theorem dX9_tellSpans_97 : decode cX9_tellSpans 97 = .ok (.iaload, 1) := by decide +kernel
theorem dX9_tellSpans_98 : decode cX9_tellSpans 98 = .ok (.istore 8, 2) := by decide +kernel
theorem dX9_tellSpans_100 : decode cX9_tellSpans 100 = .ok (.iload_n 3, 1) := by decide +kernel
theorem dX9_tellSpans_101 : decode cX9_tellSpans 101 = .ok (.iconst (-1), 1) := by decide +kernel
theorem dX9_tellSpans_102 : decode cX9_tellSpans 102 = .ok (.if_icmp .ne 19, 3) := by decide +kernel
theorem dX9_tellSpans_105 : decode cX9_tellSpans 105 = .ok (.aload_n 0, 1) := by decide +kernel
theorem dX9_tellSpans_106 : decode cX9_tellSpans 106 = .ok (.bipush 6, 2) := by decide +kernel
theorem dX9_tellSpans_108 : decode cX9_tellSpans 108 = .ok (.iload 7, 2) := by decide +kernel
theorem dX9_tellSpans_110 : decode cX9_tellSpans 110 = .ok (.iload_n 1, 1) := by decide +kernel
theorem dX9_tellSpans_111 : decode cX9_tellSpans 111 = .ok (.isub, 1) := by decide +kernel
theorem dX9_tellSpans_112 : decode cX9_tellSpans 112 = .ok (.invokestatic 148, 3) := by decide +kernel
theorem dX9_tellSpans_115 : decode cX9_tellSpans 115 = .ok (.invokevirtual 145, 3) := by decide +kernel
theorem dX9_tellSpans_118 : decode cX9_tellSpans 118 = .ok (.goto 14, 3) := by decide +kernel
theorem dX9_tellSpans_121 : decode cX9_tellSpans 121 = .ok (.aload_n 0, 1) := by decide +kernel
theorem dX9_tellSpans_122 : decode cX9_tellSpans 122 = .ok (.iconst 3, 1) := by decide +kernel
theorem dX9_tellSpans_123 : decode cX9_tellSpans 123 = .ok (.iload 7, 2) := by decide +kernel
theorem dX9_tellSpans_125 : decode cX9_tellSpans 125 = .ok (.iload_n 3, 1) := by decide +kernel
theorem dX9_tellSpans_126 : decode cX9_tellSpans 126 = .ok (.isub, 1) := by decide +kernel
theorem dX9_tellSpans_127 : decode cX9_tellSpans 127 = .ok (.iconst 2, 1) := by decide +kernel
theorem dX9_tellSpans_128 : decode cX9_tellSpans 128 = .ok (.isub, 1) := by decide +kernel
theorem dX9_tellSpans_129 : decode cX9_tellSpans 129 = .ok (.invokevirtual 145, 3) := by decide +kernel
theorem dX9_tellSpans_132 : decode cX9_tellSpans 132 = .ok (.aload_n 0, 1) := by decide +kernel
theorem dX9_tellSpans_133 : decode cX9_tellSpans 133 = .ok (.bipush 7, 2) := by decide +kernel
theorem dX9_tellSpans_135 : decode cX9_tellSpans 135 = .ok (.iload 6, 2) := by decide +kernel
theorem dX9_tellSpans_137 : decode cX9_tellSpans 137 = .ok (.iload 5, 2) := by decide +kernel
theorem dX9_tellSpans_139 : decode cX9_tellSpans 139 = .ok (.isub, 1) := by decide +kernel
theorem dX9_tellSpans_140 : decode cX9_tellSpans 140 = .ok (.iconst 3, 1) := by decide +kernel
theorem dX9_tellSpans_141 : decode cX9_tellSpans 141 = .ok (.isub, 1) := by decide +kernel
theorem dX9_tellSpans_142 : decode cX9_tellSpans 142 = .ok (.invokevirtual 145, 3) := by decide +kernel
theorem dX9_tellSpans_145 : decode cX9_tellSpans 145 = .ok (.iload 8, 2) := by decide +kernel
theorem dX9_tellSpans_147 : decode cX9_tellSpans 147 = .ok (.istore_n 3, 1) := by decide +kernel
theorem dX9_tellSpans_148 : decode cX9_tellSpans 148 = .ok (.iload 6, 2) := by decide +kernel
theorem dX9_tellSpans_150 : decode cX9_tellSpans 150 = .ok (.istore 5, 2) := by decide +kernel
theorem dX9_tellSpans_152 : decode cX9_tellSpans 152 = .ok (.goto 33, 3) := by decide +kernel
theorem dX9_tellSpans_155 : decode cX9_tellSpans 155 = .ok (.iload 5, 2) := by decide +kernel
theorem dX9_tellSpans_157 : decode cX9_tellSpans 157 = .ok (.iload 6, 2) := by decide +kernel
theorem dX9_tellSpans_159 : decode cX9_tellSpans 159 = .ok (.if_icmp .ge 26, 3) := by decide +kernel
theorem dX9_tellSpans_162 : decode cX9_tellSpans 162 = .ok (.aload_n 0, 1) := by decide +kernel
theorem dX9_tellSpans_163 : decode cX9_tellSpans 163 = .ok (.getfield 51, 3) := by decide +kernel
theorem dX9_tellSpans_166 : decode cX9_tellSpans 166 = .ok (.iload 4, 2) := by decide +kernel
theorem dX9_tellSpans_168 : decode cX9_tellSpans 168 = .ok (.aload_n 0, 1) := by decide +kernel
theorem dX9_tellSpans_169 : decode cX9_tellSpans 169 = .ok (.getfield 48, 3) := by decide +kernel
theorem dX9_tellSpans_172 : decode cX9_tellSpans 172 = .ok (.iload 5, 2) := by decide +kernel
theorem dX9_tellSpans_174 : decode cX9_tellSpans 174 = .ok (.iaload, 1) := by decide +kernel
theorem dX9_tellSpans_175 : decode cX9_tellSpans 175 = .ok (.iastore, 1) := by decide +kernel
theorem dX9_tellSpans_176 : decode cX9_tellSpans 176 = .ok (.iinc 4 1, 3) := by decide +kernel
theorem dX9_tellSpans_179 : decode cX9_tellSpans 179 = .ok (.iinc 5 1, 3) := by decide +kernel
theorem dX9_tellSpans_182 : decode cX9_tellSpans 182 = .ok (.goto (-27), 3) := by decide +kernel
theorem dX9_tellSpans_185 : decode cX9_tellSpans 185 = .ok (.goto (-131), 3) := by decide +kernel
theorem dX9_tellSpans_188 : decode cX9_tellSpans 188 = .ok (.iconst 0, 1) := by decide +kernel
theorem dX9_tellSpans_189 : decode cX9_tellSpans 189 = .ok (.istore 6, 2) := by decide +kernel
theorem dX9_tellSpans_191 : decode cX9_tellSpans 191 = .ok (.iload 6, 2) := by decide +kernel
theorem dX9_tellSpans_193 : decode cX9_tellSpans 193 = .ok (.iload 4, 2) := by decide +kernel
theorem dX9_tellSpans_195 : decode cX9_tellSpans 195 = .ok (.if_icmp .ge 23, 3) := by decide +kernel
theorem dX9_tellSpans_198 : decode cX9_tellSpans 198 = .ok (.aload_n 0, 1) := by decide +kernel
theorem dX9_tellSpans_199 : decode cX9_tellSpans 199 = .ok (.getfield 48, 3) := by decide +kernel
theorem dX9_tellSpans_202 : decode cX9_tellSpans 202 = .ok (.iload 6, 2) := by decide +kernel
theorem dX9_tellSpans_204 : decode cX9_tellSpans 204 = .ok (.aload_n 0, 1) := by decide +kernel
theorem dX9_tellSpans_205 : decode cX9_tellSpans 205 = .ok (.getfield 51, 3) := by decide +kernel
theorem dX9_tellSpans_208 : decode cX9_tellSpans 208 = .ok (.iload 6, 2) := by decide +kernel
theorem dX9_tellSpans_210 : decode cX9_tellSpans 210 = .ok (.iaload, 1) := by decide +kernel
theorem dX9_tellSpans_211 : decode cX9_tellSpans 211 = .ok (.iastore, 1) := by decide +kernel
theorem dX9_tellSpans_212 : decode cX9_tellSpans 212 = .ok (.iinc 6 1, 3) := by decide +kernel
theorem dX9_tellSpans_215 : decode cX9_tellSpans 215 = .ok (.goto (-24), 3) := by decide +kernel
theorem dX9_tellSpans_218 : decode cX9_tellSpans 218 = .ok (.aload_n 0, 1) := by decide +kernel
theorem dX9_tellSpans_219 : decode cX9_tellSpans 219 = .ok (.iload 4, 2) := by decide +kernel
theorem dX9_tellSpans_221 : decode cX9_tellSpans 221 = .ok (.putfield 142, 3) := by decide +kernel
theorem dX9_tellSpans_224 : decode cX9_tellSpans 224 = .ok (.aload_n 0, 1) := by decide +kernel
theorem dX9_tellSpans_225 : decode cX9_tellSpans 225 = .ok (.iload_n 1, 1) := by decide +kernel
theorem dX9_tellSpans_226 : decode cX9_tellSpans 226 = .ok (.invokevirtual 154, 3) := by decide +kernel
theorem dX9_tellSpans_229 : decode cX9_tellSpans 229 = .ok (.return_, 1) := by decide +kernel
theorem dX9_tellCopied_0 : decode cX9_tellCopied 0 = .ok (.iconst 1, 1) := by decide +kernel
theorem dX9_tellCopied_1 : decode cX9_tellCopied 1 = .ok (.istore 4, 2) := by decide +kernel
theorem dX9_tellCopied_3 : decode cX9_tellCopied 3 = .ok (.aload_n 0, 1) := by decide +kernel
theorem dX9_tellCopied_4 : decode cX9_tellCopied 4 = .ok (.getfield 54, 3) := by decide +kernel
theorem dX9_tellCopied_7 : decode cX9_tellCopied 7 = .ok (.iconst 0, 1) := by decide +kernel
theorem dX9_tellCopied_8 : decode cX9_tellCopied 8 = .ok (.iconst 0, 1) := by decide +kernel
theorem dX9_tellCopied_9 : decode cX9_tellCopied 9 = .ok (.iastore, 1) := by decide +kernel
theorem dX9_tellCopied_10 : decode cX9_tellCopied 10 = .ok (.iconst 1, 1) := by decide +kernel
theorem dX9_tellCopied_11 : decode cX9_tellCopied 11 = .ok (.istore 5, 2) := by decide +kernel
theorem dX9_tellCopied_13 : decode cX9_tellCopied 13 = .ok (.iconst 0, 1) := by decide +kernel
theorem dX9_tellCopied_14 : decode cX9_tellCopied 14 = .ok (.istore 6, 2) := by decide +kernel
theorem dX9_tellCopied_16 : decode cX9_tellCopied 16 = .ok (.iload 6, 2) := by decide +kernel
theorem dX9_tellCopied_18 : decode cX9_tellCopied 18 = .ok (.aload_n 0, 1) := by decide +kernel
theorem dX9_tellCopied_19 : decode cX9_tellCopied 19 = .ok (.getfield 93, 3) := by decide +kernel
theorem dX9_tellCopied_22 : decode cX9_tellCopied 22 = .ok (.if_icmp .ge 71, 3) := by decide +kernel
theorem dX9_tellCopied_25 : decode cX9_tellCopied 25 = .ok (.aload_n 1, 1) := by decide +kernel
theorem dX9_tellCopied_26 : decode cX9_tellCopied 26 = .ok (.bipush 48, 2) := by decide +kernel
theorem dX9_tellCopied_28 : decode cX9_tellCopied 28 = .ok (.iload_n 3, 1) := by decide +kernel
theorem dX9_tellCopied_29 : decode cX9_tellCopied 29 = .ok (.imul, 1) := by decide +kernel
theorem dX9_tellCopied_30 : decode cX9_tellCopied 30 = .ok (.iload 6, 2) := by decide +kernel
theorem dX9_tellCopied_32 : decode cX9_tellCopied 32 = .ok (.iadd, 1) := by decide +kernel
theorem dX9_tellCopied_33 : decode cX9_tellCopied 33 = .ok (.baload, 1) := by decide +kernel
theorem dX9_tellCopied_34 : decode cX9_tellCopied 34 = .ok (.ifCond .eq 53, 3) := by decide +kernel
theorem dX9_tellCopied_37 : decode cX9_tellCopied 37 = .ok (.aload_n 1, 1) := by decide +kernel
theorem dX9_tellCopied_38 : decode cX9_tellCopied 38 = .ok (.bipush 48, 2) := by decide +kernel
theorem dX9_tellCopied_40 : decode cX9_tellCopied 40 = .ok (.iload_n 2, 1) := by decide +kernel
theorem dX9_tellCopied_41 : decode cX9_tellCopied 41 = .ok (.imul, 1) := by decide +kernel
theorem dX9_tellCopied_42 : decode cX9_tellCopied 42 = .ok (.iload 6, 2) := by decide +kernel
theorem dX9_tellCopied_44 : decode cX9_tellCopied 44 = .ok (.iadd, 1) := by decide +kernel
theorem dX9_tellCopied_45 : decode cX9_tellCopied 45 = .ok (.baload, 1) := by decide +kernel
theorem dX9_tellCopied_46 : decode cX9_tellCopied 46 = .ok (.iload 5, 2) := by decide +kernel
theorem dX9_tellCopied_48 : decode cX9_tellCopied 48 = .ok (.if_icmp .eq 26, 3) := by decide +kernel
theorem dX9_tellCopied_51 : decode cX9_tellCopied 51 = .ok (.iload 5, 2) := by decide +kernel
theorem dX9_tellCopied_53 : decode cX9_tellCopied 53 = .ok (.ifCond .ne 7, 3) := by decide +kernel
theorem dX9_tellCopied_56 : decode cX9_tellCopied 56 = .ok (.iconst 1, 1) := by decide +kernel
theorem dX9_tellCopied_57 : decode cX9_tellCopied 57 = .ok (.goto 4, 3) := by decide +kernel
theorem dX9_tellCopied_60 : decode cX9_tellCopied 60 = .ok (.iconst 0, 1) := by decide +kernel
theorem dX9_tellCopied_61 : decode cX9_tellCopied 61 = .ok (.istore 5, 2) := by decide +kernel
theorem dX9_tellCopied_63 : decode cX9_tellCopied 63 = .ok (.aload_n 0, 1) := by decide +kernel
theorem dX9_tellCopied_64 : decode cX9_tellCopied 64 = .ok (.getfield 54, 3) := by decide +kernel
theorem dX9_tellCopied_67 : decode cX9_tellCopied 67 = .ok (.iload 4, 2) := by decide +kernel
theorem dX9_tellCopied_69 : decode cX9_tellCopied 69 = .ok (.iconst 0, 1) := by decide +kernel
theorem dX9_tellCopied_70 : decode cX9_tellCopied 70 = .ok (.iastore, 1) := by decide +kernel
theorem dX9_tellCopied_71 : decode cX9_tellCopied 71 = .ok (.iinc 4 1, 3) := by decide +kernel
theorem dX9_tellCopied_74 : decode cX9_tellCopied 74 = .ok (.aload_n 0, 1) := by decide +kernel
theorem dX9_tellCopied_75 : decode cX9_tellCopied 75 = .ok (.getfield 54, 3) := by decide +kernel
theorem dX9_tellCopied_78 : decode cX9_tellCopied 78 = .ok (.iload 4, 2) := by decide +kernel
theorem dX9_tellCopied_80 : decode cX9_tellCopied 80 = .ok (.iconst 1, 1) := by decide +kernel
theorem dX9_tellCopied_81 : decode cX9_tellCopied 81 = .ok (.isub, 1) := by decide +kernel
theorem dX9_tellCopied_82 : decode cX9_tellCopied 82 = .ok (.dup2, 1) := by decide +kernel
theorem dX9_tellCopied_83 : decode cX9_tellCopied 83 = .ok (.iaload, 1) := by decide +kernel
theorem dX9_tellCopied_84 : decode cX9_tellCopied 84 = .ok (.iconst 1, 1) := by decide +kernel
theorem dX9_tellCopied_85 : decode cX9_tellCopied 85 = .ok (.iadd, 1) := by decide +kernel
theorem dX9_tellCopied_86 : decode cX9_tellCopied 86 = .ok (.iastore, 1) := by decide +kernel
theorem dX9_tellCopied_87 : decode cX9_tellCopied 87 = .ok (.iinc 6 1, 3) := by decide +kernel
theorem dX9_tellCopied_90 : decode cX9_tellCopied 90 = .ok (.goto (-74), 3) := by decide +kernel
theorem dX9_tellCopied_93 : decode cX9_tellCopied 93 = .ok (.aload_n 0, 1) := by decide +kernel
theorem dX9_tellCopied_94 : decode cX9_tellCopied 94 = .ok (.iconst 4, 1) := by decide +kernel
theorem dX9_tellCopied_95 : decode cX9_tellCopied 95 = .ok (.iload_n 2, 1) := by decide +kernel
theorem dX9_tellCopied_96 : decode cX9_tellCopied 96 = .ok (.iload_n 3, 1) := by decide +kernel
theorem dX9_tellCopied_97 : decode cX9_tellCopied 97 = .ok (.isub, 1) := by decide +kernel
theorem dX9_tellCopied_98 : decode cX9_tellCopied 98 = .ok (.iconst 1, 1) := by decide +kernel
theorem dX9_tellCopied_99 : decode cX9_tellCopied 99 = .ok (.isub, 1) := by decide +kernel
theorem dX9_tellCopied_100 : decode cX9_tellCopied 100 = .ok (.invokevirtual 145, 3) := by decide +kernel
theorem dX9_tellCopied_103 : decode cX9_tellCopied 103 = .ok (.aload_n 0, 1) := by decide +kernel
theorem dX9_tellCopied_104 : decode cX9_tellCopied 104 = .ok (.iconst 1, 1) := by decide +kernel
theorem dX9_tellCopied_105 : decode cX9_tellCopied 105 = .ok (.iload 4, 2) := by decide +kernel
theorem dX9_tellCopied_107 : decode cX9_tellCopied 107 = .ok (.iconst 1, 1) := by decide +kernel
theorem dX9_tellCopied_108 : decode cX9_tellCopied 108 = .ok (.isub, 1) := by decide +kernel
theorem dX9_tellCopied_109 : decode cX9_tellCopied 109 = .ok (.invokevirtual 145, 3) := by decide +kernel
theorem dX9_tellCopied_112 : decode cX9_tellCopied 112 = .ok (.iconst 0, 1) := by decide +kernel
theorem dX9_tellCopied_113 : decode cX9_tellCopied 113 = .ok (.istore 6, 2) := by decide +kernel
theorem dX9_tellCopied_115 : decode cX9_tellCopied 115 = .ok (.iload 6, 2) := by decide +kernel
theorem dX9_tellCopied_117 : decode cX9_tellCopied 117 = .ok (.iconst 1, 1) := by decide +kernel
theorem dX9_tellCopied_118 : decode cX9_tellCopied 118 = .ok (.iadd, 1) := by decide +kernel
theorem dX9_tellCopied_119 : decode cX9_tellCopied 119 = .ok (.iload 4, 2) := by decide +kernel
theorem dX9_tellCopied_121 : decode cX9_tellCopied 121 = .ok (.if_icmp .ge 37, 3) := by decide +kernel
theorem dX9_tellCopied_124 : decode cX9_tellCopied 124 = .ok (.aload_n 0, 1) := by decide +kernel
theorem dX9_tellCopied_125 : decode cX9_tellCopied 125 = .ok (.iconst 5, 1) := by decide +kernel
theorem dX9_tellCopied_126 : decode cX9_tellCopied 126 = .ok (.iload 6, 2) := by decide +kernel
theorem dX9_tellCopied_128 : decode cX9_tellCopied 128 = .ok (.ifCond .ne 12, 3) := by decide +kernel
theorem dX9_tellCopied_131 : decode cX9_tellCopied 131 = .ok (.aload_n 0, 1) := by decide +kernel
theorem dX9_tellCopied_132 : decode cX9_tellCopied 132 = .ok (.getfield 54, 3) := by decide +kernel
theorem dX9_tellCopied_135 : decode cX9_tellCopied 135 = .ok (.iconst 0, 1) := by decide +kernel
theorem dX9_tellCopied_136 : decode cX9_tellCopied 136 = .ok (.iaload, 1) := by decide +kernel
theorem dX9_tellCopied_137 : decode cX9_tellCopied 137 = .ok (.goto 12, 3) := by decide +kernel
theorem dX9_tellCopied_140 : decode cX9_tellCopied 140 = .ok (.aload_n 0, 1) := by decide +kernel
theorem dX9_tellCopied_141 : decode cX9_tellCopied 141 = .ok (.getfield 54, 3) := by decide +kernel
theorem dX9_tellCopied_144 : decode cX9_tellCopied 144 = .ok (.iload 6, 2) := by decide +kernel
theorem dX9_tellCopied_146 : decode cX9_tellCopied 146 = .ok (.iaload, 1) := by decide +kernel
theorem dX9_tellCopied_147 : decode cX9_tellCopied 147 = .ok (.iconst 1, 1) := by decide +kernel
theorem dX9_tellCopied_148 : decode cX9_tellCopied 148 = .ok (.isub, 1) := by decide +kernel
theorem dX9_tellCopied_149 : decode cX9_tellCopied 149 = .ok (.invokevirtual 145, 3) := by decide +kernel
theorem dX9_tellCopied_152 : decode cX9_tellCopied 152 = .ok (.iinc 6 1, 3) := by decide +kernel
theorem dX9_tellCopied_155 : decode cX9_tellCopied 155 = .ok (.goto (-40), 3) := by decide +kernel
theorem dX9_tellCopied_158 : decode cX9_tellCopied 158 = .ok (.aload_n 0, 1) := by decide +kernel
theorem dX9_tellCopied_159 : decode cX9_tellCopied 159 = .ok (.aload_n 1, 1) := by decide +kernel
theorem dX9_tellCopied_160 : decode cX9_tellCopied 160 = .ok (.iload_n 2, 1) := by decide +kernel
theorem dX9_tellCopied_161 : decode cX9_tellCopied 161 = .ok (.iload_n 3, 1) := by decide +kernel
theorem dX9_tellCopied_162 : decode cX9_tellCopied 162 = .ok (.invokevirtual 157, 3) := by decide +kernel
theorem dX9_tellCopied_165 : decode cX9_tellCopied 165 = .ok (.aload_n 0, 1) := by decide +kernel
theorem dX9_tellCopied_166 : decode cX9_tellCopied 166 = .ok (.iload_n 2, 1) := by decide +kernel
theorem dX9_tellCopied_167 : decode cX9_tellCopied 167 = .ok (.invokevirtual 161, 3) := by decide +kernel
theorem dX9_tellCopied_170 : decode cX9_tellCopied 170 = .ok (.return_, 1) := by decide +kernel
theorem dX9_tellDense_0 : decode cX9_tellDense 0 = .ok (.aload_n 0, 1) := by decide +kernel
theorem dX9_tellDense_1 : decode cX9_tellDense 1 = .ok (.getfield 48, 3) := by decide +kernel
theorem dX9_tellDense_4 : decode cX9_tellDense 4 = .ok (.iconst 0, 1) := by decide +kernel
theorem dX9_tellDense_5 : decode cX9_tellDense 5 = .ok (.iaload, 1) := by decide +kernel
theorem dX9_tellDense_6 : decode cX9_tellDense 6 = .ok (.istore_n 3, 1) := by decide +kernel
theorem dX9_tellDense_7 : decode cX9_tellDense 7 = .ok (.aload_n 0, 1) := by decide +kernel
theorem dX9_tellDense_8 : decode cX9_tellDense 8 = .ok (.getfield 48, 3) := by decide +kernel
theorem dX9_tellDense_11 : decode cX9_tellDense 11 = .ok (.aload_n 0, 1) := by decide +kernel
theorem dX9_tellDense_12 : decode cX9_tellDense 12 = .ok (.getfield 142, 3) := by decide +kernel
theorem dX9_tellDense_15 : decode cX9_tellDense 15 = .ok (.iconst 1, 1) := by decide +kernel
theorem dX9_tellDense_16 : decode cX9_tellDense 16 = .ok (.isub, 1) := by decide +kernel
theorem dX9_tellDense_17 : decode cX9_tellDense 17 = .ok (.iaload, 1) := by decide +kernel
theorem dX9_tellDense_18 : decode cX9_tellDense 18 = .ok (.istore 4, 2) := by decide +kernel
theorem dX9_tellDense_20 : decode cX9_tellDense 20 = .ok (.aload_n 0, 1) := by decide +kernel
theorem dX9_tellDense_21 : decode cX9_tellDense 21 = .ok (.iconst 2, 1) := by decide +kernel
theorem dX9_tellDense_22 : decode cX9_tellDense 22 = .ok (.iload_n 3, 1) := by decide +kernel
theorem dX9_tellDense_23 : decode cX9_tellDense 23 = .ok (.iload_n 2, 1) := by decide +kernel
theorem dX9_tellDense_24 : decode cX9_tellDense 24 = .ok (.isub, 1) := by decide +kernel
theorem dX9_tellDense_25 : decode cX9_tellDense 25 = .ok (.invokestatic 148, 3) := by decide +kernel
theorem dX9_tellDense_28 : decode cX9_tellDense 28 = .ok (.invokevirtual 145, 3) := by decide +kernel
theorem dX9_tellDense_31 : decode cX9_tellDense 31 = .ok (.aload_n 0, 1) := by decide +kernel
theorem dX9_tellDense_32 : decode cX9_tellDense 32 = .ok (.iconst 1, 1) := by decide +kernel
theorem dX9_tellDense_33 : decode cX9_tellDense 33 = .ok (.iload 4, 2) := by decide +kernel
theorem dX9_tellDense_35 : decode cX9_tellDense 35 = .ok (.iload_n 3, 1) := by decide +kernel
theorem dX9_tellDense_36 : decode cX9_tellDense 36 = .ok (.isub, 1) := by decide +kernel
theorem dX9_tellDense_37 : decode cX9_tellDense 37 = .ok (.invokevirtual 145, 3) := by decide +kernel
theorem dX9_tellDense_40 : decode cX9_tellDense 40 = .ok (.iload_n 3, 1) := by decide +kernel
theorem dX9_tellDense_41 : decode cX9_tellDense 41 = .ok (.iconst 1, 1) := by decide +kernel
theorem dX9_tellDense_42 : decode cX9_tellDense 42 = .ok (.iadd, 1) := by decide +kernel
theorem dX9_tellDense_43 : decode cX9_tellDense 43 = .ok (.istore 5, 2) := by decide +kernel
theorem dX9_tellDense_45 : decode cX9_tellDense 45 = .ok (.iload 5, 2) := by decide +kernel
theorem dX9_tellDense_47 : decode cX9_tellDense 47 = .ok (.iload 4, 2) := by decide +kernel
theorem dX9_tellDense_49 : decode cX9_tellDense 49 = .ok (.if_icmp .ge 32, 3) := by decide +kernel
theorem dX9_tellDense_52 : decode cX9_tellDense 52 = .ok (.aload_n 0, 1) := by decide +kernel
theorem dX9_tellDense_53 : decode cX9_tellDense 53 = .ok (.bipush 8, 2) := by decide +kernel
theorem dX9_tellDense_55 : decode cX9_tellDense 55 = .ok (.aload_n 1, 1) := by decide +kernel
theorem dX9_tellDense_56 : decode cX9_tellDense 56 = .ok (.bipush 48, 2) := by decide +kernel
theorem dX9_tellDense_58 : decode cX9_tellDense 58 = .ok (.iload_n 2, 1) := by decide +kernel
theorem dX9_tellDense_59 : decode cX9_tellDense 59 = .ok (.imul, 1) := by decide +kernel
theorem dX9_tellDense_60 : decode cX9_tellDense 60 = .ok (.iload 5, 2) := by decide +kernel
theorem dX9_tellDense_62 : decode cX9_tellDense 62 = .ok (.iadd, 1) := by decide +kernel
theorem dX9_tellDense_63 : decode cX9_tellDense 63 = .ok (.baload, 1) := by decide +kernel
theorem dX9_tellDense_64 : decode cX9_tellDense 64 = .ok (.ifCond .eq 7, 3) := by decide +kernel
theorem dX9_tellDense_67 : decode cX9_tellDense 67 = .ok (.iconst 1, 1) := by decide +kernel
theorem dX9_tellDense_68 : decode cX9_tellDense 68 = .ok (.goto 4, 3) := by decide +kernel
theorem dX9_tellDense_71 : decode cX9_tellDense 71 = .ok (.iconst 0, 1) := by decide +kernel
theorem dX9_tellDense_72 : decode cX9_tellDense 72 = .ok (.invokevirtual 145, 3) := by decide +kernel
theorem dX9_tellDense_75 : decode cX9_tellDense 75 = .ok (.iinc 5 1, 3) := by decide +kernel
theorem dX9_tellDense_78 : decode cX9_tellDense 78 = .ok (.goto (-33), 3) := by decide +kernel
theorem dX9_tellDense_81 : decode cX9_tellDense 81 = .ok (.return_, 1) := by decide +kernel
theorem dX9_tell_0 : decode cX9_tell 0 = .ok (.aload_n 0, 1) := by decide +kernel
theorem dX9_tell_1 : decode cX9_tell 1 = .ok (.iconst 0, 1) := by decide +kernel
theorem dX9_tell_2 : decode cX9_tell 2 = .ok (.putfield 139, 3) := by decide +kernel
theorem dX9_tell_5 : decode cX9_tell 5 = .ok (.aload_n 0, 1) := by decide +kernel
theorem dX9_tell_6 : decode cX9_tell 6 = .ok (.iconst 0, 1) := by decide +kernel
theorem dX9_tell_7 : decode cX9_tell 7 = .ok (.iload_n 3, 1) := by decide +kernel
theorem dX9_tell_8 : decode cX9_tell 8 = .ok (.invokevirtual 145, 3) := by decide +kernel
theorem dX9_tell_11 : decode cX9_tell 11 = .ok (.aload_n 0, 1) := by decide +kernel
theorem dX9_tell_12 : decode cX9_tell 12 = .ok (.aload_n 1, 1) := by decide +kernel
theorem dX9_tell_13 : decode cX9_tell 13 = .ok (.iload_n 2, 1) := by decide +kernel
theorem dX9_tell_14 : decode cX9_tell 14 = .ok (.iload_n 2, 1) := by decide +kernel
theorem dX9_tell_15 : decode cX9_tell 15 = .ok (.invokevirtual 157, 3) := by decide +kernel
theorem dX9_tell_18 : decode cX9_tell 18 = .ok (.iload_n 3, 1) := by decide +kernel
theorem dX9_tell_19 : decode cX9_tell 19 = .ok (.tableswitch 70 0 3 #[29, 37, 45, 58], 29) := by decide +kernel
theorem dX9_tell_48 : decode cX9_tell 48 = .ok (.aload_n 0, 1) := by decide +kernel
theorem dX9_tell_49 : decode cX9_tell 49 = .ok (.iload_n 2, 1) := by decide +kernel
theorem dX9_tell_50 : decode cX9_tell 50 = .ok (.invokevirtual 154, 3) := by decide +kernel
theorem dX9_tell_53 : decode cX9_tell 53 = .ok (.goto 42, 3) := by decide +kernel
theorem dX9_tell_56 : decode cX9_tell 56 = .ok (.aload_n 0, 1) := by decide +kernel
theorem dX9_tell_57 : decode cX9_tell 57 = .ok (.iload_n 2, 1) := by decide +kernel
theorem dX9_tell_58 : decode cX9_tell 58 = .ok (.invokevirtual 161, 3) := by decide +kernel
theorem dX9_tell_61 : decode cX9_tell 61 = .ok (.goto 34, 3) := by decide +kernel
theorem dX9_tell_64 : decode cX9_tell 64 = .ok (.aload_n 0, 1) := by decide +kernel
theorem dX9_tell_65 : decode cX9_tell 65 = .ok (.aload_n 1, 1) := by decide +kernel
theorem dX9_tell_66 : decode cX9_tell 66 = .ok (.iload_n 2, 1) := by decide +kernel
theorem dX9_tell_67 : decode cX9_tell 67 = .ok (.iload_n 2, 1) := by decide +kernel
theorem dX9_tell_68 : decode cX9_tell 68 = .ok (.iload 4, 2) := by decide +kernel
theorem dX9_tell_70 : decode cX9_tell 70 = .ok (.isub, 1) := by decide +kernel
theorem dX9_tell_71 : decode cX9_tell 71 = .ok (.invokevirtual 164, 3) := by decide +kernel
theorem dX9_tell_74 : decode cX9_tell 74 = .ok (.goto 21, 3) := by decide +kernel
theorem dX9_tell_77 : decode cX9_tell 77 = .ok (.aload_n 0, 1) := by decide +kernel
theorem dX9_tell_78 : decode cX9_tell 78 = .ok (.iconst 4, 1) := by decide +kernel
theorem dX9_tell_79 : decode cX9_tell 79 = .ok (.iload 4, 2) := by decide +kernel
theorem dX9_tell_81 : decode cX9_tell 81 = .ok (.iconst 1, 1) := by decide +kernel
theorem dX9_tell_82 : decode cX9_tell 82 = .ok (.isub, 1) := by decide +kernel
theorem dX9_tell_83 : decode cX9_tell 83 = .ok (.invokevirtual 145, 3) := by decide +kernel
theorem dX9_tell_86 : decode cX9_tell 86 = .ok (.goto 9, 3) := by decide +kernel
theorem dX9_tell_89 : decode cX9_tell 89 = .ok (.aload_n 0, 1) := by decide +kernel
theorem dX9_tell_90 : decode cX9_tell 90 = .ok (.aload_n 1, 1) := by decide +kernel
theorem dX9_tell_91 : decode cX9_tell 91 = .ok (.iload_n 2, 1) := by decide +kernel
theorem dX9_tell_92 : decode cX9_tell 92 = .ok (.invokevirtual 167, 3) := by decide +kernel
theorem dX9_tell_95 : decode cX9_tell 95 = .ok (.return_, 1) := by decide +kernel
theorem dX9_numbersBits_0 : decode cX9_numbersBits 0 = .ok (.iconst 0, 1) := by decide +kernel
theorem dX9_numbersBits_1 : decode cX9_numbersBits 1 = .ok (.istore_n 1, 1) := by decide +kernel
theorem dX9_numbersBits_2 : decode cX9_numbersBits 2 = .ok (.iconst 0, 1) := by decide +kernel
theorem dX9_numbersBits_3 : decode cX9_numbersBits 3 = .ok (.istore_n 2, 1) := by decide +kernel
theorem dX9_numbersBits_4 : decode cX9_numbersBits 4 = .ok (.iload_n 2, 1) := by decide +kernel
theorem dX9_numbersBits_5 : decode cX9_numbersBits 5 = .ok (.aload_n 0, 1) := by decide +kernel
theorem dX9_numbersBits_6 : decode cX9_numbersBits 6 = .ok (.getfield 139, 3) := by decide +kernel
theorem dX9_numbersBits_9 : decode cX9_numbersBits 9 = .ok (.if_icmp .ge 47, 3) := by decide +kernel
theorem dX9_numbersBits_12 : decode cX9_numbersBits 12 = .ok (.iload_n 1, 1) := by decide +kernel
theorem dX9_numbersBits_13 : decode cX9_numbersBits 13 = .ok (.aload_n 0, 1) := by decide +kernel
theorem dX9_numbersBits_14 : decode cX9_numbersBits 14 = .ok (.getfield 42, 3) := by decide +kernel
theorem dX9_numbersBits_17 : decode cX9_numbersBits 17 = .ok (.iload_n 2, 1) := by decide +kernel
theorem dX9_numbersBits_18 : decode cX9_numbersBits 18 = .ok (.iaload, 1) := by decide +kernel
theorem dX9_numbersBits_19 : decode cX9_numbersBits 19 = .ok (.bipush 8, 2) := by decide +kernel
theorem dX9_numbersBits_21 : decode cX9_numbersBits 21 = .ok (.if_icmp .ne 7, 3) := by decide +kernel
theorem dX9_numbersBits_24 : decode cX9_numbersBits 24 = .ok (.iconst 1, 1) := by decide +kernel
theorem dX9_numbersBits_25 : decode cX9_numbersBits 25 = .ok (.goto 23, 3) := by decide +kernel
theorem dX9_numbersBits_28 : decode cX9_numbersBits 28 = .ok (.aload_n 0, 1) := by decide +kernel
theorem dX9_numbersBits_29 : decode cX9_numbersBits 29 = .ok (.getfield 23, 3) := by decide +kernel
theorem dX9_numbersBits_32 : decode cX9_numbersBits 32 = .ok (.aload_n 0, 1) := by decide +kernel
theorem dX9_numbersBits_33 : decode cX9_numbersBits 33 = .ok (.getfield 42, 3) := by decide +kernel
theorem dX9_numbersBits_36 : decode cX9_numbersBits 36 = .ok (.iload_n 2, 1) := by decide +kernel
theorem dX9_numbersBits_37 : decode cX9_numbersBits 37 = .ok (.iaload, 1) := by decide +kernel
theorem dX9_numbersBits_38 : decode cX9_numbersBits 38 = .ok (.iaload, 1) := by decide +kernel
theorem dX9_numbersBits_39 : decode cX9_numbersBits 39 = .ok (.aload_n 0, 1) := by decide +kernel
theorem dX9_numbersBits_40 : decode cX9_numbersBits 40 = .ok (.getfield 45, 3) := by decide +kernel
theorem dX9_numbersBits_43 : decode cX9_numbersBits 43 = .ok (.iload_n 2, 1) := by decide +kernel
theorem dX9_numbersBits_44 : decode cX9_numbersBits 44 = .ok (.iaload, 1) := by decide +kernel
theorem dX9_numbersBits_45 : decode cX9_numbersBits 45 = .ok (.invokestatic 171, 3) := by decide +kernel
theorem dX9_numbersBits_48 : decode cX9_numbersBits 48 = .ok (.iadd, 1) := by decide +kernel
theorem dX9_numbersBits_49 : decode cX9_numbersBits 49 = .ok (.istore_n 1, 1) := by decide +kernel
theorem dX9_numbersBits_50 : decode cX9_numbersBits 50 = .ok (.iinc 2 1, 3) := by decide +kernel
theorem dX9_numbersBits_53 : decode cX9_numbersBits 53 = .ok (.goto (-49), 3) := by decide +kernel
theorem dX9_numbersBits_56 : decode cX9_numbersBits 56 = .ok (.iload_n 1, 1) := by decide +kernel
theorem dX9_numbersBits_57 : decode cX9_numbersBits 57 = .ok (.ireturn, 1) := by decide +kernel
theorem dX9_bitsBy_0 : decode cX9_bitsBy 0 = .ok (.aload_n 0, 1) := by decide +kernel
theorem dX9_bitsBy_1 : decode cX9_bitsBy 1 = .ok (.aload_n 1, 1) := by decide +kernel
theorem dX9_bitsBy_2 : decode cX9_bitsBy 2 = .ok (.iload_n 2, 1) := by decide +kernel
theorem dX9_bitsBy_3 : decode cX9_bitsBy 3 = .ok (.iload_n 3, 1) := by decide +kernel
theorem dX9_bitsBy_4 : decode cX9_bitsBy 4 = .ok (.iload 4, 2) := by decide +kernel
theorem dX9_bitsBy_6 : decode cX9_bitsBy 6 = .ok (.invokevirtual 175, 3) := by decide +kernel
theorem dX9_bitsBy_9 : decode cX9_bitsBy 9 = .ok (.aload_n 0, 1) := by decide +kernel
theorem dX9_bitsBy_10 : decode cX9_bitsBy 10 = .ok (.invokevirtual 179, 3) := by decide +kernel
theorem dX9_bitsBy_13 : decode cX9_bitsBy 13 = .ok (.ireturn, 1) := by decide +kernel
theorem dX9_isSame_0 : decode cX9_isSame 0 = .ok (.iconst 1, 1) := by decide +kernel
theorem dX9_isSame_1 : decode cX9_isSame 1 = .ok (.istore 4, 2) := by decide +kernel
theorem dX9_isSame_3 : decode cX9_isSame 3 = .ok (.iconst 0, 1) := by decide +kernel
theorem dX9_isSame_4 : decode cX9_isSame 4 = .ok (.istore 5, 2) := by decide +kernel
theorem dX9_isSame_6 : decode cX9_isSame 6 = .ok (.iload 5, 2) := by decide +kernel
theorem dX9_isSame_8 : decode cX9_isSame 8 = .ok (.aload_n 0, 1) := by decide +kernel
theorem dX9_isSame_9 : decode cX9_isSame 9 = .ok (.getfield 93, 3) := by decide +kernel
theorem dX9_isSame_12 : decode cX9_isSame 12 = .ok (.if_icmp .ge 42, 3) := by decide +kernel
theorem dX9_isSame_15 : decode cX9_isSame 15 = .ok (.iload 4, 2) := by decide +kernel
theorem dX9_isSame_17 : decode cX9_isSame 17 = .ok (.ifCond .eq 28, 3) := by decide +kernel
theorem dX9_isSame_20 : decode cX9_isSame 20 = .ok (.aload_n 1, 1) := by decide +kernel
theorem dX9_isSame_21 : decode cX9_isSame 21 = .ok (.bipush 48, 2) := by decide +kernel
theorem dX9_isSame_23 : decode cX9_isSame 23 = .ok (.iload_n 2, 1) := by decide +kernel
theorem dX9_isSame_24 : decode cX9_isSame 24 = .ok (.imul, 1) := by decide +kernel
theorem dX9_isSame_25 : decode cX9_isSame 25 = .ok (.iload 5, 2) := by decide +kernel
theorem dX9_isSame_27 : decode cX9_isSame 27 = .ok (.iadd, 1) := by decide +kernel
theorem dX9_isSame_28 : decode cX9_isSame 28 = .ok (.baload, 1) := by decide +kernel
theorem dX9_isSame_29 : decode cX9_isSame 29 = .ok (.aload_n 1, 1) := by decide +kernel
theorem dX9_isSame_30 : decode cX9_isSame 30 = .ok (.bipush 48, 2) := by decide +kernel
theorem dX9_isSame_32 : decode cX9_isSame 32 = .ok (.iload_n 3, 1) := by decide +kernel
theorem dX9_isSame_33 : decode cX9_isSame 33 = .ok (.imul, 1) := by decide +kernel
theorem dX9_isSame_34 : decode cX9_isSame 34 = .ok (.iload 5, 2) := by decide +kernel
theorem dX9_isSame_36 : decode cX9_isSame 36 = .ok (.iadd, 1) := by decide +kernel
theorem dX9_isSame_37 : decode cX9_isSame 37 = .ok (.baload, 1) := by decide +kernel
theorem dX9_isSame_38 : decode cX9_isSame 38 = .ok (.if_icmp .ne 7, 3) := by decide +kernel
theorem dX9_isSame_41 : decode cX9_isSame 41 = .ok (.iconst 1, 1) := by decide +kernel
theorem dX9_isSame_42 : decode cX9_isSame 42 = .ok (.goto 4, 3) := by decide +kernel
theorem dX9_isSame_45 : decode cX9_isSame 45 = .ok (.iconst 0, 1) := by decide +kernel
theorem dX9_isSame_46 : decode cX9_isSame 46 = .ok (.istore 4, 2) := by decide +kernel
theorem dX9_isSame_48 : decode cX9_isSame 48 = .ok (.iinc 5 1, 3) := by decide +kernel
theorem dX9_isSame_51 : decode cX9_isSame 51 = .ok (.goto (-45), 3) := by decide +kernel
theorem dX9_isSame_54 : decode cX9_isSame 54 = .ok (.iload 4, 2) := by decide +kernel
theorem dX9_isSame_56 : decode cX9_isSame 56 = .ok (.ireturn, 1) := by decide +kernel
theorem dX9_form_0 : decode cX9_form 0 = .ok (.aload_n 0, 1) := by decide +kernel
theorem dX9_form_1 : decode cX9_form 1 = .ok (.iconst 0, 1) := by decide +kernel
theorem dX9_form_2 : decode cX9_form 2 = .ok (.putfield 1, 3) := by decide +kernel
theorem dX9_form_5 : decode cX9_form 5 = .ok (.iload_n 1, 1) := by decide +kernel
theorem dX9_form_6 : decode cX9_form 6 = .ok (.i2l, 1) := by decide +kernel
theorem dX9_form_7 : decode cX9_form 7 = .ok (.lconst 0, 1) := by decide +kernel
theorem dX9_form_8 : decode cX9_form 8 = .ok (.ldc2_w 183, 3) := by decide +kernel
theorem dX9_form_11 : decode cX9_form 11 = .ok (.invokestatic 96, 3) := by decide +kernel
theorem dX9_form_14 : decode cX9_form 14 = .ok (.ifCond .eq 15, 3) := by decide +kernel
theorem dX9_form_17 : decode cX9_form 17 = .ok (.iload_n 2, 1) := by decide +kernel
theorem dX9_form_18 : decode cX9_form 18 = .ok (.i2l, 1) := by decide +kernel
theorem dX9_form_19 : decode cX9_form 19 = .ok (.lconst 0, 1) := by decide +kernel
theorem dX9_form_20 : decode cX9_form 20 = .ok (.ldc2_w 185, 3) := by decide +kernel
theorem dX9_form_23 : decode cX9_form 23 = .ok (.invokestatic 96, 3) := by decide +kernel
theorem dX9_form_26 : decode cX9_form 26 = .ok (.ifCond .ne 6, 3) := by decide +kernel
theorem dX9_form_29 : decode cX9_form 29 = .ok (.bipush (-2), 2) := by decide +kernel
theorem dX9_form_31 : decode cX9_form 31 = .ok (.ireturn, 1) := by decide +kernel
theorem dX9_form_32 : decode cX9_form 32 = .ok (.aload_n 0, 1) := by decide +kernel
theorem dX9_form_33 : decode cX9_form 33 = .ok (.getfield 23, 3) := by decide +kernel
theorem dX9_form_36 : decode cX9_form 36 = .ok (.iload_n 1, 1) := by decide +kernel
theorem dX9_form_37 : decode cX9_form 37 = .ok (.iaload, 1) := by decide +kernel
theorem dX9_form_38 : decode cX9_form 38 = .ok (.istore_n 3, 1) := by decide +kernel
theorem dX9_form_39 : decode cX9_form 39 = .ok (.aload_n 0, 1) := by decide +kernel
theorem dX9_form_40 : decode cX9_form 40 = .ok (.getfield 23, 3) := by decide +kernel
theorem dX9_form_43 : decode cX9_form 43 = .ok (.iload_n 1, 1) := by decide +kernel
theorem dX9_form_44 : decode cX9_form 44 = .ok (.iload_n 2, 1) := by decide +kernel
theorem dX9_form_45 : decode cX9_form 45 = .ok (.iastore, 1) := by decide +kernel
theorem dX9_form_46 : decode cX9_form 46 = .ok (.iload_n 3, 1) := by decide +kernel
theorem dX9_form_47 : decode cX9_form 47 = .ok (.ireturn, 1) := by decide +kernel
theorem dX9_setting_0 : decode cX9_setting 0 = .ok (.aload_n 0, 1) := by decide +kernel
theorem dX9_setting_1 : decode cX9_setting 1 = .ok (.iconst 0, 1) := by decide +kernel
theorem dX9_setting_2 : decode cX9_setting 2 = .ok (.putfield 1, 3) := by decide +kernel
theorem dX9_setting_5 : decode cX9_setting 5 = .ok (.iload_n 1, 1) := by decide +kernel
theorem dX9_setting_6 : decode cX9_setting 6 = .ok (.ifCond .ne 27, 3) := by decide +kernel
theorem dX9_setting_9 : decode cX9_setting 9 = .ok (.iload_n 2, 1) := by decide +kernel
theorem dX9_setting_10 : decode cX9_setting 10 = .ok (.i2l, 1) := by decide +kernel
theorem dX9_setting_11 : decode cX9_setting 11 = .ok (.lconst 0, 1) := by decide +kernel
theorem dX9_setting_12 : decode cX9_setting 12 = .ok (.ldc2_w 183, 3) := by decide +kernel
theorem dX9_setting_15 : decode cX9_setting 15 = .ok (.invokestatic 96, 3) := by decide +kernel
theorem dX9_setting_18 : decode cX9_setting 18 = .ok (.ifCond .eq 15, 3) := by decide +kernel
theorem dX9_setting_21 : decode cX9_setting 21 = .ok (.aload_n 0, 1) := by decide +kernel
theorem dX9_setting_22 : decode cX9_setting 22 = .ok (.getfield 27, 3) := by decide +kernel
theorem dX9_setting_25 : decode cX9_setting 25 = .ok (.istore_n 3, 1) := by decide +kernel
theorem dX9_setting_26 : decode cX9_setting 26 = .ok (.aload_n 0, 1) := by decide +kernel
theorem dX9_setting_27 : decode cX9_setting 27 = .ok (.iload_n 2, 1) := by decide +kernel
theorem dX9_setting_28 : decode cX9_setting 28 = .ok (.putfield 27, 3) := by decide +kernel
theorem dX9_setting_31 : decode cX9_setting 31 = .ok (.iload_n 3, 1) := by decide +kernel
theorem dX9_setting_32 : decode cX9_setting 32 = .ok (.ireturn, 1) := by decide +kernel
theorem dX9_setting_33 : decode cX9_setting 33 = .ok (.iload_n 1, 1) := by decide +kernel
theorem dX9_setting_34 : decode cX9_setting 34 = .ok (.iconst 1, 1) := by decide +kernel
theorem dX9_setting_35 : decode cX9_setting 35 = .ok (.if_icmp .ne 27, 3) := by decide +kernel
theorem dX9_setting_38 : decode cX9_setting 38 = .ok (.iload_n 2, 1) := by decide +kernel
theorem dX9_setting_39 : decode cX9_setting 39 = .ok (.i2l, 1) := by decide +kernel
theorem dX9_setting_40 : decode cX9_setting 40 = .ok (.lconst 0, 1) := by decide +kernel
theorem dX9_setting_41 : decode cX9_setting 41 = .ok (.ldc2_w 187, 3) := by decide +kernel
theorem dX9_setting_44 : decode cX9_setting 44 = .ok (.invokestatic 96, 3) := by decide +kernel
theorem dX9_setting_47 : decode cX9_setting 47 = .ok (.ifCond .eq 15, 3) := by decide +kernel
theorem dX9_setting_50 : decode cX9_setting 50 = .ok (.aload_n 0, 1) := by decide +kernel
theorem dX9_setting_51 : decode cX9_setting 51 = .ok (.getfield 30, 3) := by decide +kernel
theorem dX9_setting_54 : decode cX9_setting 54 = .ok (.istore_n 3, 1) := by decide +kernel
theorem dX9_setting_55 : decode cX9_setting 55 = .ok (.aload_n 0, 1) := by decide +kernel
theorem dX9_setting_56 : decode cX9_setting 56 = .ok (.iload_n 2, 1) := by decide +kernel
theorem dX9_setting_57 : decode cX9_setting 57 = .ok (.putfield 30, 3) := by decide +kernel
theorem dX9_setting_60 : decode cX9_setting 60 = .ok (.iload_n 3, 1) := by decide +kernel
theorem dX9_setting_61 : decode cX9_setting 61 = .ok (.ireturn, 1) := by decide +kernel
theorem dX9_setting_62 : decode cX9_setting 62 = .ok (.iload_n 1, 1) := by decide +kernel
theorem dX9_setting_63 : decode cX9_setting 63 = .ok (.iconst 2, 1) := by decide +kernel
theorem dX9_setting_64 : decode cX9_setting 64 = .ok (.if_icmp .ne 27, 3) := by decide +kernel
theorem dX9_setting_67 : decode cX9_setting 67 = .ok (.iload_n 2, 1) := by decide +kernel
theorem dX9_setting_68 : decode cX9_setting 68 = .ok (.i2l, 1) := by decide +kernel
theorem dX9_setting_69 : decode cX9_setting 69 = .ok (.lconst 1, 1) := by decide +kernel
theorem dX9_setting_70 : decode cX9_setting 70 = .ok (.ldc2_w 185, 3) := by decide +kernel
theorem dX9_setting_73 : decode cX9_setting 73 = .ok (.invokestatic 96, 3) := by decide +kernel
theorem dX9_setting_76 : decode cX9_setting 76 = .ok (.ifCond .eq 15, 3) := by decide +kernel
theorem dX9_setting_79 : decode cX9_setting 79 = .ok (.aload_n 0, 1) := by decide +kernel
theorem dX9_setting_80 : decode cX9_setting 80 = .ok (.getfield 33, 3) := by decide +kernel
theorem dX9_setting_83 : decode cX9_setting 83 = .ok (.istore_n 3, 1) := by decide +kernel
theorem dX9_setting_84 : decode cX9_setting 84 = .ok (.aload_n 0, 1) := by decide +kernel
theorem dX9_setting_85 : decode cX9_setting 85 = .ok (.iload_n 2, 1) := by decide +kernel
theorem dX9_setting_86 : decode cX9_setting 86 = .ok (.putfield 33, 3) := by decide +kernel
theorem dX9_setting_89 : decode cX9_setting 89 = .ok (.iload_n 3, 1) := by decide +kernel
theorem dX9_setting_90 : decode cX9_setting 90 = .ok (.ireturn, 1) := by decide +kernel
theorem dX9_setting_91 : decode cX9_setting 91 = .ok (.bipush (-2), 2) := by decide +kernel
theorem dX9_setting_93 : decode cX9_setting 93 = .ok (.ireturn, 1) := by decide +kernel
theorem dX9_length_0 : decode cX9_length 0 = .ok (.aload_n 0, 1) := by decide +kernel
theorem dX9_length_1 : decode cX9_length 1 = .ok (.iconst 0, 1) := by decide +kernel
theorem dX9_length_2 : decode cX9_length 2 = .ok (.putfield 1, 3) := by decide +kernel
theorem dX9_length_5 : decode cX9_length 5 = .ok (.iload_n 1, 1) := by decide +kernel
theorem dX9_length_6 : decode cX9_length 6 = .ok (.i2l, 1) := by decide +kernel
theorem dX9_length_7 : decode cX9_length 7 = .ok (.lconst 0, 1) := by decide +kernel
theorem dX9_length_8 : decode cX9_length 8 = .ok (.ldc2_w 185, 3) := by decide +kernel
theorem dX9_length_11 : decode cX9_length 11 = .ok (.invokestatic 96, 3) := by decide +kernel
theorem dX9_length_14 : decode cX9_length 14 = .ok (.ifCond .eq 23, 3) := by decide +kernel
theorem dX9_length_17 : decode cX9_length 17 = .ok (.iload_n 2, 1) := by decide +kernel
theorem dX9_length_18 : decode cX9_length 18 = .ok (.i2l, 1) := by decide +kernel
theorem dX9_length_19 : decode cX9_length 19 = .ok (.lconst 0, 1) := by decide +kernel
theorem dX9_length_20 : decode cX9_length 20 = .ok (.ldc2_w 189, 3) := by decide +kernel
theorem dX9_length_23 : decode cX9_length 23 = .ok (.invokestatic 96, 3) := by decide +kernel
theorem dX9_length_26 : decode cX9_length 26 = .ok (.ifCond .eq 11, 3) := by decide +kernel
theorem dX9_length_29 : decode cX9_length 29 = .ok (.iload_n 1, 1) := by decide +kernel
theorem dX9_length_30 : decode cX9_length 30 = .ok (.iload_n 2, 1) := by decide +kernel
theorem dX9_length_31 : decode cX9_length 31 = .ok (.invokestatic 171, 3) := by decide +kernel
theorem dX9_length_34 : decode cX9_length 34 = .ok (.goto 5, 3) := by decide +kernel
theorem dX9_length_37 : decode cX9_length 37 = .ok (.bipush (-2), 2) := by decide +kernel
theorem dX9_length_39 : decode cX9_length 39 = .ok (.ireturn, 1) := by decide +kernel
theorem dX9_cost_0 : decode cX9_cost 0 = .ok (.aload_n 0, 1) := by decide +kernel
theorem dX9_cost_1 : decode cX9_cost 1 = .ok (.iconst 0, 1) := by decide +kernel
theorem dX9_cost_2 : decode cX9_cost 2 = .ok (.putfield 1, 3) := by decide +kernel
theorem dX9_cost_5 : decode cX9_cost 5 = .ok (.iload_n 2, 1) := by decide +kernel
theorem dX9_cost_6 : decode cX9_cost 6 = .ok (.iconst 2, 1) := by decide +kernel
theorem dX9_cost_7 : decode cX9_cost 7 = .ok (.if_icmp .eq 8, 3) := by decide +kernel
theorem dX9_cost_10 : decode cX9_cost 10 = .ok (.iload_n 2, 1) := by decide +kernel
theorem dX9_cost_11 : decode cX9_cost 11 = .ok (.iconst 3, 1) := by decide +kernel
theorem dX9_cost_12 : decode cX9_cost 12 = .ok (.if_icmp .ne 7, 3) := by decide +kernel
theorem dX9_cost_15 : decode cX9_cost 15 = .ok (.iconst 1, 1) := by decide +kernel
theorem dX9_cost_16 : decode cX9_cost 16 = .ok (.goto 4, 3) := by decide +kernel
theorem dX9_cost_19 : decode cX9_cost 19 = .ok (.iconst 0, 1) := by decide +kernel
theorem dX9_cost_20 : decode cX9_cost 20 = .ok (.istore 4, 2) := by decide +kernel
theorem dX9_cost_22 : decode cX9_cost 22 = .ok (.aload_n 0, 1) := by decide +kernel
theorem dX9_cost_23 : decode cX9_cost 23 = .ok (.iload_n 1, 1) := by decide +kernel
theorem dX9_cost_24 : decode cX9_cost 24 = .ok (.invokevirtual 107, 3) := by decide +kernel
theorem dX9_cost_27 : decode cX9_cost 27 = .ok (.ifCond .eq 30, 3) := by decide +kernel
theorem dX9_cost_30 : decode cX9_cost 30 = .ok (.iload_n 2, 1) := by decide +kernel
theorem dX9_cost_31 : decode cX9_cost 31 = .ok (.i2l, 1) := by decide +kernel
theorem dX9_cost_32 : decode cX9_cost 32 = .ok (.lconst 0, 1) := by decide +kernel
theorem dX9_cost_33 : decode cX9_cost 33 = .ok (.ldc2_w 191, 3) := by decide +kernel
theorem dX9_cost_36 : decode cX9_cost 36 = .ok (.invokestatic 96, 3) := by decide +kernel
theorem dX9_cost_39 : decode cX9_cost 39 = .ok (.ifCond .eq 18, 3) := by decide +kernel
theorem dX9_cost_42 : decode cX9_cost 42 = .ok (.iload 4, 2) := by decide +kernel
theorem dX9_cost_44 : decode cX9_cost 44 = .ok (.ifCond .eq 16, 3) := by decide +kernel
theorem dX9_cost_47 : decode cX9_cost 47 = .ok (.iload_n 3, 1) := by decide +kernel
theorem dX9_cost_48 : decode cX9_cost 48 = .ok (.iconst 1, 1) := by decide +kernel
theorem dX9_cost_49 : decode cX9_cost 49 = .ok (.if_icmp .lt 8, 3) := by decide +kernel
theorem dX9_cost_52 : decode cX9_cost 52 = .ok (.iload_n 3, 1) := by decide +kernel
theorem dX9_cost_53 : decode cX9_cost 53 = .ok (.iload_n 1, 1) := by decide +kernel
theorem dX9_cost_54 : decode cX9_cost 54 = .ok (.if_icmp .le 6, 3) := by decide +kernel
theorem dX9_cost_57 : decode cX9_cost 57 = .ok (.bipush (-2), 2) := by decide +kernel
theorem dX9_cost_59 : decode cX9_cost 59 = .ok (.ireturn, 1) := by decide +kernel
theorem dX9_cost_60 : decode cX9_cost 60 = .ok (.iload_n 2, 1) := by decide +kernel
theorem dX9_cost_61 : decode cX9_cost 61 = .ok (.iconst 3, 1) := by decide +kernel
theorem dX9_cost_62 : decode cX9_cost 62 = .ok (.if_icmp .ne 18, 3) := by decide +kernel
theorem dX9_cost_65 : decode cX9_cost 65 = .ok (.aload_n 0, 1) := by decide +kernel
theorem dX9_cost_66 : decode cX9_cost 66 = .ok (.aload_n 0, 1) := by decide +kernel
theorem dX9_cost_67 : decode cX9_cost 67 = .ok (.getfield 13, 3) := by decide +kernel
theorem dX9_cost_70 : decode cX9_cost 70 = .ok (.iload_n 1, 1) := by decide +kernel
theorem dX9_cost_71 : decode cX9_cost 71 = .ok (.iload_n 1, 1) := by decide +kernel
theorem dX9_cost_72 : decode cX9_cost 72 = .ok (.iload_n 3, 1) := by decide +kernel
theorem dX9_cost_73 : decode cX9_cost 73 = .ok (.isub, 1) := by decide +kernel
theorem dX9_cost_74 : decode cX9_cost 74 = .ok (.invokevirtual 193, 3) := by decide +kernel
theorem dX9_cost_77 : decode cX9_cost 77 = .ok (.ifCond .eq 16, 3) := by decide +kernel
theorem dX9_cost_80 : decode cX9_cost 80 = .ok (.iload_n 2, 1) := by decide +kernel
theorem dX9_cost_81 : decode cX9_cost 81 = .ok (.iconst 4, 1) := by decide +kernel
theorem dX9_cost_82 : decode cX9_cost 82 = .ok (.if_icmp .ne 14, 3) := by decide +kernel
theorem dX9_cost_85 : decode cX9_cost 85 = .ok (.aload_n 0, 1) := by decide +kernel
theorem dX9_cost_86 : decode cX9_cost 86 = .ok (.iload_n 1, 1) := by decide +kernel
theorem dX9_cost_87 : decode cX9_cost 87 = .ok (.invokevirtual 115, 3) := by decide +kernel
theorem dX9_cost_90 : decode cX9_cost 90 = .ok (.ifCond .ne 6, 3) := by decide +kernel
theorem dX9_cost_93 : decode cX9_cost 93 = .ok (.bipush (-3), 2) := by decide +kernel
theorem dX9_cost_95 : decode cX9_cost 95 = .ok (.ireturn, 1) := by decide +kernel
theorem dX9_cost_96 : decode cX9_cost 96 = .ok (.aload_n 0, 1) := by decide +kernel
theorem dX9_cost_97 : decode cX9_cost 97 = .ok (.aload_n 0, 1) := by decide +kernel
theorem dX9_cost_98 : decode cX9_cost 98 = .ok (.getfield 13, 3) := by decide +kernel
theorem dX9_cost_101 : decode cX9_cost 101 = .ok (.iload_n 1, 1) := by decide +kernel
theorem dX9_cost_102 : decode cX9_cost 102 = .ok (.iload_n 2, 1) := by decide +kernel
theorem dX9_cost_103 : decode cX9_cost 103 = .ok (.iload_n 3, 1) := by decide +kernel
theorem dX9_cost_104 : decode cX9_cost 104 = .ok (.invokevirtual 197, 3) := by decide +kernel
theorem dX9_cost_107 : decode cX9_cost 107 = .ok (.ireturn, 1) := by decide +kernel
theorem dX9_writeRow_0 : decode cX9_writeRow 0 = .ok (.aload_n 0, 1) := by decide +kernel
theorem dX9_writeRow_1 : decode cX9_writeRow 1 = .ok (.getfield 66, 3) := by decide +kernel
theorem dX9_writeRow_4 : decode cX9_writeRow 4 = .ok (.iload_n 1, 1) := by decide +kernel
theorem dX9_writeRow_5 : decode cX9_writeRow 5 = .ok (.aload_n 0, 1) := by decide +kernel
theorem dX9_writeRow_6 : decode cX9_writeRow 6 = .ok (.getfield 122, 3) := by decide +kernel
theorem dX9_writeRow_9 : decode cX9_writeRow 9 = .ok (.iastore, 1) := by decide +kernel
theorem dX9_writeRow_10 : decode cX9_writeRow 10 = .ok (.iconst 0, 1) := by decide +kernel
theorem dX9_writeRow_11 : decode cX9_writeRow 11 = .ok (.istore_n 2, 1) := by decide +kernel
theorem dX9_writeRow_12 : decode cX9_writeRow 12 = .ok (.iload_n 2, 1) := by decide +kernel
theorem dX9_writeRow_13 : decode cX9_writeRow 13 = .ok (.aload_n 0, 1) := by decide +kernel
theorem dX9_writeRow_14 : decode cX9_writeRow 14 = .ok (.getfield 139, 3) := by decide +kernel
theorem dX9_writeRow_17 : decode cX9_writeRow 17 = .ok (.if_icmp .ge 54, 3) := by decide +kernel
theorem dX9_writeRow_20 : decode cX9_writeRow 20 = .ok (.aload_n 0, 1) := by decide +kernel
theorem dX9_writeRow_21 : decode cX9_writeRow 21 = .ok (.getfield 42, 3) := by decide +kernel
theorem dX9_writeRow_24 : decode cX9_writeRow 24 = .ok (.iload_n 2, 1) := by decide +kernel
theorem dX9_writeRow_25 : decode cX9_writeRow 25 = .ok (.iaload, 1) := by decide +kernel
theorem dX9_writeRow_26 : decode cX9_writeRow 26 = .ok (.bipush 8, 2) := by decide +kernel
theorem dX9_writeRow_28 : decode cX9_writeRow 28 = .ok (.if_icmp .ne 16, 3) := by decide +kernel
theorem dX9_writeRow_31 : decode cX9_writeRow 31 = .ok (.aload_n 0, 1) := by decide +kernel
theorem dX9_writeRow_32 : decode cX9_writeRow 32 = .ok (.aload_n 0, 1) := by decide +kernel
theorem dX9_writeRow_33 : decode cX9_writeRow 33 = .ok (.getfield 45, 3) := by decide +kernel
theorem dX9_writeRow_36 : decode cX9_writeRow 36 = .ok (.iload_n 2, 1) := by decide +kernel
theorem dX9_writeRow_37 : decode cX9_writeRow 37 = .ok (.iaload, 1) := by decide +kernel
theorem dX9_writeRow_38 : decode cX9_writeRow 38 = .ok (.invokevirtual 125, 3) := by decide +kernel
theorem dX9_writeRow_41 : decode cX9_writeRow 41 = .ok (.goto 24, 3) := by decide +kernel
theorem dX9_writeRow_44 : decode cX9_writeRow 44 = .ok (.aload_n 0, 1) := by decide +kernel
theorem dX9_writeRow_45 : decode cX9_writeRow 45 = .ok (.aload_n 0, 1) := by decide +kernel
theorem dX9_writeRow_46 : decode cX9_writeRow 46 = .ok (.getfield 23, 3) := by decide +kernel
theorem dX9_writeRow_49 : decode cX9_writeRow 49 = .ok (.aload_n 0, 1) := by decide +kernel
theorem dX9_writeRow_50 : decode cX9_writeRow 50 = .ok (.getfield 42, 3) := by decide +kernel
theorem dX9_writeRow_53 : decode cX9_writeRow 53 = .ok (.iload_n 2, 1) := by decide +kernel
theorem dX9_writeRow_54 : decode cX9_writeRow 54 = .ok (.iaload, 1) := by decide +kernel
theorem dX9_writeRow_55 : decode cX9_writeRow 55 = .ok (.iaload, 1) := by decide +kernel
theorem dX9_writeRow_56 : decode cX9_writeRow 56 = .ok (.aload_n 0, 1) := by decide +kernel
theorem dX9_writeRow_57 : decode cX9_writeRow 57 = .ok (.getfield 45, 3) := by decide +kernel
theorem dX9_writeRow_60 : decode cX9_writeRow 60 = .ok (.iload_n 2, 1) := by decide +kernel
theorem dX9_writeRow_61 : decode cX9_writeRow 61 = .ok (.iaload, 1) := by decide +kernel
theorem dX9_writeRow_62 : decode cX9_writeRow 62 = .ok (.invokevirtual 201, 3) := by decide +kernel
theorem dX9_writeRow_65 : decode cX9_writeRow 65 = .ok (.iinc 2 1, 3) := by decide +kernel
theorem dX9_writeRow_68 : decode cX9_writeRow 68 = .ok (.goto (-56), 3) := by decide +kernel
theorem dX9_writeRow_71 : decode cX9_writeRow 71 = .ok (.return_, 1) := by decide +kernel
theorem dX9_closeBook_0 : decode cX9_closeBook 0 = .ok (.aload_n 0, 1) := by decide +kernel
theorem dX9_closeBook_1 : decode cX9_closeBook 1 = .ok (.getfield 66, 3) := by decide +kernel
theorem dX9_closeBook_4 : decode cX9_closeBook 4 = .ok (.aload_n 0, 1) := by decide +kernel
theorem dX9_closeBook_5 : decode cX9_closeBook 5 = .ok (.getfield 93, 3) := by decide +kernel
theorem dX9_closeBook_8 : decode cX9_closeBook 8 = .ok (.aload_n 0, 1) := by decide +kernel
theorem dX9_closeBook_9 : decode cX9_closeBook 9 = .ok (.getfield 122, 3) := by decide +kernel
theorem dX9_closeBook_12 : decode cX9_closeBook 12 = .ok (.iastore, 1) := by decide +kernel
theorem dX9_closeBook_13 : decode cX9_closeBook 13 = .ok (.aload_n 0, 1) := by decide +kernel
theorem dX9_closeBook_14 : decode cX9_closeBook 14 = .ok (.getfield 122, 3) := by decide +kernel
theorem dX9_closeBook_17 : decode cX9_closeBook 17 = .ok (.istore_n 1, 1) := by decide +kernel
theorem dX9_closeBook_18 : decode cX9_closeBook 18 = .ok (.iload_n 1, 1) := by decide +kernel
theorem dX9_closeBook_19 : decode cX9_closeBook 19 = .ok (.aload_n 0, 1) := by decide +kernel
theorem dX9_closeBook_20 : decode cX9_closeBook 20 = .ok (.getfield 122, 3) := by decide +kernel
theorem dX9_closeBook_23 : decode cX9_closeBook 23 = .ok (.bipush 8, 2) := by decide +kernel
theorem dX9_closeBook_25 : decode cX9_closeBook 25 = .ok (.iadd, 1) := by decide +kernel
theorem dX9_closeBook_26 : decode cX9_closeBook 26 = .ok (.if_icmp .ge 16, 3) := by decide +kernel
theorem dX9_closeBook_29 : decode cX9_closeBook 29 = .ok (.aload_n 0, 1) := by decide +kernel
theorem dX9_closeBook_30 : decode cX9_closeBook 30 = .ok (.getfield 36, 3) := by decide +kernel
theorem dX9_closeBook_33 : decode cX9_closeBook 33 = .ok (.iload_n 1, 1) := by decide +kernel
theorem dX9_closeBook_34 : decode cX9_closeBook 34 = .ok (.iconst 0, 1) := by decide +kernel
theorem dX9_closeBook_35 : decode cX9_closeBook 35 = .ok (.iastore, 1) := by decide +kernel
theorem dX9_closeBook_36 : decode cX9_closeBook 36 = .ok (.iinc 1 1, 3) := by decide +kernel
theorem dX9_closeBook_39 : decode cX9_closeBook 39 = .ok (.goto (-21), 3) := by decide +kernel
theorem dX9_closeBook_42 : decode cX9_closeBook 42 = .ok (.iconst 0, 1) := by decide +kernel
theorem dX9_closeBook_43 : decode cX9_closeBook 43 = .ok (.istore_n 1, 1) := by decide +kernel
theorem dX9_closeBook_44 : decode cX9_closeBook 44 = .ok (.iload_n 1, 1) := by decide +kernel
theorem dX9_closeBook_45 : decode cX9_closeBook 45 = .ok (.aload_n 0, 1) := by decide +kernel
theorem dX9_closeBook_46 : decode cX9_closeBook 46 = .ok (.getfield 122, 3) := by decide +kernel
theorem dX9_closeBook_49 : decode cX9_closeBook 49 = .ok (.bipush 8, 2) := by decide +kernel
theorem dX9_closeBook_51 : decode cX9_closeBook 51 = .ok (.iadd, 1) := by decide +kernel
theorem dX9_closeBook_52 : decode cX9_closeBook 52 = .ok (.if_icmp .ge 21, 3) := by decide +kernel
theorem dX9_closeBook_55 : decode cX9_closeBook 55 = .ok (.aload_n 0, 1) := by decide +kernel
theorem dX9_closeBook_56 : decode cX9_closeBook 56 = .ok (.getfield 39, 3) := by decide +kernel
theorem dX9_closeBook_59 : decode cX9_closeBook 59 = .ok (.iload_n 1, 1) := by decide +kernel
theorem dX9_closeBook_60 : decode cX9_closeBook 60 = .ok (.aload_n 0, 1) := by decide +kernel
theorem dX9_closeBook_61 : decode cX9_closeBook 61 = .ok (.getfield 36, 3) := by decide +kernel
theorem dX9_closeBook_64 : decode cX9_closeBook 64 = .ok (.iload_n 1, 1) := by decide +kernel
theorem dX9_closeBook_65 : decode cX9_closeBook 65 = .ok (.iaload, 1) := by decide +kernel
theorem dX9_closeBook_66 : decode cX9_closeBook 66 = .ok (.iastore, 1) := by decide +kernel
theorem dX9_closeBook_67 : decode cX9_closeBook 67 = .ok (.iinc 1 1, 3) := by decide +kernel
theorem dX9_closeBook_70 : decode cX9_closeBook 70 = .ok (.goto (-26), 3) := by decide +kernel
theorem dX9_closeBook_73 : decode cX9_closeBook 73 = .ok (.return_, 1) := by decide +kernel
theorem dX9_consider_0 : decode cX9_consider 0 = .ok (.aload_n 0, 1) := by decide +kernel
theorem dX9_consider_1 : decode cX9_consider 1 = .ok (.aload_n 0, 1) := by decide +kernel
theorem dX9_consider_2 : decode cX9_consider 2 = .ok (.getfield 17, 3) := by decide +kernel
theorem dX9_consider_5 : decode cX9_consider 5 = .ok (.iload_n 1, 1) := by decide +kernel
theorem dX9_consider_6 : decode cX9_consider 6 = .ok (.iload_n 2, 1) := by decide +kernel
theorem dX9_consider_7 : decode cX9_consider 7 = .ok (.iload_n 3, 1) := by decide +kernel
theorem dX9_consider_8 : decode cX9_consider 8 = .ok (.invokevirtual 197, 3) := by decide +kernel
theorem dX9_consider_11 : decode cX9_consider 11 = .ok (.istore 5, 2) := by decide +kernel
theorem dX9_consider_13 : decode cX9_consider 13 = .ok (.aload_n 0, 1) := by decide +kernel
theorem dX9_consider_14 : decode cX9_consider 14 = .ok (.getfield 204, 3) := by decide +kernel
theorem dX9_consider_17 : decode cX9_consider 17 = .ok (.iconst (-1), 1) := by decide +kernel
theorem dX9_consider_18 : decode cX9_consider 18 = .ok (.if_icmp .eq 12, 3) := by decide +kernel
theorem dX9_consider_21 : decode cX9_consider 21 = .ok (.iload 5, 2) := by decide +kernel
theorem dX9_consider_23 : decode cX9_consider 23 = .ok (.aload_n 0, 1) := by decide +kernel
theorem dX9_consider_24 : decode cX9_consider 24 = .ok (.getfield 204, 3) := by decide +kernel
theorem dX9_consider_27 : decode cX9_consider 27 = .ok (.if_icmp .ge 31, 3) := by decide +kernel
theorem dX9_consider_30 : decode cX9_consider 30 = .ok (.aload_n 0, 1) := by decide +kernel
theorem dX9_consider_31 : decode cX9_consider 31 = .ok (.iload 5, 2) := by decide +kernel
theorem dX9_consider_33 : decode cX9_consider 33 = .ok (.putfield 204, 3) := by decide +kernel
theorem dX9_consider_36 : decode cX9_consider 36 = .ok (.aload_n 0, 1) := by decide +kernel
theorem dX9_consider_37 : decode cX9_consider 37 = .ok (.getfield 57, 3) := by decide +kernel
theorem dX9_consider_40 : decode cX9_consider 40 = .ok (.iload_n 1, 1) := by decide +kernel
theorem dX9_consider_41 : decode cX9_consider 41 = .ok (.iload_n 2, 1) := by decide +kernel
theorem dX9_consider_42 : decode cX9_consider 42 = .ok (.iastore, 1) := by decide +kernel
theorem dX9_consider_43 : decode cX9_consider 43 = .ok (.aload_n 0, 1) := by decide +kernel
theorem dX9_consider_44 : decode cX9_consider 44 = .ok (.getfield 60, 3) := by decide +kernel
theorem dX9_consider_47 : decode cX9_consider 47 = .ok (.iload_n 1, 1) := by decide +kernel
theorem dX9_consider_48 : decode cX9_consider 48 = .ok (.iload_n 3, 1) := by decide +kernel
theorem dX9_consider_49 : decode cX9_consider 49 = .ok (.iastore, 1) := by decide +kernel
theorem dX9_consider_50 : decode cX9_consider 50 = .ok (.aload_n 0, 1) := by decide +kernel
theorem dX9_consider_51 : decode cX9_consider 51 = .ok (.getfield 63, 3) := by decide +kernel
theorem dX9_consider_54 : decode cX9_consider 54 = .ok (.iload_n 1, 1) := by decide +kernel
theorem dX9_consider_55 : decode cX9_consider 55 = .ok (.iload 4, 2) := by decide +kernel
theorem dX9_consider_57 : decode cX9_consider 57 = .ok (.iastore, 1) := by decide +kernel
theorem dX9_consider_58 : decode cX9_consider 58 = .ok (.return_, 1) := by decide +kernel
theorem dX9_choose_0 : decode cX9_choose 0 = .ok (.aload_n 0, 1) := by decide +kernel
theorem dX9_choose_1 : decode cX9_choose 1 = .ok (.iconst (-1), 1) := by decide +kernel
theorem dX9_choose_2 : decode cX9_choose 2 = .ok (.putfield 204, 3) := by decide +kernel
theorem dX9_choose_5 : decode cX9_choose 5 = .ok (.aload_n 0, 1) := by decide +kernel
theorem dX9_choose_6 : decode cX9_choose 6 = .ok (.iload_n 1, 1) := by decide +kernel
theorem dX9_choose_7 : decode cX9_choose 7 = .ok (.iconst 0, 1) := by decide +kernel
theorem dX9_choose_8 : decode cX9_choose 8 = .ok (.iconst 0, 1) := by decide +kernel
theorem dX9_choose_9 : decode cX9_choose 9 = .ok (.iconst 0, 1) := by decide +kernel
theorem dX9_choose_10 : decode cX9_choose 10 = .ok (.invokevirtual 207, 3) := by decide +kernel
theorem dX9_choose_13 : decode cX9_choose 13 = .ok (.aload_n 0, 1) := by decide +kernel
theorem dX9_choose_14 : decode cX9_choose 14 = .ok (.iload_n 1, 1) := by decide +kernel
theorem dX9_choose_15 : decode cX9_choose 15 = .ok (.iconst 1, 1) := by decide +kernel
theorem dX9_choose_16 : decode cX9_choose 16 = .ok (.iconst 0, 1) := by decide +kernel
theorem dX9_choose_17 : decode cX9_choose 17 = .ok (.iconst 0, 1) := by decide +kernel
theorem dX9_choose_18 : decode cX9_choose 18 = .ok (.invokevirtual 207, 3) := by decide +kernel
theorem dX9_choose_21 : decode cX9_choose 21 = .ok (.iconst 2, 1) := by decide +kernel
theorem dX9_choose_22 : decode cX9_choose 22 = .ok (.istore_n 2, 1) := by decide +kernel
theorem dX9_choose_23 : decode cX9_choose 23 = .ok (.iload_n 2, 1) := by decide +kernel
theorem dX9_choose_24 : decode cX9_choose 24 = .ok (.iconst 4, 1) := by decide +kernel
theorem dX9_choose_25 : decode cX9_choose 25 = .ok (.if_icmp .ge 94, 3) := by decide +kernel
theorem dX9_choose_28 : decode cX9_choose 28 = .ok (.iconst 1, 1) := by decide +kernel
end
section
theorem dX9_choose_29 : decode cX9_choose 29 = .ok (.istore_n 3, 1) := by decide +kernel
theorem dX9_choose_30 : decode cX9_choose 30 = .ok (.iload_n 3, 1) := by decide +kernel
theorem dX9_choose_31 : decode cX9_choose 31 = .ok (.aload_n 0, 1) := by decide +kernel
theorem dX9_choose_32 : decode cX9_choose 32 = .ok (.getfield 27, 3) := by decide +kernel
theorem dX9_choose_35 : decode cX9_choose 35 = .ok (.if_icmp .gt 78, 3) := by decide +kernel
theorem dX9_choose_38 : decode cX9_choose 38 = .ok (.iload_n 3, 1) := by decide +kernel
theorem dX9_choose_39 : decode cX9_choose 39 = .ok (.iload_n 1, 1) := by decide +kernel
theorem dX9_choose_40 : decode cX9_choose 40 = .ok (.if_icmp .gt 73, 3) := by decide +kernel
theorem dX9_choose_43 : decode cX9_choose 43 = .ok (.aload_n 0, 1) := by decide +kernel
theorem dX9_choose_44 : decode cX9_choose 44 = .ok (.getfield 63, 3) := by decide +kernel
theorem dX9_choose_47 : decode cX9_choose 47 = .ok (.iload_n 1, 1) := by decide +kernel
theorem dX9_choose_48 : decode cX9_choose 48 = .ok (.iload_n 3, 1) := by decide +kernel
theorem dX9_choose_49 : decode cX9_choose 49 = .ok (.isub, 1) := by decide +kernel
theorem dX9_choose_50 : decode cX9_choose 50 = .ok (.iaload, 1) := by decide +kernel
theorem dX9_choose_51 : decode cX9_choose 51 = .ok (.aload_n 0, 1) := by decide +kernel
theorem dX9_choose_52 : decode cX9_choose 52 = .ok (.getfield 30, 3) := by decide +kernel
theorem dX9_choose_55 : decode cX9_choose 55 = .ok (.if_icmp .ge 27, 3) := by decide +kernel
theorem dX9_choose_58 : decode cX9_choose 58 = .ok (.iload_n 2, 1) := by decide +kernel
theorem dX9_choose_59 : decode cX9_choose 59 = .ok (.iconst 2, 1) := by decide +kernel
theorem dX9_choose_60 : decode cX9_choose 60 = .ok (.if_icmp .eq 18, 3) := by decide +kernel
theorem dX9_choose_63 : decode cX9_choose 63 = .ok (.aload_n 0, 1) := by decide +kernel
theorem dX9_choose_64 : decode cX9_choose 64 = .ok (.aload_n 0, 1) := by decide +kernel
theorem dX9_choose_65 : decode cX9_choose 65 = .ok (.getfield 17, 3) := by decide +kernel
theorem dX9_choose_68 : decode cX9_choose 68 = .ok (.iload_n 1, 1) := by decide +kernel
theorem dX9_choose_69 : decode cX9_choose 69 = .ok (.iload_n 1, 1) := by decide +kernel
theorem dX9_choose_70 : decode cX9_choose 70 = .ok (.iload_n 3, 1) := by decide +kernel
theorem dX9_choose_71 : decode cX9_choose 71 = .ok (.isub, 1) := by decide +kernel
theorem dX9_choose_72 : decode cX9_choose 72 = .ok (.invokevirtual 193, 3) := by decide +kernel
theorem dX9_choose_75 : decode cX9_choose 75 = .ok (.ifCond .eq 7, 3) := by decide +kernel
theorem dX9_choose_78 : decode cX9_choose 78 = .ok (.iconst 1, 1) := by decide +kernel
theorem dX9_choose_79 : decode cX9_choose 79 = .ok (.goto 4, 3) := by decide +kernel
theorem dX9_choose_82 : decode cX9_choose 82 = .ok (.iconst 0, 1) := by decide +kernel
theorem dX9_choose_83 : decode cX9_choose 83 = .ok (.istore 4, 2) := by decide +kernel
theorem dX9_choose_85 : decode cX9_choose 85 = .ok (.iload 4, 2) := by decide +kernel
theorem dX9_choose_87 : decode cX9_choose 87 = .ok (.ifCond .eq 20, 3) := by decide +kernel
theorem dX9_choose_90 : decode cX9_choose 90 = .ok (.aload_n 0, 1) := by decide +kernel
theorem dX9_choose_91 : decode cX9_choose 91 = .ok (.iload_n 1, 1) := by decide +kernel
theorem dX9_choose_92 : decode cX9_choose 92 = .ok (.iload_n 2, 1) := by decide +kernel
theorem dX9_choose_93 : decode cX9_choose 93 = .ok (.iload_n 3, 1) := by decide +kernel
theorem dX9_choose_94 : decode cX9_choose 94 = .ok (.aload_n 0, 1) := by decide +kernel
theorem dX9_choose_95 : decode cX9_choose 95 = .ok (.getfield 63, 3) := by decide +kernel
theorem dX9_choose_98 : decode cX9_choose 98 = .ok (.iload_n 1, 1) := by decide +kernel
theorem dX9_choose_99 : decode cX9_choose 99 = .ok (.iload_n 3, 1) := by decide +kernel
theorem dX9_choose_100 : decode cX9_choose 100 = .ok (.isub, 1) := by decide +kernel
theorem dX9_choose_101 : decode cX9_choose 101 = .ok (.iaload, 1) := by decide +kernel
theorem dX9_choose_102 : decode cX9_choose 102 = .ok (.iconst 1, 1) := by decide +kernel
theorem dX9_choose_103 : decode cX9_choose 103 = .ok (.iadd, 1) := by decide +kernel
theorem dX9_choose_104 : decode cX9_choose 104 = .ok (.invokevirtual 207, 3) := by decide +kernel
theorem dX9_choose_107 : decode cX9_choose 107 = .ok (.iinc 3 1, 3) := by decide +kernel
theorem dX9_choose_110 : decode cX9_choose 110 = .ok (.goto (-80), 3) := by decide +kernel
theorem dX9_choose_113 : decode cX9_choose 113 = .ok (.iinc 2 1, 3) := by decide +kernel
theorem dX9_choose_116 : decode cX9_choose 116 = .ok (.goto (-93), 3) := by decide +kernel
theorem dX9_choose_119 : decode cX9_choose 119 = .ok (.aload_n 0, 1) := by decide +kernel
theorem dX9_choose_120 : decode cX9_choose 120 = .ok (.aload_n 0, 1) := by decide +kernel
theorem dX9_choose_121 : decode cX9_choose 121 = .ok (.getfield 17, 3) := by decide +kernel
theorem dX9_choose_124 : decode cX9_choose 124 = .ok (.iload_n 1, 1) := by decide +kernel
theorem dX9_choose_125 : decode cX9_choose 125 = .ok (.iload_n 1, 1) := by decide +kernel
theorem dX9_choose_126 : decode cX9_choose 126 = .ok (.invokevirtual 157, 3) := by decide +kernel
theorem dX9_choose_129 : decode cX9_choose 129 = .ok (.aload_n 0, 1) := by decide +kernel
theorem dX9_choose_130 : decode cX9_choose 130 = .ok (.getfield 142, 3) := by decide +kernel
theorem dX9_choose_133 : decode cX9_choose 133 = .ok (.ifCond .le 11, 3) := by decide +kernel
theorem dX9_choose_136 : decode cX9_choose 136 = .ok (.aload_n 0, 1) := by decide +kernel
theorem dX9_choose_137 : decode cX9_choose 137 = .ok (.iload_n 1, 1) := by decide +kernel
theorem dX9_choose_138 : decode cX9_choose 138 = .ok (.iconst 4, 1) := by decide +kernel
theorem dX9_choose_139 : decode cX9_choose 139 = .ok (.iconst 0, 1) := by decide +kernel
theorem dX9_choose_140 : decode cX9_choose 140 = .ok (.iconst 0, 1) := by decide +kernel
theorem dX9_choose_141 : decode cX9_choose 141 = .ok (.invokevirtual 207, 3) := by decide +kernel
theorem dX9_choose_144 : decode cX9_choose 144 = .ok (.return_, 1) := by decide +kernel
theorem dX9_pack_0 : decode cX9_pack 0 = .ok (.aload_n 0, 1) := by decide +kernel
theorem dX9_pack_1 : decode cX9_pack 1 = .ok (.iconst 0, 1) := by decide +kernel
theorem dX9_pack_2 : decode cX9_pack 2 = .ok (.putfield 1, 3) := by decide +kernel
theorem dX9_pack_5 : decode cX9_pack 5 = .ok (.iconst 0, 1) := by decide +kernel
theorem dX9_pack_6 : decode cX9_pack 6 = .ok (.istore_n 1, 1) := by decide +kernel
theorem dX9_pack_7 : decode cX9_pack 7 = .ok (.iload_n 1, 1) := by decide +kernel
theorem dX9_pack_8 : decode cX9_pack 8 = .ok (.sipush 2304, 3) := by decide +kernel
theorem dX9_pack_11 : decode cX9_pack 11 = .ok (.if_icmp .ge 21, 3) := by decide +kernel
theorem dX9_pack_14 : decode cX9_pack 14 = .ok (.aload_n 0, 1) := by decide +kernel
theorem dX9_pack_15 : decode cX9_pack 15 = .ok (.getfield 17, 3) := by decide +kernel
theorem dX9_pack_18 : decode cX9_pack 18 = .ok (.iload_n 1, 1) := by decide +kernel
theorem dX9_pack_19 : decode cX9_pack 19 = .ok (.aload_n 0, 1) := by decide +kernel
theorem dX9_pack_20 : decode cX9_pack 20 = .ok (.getfield 13, 3) := by decide +kernel
theorem dX9_pack_23 : decode cX9_pack 23 = .ok (.iload_n 1, 1) := by decide +kernel
theorem dX9_pack_24 : decode cX9_pack 24 = .ok (.baload, 1) := by decide +kernel
theorem dX9_pack_25 : decode cX9_pack 25 = .ok (.bastore, 1) := by decide +kernel
theorem dX9_pack_26 : decode cX9_pack 26 = .ok (.iinc 1 1, 3) := by decide +kernel
theorem dX9_pack_29 : decode cX9_pack 29 = .ok (.goto (-22), 3) := by decide +kernel
theorem dX9_pack_32 : decode cX9_pack 32 = .ok (.aload_n 0, 1) := by decide +kernel
theorem dX9_pack_33 : decode cX9_pack 33 = .ok (.iconst 1, 1) := by decide +kernel
theorem dX9_pack_34 : decode cX9_pack 34 = .ok (.putfield 100, 3) := by decide +kernel
theorem dX9_pack_37 : decode cX9_pack 37 = .ok (.aload_n 0, 1) := by decide +kernel
theorem dX9_pack_38 : decode cX9_pack 38 = .ok (.iconst 0, 1) := by decide +kernel
theorem dX9_pack_39 : decode cX9_pack 39 = .ok (.putfield 104, 3) := by decide +kernel
theorem dX9_pack_42 : decode cX9_pack 42 = .ok (.aload_n 0, 1) := by decide +kernel
theorem dX9_pack_43 : decode cX9_pack 43 = .ok (.aload_n 0, 1) := by decide +kernel
theorem dX9_pack_44 : decode cX9_pack 44 = .ok (.getfield 33, 3) := by decide +kernel
theorem dX9_pack_47 : decode cX9_pack 47 = .ok (.putfield 211, 3) := by decide +kernel
theorem dX9_pack_50 : decode cX9_pack 50 = .ok (.aload_n 0, 1) := by decide +kernel
theorem dX9_pack_51 : decode cX9_pack 51 = .ok (.iconst 0, 1) := by decide +kernel
theorem dX9_pack_52 : decode cX9_pack 52 = .ok (.putfield 122, 3) := by decide +kernel
theorem dX9_pack_55 : decode cX9_pack 55 = .ok (.iconst 0, 1) := by decide +kernel
theorem dX9_pack_56 : decode cX9_pack 56 = .ok (.istore_n 1, 1) := by decide +kernel
theorem dX9_pack_57 : decode cX9_pack 57 = .ok (.iload_n 1, 1) := by decide +kernel
theorem dX9_pack_58 : decode cX9_pack 58 = .ok (.aload_n 0, 1) := by decide +kernel
theorem dX9_pack_59 : decode cX9_pack 59 = .ok (.getfield 93, 3) := by decide +kernel
theorem dX9_pack_62 : decode cX9_pack 62 = .ok (.if_icmp .ge 40, 3) := by decide +kernel
theorem dX9_pack_65 : decode cX9_pack 65 = .ok (.aload_n 0, 1) := by decide +kernel
theorem dX9_pack_66 : decode cX9_pack 66 = .ok (.iload_n 1, 1) := by decide +kernel
theorem dX9_pack_67 : decode cX9_pack 67 = .ok (.invokevirtual 214, 3) := by decide +kernel
theorem dX9_pack_70 : decode cX9_pack 70 = .ok (.aload_n 0, 1) := by decide +kernel
theorem dX9_pack_71 : decode cX9_pack 71 = .ok (.aload_n 0, 1) := by decide +kernel
theorem dX9_pack_72 : decode cX9_pack 72 = .ok (.getfield 17, 3) := by decide +kernel
theorem dX9_pack_75 : decode cX9_pack 75 = .ok (.iload_n 1, 1) := by decide +kernel
theorem dX9_pack_76 : decode cX9_pack 76 = .ok (.aload_n 0, 1) := by decide +kernel
theorem dX9_pack_77 : decode cX9_pack 77 = .ok (.getfield 57, 3) := by decide +kernel
theorem dX9_pack_80 : decode cX9_pack 80 = .ok (.iload_n 1, 1) := by decide +kernel
theorem dX9_pack_81 : decode cX9_pack 81 = .ok (.iaload, 1) := by decide +kernel
theorem dX9_pack_82 : decode cX9_pack 82 = .ok (.aload_n 0, 1) := by decide +kernel
theorem dX9_pack_83 : decode cX9_pack 83 = .ok (.getfield 60, 3) := by decide +kernel
theorem dX9_pack_86 : decode cX9_pack 86 = .ok (.iload_n 1, 1) := by decide +kernel
theorem dX9_pack_87 : decode cX9_pack 87 = .ok (.iaload, 1) := by decide +kernel
theorem dX9_pack_88 : decode cX9_pack 88 = .ok (.invokevirtual 175, 3) := by decide +kernel
theorem dX9_pack_91 : decode cX9_pack 91 = .ok (.aload_n 0, 1) := by decide +kernel
theorem dX9_pack_92 : decode cX9_pack 92 = .ok (.iload_n 1, 1) := by decide +kernel
theorem dX9_pack_93 : decode cX9_pack 93 = .ok (.invokevirtual 217, 3) := by decide +kernel
theorem dX9_pack_96 : decode cX9_pack 96 = .ok (.iinc 1 1, 3) := by decide +kernel
theorem dX9_pack_99 : decode cX9_pack 99 = .ok (.goto (-42), 3) := by decide +kernel
theorem dX9_pack_102 : decode cX9_pack 102 = .ok (.aload_n 0, 1) := by decide +kernel
theorem dX9_pack_103 : decode cX9_pack 103 = .ok (.invokevirtual 220, 3) := by decide +kernel
theorem dX9_pack_106 : decode cX9_pack 106 = .ok (.aload_n 0, 1) := by decide +kernel
theorem dX9_pack_107 : decode cX9_pack 107 = .ok (.getfield 122, 3) := by decide +kernel
theorem dX9_pack_110 : decode cX9_pack 110 = .ok (.ireturn, 1) := by decide +kernel
theorem dX9_told_0 : decode cX9_told 0 = .ok (.aload_n 0, 1) := by decide +kernel
theorem dX9_told_1 : decode cX9_told 1 = .ok (.iconst 0, 1) := by decide +kernel
theorem dX9_told_2 : decode cX9_told 2 = .ok (.putfield 1, 3) := by decide +kernel
theorem dX9_told_5 : decode cX9_told 5 = .ok (.aload_n 0, 1) := by decide +kernel
theorem dX9_told_6 : decode cX9_told 6 = .ok (.iload_n 1, 1) := by decide +kernel
theorem dX9_told_7 : decode cX9_told 7 = .ok (.invokevirtual 107, 3) := by decide +kernel
theorem dX9_told_10 : decode cX9_told 10 = .ok (.ifCond .eq 15, 3) := by decide +kernel
theorem dX9_told_13 : decode cX9_told 13 = .ok (.iload_n 2, 1) := by decide +kernel
theorem dX9_told_14 : decode cX9_told 14 = .ok (.i2l, 1) := by decide +kernel
theorem dX9_told_15 : decode cX9_told 15 = .ok (.lconst 0, 1) := by decide +kernel
theorem dX9_told_16 : decode cX9_told 16 = .ok (.ldc2_w 191, 3) := by decide +kernel
theorem dX9_told_19 : decode cX9_told 19 = .ok (.invokestatic 96, 3) := by decide +kernel
theorem dX9_told_22 : decode cX9_told 22 = .ok (.ifCond .ne 6, 3) := by decide +kernel
theorem dX9_told_25 : decode cX9_told 25 = .ok (.bipush (-2), 2) := by decide +kernel
theorem dX9_told_27 : decode cX9_told 27 = .ok (.ireturn, 1) := by decide +kernel
theorem dX9_told_28 : decode cX9_told 28 = .ok (.aload_n 0, 1) := by decide +kernel
theorem dX9_told_29 : decode cX9_told 29 = .ok (.getfield 100, 3) := by decide +kernel
theorem dX9_told_32 : decode cX9_told 32 = .ok (.ifCond .ne 6, 3) := by decide +kernel
theorem dX9_told_35 : decode cX9_told 35 = .ok (.bipush (-3), 2) := by decide +kernel
theorem dX9_told_37 : decode cX9_told 37 = .ok (.ireturn, 1) := by decide +kernel
theorem dX9_told_38 : decode cX9_told 38 = .ok (.iload_n 2, 1) := by decide +kernel
theorem dX9_told_39 : decode cX9_told 39 = .ok (.ifCond .ne 12, 3) := by decide +kernel
theorem dX9_told_42 : decode cX9_told 42 = .ok (.aload_n 0, 1) := by decide +kernel
theorem dX9_told_43 : decode cX9_told 43 = .ok (.getfield 57, 3) := by decide +kernel
theorem dX9_told_46 : decode cX9_told 46 = .ok (.iload_n 1, 1) := by decide +kernel
theorem dX9_told_47 : decode cX9_told 47 = .ok (.iaload, 1) := by decide +kernel
theorem dX9_told_48 : decode cX9_told 48 = .ok (.goto 60, 3) := by decide +kernel
theorem dX9_told_51 : decode cX9_told 51 = .ok (.iload_n 2, 1) := by decide +kernel
theorem dX9_told_52 : decode cX9_told 52 = .ok (.iconst 1, 1) := by decide +kernel
theorem dX9_told_53 : decode cX9_told 53 = .ok (.if_icmp .ne 12, 3) := by decide +kernel
theorem dX9_told_56 : decode cX9_told 56 = .ok (.aload_n 0, 1) := by decide +kernel
theorem dX9_told_57 : decode cX9_told 57 = .ok (.getfield 60, 3) := by decide +kernel
theorem dX9_told_60 : decode cX9_told 60 = .ok (.iload_n 1, 1) := by decide +kernel
theorem dX9_told_61 : decode cX9_told 61 = .ok (.iaload, 1) := by decide +kernel
theorem dX9_told_62 : decode cX9_told 62 = .ok (.goto 46, 3) := by decide +kernel
theorem dX9_told_65 : decode cX9_told 65 = .ok (.iload_n 2, 1) := by decide +kernel
theorem dX9_told_66 : decode cX9_told 66 = .ok (.iconst 2, 1) := by decide +kernel
theorem dX9_told_67 : decode cX9_told 67 = .ok (.if_icmp .ne 12, 3) := by decide +kernel
theorem dX9_told_70 : decode cX9_told 70 = .ok (.aload_n 0, 1) := by decide +kernel
theorem dX9_told_71 : decode cX9_told 71 = .ok (.getfield 63, 3) := by decide +kernel
theorem dX9_told_74 : decode cX9_told 74 = .ok (.iload_n 1, 1) := by decide +kernel
theorem dX9_told_75 : decode cX9_told 75 = .ok (.iaload, 1) := by decide +kernel
theorem dX9_told_76 : decode cX9_told 76 = .ok (.goto 32, 3) := by decide +kernel
theorem dX9_told_79 : decode cX9_told 79 = .ok (.iload_n 2, 1) := by decide +kernel
theorem dX9_told_80 : decode cX9_told 80 = .ok (.iconst 3, 1) := by decide +kernel
theorem dX9_told_81 : decode cX9_told 81 = .ok (.if_icmp .ne 12, 3) := by decide +kernel
theorem dX9_told_84 : decode cX9_told 84 = .ok (.aload_n 0, 1) := by decide +kernel
theorem dX9_told_85 : decode cX9_told 85 = .ok (.getfield 66, 3) := by decide +kernel
theorem dX9_told_88 : decode cX9_told 88 = .ok (.iload_n 1, 1) := by decide +kernel
theorem dX9_told_89 : decode cX9_told 89 = .ok (.iaload, 1) := by decide +kernel
theorem dX9_told_90 : decode cX9_told 90 = .ok (.goto 18, 3) := by decide +kernel
theorem dX9_told_93 : decode cX9_told 93 = .ok (.aload_n 0, 1) := by decide +kernel
theorem dX9_told_94 : decode cX9_told 94 = .ok (.getfield 66, 3) := by decide +kernel
theorem dX9_told_97 : decode cX9_told 97 = .ok (.iload_n 1, 1) := by decide +kernel
theorem dX9_told_98 : decode cX9_told 98 = .ok (.iconst 1, 1) := by decide +kernel
theorem dX9_told_99 : decode cX9_told 99 = .ok (.iadd, 1) := by decide +kernel
theorem dX9_told_100 : decode cX9_told 100 = .ok (.iaload, 1) := by decide +kernel
theorem dX9_told_101 : decode cX9_told 101 = .ok (.aload_n 0, 1) := by decide +kernel
theorem dX9_told_102 : decode cX9_told 102 = .ok (.getfield 66, 3) := by decide +kernel
theorem dX9_told_105 : decode cX9_told 105 = .ok (.iload_n 1, 1) := by decide +kernel
theorem dX9_told_106 : decode cX9_told 106 = .ok (.iaload, 1) := by decide +kernel
theorem dX9_told_107 : decode cX9_told 107 = .ok (.isub, 1) := by decide +kernel
theorem dX9_told_108 : decode cX9_told 108 = .ok (.ireturn, 1) := by decide +kernel
theorem dX9_looked_0 : decode cX9_looked 0 = .ok (.aload_n 0, 1) := by decide +kernel
theorem dX9_looked_1 : decode cX9_looked 1 = .ok (.iconst 0, 1) := by decide +kernel
theorem dX9_looked_2 : decode cX9_looked 2 = .ok (.putfield 1, 3) := by decide +kernel
theorem dX9_looked_5 : decode cX9_looked 5 = .ok (.aload_n 0, 1) := by decide +kernel
theorem dX9_looked_6 : decode cX9_looked 6 = .ok (.iload_n 1, 1) := by decide +kernel
theorem dX9_looked_7 : decode cX9_looked 7 = .ok (.invokevirtual 107, 3) := by decide +kernel
theorem dX9_looked_10 : decode cX9_looked 10 = .ok (.ifCond .ne 6, 3) := by decide +kernel
theorem dX9_looked_13 : decode cX9_looked 13 = .ok (.bipush (-2), 2) := by decide +kernel
theorem dX9_looked_15 : decode cX9_looked 15 = .ok (.ireturn, 1) := by decide +kernel
theorem dX9_looked_16 : decode cX9_looked 16 = .ok (.aload_n 0, 1) := by decide +kernel
theorem dX9_looked_17 : decode cX9_looked 17 = .ok (.getfield 100, 3) := by decide +kernel
theorem dX9_looked_20 : decode cX9_looked 20 = .ok (.ifCond .ne 6, 3) := by decide +kernel
theorem dX9_looked_23 : decode cX9_looked 23 = .ok (.bipush (-3), 2) := by decide +kernel
theorem dX9_looked_25 : decode cX9_looked 25 = .ok (.ireturn, 1) := by decide +kernel
theorem dX9_looked_26 : decode cX9_looked 26 = .ok (.iconst 0, 1) := by decide +kernel
theorem dX9_looked_27 : decode cX9_looked 27 = .ok (.istore_n 2, 1) := by decide +kernel
theorem dX9_looked_28 : decode cX9_looked 28 = .ok (.iload_n 1, 1) := by decide +kernel
theorem dX9_looked_29 : decode cX9_looked 29 = .ok (.istore_n 3, 1) := by decide +kernel
theorem dX9_looked_30 : decode cX9_looked 30 = .ok (.iconst 1, 1) := by decide +kernel
theorem dX9_looked_31 : decode cX9_looked 31 = .ok (.istore 4, 2) := by decide +kernel
theorem dX9_looked_33 : decode cX9_looked 33 = .ok (.iload 4, 2) := by decide +kernel
theorem dX9_looked_35 : decode cX9_looked 35 = .ok (.ifCond .eq 56, 3) := by decide +kernel
theorem dX9_looked_38 : decode cX9_looked 38 = .ok (.iload_n 2, 1) := by decide +kernel
theorem dX9_looked_39 : decode cX9_looked 39 = .ok (.aload_n 0, 1) := by decide +kernel
theorem dX9_looked_40 : decode cX9_looked 40 = .ok (.getfield 66, 3) := by decide +kernel
theorem dX9_looked_43 : decode cX9_looked 43 = .ok (.iload_n 3, 1) := by decide +kernel
theorem dX9_looked_44 : decode cX9_looked 44 = .ok (.iconst 1, 1) := by decide +kernel
theorem dX9_looked_45 : decode cX9_looked 45 = .ok (.iadd, 1) := by decide +kernel
theorem dX9_looked_46 : decode cX9_looked 46 = .ok (.iaload, 1) := by decide +kernel
theorem dX9_looked_47 : decode cX9_looked 47 = .ok (.aload_n 0, 1) := by decide +kernel
theorem dX9_looked_48 : decode cX9_looked 48 = .ok (.getfield 66, 3) := by decide +kernel
theorem dX9_looked_51 : decode cX9_looked 51 = .ok (.iload_n 3, 1) := by decide +kernel
theorem dX9_looked_52 : decode cX9_looked 52 = .ok (.iload_n 3, 1) := by decide +kernel
theorem dX9_looked_53 : decode cX9_looked 53 = .ok (.aload_n 0, 1) := by decide +kernel
theorem dX9_looked_54 : decode cX9_looked 54 = .ok (.getfield 211, 3) := by decide +kernel
theorem dX9_looked_57 : decode cX9_looked 57 = .ok (.irem, 1) := by decide +kernel
theorem dX9_looked_58 : decode cX9_looked 58 = .ok (.isub, 1) := by decide +kernel
theorem dX9_looked_59 : decode cX9_looked 59 = .ok (.iaload, 1) := by decide +kernel
theorem dX9_looked_60 : decode cX9_looked 60 = .ok (.isub, 1) := by decide +kernel
theorem dX9_looked_61 : decode cX9_looked 61 = .ok (.iadd, 1) := by decide +kernel
theorem dX9_looked_62 : decode cX9_looked 62 = .ok (.istore_n 2, 1) := by decide +kernel
theorem dX9_looked_63 : decode cX9_looked 63 = .ok (.aload_n 0, 1) := by decide +kernel
theorem dX9_looked_64 : decode cX9_looked 64 = .ok (.getfield 60, 3) := by decide +kernel
theorem dX9_looked_67 : decode cX9_looked 67 = .ok (.iload_n 3, 1) := by decide +kernel
theorem dX9_looked_68 : decode cX9_looked 68 = .ok (.iaload, 1) := by decide +kernel
theorem dX9_looked_69 : decode cX9_looked 69 = .ok (.ifCond .le 7, 3) := by decide +kernel
theorem dX9_looked_72 : decode cX9_looked 72 = .ok (.iconst 1, 1) := by decide +kernel
theorem dX9_looked_73 : decode cX9_looked 73 = .ok (.goto 4, 3) := by decide +kernel
theorem dX9_looked_76 : decode cX9_looked 76 = .ok (.iconst 0, 1) := by decide +kernel
theorem dX9_looked_77 : decode cX9_looked 77 = .ok (.istore 4, 2) := by decide +kernel
theorem dX9_looked_79 : decode cX9_looked 79 = .ok (.iload_n 3, 1) := by decide +kernel
theorem dX9_looked_80 : decode cX9_looked 80 = .ok (.aload_n 0, 1) := by decide +kernel
theorem dX9_looked_81 : decode cX9_looked 81 = .ok (.getfield 60, 3) := by decide +kernel
theorem dX9_looked_84 : decode cX9_looked 84 = .ok (.iload_n 3, 1) := by decide +kernel
theorem dX9_looked_85 : decode cX9_looked 85 = .ok (.iaload, 1) := by decide +kernel
theorem dX9_looked_86 : decode cX9_looked 86 = .ok (.isub, 1) := by decide +kernel
theorem dX9_looked_87 : decode cX9_looked 87 = .ok (.istore_n 3, 1) := by decide +kernel
theorem dX9_looked_88 : decode cX9_looked 88 = .ok (.goto (-55), 3) := by decide +kernel
theorem dX9_looked_91 : decode cX9_looked 91 = .ok (.iload_n 2, 1) := by decide +kernel
theorem dX9_looked_92 : decode cX9_looked 92 = .ok (.ireturn, 1) := by decide +kernel
theorem dX9_bitsOfUse_0 : decode cX9_bitsOfUse 0 = .ok (.iconst 0, 1) := by decide +kernel
theorem dX9_bitsOfUse_1 : decode cX9_bitsOfUse 1 = .ok (.istore_n 3, 1) := by decide +kernel
theorem dX9_bitsOfUse_2 : decode cX9_bitsOfUse 2 = .ok (.iconst 0, 1) := by decide +kernel
theorem dX9_bitsOfUse_3 : decode cX9_bitsOfUse 3 = .ok (.istore 4, 2) := by decide +kernel
theorem dX9_bitsOfUse_5 : decode cX9_bitsOfUse 5 = .ok (.iload 4, 2) := by decide +kernel
theorem dX9_bitsOfUse_7 : decode cX9_bitsOfUse 7 = .ok (.aload_n 0, 1) := by decide +kernel
theorem dX9_bitsOfUse_8 : decode cX9_bitsOfUse 8 = .ok (.getfield 93, 3) := by decide +kernel
theorem dX9_bitsOfUse_11 : decode cX9_bitsOfUse 11 = .ok (.if_icmp .ge 80, 3) := by decide +kernel
theorem dX9_bitsOfUse_14 : decode cX9_bitsOfUse 14 = .ok (.aload_n 0, 1) := by decide +kernel
theorem dX9_bitsOfUse_15 : decode cX9_bitsOfUse 15 = .ok (.aload_n 0, 1) := by decide +kernel
theorem dX9_bitsOfUse_16 : decode cX9_bitsOfUse 16 = .ok (.getfield 17, 3) := by decide +kernel
theorem dX9_bitsOfUse_19 : decode cX9_bitsOfUse 19 = .ok (.iload 4, 2) := by decide +kernel
theorem dX9_bitsOfUse_21 : decode cX9_bitsOfUse 21 = .ok (.aload_n 0, 1) := by decide +kernel
theorem dX9_bitsOfUse_22 : decode cX9_bitsOfUse 22 = .ok (.getfield 57, 3) := by decide +kernel
theorem dX9_bitsOfUse_25 : decode cX9_bitsOfUse 25 = .ok (.iload 4, 2) := by decide +kernel
theorem dX9_bitsOfUse_27 : decode cX9_bitsOfUse 27 = .ok (.iaload, 1) := by decide +kernel
theorem dX9_bitsOfUse_28 : decode cX9_bitsOfUse 28 = .ok (.aload_n 0, 1) := by decide +kernel
theorem dX9_bitsOfUse_29 : decode cX9_bitsOfUse 29 = .ok (.getfield 60, 3) := by decide +kernel
theorem dX9_bitsOfUse_32 : decode cX9_bitsOfUse 32 = .ok (.iload 4, 2) := by decide +kernel
theorem dX9_bitsOfUse_34 : decode cX9_bitsOfUse 34 = .ok (.iaload, 1) := by decide +kernel
theorem dX9_bitsOfUse_35 : decode cX9_bitsOfUse 35 = .ok (.invokevirtual 175, 3) := by decide +kernel
theorem dX9_bitsOfUse_38 : decode cX9_bitsOfUse 38 = .ok (.iconst 0, 1) := by decide +kernel
theorem dX9_bitsOfUse_39 : decode cX9_bitsOfUse 39 = .ok (.istore 5, 2) := by decide +kernel
theorem dX9_bitsOfUse_41 : decode cX9_bitsOfUse 41 = .ok (.iload 5, 2) := by decide +kernel
theorem dX9_bitsOfUse_43 : decode cX9_bitsOfUse 43 = .ok (.aload_n 0, 1) := by decide +kernel
theorem dX9_bitsOfUse_44 : decode cX9_bitsOfUse 44 = .ok (.getfield 139, 3) := by decide +kernel
theorem dX9_bitsOfUse_47 : decode cX9_bitsOfUse 47 = .ok (.if_icmp .ge 38, 3) := by decide +kernel
theorem dX9_bitsOfUse_50 : decode cX9_bitsOfUse 50 = .ok (.iload_n 3, 1) := by decide +kernel
theorem dX9_bitsOfUse_51 : decode cX9_bitsOfUse 51 = .ok (.aload_n 0, 1) := by decide +kernel
theorem dX9_bitsOfUse_52 : decode cX9_bitsOfUse 52 = .ok (.getfield 42, 3) := by decide +kernel
theorem dX9_bitsOfUse_55 : decode cX9_bitsOfUse 55 = .ok (.iload 5, 2) := by decide +kernel
theorem dX9_bitsOfUse_57 : decode cX9_bitsOfUse 57 = .ok (.iaload, 1) := by decide +kernel
theorem dX9_bitsOfUse_58 : decode cX9_bitsOfUse 58 = .ok (.iload_n 1, 1) := by decide +kernel
theorem dX9_bitsOfUse_59 : decode cX9_bitsOfUse 59 = .ok (.if_icmp .ne 17, 3) := by decide +kernel
theorem dX9_bitsOfUse_62 : decode cX9_bitsOfUse 62 = .ok (.iload_n 2, 1) := by decide +kernel
theorem dX9_bitsOfUse_63 : decode cX9_bitsOfUse 63 = .ok (.aload_n 0, 1) := by decide +kernel
theorem dX9_bitsOfUse_64 : decode cX9_bitsOfUse 64 = .ok (.getfield 45, 3) := by decide +kernel
theorem dX9_bitsOfUse_67 : decode cX9_bitsOfUse 67 = .ok (.iload 5, 2) := by decide +kernel
theorem dX9_bitsOfUse_69 : decode cX9_bitsOfUse 69 = .ok (.iaload, 1) := by decide +kernel
theorem dX9_bitsOfUse_70 : decode cX9_bitsOfUse 70 = .ok (.invokestatic 171, 3) := by decide +kernel
theorem dX9_bitsOfUse_73 : decode cX9_bitsOfUse 73 = .ok (.goto 4, 3) := by decide +kernel
theorem dX9_bitsOfUse_76 : decode cX9_bitsOfUse 76 = .ok (.iconst 0, 1) := by decide +kernel
theorem dX9_bitsOfUse_77 : decode cX9_bitsOfUse 77 = .ok (.iadd, 1) := by decide +kernel
theorem dX9_bitsOfUse_78 : decode cX9_bitsOfUse 78 = .ok (.istore_n 3, 1) := by decide +kernel
theorem dX9_bitsOfUse_79 : decode cX9_bitsOfUse 79 = .ok (.iinc 5 1, 3) := by decide +kernel
theorem dX9_bitsOfUse_82 : decode cX9_bitsOfUse 82 = .ok (.goto (-41), 3) := by decide +kernel
theorem dX9_bitsOfUse_85 : decode cX9_bitsOfUse 85 = .ok (.iinc 4 1, 3) := by decide +kernel
theorem dX9_bitsOfUse_88 : decode cX9_bitsOfUse 88 = .ok (.goto (-83), 3) := by decide +kernel
theorem dX9_bitsOfUse_91 : decode cX9_bitsOfUse 91 = .ok (.iload_n 3, 1) := by decide +kernel
theorem dX9_bitsOfUse_92 : decode cX9_bitsOfUse 92 = .ok (.ireturn, 1) := by decide +kernel
theorem dX9_would_0 : decode cX9_would 0 = .ok (.aload_n 0, 1) := by decide +kernel
theorem dX9_would_1 : decode cX9_would 1 = .ok (.iconst 0, 1) := by decide +kernel
theorem dX9_would_2 : decode cX9_would 2 = .ok (.putfield 1, 3) := by decide +kernel
theorem dX9_would_5 : decode cX9_would 5 = .ok (.iload_n 1, 1) := by decide +kernel
theorem dX9_would_6 : decode cX9_would 6 = .ok (.i2l, 1) := by decide +kernel
theorem dX9_would_7 : decode cX9_would 7 = .ok (.lconst 0, 1) := by decide +kernel
theorem dX9_would_8 : decode cX9_would 8 = .ok (.ldc2_w 183, 3) := by decide +kernel
theorem dX9_would_11 : decode cX9_would 11 = .ok (.invokestatic 96, 3) := by decide +kernel
theorem dX9_would_14 : decode cX9_would 14 = .ok (.ifCond .eq 15, 3) := by decide +kernel
theorem dX9_would_17 : decode cX9_would 17 = .ok (.iload_n 2, 1) := by decide +kernel
theorem dX9_would_18 : decode cX9_would 18 = .ok (.i2l, 1) := by decide +kernel
theorem dX9_would_19 : decode cX9_would 19 = .ok (.lconst 0, 1) := by decide +kernel
theorem dX9_would_20 : decode cX9_would 20 = .ok (.ldc2_w 185, 3) := by decide +kernel
theorem dX9_would_23 : decode cX9_would 23 = .ok (.invokestatic 96, 3) := by decide +kernel
theorem dX9_would_26 : decode cX9_would 26 = .ok (.ifCond .ne 6, 3) := by decide +kernel
theorem dX9_would_29 : decode cX9_would 29 = .ok (.bipush (-2), 2) := by decide +kernel
theorem dX9_would_31 : decode cX9_would 31 = .ok (.ireturn, 1) := by decide +kernel
theorem dX9_would_32 : decode cX9_would 32 = .ok (.aload_n 0, 1) := by decide +kernel
theorem dX9_would_33 : decode cX9_would 33 = .ok (.getfield 100, 3) := by decide +kernel
theorem dX9_would_36 : decode cX9_would 36 = .ok (.ifCond .eq 12, 3) := by decide +kernel
theorem dX9_would_39 : decode cX9_would 39 = .ok (.aload_n 0, 1) := by decide +kernel
theorem dX9_would_40 : decode cX9_would 40 = .ok (.iload_n 1, 1) := by decide +kernel
theorem dX9_would_41 : decode cX9_would 41 = .ok (.iload_n 2, 1) := by decide +kernel
theorem dX9_would_42 : decode cX9_would 42 = .ok (.invokevirtual 223, 3) := by decide +kernel
theorem dX9_would_45 : decode cX9_would 45 = .ok (.goto 5, 3) := by decide +kernel
theorem dX9_would_48 : decode cX9_would 48 = .ok (.bipush (-3), 2) := by decide +kernel
theorem dX9_would_50 : decode cX9_would 50 = .ok (.ireturn, 1) := by decide +kernel
theorem dX9_forms_0 : decode cX9_forms 0 = .ok (.aload_n 0, 1) := by decide +kernel
theorem dX9_forms_1 : decode cX9_forms 1 = .ok (.iconst 0, 1) := by decide +kernel
theorem dX9_forms_2 : decode cX9_forms 2 = .ok (.putfield 1, 3) := by decide +kernel
theorem dX9_forms_5 : decode cX9_forms 5 = .ok (.aload_n 0, 1) := by decide +kernel
theorem dX9_forms_6 : decode cX9_forms 6 = .ok (.getfield 100, 3) := by decide +kernel
theorem dX9_forms_9 : decode cX9_forms 9 = .ok (.ifCond .eq 10, 3) := by decide +kernel
theorem dX9_forms_12 : decode cX9_forms 12 = .ok (.aload_n 0, 1) := by decide +kernel
theorem dX9_forms_13 : decode cX9_forms 13 = .ok (.getfield 104, 3) := by decide +kernel
theorem dX9_forms_16 : decode cX9_forms 16 = .ok (.ifCond .le 6, 3) := by decide +kernel
theorem dX9_forms_19 : decode cX9_forms 19 = .ok (.bipush (-3), 2) := by decide +kernel
theorem dX9_forms_21 : decode cX9_forms 21 = .ok (.ireturn, 1) := by decide +kernel
theorem dX9_forms_22 : decode cX9_forms 22 = .ok (.iconst 0, 1) := by decide +kernel
theorem dX9_forms_23 : decode cX9_forms 23 = .ok (.istore_n 1, 1) := by decide +kernel
theorem dX9_forms_24 : decode cX9_forms 24 = .ok (.iload_n 1, 1) := by decide +kernel
theorem dX9_forms_25 : decode cX9_forms 25 = .ok (.bipush 8, 2) := by decide +kernel
theorem dX9_forms_27 : decode cX9_forms 27 = .ok (.if_icmp .ge 53, 3) := by decide +kernel
theorem dX9_forms_30 : decode cX9_forms 30 = .ok (.iconst 0, 1) := by decide +kernel
theorem dX9_forms_31 : decode cX9_forms 31 = .ok (.istore_n 2, 1) := by decide +kernel
theorem dX9_forms_32 : decode cX9_forms 32 = .ok (.iconst 1, 1) := by decide +kernel
theorem dX9_forms_33 : decode cX9_forms 33 = .ok (.istore_n 3, 1) := by decide +kernel
theorem dX9_forms_34 : decode cX9_forms 34 = .ok (.iload_n 3, 1) := by decide +kernel
theorem dX9_forms_35 : decode cX9_forms 35 = .ok (.bipush 10, 2) := by decide +kernel
theorem dX9_forms_37 : decode cX9_forms 37 = .ok (.if_icmp .ge 30, 3) := by decide +kernel
theorem dX9_forms_40 : decode cX9_forms 40 = .ok (.aload_n 0, 1) := by decide +kernel
theorem dX9_forms_41 : decode cX9_forms 41 = .ok (.iload_n 1, 1) := by decide +kernel
theorem dX9_forms_42 : decode cX9_forms 42 = .ok (.iload_n 3, 1) := by decide +kernel
theorem dX9_forms_43 : decode cX9_forms 43 = .ok (.invokevirtual 223, 3) := by decide +kernel
theorem dX9_forms_46 : decode cX9_forms 46 = .ok (.aload_n 0, 1) := by decide +kernel
theorem dX9_forms_47 : decode cX9_forms 47 = .ok (.iload_n 1, 1) := by decide +kernel
theorem dX9_forms_48 : decode cX9_forms 48 = .ok (.iload_n 2, 1) := by decide +kernel
theorem dX9_forms_49 : decode cX9_forms 49 = .ok (.invokevirtual 223, 3) := by decide +kernel
theorem dX9_forms_52 : decode cX9_forms 52 = .ok (.if_icmp .ge 7, 3) := by decide +kernel
theorem dX9_forms_55 : decode cX9_forms 55 = .ok (.iload_n 3, 1) := by decide +kernel
theorem dX9_forms_56 : decode cX9_forms 56 = .ok (.goto 4, 3) := by decide +kernel
theorem dX9_forms_59 : decode cX9_forms 59 = .ok (.iload_n 2, 1) := by decide +kernel
theorem dX9_forms_60 : decode cX9_forms 60 = .ok (.istore_n 2, 1) := by decide +kernel
theorem dX9_forms_61 : decode cX9_forms 61 = .ok (.iinc 3 1, 3) := by decide +kernel
theorem dX9_forms_64 : decode cX9_forms 64 = .ok (.goto (-30), 3) := by decide +kernel
theorem dX9_forms_67 : decode cX9_forms 67 = .ok (.aload_n 0, 1) := by decide +kernel
theorem dX9_forms_68 : decode cX9_forms 68 = .ok (.getfield 23, 3) := by decide +kernel
theorem dX9_forms_71 : decode cX9_forms 71 = .ok (.iload_n 1, 1) := by decide +kernel
theorem dX9_forms_72 : decode cX9_forms 72 = .ok (.iload_n 2, 1) := by decide +kernel
theorem dX9_forms_73 : decode cX9_forms 73 = .ok (.iastore, 1) := by decide +kernel
theorem dX9_forms_74 : decode cX9_forms 74 = .ok (.iinc 1 1, 3) := by decide +kernel
theorem dX9_forms_77 : decode cX9_forms 77 = .ok (.goto (-53), 3) := by decide +kernel
theorem dX9_forms_80 : decode cX9_forms 80 = .ok (.aload_n 0, 1) := by decide +kernel
theorem dX9_forms_81 : decode cX9_forms 81 = .ok (.iconst 0, 1) := by decide +kernel
theorem dX9_forms_82 : decode cX9_forms 82 = .ok (.putfield 122, 3) := by decide +kernel
theorem dX9_forms_85 : decode cX9_forms 85 = .ok (.iconst 0, 1) := by decide +kernel
theorem dX9_forms_86 : decode cX9_forms 86 = .ok (.istore_n 1, 1) := by decide +kernel
theorem dX9_forms_87 : decode cX9_forms 87 = .ok (.iload_n 1, 1) := by decide +kernel
theorem dX9_forms_88 : decode cX9_forms 88 = .ok (.aload_n 0, 1) := by decide +kernel
theorem dX9_forms_89 : decode cX9_forms 89 = .ok (.getfield 93, 3) := by decide +kernel
theorem dX9_forms_92 : decode cX9_forms 92 = .ok (.if_icmp .ge 35, 3) := by decide +kernel
theorem dX9_forms_95 : decode cX9_forms 95 = .ok (.aload_n 0, 1) := by decide +kernel
theorem dX9_forms_96 : decode cX9_forms 96 = .ok (.aload_n 0, 1) := by decide +kernel
theorem dX9_forms_97 : decode cX9_forms 97 = .ok (.getfield 17, 3) := by decide +kernel
theorem dX9_forms_100 : decode cX9_forms 100 = .ok (.iload_n 1, 1) := by decide +kernel
theorem dX9_forms_101 : decode cX9_forms 101 = .ok (.aload_n 0, 1) := by decide +kernel
theorem dX9_forms_102 : decode cX9_forms 102 = .ok (.getfield 57, 3) := by decide +kernel
theorem dX9_forms_105 : decode cX9_forms 105 = .ok (.iload_n 1, 1) := by decide +kernel
theorem dX9_forms_106 : decode cX9_forms 106 = .ok (.iaload, 1) := by decide +kernel
theorem dX9_forms_107 : decode cX9_forms 107 = .ok (.aload_n 0, 1) := by decide +kernel
theorem dX9_forms_108 : decode cX9_forms 108 = .ok (.getfield 60, 3) := by decide +kernel
theorem dX9_forms_111 : decode cX9_forms 111 = .ok (.iload_n 1, 1) := by decide +kernel
theorem dX9_forms_112 : decode cX9_forms 112 = .ok (.iaload, 1) := by decide +kernel
theorem dX9_forms_113 : decode cX9_forms 113 = .ok (.invokevirtual 175, 3) := by decide +kernel
theorem dX9_forms_116 : decode cX9_forms 116 = .ok (.aload_n 0, 1) := by decide +kernel
theorem dX9_forms_117 : decode cX9_forms 117 = .ok (.iload_n 1, 1) := by decide +kernel
theorem dX9_forms_118 : decode cX9_forms 118 = .ok (.invokevirtual 217, 3) := by decide +kernel
theorem dX9_forms_121 : decode cX9_forms 121 = .ok (.iinc 1 1, 3) := by decide +kernel
theorem dX9_forms_124 : decode cX9_forms 124 = .ok (.goto (-37), 3) := by decide +kernel
theorem dX9_forms_127 : decode cX9_forms 127 = .ok (.aload_n 0, 1) := by decide +kernel
theorem dX9_forms_128 : decode cX9_forms 128 = .ok (.invokevirtual 220, 3) := by decide +kernel
theorem dX9_forms_131 : decode cX9_forms 131 = .ok (.aload_n 0, 1) := by decide +kernel
theorem dX9_forms_132 : decode cX9_forms 132 = .ok (.getfield 122, 3) := by decide +kernel
theorem dX9_forms_135 : decode cX9_forms 135 = .ok (.ireturn, 1) := by decide +kernel
theorem dX9_weigh_0 : decode cX9_weigh 0 = .ok (.aload_n 0, 1) := by decide +kernel
theorem dX9_weigh_1 : decode cX9_weigh 1 = .ok (.aload_n 0, 1) := by decide +kernel
theorem dX9_weigh_2 : decode cX9_weigh 2 = .ok (.getfield 13, 3) := by decide +kernel
theorem dX9_weigh_5 : decode cX9_weigh 5 = .ok (.iload_n 1, 1) := by decide +kernel
theorem dX9_weigh_6 : decode cX9_weigh 6 = .ok (.iconst 0, 1) := by decide +kernel
theorem dX9_weigh_7 : decode cX9_weigh 7 = .ok (.iconst 0, 1) := by decide +kernel
theorem dX9_weigh_8 : decode cX9_weigh 8 = .ok (.invokevirtual 197, 3) := by decide +kernel
theorem dX9_weigh_11 : decode cX9_weigh 11 = .ok (.istore_n 2, 1) := by decide +kernel
theorem dX9_weigh_12 : decode cX9_weigh 12 = .ok (.aload_n 0, 1) := by decide +kernel
theorem dX9_weigh_13 : decode cX9_weigh 13 = .ok (.aload_n 0, 1) := by decide +kernel
theorem dX9_weigh_14 : decode cX9_weigh 14 = .ok (.getfield 13, 3) := by decide +kernel
theorem dX9_weigh_17 : decode cX9_weigh 17 = .ok (.iload_n 1, 1) := by decide +kernel
theorem dX9_weigh_18 : decode cX9_weigh 18 = .ok (.iconst 1, 1) := by decide +kernel
theorem dX9_weigh_19 : decode cX9_weigh 19 = .ok (.iconst 0, 1) := by decide +kernel
theorem dX9_weigh_20 : decode cX9_weigh 20 = .ok (.invokevirtual 197, 3) := by decide +kernel
theorem dX9_weigh_23 : decode cX9_weigh 23 = .ok (.istore_n 3, 1) := by decide +kernel
theorem dX9_weigh_24 : decode cX9_weigh 24 = .ok (.aload_n 0, 1) := by decide +kernel
theorem dX9_weigh_25 : decode cX9_weigh 25 = .ok (.getfield 69, 3) := by decide +kernel
theorem dX9_weigh_28 : decode cX9_weigh 28 = .ok (.iload_n 1, 1) := by decide +kernel
theorem dX9_weigh_29 : decode cX9_weigh 29 = .ok (.iload_n 2, 1) := by decide +kernel
theorem dX9_weigh_30 : decode cX9_weigh 30 = .ok (.iload_n 3, 1) := by decide +kernel
theorem dX9_weigh_31 : decode cX9_weigh 31 = .ok (.if_icmp .ge 7, 3) := by decide +kernel
theorem dX9_weigh_34 : decode cX9_weigh 34 = .ok (.iload_n 2, 1) := by decide +kernel
theorem dX9_weigh_35 : decode cX9_weigh 35 = .ok (.goto 4, 3) := by decide +kernel
theorem dX9_weigh_38 : decode cX9_weigh 38 = .ok (.iload_n 3, 1) := by decide +kernel
theorem dX9_weigh_39 : decode cX9_weigh 39 = .ok (.iastore, 1) := by decide +kernel
theorem dX9_weigh_40 : decode cX9_weigh 40 = .ok (.aload_n 0, 1) := by decide +kernel
theorem dX9_weigh_41 : decode cX9_weigh 41 = .ok (.iload_n 1, 1) := by decide +kernel
theorem dX9_weigh_42 : decode cX9_weigh 42 = .ok (.invokevirtual 115, 3) := by decide +kernel
theorem dX9_weigh_45 : decode cX9_weigh 45 = .ok (.ifCond .le 44, 3) := by decide +kernel
theorem dX9_weigh_48 : decode cX9_weigh 48 = .ok (.aload_n 0, 1) := by decide +kernel
theorem dX9_weigh_49 : decode cX9_weigh 49 = .ok (.aload_n 0, 1) := by decide +kernel
theorem dX9_weigh_50 : decode cX9_weigh 50 = .ok (.getfield 13, 3) := by decide +kernel
theorem dX9_weigh_53 : decode cX9_weigh 53 = .ok (.iload_n 1, 1) := by decide +kernel
theorem dX9_weigh_54 : decode cX9_weigh 54 = .ok (.iconst 4, 1) := by decide +kernel
theorem dX9_weigh_55 : decode cX9_weigh 55 = .ok (.iconst 0, 1) := by decide +kernel
theorem dX9_weigh_56 : decode cX9_weigh 56 = .ok (.invokevirtual 197, 3) := by decide +kernel
theorem dX9_weigh_59 : decode cX9_weigh 59 = .ok (.istore 4, 2) := by decide +kernel
theorem dX9_weigh_61 : decode cX9_weigh 61 = .ok (.aload_n 0, 1) := by decide +kernel
theorem dX9_weigh_62 : decode cX9_weigh 62 = .ok (.getfield 69, 3) := by decide +kernel
theorem dX9_weigh_65 : decode cX9_weigh 65 = .ok (.iload_n 1, 1) := by decide +kernel
theorem dX9_weigh_66 : decode cX9_weigh 66 = .ok (.iload 4, 2) := by decide +kernel
theorem dX9_weigh_68 : decode cX9_weigh 68 = .ok (.aload_n 0, 1) := by decide +kernel
theorem dX9_weigh_69 : decode cX9_weigh 69 = .ok (.getfield 69, 3) := by decide +kernel
theorem dX9_weigh_72 : decode cX9_weigh 72 = .ok (.iload_n 1, 1) := by decide +kernel
theorem dX9_weigh_73 : decode cX9_weigh 73 = .ok (.iaload, 1) := by decide +kernel
theorem dX9_weigh_74 : decode cX9_weigh 74 = .ok (.if_icmp .ge 8, 3) := by decide +kernel
theorem dX9_weigh_77 : decode cX9_weigh 77 = .ok (.iload 4, 2) := by decide +kernel
theorem dX9_weigh_79 : decode cX9_weigh 79 = .ok (.goto 9, 3) := by decide +kernel
theorem dX9_weigh_82 : decode cX9_weigh 82 = .ok (.aload_n 0, 1) := by decide +kernel
theorem dX9_weigh_83 : decode cX9_weigh 83 = .ok (.getfield 69, 3) := by decide +kernel
theorem dX9_weigh_86 : decode cX9_weigh 86 = .ok (.iload_n 1, 1) := by decide +kernel
theorem dX9_weigh_87 : decode cX9_weigh 87 = .ok (.iaload, 1) := by decide +kernel
theorem dX9_weigh_88 : decode cX9_weigh 88 = .ok (.iastore, 1) := by decide +kernel
theorem dX9_weigh_89 : decode cX9_weigh 89 = .ok (.aload_n 0, 1) := by decide +kernel
theorem dX9_weigh_90 : decode cX9_weigh 90 = .ok (.getfield 75, 3) := by decide +kernel
theorem dX9_weigh_93 : decode cX9_weigh 93 = .ok (.iload_n 1, 1) := by decide +kernel
theorem dX9_weigh_94 : decode cX9_weigh 94 = .ok (.iconst (-1), 1) := by decide +kernel
theorem dX9_weigh_95 : decode cX9_weigh 95 = .ok (.iastore, 1) := by decide +kernel
theorem dX9_weigh_96 : decode cX9_weigh 96 = .ok (.aload_n 0, 1) := by decide +kernel
theorem dX9_weigh_97 : decode cX9_weigh 97 = .ok (.getfield 72, 3) := by decide +kernel
theorem dX9_weigh_100 : decode cX9_weigh 100 = .ok (.iload_n 1, 1) := by decide +kernel
theorem dX9_weigh_101 : decode cX9_weigh 101 = .ok (.ldc 226, 2) := by decide +kernel
theorem dX9_weigh_103 : decode cX9_weigh 103 = .ok (.iastore, 1) := by decide +kernel
theorem dX9_weigh_104 : decode cX9_weigh 104 = .ok (.iconst 1, 1) := by decide +kernel
theorem dX9_weigh_105 : decode cX9_weigh 105 = .ok (.istore 4, 2) := by decide +kernel
theorem dX9_weigh_107 : decode cX9_weigh 107 = .ok (.iload 4, 2) := by decide +kernel
theorem dX9_weigh_109 : decode cX9_weigh 109 = .ok (.aload_n 0, 1) := by decide +kernel
theorem dX9_weigh_110 : decode cX9_weigh 110 = .ok (.getfield 27, 3) := by decide +kernel
theorem dX9_weigh_113 : decode cX9_weigh 113 = .ok (.if_icmp .gt 109, 3) := by decide +kernel
theorem dX9_weigh_116 : decode cX9_weigh 116 = .ok (.iload 4, 2) := by decide +kernel
theorem dX9_weigh_118 : decode cX9_weigh 118 = .ok (.iload_n 1, 1) := by decide +kernel
theorem dX9_weigh_119 : decode cX9_weigh 119 = .ok (.if_icmp .gt 103, 3) := by decide +kernel
theorem dX9_weigh_122 : decode cX9_weigh 122 = .ok (.aload_n 0, 1) := by decide +kernel
theorem dX9_weigh_123 : decode cX9_weigh 123 = .ok (.aload_n 0, 1) := by decide +kernel
theorem dX9_weigh_124 : decode cX9_weigh 124 = .ok (.getfield 13, 3) := by decide +kernel
theorem dX9_weigh_127 : decode cX9_weigh 127 = .ok (.iload_n 1, 1) := by decide +kernel
theorem dX9_weigh_128 : decode cX9_weigh 128 = .ok (.iconst 2, 1) := by decide +kernel
theorem dX9_weigh_129 : decode cX9_weigh 129 = .ok (.iload 4, 2) := by decide +kernel
theorem dX9_weigh_131 : decode cX9_weigh 131 = .ok (.invokevirtual 197, 3) := by decide +kernel
theorem dX9_weigh_134 : decode cX9_weigh 134 = .ok (.istore 5, 2) := by decide +kernel
theorem dX9_weigh_136 : decode cX9_weigh 136 = .ok (.aload_n 0, 1) := by decide +kernel
theorem dX9_weigh_137 : decode cX9_weigh 137 = .ok (.aload_n 0, 1) := by decide +kernel
theorem dX9_weigh_138 : decode cX9_weigh 138 = .ok (.getfield 13, 3) := by decide +kernel
theorem dX9_weigh_141 : decode cX9_weigh 141 = .ok (.iload_n 1, 1) := by decide +kernel
theorem dX9_weigh_142 : decode cX9_weigh 142 = .ok (.iload_n 1, 1) := by decide +kernel
theorem dX9_weigh_143 : decode cX9_weigh 143 = .ok (.iload 4, 2) := by decide +kernel
theorem dX9_weigh_145 : decode cX9_weigh 145 = .ok (.isub, 1) := by decide +kernel
theorem dX9_weigh_146 : decode cX9_weigh 146 = .ok (.invokevirtual 193, 3) := by decide +kernel
theorem dX9_weigh_149 : decode cX9_weigh 149 = .ok (.ifCond .eq 18, 3) := by decide +kernel
theorem dX9_weigh_152 : decode cX9_weigh 152 = .ok (.aload_n 0, 1) := by decide +kernel
theorem dX9_weigh_153 : decode cX9_weigh 153 = .ok (.aload_n 0, 1) := by decide +kernel
theorem dX9_weigh_154 : decode cX9_weigh 154 = .ok (.getfield 13, 3) := by decide +kernel
theorem dX9_weigh_157 : decode cX9_weigh 157 = .ok (.iload_n 1, 1) := by decide +kernel
theorem dX9_weigh_158 : decode cX9_weigh 158 = .ok (.iconst 3, 1) := by decide +kernel
theorem dX9_weigh_159 : decode cX9_weigh 159 = .ok (.iload 4, 2) := by decide +kernel
theorem dX9_weigh_161 : decode cX9_weigh 161 = .ok (.invokevirtual 197, 3) := by decide +kernel
theorem dX9_weigh_164 : decode cX9_weigh 164 = .ok (.goto 5, 3) := by decide +kernel
theorem dX9_weigh_167 : decode cX9_weigh 167 = .ok (.ldc 226, 2) := by decide +kernel
theorem dX9_weigh_169 : decode cX9_weigh 169 = .ok (.istore 6, 2) := by decide +kernel
theorem dX9_weigh_171 : decode cX9_weigh 171 = .ok (.iload 5, 2) := by decide +kernel
theorem dX9_weigh_173 : decode cX9_weigh 173 = .ok (.iload 6, 2) := by decide +kernel
theorem dX9_weigh_175 : decode cX9_weigh 175 = .ok (.if_icmp .ge 8, 3) := by decide +kernel
theorem dX9_weigh_178 : decode cX9_weigh 178 = .ok (.iload 5, 2) := by decide +kernel
theorem dX9_weigh_180 : decode cX9_weigh 180 = .ok (.goto 5, 3) := by decide +kernel
theorem dX9_weigh_183 : decode cX9_weigh 183 = .ok (.iload 6, 2) := by decide +kernel
theorem dX9_weigh_185 : decode cX9_weigh 185 = .ok (.istore 7, 2) := by decide +kernel
theorem dX9_weigh_187 : decode cX9_weigh 187 = .ok (.iload 7, 2) := by decide +kernel
theorem dX9_weigh_189 : decode cX9_weigh 189 = .ok (.aload_n 0, 1) := by decide +kernel
theorem dX9_weigh_190 : decode cX9_weigh 190 = .ok (.getfield 72, 3) := by decide +kernel
theorem dX9_weigh_193 : decode cX9_weigh 193 = .ok (.iload_n 1, 1) := by decide +kernel
theorem dX9_weigh_194 : decode cX9_weigh 194 = .ok (.iaload, 1) := by decide +kernel
theorem dX9_weigh_195 : decode cX9_weigh 195 = .ok (.if_icmp .ge 21, 3) := by decide +kernel
theorem dX9_weigh_198 : decode cX9_weigh 198 = .ok (.aload_n 0, 1) := by decide +kernel
theorem dX9_weigh_199 : decode cX9_weigh 199 = .ok (.getfield 72, 3) := by decide +kernel
theorem dX9_weigh_202 : decode cX9_weigh 202 = .ok (.iload_n 1, 1) := by decide +kernel
theorem dX9_weigh_203 : decode cX9_weigh 203 = .ok (.iload 7, 2) := by decide +kernel
theorem dX9_weigh_205 : decode cX9_weigh 205 = .ok (.iastore, 1) := by decide +kernel
theorem dX9_weigh_206 : decode cX9_weigh 206 = .ok (.aload_n 0, 1) := by decide +kernel
theorem dX9_weigh_207 : decode cX9_weigh 207 = .ok (.getfield 75, 3) := by decide +kernel
theorem dX9_weigh_210 : decode cX9_weigh 210 = .ok (.iload_n 1, 1) := by decide +kernel
theorem dX9_weigh_211 : decode cX9_weigh 211 = .ok (.iload_n 1, 1) := by decide +kernel
theorem dX9_weigh_212 : decode cX9_weigh 212 = .ok (.iload 4, 2) := by decide +kernel
theorem dX9_weigh_214 : decode cX9_weigh 214 = .ok (.isub, 1) := by decide +kernel
theorem dX9_weigh_215 : decode cX9_weigh 215 = .ok (.iastore, 1) := by decide +kernel
theorem dX9_weigh_216 : decode cX9_weigh 216 = .ok (.iinc 4 1, 3) := by decide +kernel
theorem dX9_weigh_219 : decode cX9_weigh 219 = .ok (.goto (-112), 3) := by decide +kernel
theorem dX9_weigh_222 : decode cX9_weigh 222 = .ok (.return_, 1) := by decide +kernel
theorem dX9_best_0 : decode cX9_best 0 = .ok (.aload_n 0, 1) := by decide +kernel
theorem dX9_best_1 : decode cX9_best 1 = .ok (.iconst 0, 1) := by decide +kernel
theorem dX9_best_2 : decode cX9_best 2 = .ok (.putfield 1, 3) := by decide +kernel
theorem dX9_best_5 : decode cX9_best 5 = .ok (.iconst 0, 1) := by decide +kernel
theorem dX9_best_6 : decode cX9_best 6 = .ok (.istore_n 1, 1) := by decide +kernel
theorem dX9_best_7 : decode cX9_best 7 = .ok (.iload_n 1, 1) := by decide +kernel
theorem dX9_best_8 : decode cX9_best 8 = .ok (.aload_n 0, 1) := by decide +kernel
theorem dX9_best_9 : decode cX9_best 9 = .ok (.getfield 93, 3) := by decide +kernel
theorem dX9_best_12 : decode cX9_best 12 = .ok (.if_icmp .ge 14, 3) := by decide +kernel
theorem dX9_best_15 : decode cX9_best 15 = .ok (.aload_n 0, 1) := by decide +kernel
theorem dX9_best_16 : decode cX9_best 16 = .ok (.iload_n 1, 1) := by decide +kernel
theorem dX9_best_17 : decode cX9_best 17 = .ok (.invokevirtual 227, 3) := by decide +kernel
theorem dX9_best_20 : decode cX9_best 20 = .ok (.iinc 1 1, 3) := by decide +kernel
theorem dX9_best_23 : decode cX9_best 23 = .ok (.goto (-16), 3) := by decide +kernel
theorem dX9_best_26 : decode cX9_best 26 = .ok (.iconst 0, 1) := by decide +kernel
theorem dX9_best_27 : decode cX9_best 27 = .ok (.istore_n 1, 1) := by decide +kernel
theorem dX9_best_28 : decode cX9_best 28 = .ok (.aload_n 0, 1) := by decide +kernel
theorem dX9_best_29 : decode cX9_best 29 = .ok (.getfield 93, 3) := by decide +kernel
theorem dX9_best_32 : decode cX9_best 32 = .ok (.iconst 1, 1) := by decide +kernel
theorem dX9_best_33 : decode cX9_best 33 = .ok (.isub, 1) := by decide +kernel
theorem dX9_best_34 : decode cX9_best 34 = .ok (.istore_n 2, 1) := by decide +kernel
theorem dX9_best_35 : decode cX9_best 35 = .ok (.iload_n 2, 1) := by decide +kernel
theorem dX9_best_36 : decode cX9_best 36 = .ok (.ifCond .lt 187, 3) := by decide +kernel
theorem dX9_best_39 : decode cX9_best 39 = .ok (.iconst 0, 1) := by decide +kernel
theorem dX9_best_40 : decode cX9_best 40 = .ok (.istore_n 3, 1) := by decide +kernel
theorem dX9_best_41 : decode cX9_best 41 = .ok (.iload_n 3, 1) := by decide +kernel
theorem dX9_best_42 : decode cX9_best 42 = .ok (.aload_n 0, 1) := by decide +kernel
theorem dX9_best_43 : decode cX9_best 43 = .ok (.getfield 30, 3) := by decide +kernel
theorem dX9_best_46 : decode cX9_best 46 = .ok (.if_icmp .gt 145, 3) := by decide +kernel
theorem dX9_best_49 : decode cX9_best 49 = .ok (.iload_n 3, 1) := by decide +kernel
theorem dX9_best_50 : decode cX9_best 50 = .ok (.ifCond .ne 12, 3) := by decide +kernel
theorem dX9_best_53 : decode cX9_best 53 = .ok (.aload_n 0, 1) := by decide +kernel
theorem dX9_best_54 : decode cX9_best 54 = .ok (.getfield 69, 3) := by decide +kernel
theorem dX9_best_57 : decode cX9_best 57 = .ok (.iload_n 2, 1) := by decide +kernel
theorem dX9_best_58 : decode cX9_best 58 = .ok (.iaload, 1) := by decide +kernel
theorem dX9_best_59 : decode cX9_best 59 = .ok (.goto 9, 3) := by decide +kernel
theorem dX9_best_62 : decode cX9_best 62 = .ok (.aload_n 0, 1) := by decide +kernel
theorem dX9_best_63 : decode cX9_best 63 = .ok (.getfield 72, 3) := by decide +kernel
theorem dX9_best_66 : decode cX9_best 66 = .ok (.iload_n 2, 1) := by decide +kernel
theorem dX9_best_67 : decode cX9_best 67 = .ok (.iaload, 1) := by decide +kernel
theorem dX9_best_68 : decode cX9_best 68 = .ok (.istore 4, 2) := by decide +kernel
theorem dX9_best_70 : decode cX9_best 70 = .ok (.iload_n 2, 1) := by decide +kernel
theorem dX9_best_71 : decode cX9_best 71 = .ok (.iconst 1, 1) := by decide +kernel
theorem dX9_best_72 : decode cX9_best 72 = .ok (.iadd, 1) := by decide +kernel
theorem dX9_best_73 : decode cX9_best 73 = .ok (.istore 5, 2) := by decide +kernel
theorem dX9_best_75 : decode cX9_best 75 = .ok (.iload 5, 2) := by decide +kernel
theorem dX9_best_77 : decode cX9_best 77 = .ok (.aload_n 0, 1) := by decide +kernel
theorem dX9_best_78 : decode cX9_best 78 = .ok (.getfield 93, 3) := by decide +kernel
theorem dX9_best_81 : decode cX9_best 81 = .ok (.if_icmp .ge 91, 3) := by decide +kernel
theorem dX9_best_84 : decode cX9_best 84 = .ok (.iload 4, 2) := by decide +kernel
theorem dX9_best_86 : decode cX9_best 86 = .ok (.ldc 226, 2) := by decide +kernel
theorem dX9_best_88 : decode cX9_best 88 = .ok (.if_icmp .ge 84, 3) := by decide +kernel
theorem dX9_best_91 : decode cX9_best 91 = .ok (.aload_n 0, 1) := by decide +kernel
theorem dX9_best_92 : decode cX9_best 92 = .ok (.getfield 75, 3) := by decide +kernel
theorem dX9_best_95 : decode cX9_best 95 = .ok (.iload 5, 2) := by decide +kernel
theorem dX9_best_97 : decode cX9_best 97 = .ok (.iaload, 1) := by decide +kernel
theorem dX9_best_98 : decode cX9_best 98 = .ok (.iload_n 2, 1) := by decide +kernel
theorem dX9_best_99 : decode cX9_best 99 = .ok (.if_icmp .ne 67, 3) := by decide +kernel
theorem dX9_best_102 : decode cX9_best 102 = .ok (.iload_n 3, 1) := by decide +kernel
theorem dX9_best_103 : decode cX9_best 103 = .ok (.aload_n 0, 1) := by decide +kernel
theorem dX9_best_104 : decode cX9_best 104 = .ok (.getfield 30, 3) := by decide +kernel
theorem dX9_best_107 : decode cX9_best 107 = .ok (.if_icmp .ge 20, 3) := by decide +kernel
theorem dX9_best_110 : decode cX9_best 110 = .ok (.aload_n 0, 1) := by decide +kernel
theorem dX9_best_111 : decode cX9_best 111 = .ok (.getfield 78, 3) := by decide +kernel
theorem dX9_best_114 : decode cX9_best 114 = .ok (.bipush 7, 2) := by decide +kernel
theorem dX9_best_116 : decode cX9_best 116 = .ok (.iload 5, 2) := by decide +kernel
theorem dX9_best_118 : decode cX9_best 118 = .ok (.imul, 1) := by decide +kernel
theorem dX9_best_119 : decode cX9_best 119 = .ok (.iload_n 3, 1) := by decide +kernel
theorem dX9_best_120 : decode cX9_best 120 = .ok (.iadd, 1) := by decide +kernel
theorem dX9_best_121 : decode cX9_best 121 = .ok (.iconst 1, 1) := by decide +kernel
theorem dX9_best_122 : decode cX9_best 122 = .ok (.iadd, 1) := by decide +kernel
theorem dX9_best_123 : decode cX9_best 123 = .ok (.iaload, 1) := by decide +kernel
theorem dX9_best_124 : decode cX9_best 124 = .ok (.goto 5, 3) := by decide +kernel
theorem dX9_best_127 : decode cX9_best 127 = .ok (.ldc 226, 2) := by decide +kernel
theorem dX9_best_129 : decode cX9_best 129 = .ok (.istore 6, 2) := by decide +kernel
theorem dX9_best_131 : decode cX9_best 131 = .ok (.iload 4, 2) := by decide +kernel
theorem dX9_best_133 : decode cX9_best 133 = .ok (.aload_n 0, 1) := by decide +kernel
theorem dX9_best_134 : decode cX9_best 134 = .ok (.getfield 78, 3) := by decide +kernel
theorem dX9_best_137 : decode cX9_best 137 = .ok (.bipush 7, 2) := by decide +kernel
theorem dX9_best_139 : decode cX9_best 139 = .ok (.iload 5, 2) := by decide +kernel
theorem dX9_best_141 : decode cX9_best 141 = .ok (.imul, 1) := by decide +kernel
theorem dX9_best_142 : decode cX9_best 142 = .ok (.iaload, 1) := by decide +kernel
theorem dX9_best_143 : decode cX9_best 143 = .ok (.iload 6, 2) := by decide +kernel
theorem dX9_best_145 : decode cX9_best 145 = .ok (.if_icmp .ge 16, 3) := by decide +kernel
theorem dX9_best_148 : decode cX9_best 148 = .ok (.aload_n 0, 1) := by decide +kernel
theorem dX9_best_149 : decode cX9_best 149 = .ok (.getfield 78, 3) := by decide +kernel
theorem dX9_best_152 : decode cX9_best 152 = .ok (.bipush 7, 2) := by decide +kernel
theorem dX9_best_154 : decode cX9_best 154 = .ok (.iload 5, 2) := by decide +kernel
theorem dX9_best_156 : decode cX9_best 156 = .ok (.imul, 1) := by decide +kernel
theorem dX9_best_157 : decode cX9_best 157 = .ok (.iaload, 1) := by decide +kernel
theorem dX9_best_158 : decode cX9_best 158 = .ok (.goto 5, 3) := by decide +kernel
theorem dX9_best_161 : decode cX9_best 161 = .ok (.iload 6, 2) := by decide +kernel
theorem dX9_best_163 : decode cX9_best 163 = .ok (.iadd, 1) := by decide +kernel
theorem dX9_best_164 : decode cX9_best 164 = .ok (.istore 4, 2) := by decide +kernel
theorem dX9_best_166 : decode cX9_best 166 = .ok (.iinc 5 1, 3) := by decide +kernel
theorem dX9_best_169 : decode cX9_best 169 = .ok (.goto (-94), 3) := by decide +kernel
theorem dX9_best_172 : decode cX9_best 172 = .ok (.aload_n 0, 1) := by decide +kernel
theorem dX9_best_173 : decode cX9_best 173 = .ok (.getfield 78, 3) := by decide +kernel
theorem dX9_best_176 : decode cX9_best 176 = .ok (.bipush 7, 2) := by decide +kernel
theorem dX9_best_178 : decode cX9_best 178 = .ok (.iload_n 2, 1) := by decide +kernel
theorem dX9_best_179 : decode cX9_best 179 = .ok (.imul, 1) := by decide +kernel
theorem dX9_best_180 : decode cX9_best 180 = .ok (.iload_n 3, 1) := by decide +kernel
theorem dX9_best_181 : decode cX9_best 181 = .ok (.iadd, 1) := by decide +kernel
theorem dX9_best_182 : decode cX9_best 182 = .ok (.iload 4, 2) := by decide +kernel
theorem dX9_best_184 : decode cX9_best 184 = .ok (.iastore, 1) := by decide +kernel
theorem dX9_best_185 : decode cX9_best 185 = .ok (.iinc 3 1, 3) := by decide +kernel
theorem dX9_best_188 : decode cX9_best 188 = .ok (.goto (-147), 3) := by decide +kernel
theorem dX9_best_191 : decode cX9_best 191 = .ok (.iload_n 1, 1) := by decide +kernel
theorem dX9_best_192 : decode cX9_best 192 = .ok (.aload_n 0, 1) := by decide +kernel
theorem dX9_best_193 : decode cX9_best 193 = .ok (.getfield 75, 3) := by decide +kernel
theorem dX9_best_196 : decode cX9_best 196 = .ok (.iload_n 2, 1) := by decide +kernel
theorem dX9_best_197 : decode cX9_best 197 = .ok (.iaload, 1) := by decide +kernel
theorem dX9_best_198 : decode cX9_best 198 = .ok (.iconst (-1), 1) := by decide +kernel
theorem dX9_best_199 : decode cX9_best 199 = .ok (.if_icmp .ne 15, 3) := by decide +kernel
theorem dX9_best_202 : decode cX9_best 202 = .ok (.aload_n 0, 1) := by decide +kernel
theorem dX9_best_203 : decode cX9_best 203 = .ok (.getfield 78, 3) := by decide +kernel
theorem dX9_best_206 : decode cX9_best 206 = .ok (.bipush 7, 2) := by decide +kernel
theorem dX9_best_208 : decode cX9_best 208 = .ok (.iload_n 2, 1) := by decide +kernel
theorem dX9_best_209 : decode cX9_best 209 = .ok (.imul, 1) := by decide +kernel
theorem dX9_best_210 : decode cX9_best 210 = .ok (.iaload, 1) := by decide +kernel
theorem dX9_best_211 : decode cX9_best 211 = .ok (.goto 4, 3) := by decide +kernel
theorem dX9_best_214 : decode cX9_best 214 = .ok (.iconst 0, 1) := by decide +kernel
theorem dX9_best_215 : decode cX9_best 215 = .ok (.iadd, 1) := by decide +kernel
theorem dX9_best_216 : decode cX9_best 216 = .ok (.istore_n 1, 1) := by decide +kernel
theorem dX9_best_217 : decode cX9_best 217 = .ok (.iinc 2 (-1), 3) := by decide +kernel
theorem dX9_best_220 : decode cX9_best 220 = .ok (.goto (-185), 3) := by decide +kernel
theorem dX9_best_223 : decode cX9_best 223 = .ok (.iload_n 1, 1) := by decide +kernel
theorem dX9_best_224 : decode cX9_best 224 = .ok (.ireturn, 1) := by decide +kernel
theorem dX9_bytes_0 : decode cX9_bytes 0 = .ok (.aload_n 0, 1) := by decide +kernel
theorem dX9_bytes_1 : decode cX9_bytes 1 = .ok (.getfield 122, 3) := by decide +kernel
theorem dX9_bytes_4 : decode cX9_bytes 4 = .ok (.bipush 7, 2) := by decide +kernel
theorem dX9_bytes_6 : decode cX9_bytes 6 = .ok (.iadd, 1) := by decide +kernel
theorem dX9_bytes_7 : decode cX9_bytes 7 = .ok (.bipush 8, 2) := by decide +kernel
theorem dX9_bytes_9 : decode cX9_bytes 9 = .ok (.idiv, 1) := by decide +kernel
theorem dX9_bytes_10 : decode cX9_bytes 10 = .ok (.ireturn, 1) := by decide +kernel
theorem dX9_byteAt_0 : decode cX9_byteAt 0 = .ok (.iconst 0, 1) := by decide +kernel
theorem dX9_byteAt_1 : decode cX9_byteAt 1 = .ok (.istore_n 2, 1) := by decide +kernel
theorem dX9_byteAt_2 : decode cX9_byteAt 2 = .ok (.bipush 8, 2) := by decide +kernel
theorem dX9_byteAt_4 : decode cX9_byteAt 4 = .ok (.iload_n 1, 1) := by decide +kernel
theorem dX9_byteAt_5 : decode cX9_byteAt 5 = .ok (.imul, 1) := by decide +kernel
theorem dX9_byteAt_6 : decode cX9_byteAt 6 = .ok (.istore_n 3, 1) := by decide +kernel
theorem dX9_byteAt_7 : decode cX9_byteAt 7 = .ok (.iload_n 3, 1) := by decide +kernel
theorem dX9_byteAt_8 : decode cX9_byteAt 8 = .ok (.bipush 8, 2) := by decide +kernel
theorem dX9_byteAt_10 : decode cX9_byteAt 10 = .ok (.iload_n 1, 1) := by decide +kernel
theorem dX9_byteAt_11 : decode cX9_byteAt 11 = .ok (.imul, 1) := by decide +kernel
theorem dX9_byteAt_12 : decode cX9_byteAt 12 = .ok (.bipush 8, 2) := by decide +kernel
theorem dX9_byteAt_14 : decode cX9_byteAt 14 = .ok (.iadd, 1) := by decide +kernel
theorem dX9_byteAt_15 : decode cX9_byteAt 15 = .ok (.if_icmp .ge 20, 3) := by decide +kernel
theorem dX9_byteAt_18 : decode cX9_byteAt 18 = .ok (.iconst 2, 1) := by decide +kernel
theorem dX9_byteAt_19 : decode cX9_byteAt 19 = .ok (.iload_n 2, 1) := by decide +kernel
theorem dX9_byteAt_20 : decode cX9_byteAt 20 = .ok (.imul, 1) := by decide +kernel
theorem dX9_byteAt_21 : decode cX9_byteAt 21 = .ok (.aload_n 0, 1) := by decide +kernel
theorem dX9_byteAt_22 : decode cX9_byteAt 22 = .ok (.getfield 36, 3) := by decide +kernel
theorem dX9_byteAt_25 : decode cX9_byteAt 25 = .ok (.iload_n 3, 1) := by decide +kernel
theorem dX9_byteAt_26 : decode cX9_byteAt 26 = .ok (.iaload, 1) := by decide +kernel
theorem dX9_byteAt_27 : decode cX9_byteAt 27 = .ok (.iadd, 1) := by decide +kernel
theorem dX9_byteAt_28 : decode cX9_byteAt 28 = .ok (.istore_n 2, 1) := by decide +kernel
theorem dX9_byteAt_29 : decode cX9_byteAt 29 = .ok (.iinc 3 1, 3) := by decide +kernel
theorem dX9_byteAt_32 : decode cX9_byteAt 32 = .ok (.goto (-25), 3) := by decide +kernel
theorem dX9_byteAt_35 : decode cX9_byteAt 35 = .ok (.iload_n 2, 1) := by decide +kernel
theorem dX9_byteAt_36 : decode cX9_byteAt 36 = .ok (.ireturn, 1) := by decide +kernel
theorem dX9_bit_0 : decode cX9_bit 0 = .ok (.aload_n 0, 1) := by decide +kernel
theorem dX9_bit_1 : decode cX9_bit 1 = .ok (.iconst 0, 1) := by decide +kernel
theorem dX9_bit_2 : decode cX9_bit 2 = .ok (.putfield 1, 3) := by decide +kernel
theorem dX9_bit_5 : decode cX9_bit 5 = .ok (.aload_n 0, 1) := by decide +kernel
theorem dX9_bit_6 : decode cX9_bit 6 = .ok (.getfield 100, 3) := by decide +kernel
theorem dX9_bit_9 : decode cX9_bit 9 = .ok (.ifCond .eq 28, 3) := by decide +kernel
theorem dX9_bit_12 : decode cX9_bit 12 = .ok (.iload_n 1, 1) := by decide +kernel
theorem dX9_bit_13 : decode cX9_bit 13 = .ok (.i2l, 1) := by decide +kernel
theorem dX9_bit_14 : decode cX9_bit 14 = .ok (.lconst 0, 1) := by decide +kernel
theorem dX9_bit_15 : decode cX9_bit 15 = .ok (.aload_n 0, 1) := by decide +kernel
theorem dX9_bit_16 : decode cX9_bit 16 = .ok (.getfield 122, 3) := by decide +kernel
theorem dX9_bit_19 : decode cX9_bit 19 = .ok (.iconst 1, 1) := by decide +kernel
theorem dX9_bit_20 : decode cX9_bit 20 = .ok (.isub, 1) := by decide +kernel
theorem dX9_bit_21 : decode cX9_bit 21 = .ok (.i2l, 1) := by decide +kernel
theorem dX9_bit_22 : decode cX9_bit 22 = .ok (.invokestatic 96, 3) := by decide +kernel
theorem dX9_bit_25 : decode cX9_bit 25 = .ok (.ifCond .eq 12, 3) := by decide +kernel
theorem dX9_bit_28 : decode cX9_bit 28 = .ok (.aload_n 0, 1) := by decide +kernel
theorem dX9_bit_29 : decode cX9_bit 29 = .ok (.getfield 36, 3) := by decide +kernel
theorem dX9_bit_32 : decode cX9_bit 32 = .ok (.iload_n 1, 1) := by decide +kernel
theorem dX9_bit_33 : decode cX9_bit 33 = .ok (.iaload, 1) := by decide +kernel
theorem dX9_bit_34 : decode cX9_bit 34 = .ok (.goto 4, 3) := by decide +kernel
theorem dX9_bit_37 : decode cX9_bit 37 = .ok (.iconst (-1), 1) := by decide +kernel
theorem dX9_bit_38 : decode cX9_bit 38 = .ok (.ireturn, 1) := by decide +kernel
theorem dX9_place_0 : decode cX9_place 0 = .ok (.aload_n 0, 1) := by decide +kernel
theorem dX9_place_1 : decode cX9_place 1 = .ok (.iconst 0, 1) := by decide +kernel
theorem dX9_place_2 : decode cX9_place 2 = .ok (.putfield 1, 3) := by decide +kernel
theorem dX9_place_5 : decode cX9_place 5 = .ok (.aload_n 0, 1) := by decide +kernel
theorem dX9_place_6 : decode cX9_place 6 = .ok (.getfield 100, 3) := by decide +kernel
theorem dX9_place_9 : decode cX9_place 9 = .ok (.ifCond .eq 36, 3) := by decide +kernel
theorem dX9_place_12 : decode cX9_place 12 = .ok (.iload_n 1, 1) := by decide +kernel
theorem dX9_place_13 : decode cX9_place 13 = .ok (.ifCond .lt 32, 3) := by decide +kernel
theorem dX9_place_16 : decode cX9_place 16 = .ok (.iload_n 1, 1) := by decide +kernel
theorem dX9_place_17 : decode cX9_place 17 = .ok (.aload_n 0, 1) := by decide +kernel
theorem dX9_place_18 : decode cX9_place 18 = .ok (.getfield 93, 3) := by decide +kernel
theorem dX9_place_21 : decode cX9_place 21 = .ok (.iconst 1, 1) := by decide +kernel
theorem dX9_place_22 : decode cX9_place 22 = .ok (.isub, 1) := by decide +kernel
theorem dX9_place_23 : decode cX9_place 23 = .ok (.aload_n 0, 1) := by decide +kernel
theorem dX9_place_24 : decode cX9_place 24 = .ok (.getfield 211, 3) := by decide +kernel
theorem dX9_place_27 : decode cX9_place 27 = .ok (.idiv, 1) := by decide +kernel
theorem dX9_place_28 : decode cX9_place 28 = .ok (.if_icmp .gt 17, 3) := by decide +kernel
theorem dX9_place_31 : decode cX9_place 31 = .ok (.aload_n 0, 1) := by decide +kernel
theorem dX9_place_32 : decode cX9_place 32 = .ok (.getfield 66, 3) := by decide +kernel
theorem dX9_place_35 : decode cX9_place 35 = .ok (.iload_n 1, 1) := by decide +kernel
theorem dX9_place_36 : decode cX9_place 36 = .ok (.aload_n 0, 1) := by decide +kernel
theorem dX9_place_37 : decode cX9_place 37 = .ok (.getfield 211, 3) := by decide +kernel
theorem dX9_place_40 : decode cX9_place 40 = .ok (.imul, 1) := by decide +kernel
theorem dX9_place_41 : decode cX9_place 41 = .ok (.iaload, 1) := by decide +kernel
theorem dX9_place_42 : decode cX9_place 42 = .ok (.goto 4, 3) := by decide +kernel
theorem dX9_place_45 : decode cX9_place 45 = .ok (.iconst (-1), 1) := by decide +kernel
theorem dX9_place_46 : decode cX9_place 46 = .ok (.ireturn, 1) := by decide +kernel
theorem dX9_sum_0 : decode cX9_sum 0 = .ok (.aload_n 0, 1) := by decide +kernel
theorem dX9_sum_1 : decode cX9_sum 1 = .ok (.iconst 0, 1) := by decide +kernel
theorem dX9_sum_2 : decode cX9_sum 2 = .ok (.putfield 1, 3) := by decide +kernel
theorem dX9_sum_5 : decode cX9_sum 5 = .ok (.aload_n 0, 1) := by decide +kernel
theorem dX9_sum_6 : decode cX9_sum 6 = .ok (.getfield 100, 3) := by decide +kernel
theorem dX9_sum_9 : decode cX9_sum 9 = .ok (.ifCond .ne 7, 3) := by decide +kernel
theorem dX9_sum_12 : decode cX9_sum 12 = .ok (.ldc2_w 230, 3) := by decide +kernel
theorem dX9_sum_15 : decode cX9_sum 15 = .ok (.lreturn, 1) := by decide +kernel
theorem dX9_sum_16 : decode cX9_sum 16 = .ok (.lconst 1, 1) := by decide +kernel
theorem dX9_sum_17 : decode cX9_sum 17 = .ok (.lstore_n 1, 1) := by decide +kernel
theorem dX9_sum_18 : decode cX9_sum 18 = .ok (.iconst 0, 1) := by decide +kernel
theorem dX9_sum_19 : decode cX9_sum 19 = .ok (.istore_n 3, 1) := by decide +kernel
theorem dX9_sum_20 : decode cX9_sum 20 = .ok (.iload_n 3, 1) := by decide +kernel
theorem dX9_sum_21 : decode cX9_sum 21 = .ok (.aload_n 0, 1) := by decide +kernel
theorem dX9_sum_22 : decode cX9_sum 22 = .ok (.invokevirtual 232, 3) := by decide +kernel
theorem dX9_sum_25 : decode cX9_sum 25 = .ok (.if_icmp .ge 22, 3) := by decide +kernel
theorem dX9_sum_28 : decode cX9_sum 28 = .ok (.ldc2_w 235, 3) := by decide +kernel
theorem dX9_sum_31 : decode cX9_sum 31 = .ok (.lload_n 1, 1) := by decide +kernel
theorem dX9_sum_32 : decode cX9_sum 32 = .ok (.lmul, 1) := by decide +kernel
theorem dX9_sum_33 : decode cX9_sum 33 = .ok (.aload_n 0, 1) := by decide +kernel
theorem dX9_sum_34 : decode cX9_sum 34 = .ok (.iload_n 3, 1) := by decide +kernel
theorem dX9_sum_35 : decode cX9_sum 35 = .ok (.invokevirtual 237, 3) := by decide +kernel
theorem dX9_sum_38 : decode cX9_sum 38 = .ok (.i2l, 1) := by decide +kernel
theorem dX9_sum_39 : decode cX9_sum 39 = .ok (.ladd, 1) := by decide +kernel
theorem dX9_sum_40 : decode cX9_sum 40 = .ok (.lstore_n 1, 1) := by decide +kernel
theorem dX9_sum_41 : decode cX9_sum 41 = .ok (.iinc 3 1, 3) := by decide +kernel
theorem dX9_sum_44 : decode cX9_sum 44 = .ok (.goto (-24), 3) := by decide +kernel
theorem dX9_sum_47 : decode cX9_sum 47 = .ok (.lload_n 1, 1) := by decide +kernel
theorem dX9_sum_48 : decode cX9_sum 48 = .ok (.lreturn, 1) := by decide +kernel
theorem dX9_alter_0 : decode cX9_alter 0 = .ok (.aload_n 0, 1) := by decide +kernel
theorem dX9_alter_1 : decode cX9_alter 1 = .ok (.iconst 0, 1) := by decide +kernel
theorem dX9_alter_2 : decode cX9_alter 2 = .ok (.putfield 1, 3) := by decide +kernel
theorem dX9_alter_5 : decode cX9_alter 5 = .ok (.aload_n 0, 1) := by decide +kernel
theorem dX9_alter_6 : decode cX9_alter 6 = .ok (.getfield 100, 3) := by decide +kernel
theorem dX9_alter_9 : decode cX9_alter 9 = .ok (.ifCond .ne 6, 3) := by decide +kernel
theorem dX9_alter_12 : decode cX9_alter 12 = .ok (.bipush (-3), 2) := by decide +kernel
theorem dX9_alter_14 : decode cX9_alter 14 = .ok (.ireturn, 1) := by decide +kernel
theorem dX9_alter_15 : decode cX9_alter 15 = .ok (.iload_n 1, 1) := by decide +kernel
theorem dX9_alter_16 : decode cX9_alter 16 = .ok (.i2l, 1) := by decide +kernel
theorem dX9_alter_17 : decode cX9_alter 17 = .ok (.lconst 0, 1) := by decide +kernel
theorem dX9_alter_18 : decode cX9_alter 18 = .ok (.aload_n 0, 1) := by decide +kernel
theorem dX9_alter_19 : decode cX9_alter 19 = .ok (.invokevirtual 232, 3) := by decide +kernel
theorem dX9_alter_22 : decode cX9_alter 22 = .ok (.iconst 1, 1) := by decide +kernel
theorem dX9_alter_23 : decode cX9_alter 23 = .ok (.isub, 1) := by decide +kernel
theorem dX9_alter_24 : decode cX9_alter 24 = .ok (.i2l, 1) := by decide +kernel
theorem dX9_alter_25 : decode cX9_alter 25 = .ok (.invokestatic 96, 3) := by decide +kernel
theorem dX9_alter_28 : decode cX9_alter 28 = .ok (.ifCond .eq 15, 3) := by decide +kernel
theorem dX9_alter_31 : decode cX9_alter 31 = .ok (.iload_n 2, 1) := by decide +kernel
theorem dX9_alter_32 : decode cX9_alter 32 = .ok (.i2l, 1) := by decide +kernel
theorem dX9_alter_33 : decode cX9_alter 33 = .ok (.lconst 1, 1) := by decide +kernel
theorem dX9_alter_34 : decode cX9_alter 34 = .ok (.ldc2_w 240, 3) := by decide +kernel
theorem dX9_alter_37 : decode cX9_alter 37 = .ok (.invokestatic 96, 3) := by decide +kernel
theorem dX9_alter_40 : decode cX9_alter 40 = .ok (.ifCond .ne 6, 3) := by decide +kernel
theorem dX9_alter_43 : decode cX9_alter 43 = .ok (.bipush (-2), 2) := by decide +kernel
theorem dX9_alter_45 : decode cX9_alter 45 = .ok (.ireturn, 1) := by decide +kernel
theorem dX9_alter_46 : decode cX9_alter 46 = .ok (.iconst 0, 1) := by decide +kernel
theorem dX9_alter_47 : decode cX9_alter 47 = .ok (.istore_n 3, 1) := by decide +kernel
theorem dX9_alter_48 : decode cX9_alter 48 = .ok (.iload_n 3, 1) := by decide +kernel
theorem dX9_alter_49 : decode cX9_alter 49 = .ok (.bipush 8, 2) := by decide +kernel
theorem dX9_alter_51 : decode cX9_alter 51 = .ok (.if_icmp .ge 31, 3) := by decide +kernel
theorem dX9_alter_54 : decode cX9_alter 54 = .ok (.aload_n 0, 1) := by decide +kernel
theorem dX9_alter_55 : decode cX9_alter 55 = .ok (.getfield 36, 3) := by decide +kernel
theorem dX9_alter_58 : decode cX9_alter 58 = .ok (.bipush 8, 2) := by decide +kernel
theorem dX9_alter_60 : decode cX9_alter 60 = .ok (.iload_n 1, 1) := by decide +kernel
theorem dX9_alter_61 : decode cX9_alter 61 = .ok (.imul, 1) := by decide +kernel
theorem dX9_alter_62 : decode cX9_alter 62 = .ok (.iload_n 3, 1) := by decide +kernel
theorem dX9_alter_63 : decode cX9_alter 63 = .ok (.iadd, 1) := by decide +kernel
theorem dX9_alter_64 : decode cX9_alter 64 = .ok (.dup2, 1) := by decide +kernel
theorem dX9_alter_65 : decode cX9_alter 65 = .ok (.iaload, 1) := by decide +kernel
theorem dX9_alter_66 : decode cX9_alter 66 = .ok (.iload_n 2, 1) := by decide +kernel
theorem dX9_alter_67 : decode cX9_alter 67 = .ok (.bipush 7, 2) := by decide +kernel
theorem dX9_alter_69 : decode cX9_alter 69 = .ok (.iload_n 3, 1) := by decide +kernel
theorem dX9_alter_70 : decode cX9_alter 70 = .ok (.isub, 1) := by decide +kernel
theorem dX9_alter_71 : decode cX9_alter 71 = .ok (.ishr, 1) := by decide +kernel
theorem dX9_alter_72 : decode cX9_alter 72 = .ok (.iconst 1, 1) := by decide +kernel
theorem dX9_alter_73 : decode cX9_alter 73 = .ok (.iand, 1) := by decide +kernel
theorem dX9_alter_74 : decode cX9_alter 74 = .ok (.ixor, 1) := by decide +kernel
theorem dX9_alter_75 : decode cX9_alter 75 = .ok (.iastore, 1) := by decide +kernel
theorem dX9_alter_76 : decode cX9_alter 76 = .ok (.iinc 3 1, 3) := by decide +kernel
theorem dX9_alter_79 : decode cX9_alter 79 = .ok (.goto (-31), 3) := by decide +kernel
theorem dX9_alter_82 : decode cX9_alter 82 = .ok (.aload_n 0, 1) := by decide +kernel
theorem dX9_alter_83 : decode cX9_alter 83 = .ok (.iload_n 1, 1) := by decide +kernel
theorem dX9_alter_84 : decode cX9_alter 84 = .ok (.invokevirtual 237, 3) := by decide +kernel
theorem dX9_alter_87 : decode cX9_alter 87 = .ok (.ireturn, 1) := by decide +kernel
theorem dX9_judge_0 : decode cX9_judge 0 = .ok (.aload_n 0, 1) := by decide +kernel
theorem dX9_judge_1 : decode cX9_judge 1 = .ok (.iconst 0, 1) := by decide +kernel
theorem dX9_judge_2 : decode cX9_judge 2 = .ok (.putfield 1, 3) := by decide +kernel
theorem dX9_judge_5 : decode cX9_judge 5 = .ok (.aload_n 0, 1) := by decide +kernel
theorem dX9_judge_6 : decode cX9_judge 6 = .ok (.getfield 100, 3) := by decide +kernel
theorem dX9_judge_9 : decode cX9_judge 9 = .ok (.ifCond .ne 6, 3) := by decide +kernel
theorem dX9_judge_12 : decode cX9_judge 12 = .ok (.bipush (-3), 2) := by decide +kernel
theorem dX9_judge_14 : decode cX9_judge 14 = .ok (.ireturn, 1) := by decide +kernel
theorem dX9_judge_15 : decode cX9_judge 15 = .ok (.iconst 0, 1) := by decide +kernel
theorem dX9_judge_16 : decode cX9_judge 16 = .ok (.istore_n 1, 1) := by decide +kernel
theorem dX9_judge_17 : decode cX9_judge 17 = .ok (.iconst 0, 1) := by decide +kernel
theorem dX9_judge_18 : decode cX9_judge 18 = .ok (.istore_n 2, 1) := by decide +kernel
theorem dX9_judge_19 : decode cX9_judge 19 = .ok (.iload_n 2, 1) := by decide +kernel
theorem dX9_judge_20 : decode cX9_judge 20 = .ok (.bipush 8, 2) := by decide +kernel
theorem dX9_judge_22 : decode cX9_judge 22 = .ok (.aload_n 0, 1) := by decide +kernel
theorem dX9_judge_23 : decode cX9_judge 23 = .ok (.invokevirtual 232, 3) := by decide +kernel
theorem dX9_judge_26 : decode cX9_judge 26 = .ok (.imul, 1) := by decide +kernel
theorem dX9_judge_27 : decode cX9_judge 27 = .ok (.if_icmp .ge 52, 3) := by decide +kernel
theorem dX9_judge_30 : decode cX9_judge 30 = .ok (.iload_n 1, 1) := by decide +kernel
theorem dX9_judge_31 : decode cX9_judge 31 = .ok (.aload_n 0, 1) := by decide +kernel
theorem dX9_judge_32 : decode cX9_judge 32 = .ok (.getfield 93, 3) := by decide +kernel
theorem dX9_judge_35 : decode cX9_judge 35 = .ok (.if_icmp .ge 21, 3) := by decide +kernel
theorem dX9_judge_38 : decode cX9_judge 38 = .ok (.iload_n 2, 1) := by decide +kernel
theorem dX9_judge_39 : decode cX9_judge 39 = .ok (.aload_n 0, 1) := by decide +kernel
theorem dX9_judge_40 : decode cX9_judge 40 = .ok (.getfield 66, 3) := by decide +kernel
theorem dX9_judge_43 : decode cX9_judge 43 = .ok (.iload_n 1, 1) := by decide +kernel
theorem dX9_judge_44 : decode cX9_judge 44 = .ok (.iconst 1, 1) := by decide +kernel
theorem dX9_judge_45 : decode cX9_judge 45 = .ok (.iadd, 1) := by decide +kernel
theorem dX9_judge_46 : decode cX9_judge 46 = .ok (.iaload, 1) := by decide +kernel
theorem dX9_judge_47 : decode cX9_judge 47 = .ok (.if_icmp .lt 9, 3) := by decide +kernel
theorem dX9_judge_50 : decode cX9_judge 50 = .ok (.iinc 1 1, 3) := by decide +kernel
theorem dX9_judge_53 : decode cX9_judge 53 = .ok (.goto (-23), 3) := by decide +kernel
theorem dX9_judge_56 : decode cX9_judge 56 = .ok (.aload_n 0, 1) := by decide +kernel
theorem dX9_judge_57 : decode cX9_judge 57 = .ok (.getfield 36, 3) := by decide +kernel
theorem dX9_judge_60 : decode cX9_judge 60 = .ok (.iload_n 2, 1) := by decide +kernel
theorem dX9_judge_61 : decode cX9_judge 61 = .ok (.iaload, 1) := by decide +kernel
theorem dX9_judge_62 : decode cX9_judge 62 = .ok (.aload_n 0, 1) := by decide +kernel
theorem dX9_judge_63 : decode cX9_judge 63 = .ok (.getfield 39, 3) := by decide +kernel
theorem dX9_judge_66 : decode cX9_judge 66 = .ok (.iload_n 2, 1) := by decide +kernel
theorem dX9_judge_67 : decode cX9_judge 67 = .ok (.iaload, 1) := by decide +kernel
theorem dX9_judge_68 : decode cX9_judge 68 = .ok (.if_icmp .eq 5, 3) := by decide +kernel
theorem dX9_judge_71 : decode cX9_judge 71 = .ok (.iload_n 1, 1) := by decide +kernel
theorem dX9_judge_72 : decode cX9_judge 72 = .ok (.ireturn, 1) := by decide +kernel
theorem dX9_judge_73 : decode cX9_judge 73 = .ok (.iinc 2 1, 3) := by decide +kernel
theorem dX9_judge_76 : decode cX9_judge 76 = .ok (.goto (-57), 3) := by decide +kernel
theorem dX9_judge_79 : decode cX9_judge 79 = .ok (.iconst (-1), 1) := by decide +kernel
theorem dX9_judge_80 : decode cX9_judge 80 = .ok (.ireturn, 1) := by decide +kernel
theorem dX9_keyOf_0 : decode cX9_keyOf 0 = .ok (.sipush 1024, 3) := by decide +kernel
theorem dX9_keyOf_3 : decode cX9_keyOf 3 = .ok (.istore_n 2, 1) := by decide +kernel
theorem dX9_keyOf_4 : decode cX9_keyOf 4 = .ok (.iconst 0, 1) := by decide +kernel
theorem dX9_keyOf_5 : decode cX9_keyOf 5 = .ok (.istore_n 3, 1) := by decide +kernel
theorem dX9_keyOf_6 : decode cX9_keyOf 6 = .ok (.iload_n 3, 1) := by decide +kernel
theorem dX9_keyOf_7 : decode cX9_keyOf 7 = .ok (.aload_n 0, 1) := by decide +kernel
theorem dX9_keyOf_8 : decode cX9_keyOf 8 = .ok (.getfield 93, 3) := by decide +kernel
theorem dX9_keyOf_11 : decode cX9_keyOf 11 = .ok (.if_icmp .ge 48, 3) := by decide +kernel
theorem dX9_keyOf_14 : decode cX9_keyOf 14 = .ok (.iload_n 3, 1) := by decide +kernel
theorem dX9_keyOf_15 : decode cX9_keyOf 15 = .ok (.ldc 242, 2) := by decide +kernel
theorem dX9_keyOf_17 : decode cX9_keyOf 17 = .ok (.imul, 1) := by decide +kernel
theorem dX9_keyOf_18 : decode cX9_keyOf 18 = .ok (.ldc 243, 2) := by decide +kernel
theorem dX9_keyOf_20 : decode cX9_keyOf 20 = .ok (.irem, 1) := by decide +kernel
theorem dX9_keyOf_21 : decode cX9_keyOf 21 = .ok (.bipush 64, 2) := by decide +kernel
theorem dX9_keyOf_23 : decode cX9_keyOf 23 = .ok (.idiv, 1) := by decide +kernel
theorem dX9_keyOf_24 : decode cX9_keyOf 24 = .ok (.istore 4, 2) := by decide +kernel
theorem dX9_keyOf_26 : decode cX9_keyOf 26 = .ok (.aload_n 0, 1) := by decide +kernel
theorem dX9_keyOf_27 : decode cX9_keyOf 27 = .ok (.getfield 13, 3) := by decide +kernel
theorem dX9_keyOf_30 : decode cX9_keyOf 30 = .ok (.bipush 48, 2) := by decide +kernel
theorem dX9_keyOf_32 : decode cX9_keyOf 32 = .ok (.iload_n 1, 1) := by decide +kernel
theorem dX9_keyOf_33 : decode cX9_keyOf 33 = .ok (.imul, 1) := by decide +kernel
theorem dX9_keyOf_34 : decode cX9_keyOf 34 = .ok (.iload_n 3, 1) := by decide +kernel
theorem dX9_keyOf_35 : decode cX9_keyOf 35 = .ok (.iadd, 1) := by decide +kernel
theorem dX9_keyOf_36 : decode cX9_keyOf 36 = .ok (.baload, 1) := by decide +kernel
theorem dX9_keyOf_37 : decode cX9_keyOf 37 = .ok (.ifCond .eq 14, 3) := by decide +kernel
theorem dX9_keyOf_40 : decode cX9_keyOf 40 = .ok (.iload 4, 2) := by decide +kernel
theorem dX9_keyOf_42 : decode cX9_keyOf 42 = .ok (.iload_n 2, 1) := by decide +kernel
theorem dX9_keyOf_43 : decode cX9_keyOf 43 = .ok (.if_icmp .ge 8, 3) := by decide +kernel
theorem dX9_keyOf_46 : decode cX9_keyOf 46 = .ok (.iload 4, 2) := by decide +kernel
theorem dX9_keyOf_48 : decode cX9_keyOf 48 = .ok (.goto 4, 3) := by decide +kernel
theorem dX9_keyOf_51 : decode cX9_keyOf 51 = .ok (.iload_n 2, 1) := by decide +kernel
theorem dX9_keyOf_52 : decode cX9_keyOf 52 = .ok (.istore_n 2, 1) := by decide +kernel
theorem dX9_keyOf_53 : decode cX9_keyOf 53 = .ok (.iinc 3 1, 3) := by decide +kernel
theorem dX9_keyOf_56 : decode cX9_keyOf 56 = .ok (.goto (-50), 3) := by decide +kernel
theorem dX9_keyOf_59 : decode cX9_keyOf 59 = .ok (.iload_n 2, 1) := by decide +kernel
theorem dX9_keyOf_60 : decode cX9_keyOf 60 = .ok (.ireturn, 1) := by decide +kernel
theorem dX9_orderBy_0 : decode cX9_orderBy 0 = .ok (.iconst 0, 1) := by decide +kernel
theorem dX9_orderBy_1 : decode cX9_orderBy 1 = .ok (.istore_n 2, 1) := by decide +kernel
theorem dX9_orderBy_2 : decode cX9_orderBy 2 = .ok (.iload_n 2, 1) := by decide +kernel
theorem dX9_orderBy_3 : decode cX9_orderBy 3 = .ok (.aload_n 0, 1) := by decide +kernel
theorem dX9_orderBy_4 : decode cX9_orderBy 4 = .ok (.getfield 93, 3) := by decide +kernel
theorem dX9_orderBy_7 : decode cX9_orderBy 7 = .ok (.if_icmp .ge 106, 3) := by decide +kernel
theorem dX9_orderBy_10 : decode cX9_orderBy 10 = .ok (.iconst 0, 1) := by decide +kernel
theorem dX9_orderBy_11 : decode cX9_orderBy 11 = .ok (.istore_n 3, 1) := by decide +kernel
theorem dX9_orderBy_12 : decode cX9_orderBy 12 = .ok (.iload_n 1, 1) := by decide +kernel
theorem dX9_orderBy_13 : decode cX9_orderBy 13 = .ok (.ifCond .ne 12, 3) := by decide +kernel
theorem dX9_orderBy_16 : decode cX9_orderBy 16 = .ok (.aload_n 0, 1) := by decide +kernel
theorem dX9_orderBy_17 : decode cX9_orderBy 17 = .ok (.iload_n 2, 1) := by decide +kernel
theorem dX9_orderBy_18 : decode cX9_orderBy 18 = .ok (.invokevirtual 115, 3) := by decide +kernel
theorem dX9_orderBy_21 : decode cX9_orderBy 21 = .ok (.ineg, 1) := by decide +kernel
theorem dX9_orderBy_22 : decode cX9_orderBy 22 = .ok (.goto 8, 3) := by decide +kernel
theorem dX9_orderBy_25 : decode cX9_orderBy 25 = .ok (.aload_n 0, 1) := by decide +kernel
theorem dX9_orderBy_26 : decode cX9_orderBy 26 = .ok (.iload_n 2, 1) := by decide +kernel
theorem dX9_orderBy_27 : decode cX9_orderBy 27 = .ok (.invokevirtual 244, 3) := by decide +kernel
theorem dX9_orderBy_30 : decode cX9_orderBy 30 = .ok (.istore 4, 2) := by decide +kernel
theorem dX9_orderBy_32 : decode cX9_orderBy 32 = .ok (.iconst 0, 1) := by decide +kernel
theorem dX9_orderBy_33 : decode cX9_orderBy 33 = .ok (.istore 5, 2) := by decide +kernel
theorem dX9_orderBy_35 : decode cX9_orderBy 35 = .ok (.iload 5, 2) := by decide +kernel
theorem dX9_orderBy_37 : decode cX9_orderBy 37 = .ok (.aload_n 0, 1) := by decide +kernel
theorem dX9_orderBy_38 : decode cX9_orderBy 38 = .ok (.getfield 93, 3) := by decide +kernel
theorem dX9_orderBy_41 : decode cX9_orderBy 41 = .ok (.if_icmp .ge 59, 3) := by decide +kernel
theorem dX9_orderBy_44 : decode cX9_orderBy 44 = .ok (.iload_n 1, 1) := by decide +kernel
theorem dX9_orderBy_45 : decode cX9_orderBy 45 = .ok (.ifCond .ne 13, 3) := by decide +kernel
theorem dX9_orderBy_48 : decode cX9_orderBy 48 = .ok (.aload_n 0, 1) := by decide +kernel
theorem dX9_orderBy_49 : decode cX9_orderBy 49 = .ok (.iload 5, 2) := by decide +kernel
theorem dX9_orderBy_51 : decode cX9_orderBy 51 = .ok (.invokevirtual 115, 3) := by decide +kernel
theorem dX9_orderBy_54 : decode cX9_orderBy 54 = .ok (.ineg, 1) := by decide +kernel
theorem dX9_orderBy_55 : decode cX9_orderBy 55 = .ok (.goto 9, 3) := by decide +kernel
theorem dX9_orderBy_58 : decode cX9_orderBy 58 = .ok (.aload_n 0, 1) := by decide +kernel
theorem dX9_orderBy_59 : decode cX9_orderBy 59 = .ok (.iload 5, 2) := by decide +kernel
theorem dX9_orderBy_61 : decode cX9_orderBy 61 = .ok (.invokevirtual 244, 3) := by decide +kernel
theorem dX9_orderBy_64 : decode cX9_orderBy 64 = .ok (.istore 6, 2) := by decide +kernel
theorem dX9_orderBy_66 : decode cX9_orderBy 66 = .ok (.iload_n 3, 1) := by decide +kernel
theorem dX9_orderBy_67 : decode cX9_orderBy 67 = .ok (.iload 6, 2) := by decide +kernel
theorem dX9_orderBy_69 : decode cX9_orderBy 69 = .ok (.iload 4, 2) := by decide +kernel
theorem dX9_orderBy_71 : decode cX9_orderBy 71 = .ok (.if_icmp .lt 16, 3) := by decide +kernel
theorem dX9_orderBy_74 : decode cX9_orderBy 74 = .ok (.iload 6, 2) := by decide +kernel
theorem dX9_orderBy_76 : decode cX9_orderBy 76 = .ok (.iload 4, 2) := by decide +kernel
theorem dX9_orderBy_78 : decode cX9_orderBy 78 = .ok (.if_icmp .ne 13, 3) := by decide +kernel
theorem dX9_orderBy_81 : decode cX9_orderBy 81 = .ok (.iload 5, 2) := by decide +kernel
theorem dX9_orderBy_83 : decode cX9_orderBy 83 = .ok (.iload_n 2, 1) := by decide +kernel
theorem dX9_orderBy_84 : decode cX9_orderBy 84 = .ok (.if_icmp .ge 7, 3) := by decide +kernel
theorem dX9_orderBy_87 : decode cX9_orderBy 87 = .ok (.iconst 1, 1) := by decide +kernel
theorem dX9_orderBy_88 : decode cX9_orderBy 88 = .ok (.goto 4, 3) := by decide +kernel
theorem dX9_orderBy_91 : decode cX9_orderBy 91 = .ok (.iconst 0, 1) := by decide +kernel
theorem dX9_orderBy_92 : decode cX9_orderBy 92 = .ok (.iadd, 1) := by decide +kernel
theorem dX9_orderBy_93 : decode cX9_orderBy 93 = .ok (.istore_n 3, 1) := by decide +kernel
theorem dX9_orderBy_94 : decode cX9_orderBy 94 = .ok (.iinc 5 1, 3) := by decide +kernel
theorem dX9_orderBy_97 : decode cX9_orderBy 97 = .ok (.goto (-62), 3) := by decide +kernel
theorem dX9_orderBy_100 : decode cX9_orderBy 100 = .ok (.aload_n 0, 1) := by decide +kernel
theorem dX9_orderBy_101 : decode cX9_orderBy 101 = .ok (.getfield 81, 3) := by decide +kernel
theorem dX9_orderBy_104 : decode cX9_orderBy 104 = .ok (.iload_n 3, 1) := by decide +kernel
theorem dX9_orderBy_105 : decode cX9_orderBy 105 = .ok (.iload_n 2, 1) := by decide +kernel
theorem dX9_orderBy_106 : decode cX9_orderBy 106 = .ok (.iastore, 1) := by decide +kernel
theorem dX9_orderBy_107 : decode cX9_orderBy 107 = .ok (.iinc 2 1, 3) := by decide +kernel
theorem dX9_orderBy_110 : decode cX9_orderBy 110 = .ok (.goto (-108), 3) := by decide +kernel
theorem dX9_orderBy_113 : decode cX9_orderBy 113 = .ok (.return_, 1) := by decide +kernel
theorem dX9_orderLayers_0 : decode cX9_orderLayers 0 = .ok (.iconst 0, 1) := by decide +kernel
theorem dX9_orderLayers_1 : decode cX9_orderLayers 1 = .ok (.istore_n 1, 1) := by decide +kernel
theorem dX9_orderLayers_2 : decode cX9_orderLayers 2 = .ok (.iload_n 1, 1) := by decide +kernel
theorem dX9_orderLayers_3 : decode cX9_orderLayers 3 = .ok (.aload_n 0, 1) := by decide +kernel
theorem dX9_orderLayers_4 : decode cX9_orderLayers 4 = .ok (.getfield 93, 3) := by decide +kernel
theorem dX9_orderLayers_7 : decode cX9_orderLayers 7 = .ok (.if_icmp .ge 16, 3) := by decide +kernel
theorem dX9_orderLayers_10 : decode cX9_orderLayers 10 = .ok (.aload_n 0, 1) := by decide +kernel
theorem dX9_orderLayers_11 : decode cX9_orderLayers 11 = .ok (.getfield 84, 3) := by decide +kernel
theorem dX9_orderLayers_14 : decode cX9_orderLayers 14 = .ok (.iload_n 1, 1) := by decide +kernel
theorem dX9_orderLayers_15 : decode cX9_orderLayers 15 = .ok (.iconst 0, 1) := by decide +kernel
theorem dX9_orderLayers_16 : decode cX9_orderLayers 16 = .ok (.bastore, 1) := by decide +kernel
theorem dX9_orderLayers_17 : decode cX9_orderLayers 17 = .ok (.iinc 1 1, 3) := by decide +kernel
theorem dX9_orderLayers_20 : decode cX9_orderLayers 20 = .ok (.goto (-18), 3) := by decide +kernel
theorem dX9_orderLayers_23 : decode cX9_orderLayers 23 = .ok (.iconst 0, 1) := by decide +kernel
theorem dX9_orderLayers_24 : decode cX9_orderLayers 24 = .ok (.istore_n 1, 1) := by decide +kernel
theorem dX9_orderLayers_25 : decode cX9_orderLayers 25 = .ok (.iconst 0, 1) := by decide +kernel
theorem dX9_orderLayers_26 : decode cX9_orderLayers 26 = .ok (.istore_n 2, 1) := by decide +kernel
theorem dX9_orderLayers_27 : decode cX9_orderLayers 27 = .ok (.iload_n 2, 1) := by decide +kernel
theorem dX9_orderLayers_28 : decode cX9_orderLayers 28 = .ok (.aload_n 0, 1) := by decide +kernel
theorem dX9_orderLayers_29 : decode cX9_orderLayers 29 = .ok (.getfield 93, 3) := by decide +kernel
theorem dX9_orderLayers_32 : decode cX9_orderLayers 32 = .ok (.if_icmp .ge 109, 3) := by decide +kernel
theorem dX9_orderLayers_35 : decode cX9_orderLayers 35 = .ok (.iload_n 2, 1) := by decide +kernel
theorem dX9_orderLayers_36 : decode cX9_orderLayers 36 = .ok (.iload_n 1, 1) := by decide +kernel
theorem dX9_orderLayers_37 : decode cX9_orderLayers 37 = .ok (.if_icmp .ne 37, 3) := by decide +kernel
theorem dX9_orderLayers_40 : decode cX9_orderLayers 40 = .ok (.iconst 0, 1) := by decide +kernel
theorem dX9_orderLayers_41 : decode cX9_orderLayers 41 = .ok (.istore_n 3, 1) := by decide +kernel
theorem dX9_orderLayers_42 : decode cX9_orderLayers 42 = .ok (.aload_n 0, 1) := by decide +kernel
theorem dX9_orderLayers_43 : decode cX9_orderLayers 43 = .ok (.getfield 84, 3) := by decide +kernel
theorem dX9_orderLayers_46 : decode cX9_orderLayers 46 = .ok (.iload_n 3, 1) := by decide +kernel
theorem dX9_orderLayers_47 : decode cX9_orderLayers 47 = .ok (.baload, 1) := by decide +kernel
theorem dX9_orderLayers_48 : decode cX9_orderLayers 48 = .ok (.ifCond .eq 9, 3) := by decide +kernel
theorem dX9_orderLayers_51 : decode cX9_orderLayers 51 = .ok (.iinc 3 1, 3) := by decide +kernel
theorem dX9_orderLayers_54 : decode cX9_orderLayers 54 = .ok (.goto (-12), 3) := by decide +kernel
theorem dX9_orderLayers_57 : decode cX9_orderLayers 57 = .ok (.aload_n 0, 1) := by decide +kernel
theorem dX9_orderLayers_58 : decode cX9_orderLayers 58 = .ok (.getfield 81, 3) := by decide +kernel
theorem dX9_orderLayers_61 : decode cX9_orderLayers 61 = .ok (.iload_n 1, 1) := by decide +kernel
theorem dX9_orderLayers_62 : decode cX9_orderLayers 62 = .ok (.iload_n 3, 1) := by decide +kernel
theorem dX9_orderLayers_63 : decode cX9_orderLayers 63 = .ok (.iastore, 1) := by decide +kernel
theorem dX9_orderLayers_64 : decode cX9_orderLayers 64 = .ok (.aload_n 0, 1) := by decide +kernel
theorem dX9_orderLayers_65 : decode cX9_orderLayers 65 = .ok (.getfield 84, 3) := by decide +kernel
theorem dX9_orderLayers_68 : decode cX9_orderLayers 68 = .ok (.iload_n 3, 1) := by decide +kernel
theorem dX9_orderLayers_69 : decode cX9_orderLayers 69 = .ok (.iconst 1, 1) := by decide +kernel
theorem dX9_orderLayers_70 : decode cX9_orderLayers 70 = .ok (.bastore, 1) := by decide +kernel
theorem dX9_orderLayers_71 : decode cX9_orderLayers 71 = .ok (.iinc 1 1, 3) := by decide +kernel
theorem dX9_orderLayers_74 : decode cX9_orderLayers 74 = .ok (.iconst 0, 1) := by decide +kernel
theorem dX9_orderLayers_75 : decode cX9_orderLayers 75 = .ok (.istore_n 3, 1) := by decide +kernel
theorem dX9_orderLayers_76 : decode cX9_orderLayers 76 = .ok (.iload_n 3, 1) := by decide +kernel
theorem dX9_orderLayers_77 : decode cX9_orderLayers 77 = .ok (.aload_n 0, 1) := by decide +kernel
theorem dX9_orderLayers_78 : decode cX9_orderLayers 78 = .ok (.getfield 93, 3) := by decide +kernel
theorem dX9_orderLayers_81 : decode cX9_orderLayers 81 = .ok (.if_icmp .ge 54, 3) := by decide +kernel
theorem dX9_orderLayers_84 : decode cX9_orderLayers 84 = .ok (.aload_n 0, 1) := by decide +kernel
theorem dX9_orderLayers_85 : decode cX9_orderLayers 85 = .ok (.getfield 13, 3) := by decide +kernel
theorem dX9_orderLayers_88 : decode cX9_orderLayers 88 = .ok (.bipush 48, 2) := by decide +kernel
theorem dX9_orderLayers_90 : decode cX9_orderLayers 90 = .ok (.aload_n 0, 1) := by decide +kernel
theorem dX9_orderLayers_91 : decode cX9_orderLayers 91 = .ok (.getfield 81, 3) := by decide +kernel
theorem dX9_orderLayers_94 : decode cX9_orderLayers 94 = .ok (.iload_n 2, 1) := by decide +kernel
theorem dX9_orderLayers_95 : decode cX9_orderLayers 95 = .ok (.iaload, 1) := by decide +kernel
theorem dX9_orderLayers_96 : decode cX9_orderLayers 96 = .ok (.imul, 1) := by decide +kernel
theorem dX9_orderLayers_97 : decode cX9_orderLayers 97 = .ok (.iload_n 3, 1) := by decide +kernel
theorem dX9_orderLayers_98 : decode cX9_orderLayers 98 = .ok (.iadd, 1) := by decide +kernel
theorem dX9_orderLayers_99 : decode cX9_orderLayers 99 = .ok (.baload, 1) := by decide +kernel
theorem dX9_orderLayers_100 : decode cX9_orderLayers 100 = .ok (.ifCond .eq 29, 3) := by decide +kernel
theorem dX9_orderLayers_103 : decode cX9_orderLayers 103 = .ok (.aload_n 0, 1) := by decide +kernel
theorem dX9_orderLayers_104 : decode cX9_orderLayers 104 = .ok (.getfield 84, 3) := by decide +kernel
theorem dX9_orderLayers_107 : decode cX9_orderLayers 107 = .ok (.iload_n 3, 1) := by decide +kernel
theorem dX9_orderLayers_108 : decode cX9_orderLayers 108 = .ok (.baload, 1) := by decide +kernel
theorem dX9_orderLayers_109 : decode cX9_orderLayers 109 = .ok (.ifCond .ne 20, 3) := by decide +kernel
theorem dX9_orderLayers_112 : decode cX9_orderLayers 112 = .ok (.aload_n 0, 1) := by decide +kernel
theorem dX9_orderLayers_113 : decode cX9_orderLayers 113 = .ok (.getfield 81, 3) := by decide +kernel
theorem dX9_orderLayers_116 : decode cX9_orderLayers 116 = .ok (.iload_n 1, 1) := by decide +kernel
theorem dX9_orderLayers_117 : decode cX9_orderLayers 117 = .ok (.iload_n 3, 1) := by decide +kernel
theorem dX9_orderLayers_118 : decode cX9_orderLayers 118 = .ok (.iastore, 1) := by decide +kernel
theorem dX9_orderLayers_119 : decode cX9_orderLayers 119 = .ok (.aload_n 0, 1) := by decide +kernel
theorem dX9_orderLayers_120 : decode cX9_orderLayers 120 = .ok (.getfield 84, 3) := by decide +kernel
theorem dX9_orderLayers_123 : decode cX9_orderLayers 123 = .ok (.iload_n 3, 1) := by decide +kernel
theorem dX9_orderLayers_124 : decode cX9_orderLayers 124 = .ok (.iconst 1, 1) := by decide +kernel
theorem dX9_orderLayers_125 : decode cX9_orderLayers 125 = .ok (.bastore, 1) := by decide +kernel
theorem dX9_orderLayers_126 : decode cX9_orderLayers 126 = .ok (.iinc 1 1, 3) := by decide +kernel
theorem dX9_orderLayers_129 : decode cX9_orderLayers 129 = .ok (.iinc 3 1, 3) := by decide +kernel
theorem dX9_orderLayers_132 : decode cX9_orderLayers 132 = .ok (.goto (-56), 3) := by decide +kernel
theorem dX9_orderLayers_135 : decode cX9_orderLayers 135 = .ok (.iinc 2 1, 3) := by decide +kernel
theorem dX9_orderLayers_138 : decode cX9_orderLayers 138 = .ok (.goto (-111), 3) := by decide +kernel
theorem dX9_orderLayers_141 : decode cX9_orderLayers 141 = .ok (.return_, 1) := by decide +kernel
theorem dX9_toOrder_0 : decode cX9_toOrder 0 = .ok (.iload_n 1, 1) := by decide +kernel
theorem dX9_toOrder_1 : decode cX9_toOrder 1 = .ok (.iconst 1, 1) := by decide +kernel
theorem dX9_toOrder_2 : decode cX9_toOrder 2 = .ok (.if_icmp .ne 10, 3) := by decide +kernel
theorem dX9_toOrder_5 : decode cX9_toOrder 5 = .ok (.aload_n 0, 1) := by decide +kernel
theorem dX9_toOrder_6 : decode cX9_toOrder 6 = .ok (.invokevirtual 247, 3) := by decide +kernel
theorem dX9_toOrder_9 : decode cX9_toOrder 9 = .ok (.goto 8, 3) := by decide +kernel
theorem dX9_toOrder_12 : decode cX9_toOrder 12 = .ok (.aload_n 0, 1) := by decide +kernel
theorem dX9_toOrder_13 : decode cX9_toOrder 13 = .ok (.iload_n 1, 1) := by decide +kernel
theorem dX9_toOrder_14 : decode cX9_toOrder 14 = .ok (.invokevirtual 250, 3) := by decide +kernel
theorem dX9_toOrder_17 : decode cX9_toOrder 17 = .ok (.return_, 1) := by decide +kernel
theorem dX9_order_0 : decode cX9_order 0 = .ok (.aload_n 0, 1) := by decide +kernel
theorem dX9_order_1 : decode cX9_order 1 = .ok (.iconst 0, 1) := by decide +kernel
theorem dX9_order_2 : decode cX9_order 2 = .ok (.putfield 1, 3) := by decide +kernel
theorem dX9_order_5 : decode cX9_order 5 = .ok (.iload_n 1, 1) := by decide +kernel
theorem dX9_order_6 : decode cX9_order 6 = .ok (.i2l, 1) := by decide +kernel
theorem dX9_order_7 : decode cX9_order 7 = .ok (.lconst 0, 1) := by decide +kernel
theorem dX9_order_8 : decode cX9_order 8 = .ok (.ldc2_w 253, 3) := by decide +kernel
theorem dX9_order_11 : decode cX9_order 11 = .ok (.invokestatic 96, 3) := by decide +kernel
theorem dX9_order_14 : decode cX9_order 14 = .ok (.ifCond .ne 6, 3) := by decide +kernel
theorem dX9_order_17 : decode cX9_order 17 = .ok (.bipush (-2), 2) := by decide +kernel
theorem dX9_order_19 : decode cX9_order 19 = .ok (.ireturn, 1) := by decide +kernel
theorem dX9_order_20 : decode cX9_order 20 = .ok (.aload_n 0, 1) := by decide +kernel
theorem dX9_order_21 : decode cX9_order 21 = .ok (.iload_n 1, 1) := by decide +kernel
theorem dX9_order_22 : decode cX9_order 22 = .ok (.invokevirtual 255, 3) := by decide +kernel
theorem dX9_order_25 : decode cX9_order 25 = .ok (.aload_n 0, 1) := by decide +kernel
theorem dX9_order_26 : decode cX9_order 26 = .ok (.iload_n 2, 1) := by decide +kernel
theorem dX9_order_27 : decode cX9_order 27 = .ok (.invokevirtual 107, 3) := by decide +kernel
theorem dX9_order_30 : decode cX9_order 30 = .ok (.ifCond .eq 12, 3) := by decide +kernel
theorem dX9_order_33 : decode cX9_order 33 = .ok (.aload_n 0, 1) := by decide +kernel
theorem dX9_order_34 : decode cX9_order 34 = .ok (.getfield 81, 3) := by decide +kernel
theorem dX9_order_37 : decode cX9_order 37 = .ok (.iload_n 2, 1) := by decide +kernel
theorem dX9_order_38 : decode cX9_order 38 = .ok (.iaload, 1) := by decide +kernel
theorem dX9_order_39 : decode cX9_order 39 = .ok (.goto 4, 3) := by decide +kernel
theorem dX9_order_42 : decode cX9_order 42 = .ok (.iconst (-1), 1) := by decide +kernel
theorem dX9_order_43 : decode cX9_order 43 = .ok (.ireturn, 1) := by decide +kernel
theorem dX9_renumber_0 : decode cX9_renumber 0 = .ok (.aload_n 0, 1) := by decide +kernel
theorem dX9_renumber_1 : decode cX9_renumber 1 = .ok (.iconst 0, 1) := by decide +kernel
theorem dX9_renumber_2 : decode cX9_renumber 2 = .ok (.putfield 1, 3) := by decide +kernel
theorem dX9_renumber_5 : decode cX9_renumber 5 = .ok (.iload_n 1, 1) := by decide +kernel
theorem dX9_renumber_6 : decode cX9_renumber 6 = .ok (.i2l, 1) := by decide +kernel
theorem dX9_renumber_7 : decode cX9_renumber 7 = .ok (.lconst 0, 1) := by decide +kernel
theorem dX9_renumber_8 : decode cX9_renumber 8 = .ok (.ldc2_w 253, 3) := by decide +kernel
theorem dX9_renumber_11 : decode cX9_renumber 11 = .ok (.invokestatic 96, 3) := by decide +kernel
theorem dX9_renumber_14 : decode cX9_renumber 14 = .ok (.ifCond .ne 6, 3) := by decide +kernel
theorem dX9_renumber_17 : decode cX9_renumber 17 = .ok (.bipush (-2), 2) := by decide +kernel
theorem dX9_renumber_19 : decode cX9_renumber 19 = .ok (.ireturn, 1) := by decide +kernel
theorem dX9_renumber_20 : decode cX9_renumber 20 = .ok (.aload_n 0, 1) := by decide +kernel
theorem dX9_renumber_21 : decode cX9_renumber 21 = .ok (.iload_n 1, 1) := by decide +kernel
theorem dX9_renumber_22 : decode cX9_renumber 22 = .ok (.invokevirtual 255, 3) := by decide +kernel
theorem dX9_renumber_25 : decode cX9_renumber 25 = .ok (.iconst 0, 1) := by decide +kernel
theorem dX9_renumber_26 : decode cX9_renumber 26 = .ok (.istore_n 2, 1) := by decide +kernel
theorem dX9_renumber_27 : decode cX9_renumber 27 = .ok (.iload_n 2, 1) := by decide +kernel
theorem dX9_renumber_28 : decode cX9_renumber 28 = .ok (.aload_n 0, 1) := by decide +kernel
theorem dX9_renumber_29 : decode cX9_renumber 29 = .ok (.getfield 93, 3) := by decide +kernel
theorem dX9_renumber_32 : decode cX9_renumber 32 = .ok (.if_icmp .ge 57, 3) := by decide +kernel
theorem dX9_renumber_35 : decode cX9_renumber 35 = .ok (.iconst 0, 1) := by decide +kernel
theorem dX9_renumber_36 : decode cX9_renumber 36 = .ok (.istore_n 3, 1) := by decide +kernel
theorem dX9_renumber_37 : decode cX9_renumber 37 = .ok (.iload_n 3, 1) := by decide +kernel
theorem dX9_renumber_38 : decode cX9_renumber 38 = .ok (.aload_n 0, 1) := by decide +kernel
theorem dX9_renumber_39 : decode cX9_renumber 39 = .ok (.getfield 93, 3) := by decide +kernel
theorem dX9_renumber_42 : decode cX9_renumber 42 = .ok (.if_icmp .ge 41, 3) := by decide +kernel
theorem dX9_renumber_45 : decode cX9_renumber 45 = .ok (.aload_n 0, 1) := by decide +kernel
theorem dX9_renumber_46 : decode cX9_renumber 46 = .ok (.getfield 20, 3) := by decide +kernel
theorem dX9_renumber_49 : decode cX9_renumber 49 = .ok (.bipush 48, 2) := by decide +kernel
theorem dX9_renumber_51 : decode cX9_renumber 51 = .ok (.iload_n 2, 1) := by decide +kernel
theorem dX9_renumber_52 : decode cX9_renumber 52 = .ok (.imul, 1) := by decide +kernel
theorem dX9_renumber_53 : decode cX9_renumber 53 = .ok (.iload_n 3, 1) := by decide +kernel
theorem dX9_renumber_54 : decode cX9_renumber 54 = .ok (.iadd, 1) := by decide +kernel
theorem dX9_renumber_55 : decode cX9_renumber 55 = .ok (.aload_n 0, 1) := by decide +kernel
theorem dX9_renumber_56 : decode cX9_renumber 56 = .ok (.getfield 13, 3) := by decide +kernel
theorem dX9_renumber_59 : decode cX9_renumber 59 = .ok (.bipush 48, 2) := by decide +kernel
theorem dX9_renumber_61 : decode cX9_renumber 61 = .ok (.aload_n 0, 1) := by decide +kernel
theorem dX9_renumber_62 : decode cX9_renumber 62 = .ok (.getfield 81, 3) := by decide +kernel
theorem dX9_renumber_65 : decode cX9_renumber 65 = .ok (.iload_n 2, 1) := by decide +kernel
theorem dX9_renumber_66 : decode cX9_renumber 66 = .ok (.iaload, 1) := by decide +kernel
theorem dX9_renumber_67 : decode cX9_renumber 67 = .ok (.imul, 1) := by decide +kernel
theorem dX9_renumber_68 : decode cX9_renumber 68 = .ok (.aload_n 0, 1) := by decide +kernel
theorem dX9_renumber_69 : decode cX9_renumber 69 = .ok (.getfield 81, 3) := by decide +kernel
theorem dX9_renumber_72 : decode cX9_renumber 72 = .ok (.iload_n 3, 1) := by decide +kernel
theorem dX9_renumber_73 : decode cX9_renumber 73 = .ok (.iaload, 1) := by decide +kernel
theorem dX9_renumber_74 : decode cX9_renumber 74 = .ok (.iadd, 1) := by decide +kernel
theorem dX9_renumber_75 : decode cX9_renumber 75 = .ok (.baload, 1) := by decide +kernel
theorem dX9_renumber_76 : decode cX9_renumber 76 = .ok (.bastore, 1) := by decide +kernel
theorem dX9_renumber_77 : decode cX9_renumber 77 = .ok (.iinc 3 1, 3) := by decide +kernel
theorem dX9_renumber_80 : decode cX9_renumber 80 = .ok (.goto (-43), 3) := by decide +kernel
theorem dX9_renumber_83 : decode cX9_renumber 83 = .ok (.iinc 2 1, 3) := by decide +kernel
theorem dX9_renumber_86 : decode cX9_renumber 86 = .ok (.goto (-59), 3) := by decide +kernel
theorem dX9_renumber_89 : decode cX9_renumber 89 = .ok (.iconst 0, 1) := by decide +kernel
theorem dX9_renumber_90 : decode cX9_renumber 90 = .ok (.istore_n 2, 1) := by decide +kernel
theorem dX9_renumber_91 : decode cX9_renumber 91 = .ok (.iconst 0, 1) := by decide +kernel
theorem dX9_renumber_92 : decode cX9_renumber 92 = .ok (.istore_n 3, 1) := by decide +kernel
theorem dX9_renumber_93 : decode cX9_renumber 93 = .ok (.iload_n 3, 1) := by decide +kernel
end
section
theorem dX9_renumber_94 : decode cX9_renumber 94 = .ok (.aload_n 0, 1) := by decide +kernel
theorem dX9_renumber_95 : decode cX9_renumber 95 = .ok (.getfield 93, 3) := by decide +kernel
theorem dX9_renumber_98 : decode cX9_renumber 98 = .ok (.if_icmp .ge 80, 3) := by decide +kernel
theorem dX9_renumber_101 : decode cX9_renumber 101 = .ok (.iconst 0, 1) := by decide +kernel
theorem dX9_renumber_102 : decode cX9_renumber 102 = .ok (.istore 4, 2) := by decide +kernel
theorem dX9_renumber_104 : decode cX9_renumber 104 = .ok (.iload 4, 2) := by decide +kernel
theorem dX9_renumber_106 : decode cX9_renumber 106 = .ok (.aload_n 0, 1) := by decide +kernel
theorem dX9_renumber_107 : decode cX9_renumber 107 = .ok (.getfield 93, 3) := by decide +kernel
theorem dX9_renumber_110 : decode cX9_renumber 110 = .ok (.if_icmp .ge 62, 3) := by decide +kernel
theorem dX9_renumber_113 : decode cX9_renumber 113 = .ok (.aload_n 0, 1) := by decide +kernel
theorem dX9_renumber_114 : decode cX9_renumber 114 = .ok (.getfield 13, 3) := by decide +kernel
theorem dX9_renumber_117 : decode cX9_renumber 117 = .ok (.bipush 48, 2) := by decide +kernel
theorem dX9_renumber_119 : decode cX9_renumber 119 = .ok (.iload_n 3, 1) := by decide +kernel
theorem dX9_renumber_120 : decode cX9_renumber 120 = .ok (.imul, 1) := by decide +kernel
theorem dX9_renumber_121 : decode cX9_renumber 121 = .ok (.iload 4, 2) := by decide +kernel
theorem dX9_renumber_123 : decode cX9_renumber 123 = .ok (.iadd, 1) := by decide +kernel
theorem dX9_renumber_124 : decode cX9_renumber 124 = .ok (.aload_n 0, 1) := by decide +kernel
theorem dX9_renumber_125 : decode cX9_renumber 125 = .ok (.getfield 20, 3) := by decide +kernel
theorem dX9_renumber_128 : decode cX9_renumber 128 = .ok (.bipush 48, 2) := by decide +kernel
theorem dX9_renumber_130 : decode cX9_renumber 130 = .ok (.iload_n 3, 1) := by decide +kernel
theorem dX9_renumber_131 : decode cX9_renumber 131 = .ok (.imul, 1) := by decide +kernel
theorem dX9_renumber_132 : decode cX9_renumber 132 = .ok (.iload 4, 2) := by decide +kernel
theorem dX9_renumber_134 : decode cX9_renumber 134 = .ok (.iadd, 1) := by decide +kernel
theorem dX9_renumber_135 : decode cX9_renumber 135 = .ok (.baload, 1) := by decide +kernel
theorem dX9_renumber_136 : decode cX9_renumber 136 = .ok (.bastore, 1) := by decide +kernel
theorem dX9_renumber_137 : decode cX9_renumber 137 = .ok (.iload_n 2, 1) := by decide +kernel
theorem dX9_renumber_138 : decode cX9_renumber 138 = .ok (.iload 4, 2) := by decide +kernel
theorem dX9_renumber_140 : decode cX9_renumber 140 = .ok (.iload_n 3, 1) := by decide +kernel
theorem dX9_renumber_141 : decode cX9_renumber 141 = .ok (.if_icmp .ge 22, 3) := by decide +kernel
theorem dX9_renumber_144 : decode cX9_renumber 144 = .ok (.aload_n 0, 1) := by decide +kernel
theorem dX9_renumber_145 : decode cX9_renumber 145 = .ok (.getfield 13, 3) := by decide +kernel
theorem dX9_renumber_148 : decode cX9_renumber 148 = .ok (.bipush 48, 2) := by decide +kernel
theorem dX9_renumber_150 : decode cX9_renumber 150 = .ok (.iload_n 3, 1) := by decide +kernel
theorem dX9_renumber_151 : decode cX9_renumber 151 = .ok (.imul, 1) := by decide +kernel
theorem dX9_renumber_152 : decode cX9_renumber 152 = .ok (.iload 4, 2) := by decide +kernel
theorem dX9_renumber_154 : decode cX9_renumber 154 = .ok (.iadd, 1) := by decide +kernel
theorem dX9_renumber_155 : decode cX9_renumber 155 = .ok (.baload, 1) := by decide +kernel
theorem dX9_renumber_156 : decode cX9_renumber 156 = .ok (.ifCond .eq 7, 3) := by decide +kernel
theorem dX9_renumber_159 : decode cX9_renumber 159 = .ok (.iconst 1, 1) := by decide +kernel
theorem dX9_renumber_160 : decode cX9_renumber 160 = .ok (.goto 4, 3) := by decide +kernel
theorem dX9_renumber_163 : decode cX9_renumber 163 = .ok (.iconst 0, 1) := by decide +kernel
theorem dX9_renumber_164 : decode cX9_renumber 164 = .ok (.iadd, 1) := by decide +kernel
theorem dX9_renumber_165 : decode cX9_renumber 165 = .ok (.istore_n 2, 1) := by decide +kernel
theorem dX9_renumber_166 : decode cX9_renumber 166 = .ok (.iinc 4 1, 3) := by decide +kernel
theorem dX9_renumber_169 : decode cX9_renumber 169 = .ok (.goto (-65), 3) := by decide +kernel
theorem dX9_renumber_172 : decode cX9_renumber 172 = .ok (.iinc 3 1, 3) := by decide +kernel
theorem dX9_renumber_175 : decode cX9_renumber 175 = .ok (.goto (-82), 3) := by decide +kernel
theorem dX9_renumber_178 : decode cX9_renumber 178 = .ok (.aload_n 0, 1) := by decide +kernel
theorem dX9_renumber_179 : decode cX9_renumber 179 = .ok (.iconst 0, 1) := by decide +kernel
theorem dX9_renumber_180 : decode cX9_renumber 180 = .ok (.putfield 100, 3) := by decide +kernel
theorem dX9_renumber_183 : decode cX9_renumber 183 = .ok (.aload_n 0, 1) := by decide +kernel
theorem dX9_renumber_184 : decode cX9_renumber 184 = .ok (.iconst 0, 1) := by decide +kernel
theorem dX9_renumber_185 : decode cX9_renumber 185 = .ok (.putfield 104, 3) := by decide +kernel
theorem dX9_renumber_188 : decode cX9_renumber 188 = .ok (.iload_n 2, 1) := by decide +kernel
theorem dX9_renumber_189 : decode cX9_renumber 189 = .ok (.ireturn, 1) := by decide +kernel
theorem dX9_isJoined_0 : decode cX9_isJoined 0 = .ok (.aload_n 0, 1) := by decide +kernel
theorem dX9_isJoined_1 : decode cX9_isJoined 1 = .ok (.getfield 13, 3) := by decide +kernel
theorem dX9_isJoined_4 : decode cX9_isJoined 4 = .ok (.bipush 48, 2) := by decide +kernel
theorem dX9_isJoined_6 : decode cX9_isJoined 6 = .ok (.iload_n 1, 1) := by decide +kernel
theorem dX9_isJoined_7 : decode cX9_isJoined 7 = .ok (.imul, 1) := by decide +kernel
theorem dX9_isJoined_8 : decode cX9_isJoined 8 = .ok (.iload_n 2, 1) := by decide +kernel
theorem dX9_isJoined_9 : decode cX9_isJoined 9 = .ok (.iadd, 1) := by decide +kernel
theorem dX9_isJoined_10 : decode cX9_isJoined 10 = .ok (.baload, 1) := by decide +kernel
theorem dX9_isJoined_11 : decode cX9_isJoined 11 = .ok (.ifCond .ne 17, 3) := by decide +kernel
theorem dX9_isJoined_14 : decode cX9_isJoined 14 = .ok (.aload_n 0, 1) := by decide +kernel
theorem dX9_isJoined_15 : decode cX9_isJoined 15 = .ok (.getfield 13, 3) := by decide +kernel
theorem dX9_isJoined_18 : decode cX9_isJoined 18 = .ok (.bipush 48, 2) := by decide +kernel
theorem dX9_isJoined_20 : decode cX9_isJoined 20 = .ok (.iload_n 2, 1) := by decide +kernel
theorem dX9_isJoined_21 : decode cX9_isJoined 21 = .ok (.imul, 1) := by decide +kernel
theorem dX9_isJoined_22 : decode cX9_isJoined 22 = .ok (.iload_n 1, 1) := by decide +kernel
theorem dX9_isJoined_23 : decode cX9_isJoined 23 = .ok (.iadd, 1) := by decide +kernel
theorem dX9_isJoined_24 : decode cX9_isJoined 24 = .ok (.baload, 1) := by decide +kernel
theorem dX9_isJoined_25 : decode cX9_isJoined 25 = .ok (.ifCond .eq 7, 3) := by decide +kernel
theorem dX9_isJoined_28 : decode cX9_isJoined 28 = .ok (.iconst 1, 1) := by decide +kernel
theorem dX9_isJoined_29 : decode cX9_isJoined 29 = .ok (.goto 4, 3) := by decide +kernel
theorem dX9_isJoined_32 : decode cX9_isJoined 32 = .ok (.iconst 0, 1) := by decide +kernel
theorem dX9_isJoined_33 : decode cX9_isJoined 33 = .ok (.ireturn, 1) := by decide +kernel
theorem dX9_threes_0 : decode cX9_threes 0 = .ok (.aload_n 0, 1) := by decide +kernel
theorem dX9_threes_1 : decode cX9_threes 1 = .ok (.iconst 0, 1) := by decide +kernel
theorem dX9_threes_2 : decode cX9_threes 2 = .ok (.putfield 1, 3) := by decide +kernel
theorem dX9_threes_5 : decode cX9_threes 5 = .ok (.iconst 0, 1) := by decide +kernel
theorem dX9_threes_6 : decode cX9_threes 6 = .ok (.istore_n 1, 1) := by decide +kernel
theorem dX9_threes_7 : decode cX9_threes 7 = .ok (.iconst 0, 1) := by decide +kernel
theorem dX9_threes_8 : decode cX9_threes 8 = .ok (.istore_n 2, 1) := by decide +kernel
theorem dX9_threes_9 : decode cX9_threes 9 = .ok (.iload_n 2, 1) := by decide +kernel
theorem dX9_threes_10 : decode cX9_threes 10 = .ok (.aload_n 0, 1) := by decide +kernel
theorem dX9_threes_11 : decode cX9_threes 11 = .ok (.getfield 93, 3) := by decide +kernel
theorem dX9_threes_14 : decode cX9_threes 14 = .ok (.if_icmp .ge 84, 3) := by decide +kernel
theorem dX9_threes_17 : decode cX9_threes 17 = .ok (.iload_n 2, 1) := by decide +kernel
theorem dX9_threes_18 : decode cX9_threes 18 = .ok (.iconst 1, 1) := by decide +kernel
theorem dX9_threes_19 : decode cX9_threes 19 = .ok (.iadd, 1) := by decide +kernel
theorem dX9_threes_20 : decode cX9_threes 20 = .ok (.istore_n 3, 1) := by decide +kernel
theorem dX9_threes_21 : decode cX9_threes 21 = .ok (.iload_n 3, 1) := by decide +kernel
theorem dX9_threes_22 : decode cX9_threes 22 = .ok (.aload_n 0, 1) := by decide +kernel
theorem dX9_threes_23 : decode cX9_threes 23 = .ok (.getfield 93, 3) := by decide +kernel
theorem dX9_threes_26 : decode cX9_threes 26 = .ok (.if_icmp .ge 66, 3) := by decide +kernel
theorem dX9_threes_29 : decode cX9_threes 29 = .ok (.iload_n 3, 1) := by decide +kernel
theorem dX9_threes_30 : decode cX9_threes 30 = .ok (.iconst 1, 1) := by decide +kernel
theorem dX9_threes_31 : decode cX9_threes 31 = .ok (.iadd, 1) := by decide +kernel
theorem dX9_threes_32 : decode cX9_threes 32 = .ok (.istore 4, 2) := by decide +kernel
theorem dX9_threes_34 : decode cX9_threes 34 = .ok (.iload 4, 2) := by decide +kernel
theorem dX9_threes_36 : decode cX9_threes 36 = .ok (.aload_n 0, 1) := by decide +kernel
theorem dX9_threes_37 : decode cX9_threes 37 = .ok (.getfield 93, 3) := by decide +kernel
theorem dX9_threes_40 : decode cX9_threes 40 = .ok (.if_icmp .ge 46, 3) := by decide +kernel
theorem dX9_threes_43 : decode cX9_threes 43 = .ok (.aload_n 0, 1) := by decide +kernel
theorem dX9_threes_44 : decode cX9_threes 44 = .ok (.iload_n 2, 1) := by decide +kernel
theorem dX9_threes_45 : decode cX9_threes 45 = .ok (.iload_n 3, 1) := by decide +kernel
theorem dX9_threes_46 : decode cX9_threes 46 = .ok (.invokevirtual 258, 3) := by decide +kernel
theorem dX9_threes_49 : decode cX9_threes 49 = .ok (.ifCond .eq 37, 3) := by decide +kernel
theorem dX9_threes_52 : decode cX9_threes 52 = .ok (.iload_n 1, 1) := by decide +kernel
theorem dX9_threes_53 : decode cX9_threes 53 = .ok (.aload_n 0, 1) := by decide +kernel
theorem dX9_threes_54 : decode cX9_threes 54 = .ok (.iload_n 2, 1) := by decide +kernel
theorem dX9_threes_55 : decode cX9_threes 55 = .ok (.iload 4, 2) := by decide +kernel
theorem dX9_threes_57 : decode cX9_threes 57 = .ok (.invokevirtual 258, 3) := by decide +kernel
theorem dX9_threes_60 : decode cX9_threes 60 = .ok (.ifCond .eq 17, 3) := by decide +kernel
theorem dX9_threes_63 : decode cX9_threes 63 = .ok (.aload_n 0, 1) := by decide +kernel
theorem dX9_threes_64 : decode cX9_threes 64 = .ok (.iload_n 3, 1) := by decide +kernel
theorem dX9_threes_65 : decode cX9_threes 65 = .ok (.iload 4, 2) := by decide +kernel
theorem dX9_threes_67 : decode cX9_threes 67 = .ok (.invokevirtual 258, 3) := by decide +kernel
theorem dX9_threes_70 : decode cX9_threes 70 = .ok (.ifCond .eq 7, 3) := by decide +kernel
theorem dX9_threes_73 : decode cX9_threes 73 = .ok (.iconst 1, 1) := by decide +kernel
theorem dX9_threes_74 : decode cX9_threes 74 = .ok (.goto 4, 3) := by decide +kernel
theorem dX9_threes_77 : decode cX9_threes 77 = .ok (.iconst 0, 1) := by decide +kernel
theorem dX9_threes_78 : decode cX9_threes 78 = .ok (.iadd, 1) := by decide +kernel
theorem dX9_threes_79 : decode cX9_threes 79 = .ok (.istore_n 1, 1) := by decide +kernel
theorem dX9_threes_80 : decode cX9_threes 80 = .ok (.iinc 4 1, 3) := by decide +kernel
theorem dX9_threes_83 : decode cX9_threes 83 = .ok (.goto (-49), 3) := by decide +kernel
theorem dX9_threes_86 : decode cX9_threes 86 = .ok (.iinc 3 1, 3) := by decide +kernel
theorem dX9_threes_89 : decode cX9_threes 89 = .ok (.goto (-68), 3) := by decide +kernel
theorem dX9_threes_92 : decode cX9_threes 92 = .ok (.iinc 2 1, 3) := by decide +kernel
theorem dX9_threes_95 : decode cX9_threes 95 = .ok (.goto (-86), 3) := by decide +kernel
theorem dX9_threes_98 : decode cX9_threes 98 = .ok (.iload_n 1, 1) := by decide +kernel
theorem dX9_threes_99 : decode cX9_threes 99 = .ok (.ireturn, 1) := by decide +kernel
theorem dX9_walk_0 : decode cX9_walk 0 = .ok (.iconst 0, 1) := by decide +kernel
theorem dX9_walk_1 : decode cX9_walk 1 = .ok (.istore_n 3, 1) := by decide +kernel
theorem dX9_walk_2 : decode cX9_walk 2 = .ok (.iload_n 3, 1) := by decide +kernel
theorem dX9_walk_3 : decode cX9_walk 3 = .ok (.aload_n 0, 1) := by decide +kernel
theorem dX9_walk_4 : decode cX9_walk 4 = .ok (.getfield 93, 3) := by decide +kernel
theorem dX9_walk_7 : decode cX9_walk 7 = .ok (.if_icmp .ge 16, 3) := by decide +kernel
theorem dX9_walk_10 : decode cX9_walk 10 = .ok (.aload_n 0, 1) := by decide +kernel
theorem dX9_walk_11 : decode cX9_walk 11 = .ok (.getfield 90, 3) := by decide +kernel
theorem dX9_walk_14 : decode cX9_walk 14 = .ok (.iload_n 3, 1) := by decide +kernel
theorem dX9_walk_15 : decode cX9_walk 15 = .ok (.iconst (-1), 1) := by decide +kernel
theorem dX9_walk_16 : decode cX9_walk 16 = .ok (.iastore, 1) := by decide +kernel
theorem dX9_walk_17 : decode cX9_walk 17 = .ok (.iinc 3 1, 3) := by decide +kernel
theorem dX9_walk_20 : decode cX9_walk 20 = .ok (.goto (-18), 3) := by decide +kernel
theorem dX9_walk_23 : decode cX9_walk 23 = .ok (.iconst 1, 1) := by decide +kernel
theorem dX9_walk_24 : decode cX9_walk 24 = .ok (.istore_n 3, 1) := by decide +kernel
theorem dX9_walk_25 : decode cX9_walk 25 = .ok (.aload_n 0, 1) := by decide +kernel
theorem dX9_walk_26 : decode cX9_walk 26 = .ok (.getfield 87, 3) := by decide +kernel
theorem dX9_walk_29 : decode cX9_walk 29 = .ok (.iconst 0, 1) := by decide +kernel
theorem dX9_walk_30 : decode cX9_walk 30 = .ok (.iload_n 1, 1) := by decide +kernel
theorem dX9_walk_31 : decode cX9_walk 31 = .ok (.iastore, 1) := by decide +kernel
theorem dX9_walk_32 : decode cX9_walk 32 = .ok (.aload_n 0, 1) := by decide +kernel
theorem dX9_walk_33 : decode cX9_walk 33 = .ok (.getfield 90, 3) := by decide +kernel
theorem dX9_walk_36 : decode cX9_walk 36 = .ok (.iload_n 1, 1) := by decide +kernel
theorem dX9_walk_37 : decode cX9_walk 37 = .ok (.iconst 0, 1) := by decide +kernel
theorem dX9_walk_38 : decode cX9_walk 38 = .ok (.iastore, 1) := by decide +kernel
theorem dX9_walk_39 : decode cX9_walk 39 = .ok (.iconst 0, 1) := by decide +kernel
theorem dX9_walk_40 : decode cX9_walk 40 = .ok (.istore 4, 2) := by decide +kernel
theorem dX9_walk_42 : decode cX9_walk 42 = .ok (.iload 4, 2) := by decide +kernel
theorem dX9_walk_44 : decode cX9_walk 44 = .ok (.iload_n 3, 1) := by decide +kernel
theorem dX9_walk_45 : decode cX9_walk 45 = .ok (.if_icmp .ge 116, 3) := by decide +kernel
theorem dX9_walk_48 : decode cX9_walk 48 = .ok (.iconst 0, 1) := by decide +kernel
theorem dX9_walk_49 : decode cX9_walk 49 = .ok (.istore 5, 2) := by decide +kernel
theorem dX9_walk_51 : decode cX9_walk 51 = .ok (.iload 5, 2) := by decide +kernel
theorem dX9_walk_53 : decode cX9_walk 53 = .ok (.aload_n 0, 1) := by decide +kernel
theorem dX9_walk_54 : decode cX9_walk 54 = .ok (.getfield 93, 3) := by decide +kernel
theorem dX9_walk_57 : decode cX9_walk 57 = .ok (.if_icmp .ge 98, 3) := by decide +kernel
theorem dX9_walk_60 : decode cX9_walk 60 = .ok (.aload_n 0, 1) := by decide +kernel
theorem dX9_walk_61 : decode cX9_walk 61 = .ok (.getfield 90, 3) := by decide +kernel
theorem dX9_walk_64 : decode cX9_walk 64 = .ok (.iload 5, 2) := by decide +kernel
theorem dX9_walk_66 : decode cX9_walk 66 = .ok (.iaload, 1) := by decide +kernel
theorem dX9_walk_67 : decode cX9_walk 67 = .ok (.iconst (-1), 1) := by decide +kernel
theorem dX9_walk_68 : decode cX9_walk 68 = .ok (.if_icmp .ne 81, 3) := by decide +kernel
theorem dX9_walk_71 : decode cX9_walk 71 = .ok (.aload_n 0, 1) := by decide +kernel
theorem dX9_walk_72 : decode cX9_walk 72 = .ok (.getfield 13, 3) := by decide +kernel
theorem dX9_walk_75 : decode cX9_walk 75 = .ok (.bipush 48, 2) := by decide +kernel
theorem dX9_walk_77 : decode cX9_walk 77 = .ok (.aload_n 0, 1) := by decide +kernel
theorem dX9_walk_78 : decode cX9_walk 78 = .ok (.getfield 87, 3) := by decide +kernel
theorem dX9_walk_81 : decode cX9_walk 81 = .ok (.iload 4, 2) := by decide +kernel
theorem dX9_walk_83 : decode cX9_walk 83 = .ok (.iaload, 1) := by decide +kernel
theorem dX9_walk_84 : decode cX9_walk 84 = .ok (.imul, 1) := by decide +kernel
theorem dX9_walk_85 : decode cX9_walk 85 = .ok (.iload 5, 2) := by decide +kernel
theorem dX9_walk_87 : decode cX9_walk 87 = .ok (.iadd, 1) := by decide +kernel
theorem dX9_walk_88 : decode cX9_walk 88 = .ok (.baload, 1) := by decide +kernel
theorem dX9_walk_89 : decode cX9_walk 89 = .ok (.ifCond .ne 28, 3) := by decide +kernel
theorem dX9_walk_92 : decode cX9_walk 92 = .ok (.iload_n 2, 1) := by decide +kernel
theorem dX9_walk_93 : decode cX9_walk 93 = .ok (.ifCond .eq 56, 3) := by decide +kernel
theorem dX9_walk_96 : decode cX9_walk 96 = .ok (.aload_n 0, 1) := by decide +kernel
theorem dX9_walk_97 : decode cX9_walk 97 = .ok (.getfield 13, 3) := by decide +kernel
theorem dX9_walk_100 : decode cX9_walk 100 = .ok (.bipush 48, 2) := by decide +kernel
theorem dX9_walk_102 : decode cX9_walk 102 = .ok (.iload 5, 2) := by decide +kernel
theorem dX9_walk_104 : decode cX9_walk 104 = .ok (.imul, 1) := by decide +kernel
theorem dX9_walk_105 : decode cX9_walk 105 = .ok (.aload_n 0, 1) := by decide +kernel
theorem dX9_walk_106 : decode cX9_walk 106 = .ok (.getfield 87, 3) := by decide +kernel
theorem dX9_walk_109 : decode cX9_walk 109 = .ok (.iload 4, 2) := by decide +kernel
theorem dX9_walk_111 : decode cX9_walk 111 = .ok (.iaload, 1) := by decide +kernel
theorem dX9_walk_112 : decode cX9_walk 112 = .ok (.iadd, 1) := by decide +kernel
theorem dX9_walk_113 : decode cX9_walk 113 = .ok (.baload, 1) := by decide +kernel
theorem dX9_walk_114 : decode cX9_walk 114 = .ok (.ifCond .eq 35, 3) := by decide +kernel
theorem dX9_walk_117 : decode cX9_walk 117 = .ok (.aload_n 0, 1) := by decide +kernel
theorem dX9_walk_118 : decode cX9_walk 118 = .ok (.getfield 90, 3) := by decide +kernel
theorem dX9_walk_121 : decode cX9_walk 121 = .ok (.iload 5, 2) := by decide +kernel
theorem dX9_walk_123 : decode cX9_walk 123 = .ok (.aload_n 0, 1) := by decide +kernel
theorem dX9_walk_124 : decode cX9_walk 124 = .ok (.getfield 90, 3) := by decide +kernel
theorem dX9_walk_127 : decode cX9_walk 127 = .ok (.aload_n 0, 1) := by decide +kernel
theorem dX9_walk_128 : decode cX9_walk 128 = .ok (.getfield 87, 3) := by decide +kernel
theorem dX9_walk_131 : decode cX9_walk 131 = .ok (.iload 4, 2) := by decide +kernel
theorem dX9_walk_133 : decode cX9_walk 133 = .ok (.iaload, 1) := by decide +kernel
theorem dX9_walk_134 : decode cX9_walk 134 = .ok (.iaload, 1) := by decide +kernel
theorem dX9_walk_135 : decode cX9_walk 135 = .ok (.iconst 1, 1) := by decide +kernel
theorem dX9_walk_136 : decode cX9_walk 136 = .ok (.iadd, 1) := by decide +kernel
theorem dX9_walk_137 : decode cX9_walk 137 = .ok (.iastore, 1) := by decide +kernel
theorem dX9_walk_138 : decode cX9_walk 138 = .ok (.aload_n 0, 1) := by decide +kernel
theorem dX9_walk_139 : decode cX9_walk 139 = .ok (.getfield 87, 3) := by decide +kernel
theorem dX9_walk_142 : decode cX9_walk 142 = .ok (.iload_n 3, 1) := by decide +kernel
theorem dX9_walk_143 : decode cX9_walk 143 = .ok (.iload 5, 2) := by decide +kernel
theorem dX9_walk_145 : decode cX9_walk 145 = .ok (.iastore, 1) := by decide +kernel
theorem dX9_walk_146 : decode cX9_walk 146 = .ok (.iinc 3 1, 3) := by decide +kernel
theorem dX9_walk_149 : decode cX9_walk 149 = .ok (.iinc 5 1, 3) := by decide +kernel
theorem dX9_walk_152 : decode cX9_walk 152 = .ok (.goto (-101), 3) := by decide +kernel
theorem dX9_walk_155 : decode cX9_walk 155 = .ok (.iinc 4 1, 3) := by decide +kernel
theorem dX9_walk_158 : decode cX9_walk 158 = .ok (.goto (-116), 3) := by decide +kernel
theorem dX9_walk_161 : decode cX9_walk 161 = .ok (.iload_n 3, 1) := by decide +kernel
theorem dX9_walk_162 : decode cX9_walk 162 = .ok (.ireturn, 1) := by decide +kernel
theorem dX9_parts_0 : decode cX9_parts 0 = .ok (.aload_n 0, 1) := by decide +kernel
theorem dX9_parts_1 : decode cX9_parts 1 = .ok (.iconst 0, 1) := by decide +kernel
theorem dX9_parts_2 : decode cX9_parts 2 = .ok (.putfield 1, 3) := by decide +kernel
theorem dX9_parts_5 : decode cX9_parts 5 = .ok (.iload_n 1, 1) := by decide +kernel
theorem dX9_parts_6 : decode cX9_parts 6 = .ok (.iconst (-1), 1) := by decide +kernel
theorem dX9_parts_7 : decode cX9_parts 7 = .ok (.if_icmp .eq 14, 3) := by decide +kernel
theorem dX9_parts_10 : decode cX9_parts 10 = .ok (.aload_n 0, 1) := by decide +kernel
theorem dX9_parts_11 : decode cX9_parts 11 = .ok (.iload_n 1, 1) := by decide +kernel
theorem dX9_parts_12 : decode cX9_parts 12 = .ok (.invokevirtual 107, 3) := by decide +kernel
theorem dX9_parts_15 : decode cX9_parts 15 = .ok (.ifCond .ne 6, 3) := by decide +kernel
theorem dX9_parts_18 : decode cX9_parts 18 = .ok (.bipush (-2), 2) := by decide +kernel
theorem dX9_parts_20 : decode cX9_parts 20 = .ok (.ireturn, 1) := by decide +kernel
theorem dX9_parts_21 : decode cX9_parts 21 = .ok (.iload_n 1, 1) := by decide +kernel
theorem dX9_parts_22 : decode cX9_parts 22 = .ok (.iconst (-1), 1) := by decide +kernel
theorem dX9_parts_23 : decode cX9_parts 23 = .ok (.if_icmp .eq 10, 3) := by decide +kernel
theorem dX9_parts_26 : decode cX9_parts 26 = .ok (.aload_n 0, 1) := by decide +kernel
theorem dX9_parts_27 : decode cX9_parts 27 = .ok (.iload_n 1, 1) := by decide +kernel
theorem dX9_parts_28 : decode cX9_parts 28 = .ok (.iconst 1, 1) := by decide +kernel
theorem dX9_parts_29 : decode cX9_parts 29 = .ok (.invokevirtual 262, 3) := by decide +kernel
theorem dX9_parts_32 : decode cX9_parts 32 = .ok (.ireturn, 1) := by decide +kernel
theorem dX9_parts_33 : decode cX9_parts 33 = .ok (.iconst 0, 1) := by decide +kernel
theorem dX9_parts_34 : decode cX9_parts 34 = .ok (.istore_n 2, 1) := by decide +kernel
theorem dX9_parts_35 : decode cX9_parts 35 = .ok (.iload_n 2, 1) := by decide +kernel
theorem dX9_parts_36 : decode cX9_parts 36 = .ok (.aload_n 0, 1) := by decide +kernel
theorem dX9_parts_37 : decode cX9_parts 37 = .ok (.getfield 93, 3) := by decide +kernel
theorem dX9_parts_40 : decode cX9_parts 40 = .ok (.if_icmp .ge 16, 3) := by decide +kernel
theorem dX9_parts_43 : decode cX9_parts 43 = .ok (.aload_n 0, 1) := by decide +kernel
theorem dX9_parts_44 : decode cX9_parts 44 = .ok (.getfield 84, 3) := by decide +kernel
theorem dX9_parts_47 : decode cX9_parts 47 = .ok (.iload_n 2, 1) := by decide +kernel
theorem dX9_parts_48 : decode cX9_parts 48 = .ok (.iconst 0, 1) := by decide +kernel
theorem dX9_parts_49 : decode cX9_parts 49 = .ok (.bastore, 1) := by decide +kernel
theorem dX9_parts_50 : decode cX9_parts 50 = .ok (.iinc 2 1, 3) := by decide +kernel
theorem dX9_parts_53 : decode cX9_parts 53 = .ok (.goto (-18), 3) := by decide +kernel
theorem dX9_parts_56 : decode cX9_parts 56 = .ok (.iconst 0, 1) := by decide +kernel
theorem dX9_parts_57 : decode cX9_parts 57 = .ok (.istore_n 2, 1) := by decide +kernel
theorem dX9_parts_58 : decode cX9_parts 58 = .ok (.iconst 0, 1) := by decide +kernel
theorem dX9_parts_59 : decode cX9_parts 59 = .ok (.istore_n 3, 1) := by decide +kernel
theorem dX9_parts_60 : decode cX9_parts 60 = .ok (.iload_n 3, 1) := by decide +kernel
theorem dX9_parts_61 : decode cX9_parts 61 = .ok (.aload_n 0, 1) := by decide +kernel
theorem dX9_parts_62 : decode cX9_parts 62 = .ok (.getfield 93, 3) := by decide +kernel
theorem dX9_parts_65 : decode cX9_parts 65 = .ok (.if_icmp .ge 58, 3) := by decide +kernel
theorem dX9_parts_68 : decode cX9_parts 68 = .ok (.aload_n 0, 1) := by decide +kernel
theorem dX9_parts_69 : decode cX9_parts 69 = .ok (.getfield 84, 3) := by decide +kernel
theorem dX9_parts_72 : decode cX9_parts 72 = .ok (.iload_n 3, 1) := by decide +kernel
theorem dX9_parts_73 : decode cX9_parts 73 = .ok (.baload, 1) := by decide +kernel
theorem dX9_parts_74 : decode cX9_parts 74 = .ok (.ifCond .ne 43, 3) := by decide +kernel
theorem dX9_parts_77 : decode cX9_parts 77 = .ok (.iinc 2 1, 3) := by decide +kernel
theorem dX9_parts_80 : decode cX9_parts 80 = .ok (.aload_n 0, 1) := by decide +kernel
theorem dX9_parts_81 : decode cX9_parts 81 = .ok (.iload_n 3, 1) := by decide +kernel
theorem dX9_parts_82 : decode cX9_parts 82 = .ok (.iconst 1, 1) := by decide +kernel
theorem dX9_parts_83 : decode cX9_parts 83 = .ok (.invokevirtual 262, 3) := by decide +kernel
theorem dX9_parts_86 : decode cX9_parts 86 = .ok (.istore 4, 2) := by decide +kernel
theorem dX9_parts_88 : decode cX9_parts 88 = .ok (.iconst 0, 1) := by decide +kernel
theorem dX9_parts_89 : decode cX9_parts 89 = .ok (.istore 5, 2) := by decide +kernel
theorem dX9_parts_91 : decode cX9_parts 91 = .ok (.iload 5, 2) := by decide +kernel
theorem dX9_parts_93 : decode cX9_parts 93 = .ok (.iload 4, 2) := by decide +kernel
theorem dX9_parts_95 : decode cX9_parts 95 = .ok (.if_icmp .ge 22, 3) := by decide +kernel
theorem dX9_parts_98 : decode cX9_parts 98 = .ok (.aload_n 0, 1) := by decide +kernel
theorem dX9_parts_99 : decode cX9_parts 99 = .ok (.getfield 84, 3) := by decide +kernel
theorem dX9_parts_102 : decode cX9_parts 102 = .ok (.aload_n 0, 1) := by decide +kernel
theorem dX9_parts_103 : decode cX9_parts 103 = .ok (.getfield 87, 3) := by decide +kernel
theorem dX9_parts_106 : decode cX9_parts 106 = .ok (.iload 5, 2) := by decide +kernel
theorem dX9_parts_108 : decode cX9_parts 108 = .ok (.iaload, 1) := by decide +kernel
theorem dX9_parts_109 : decode cX9_parts 109 = .ok (.iconst 1, 1) := by decide +kernel
theorem dX9_parts_110 : decode cX9_parts 110 = .ok (.bastore, 1) := by decide +kernel
theorem dX9_parts_111 : decode cX9_parts 111 = .ok (.iinc 5 1, 3) := by decide +kernel
theorem dX9_parts_114 : decode cX9_parts 114 = .ok (.goto (-23), 3) := by decide +kernel
theorem dX9_parts_117 : decode cX9_parts 117 = .ok (.iinc 3 1, 3) := by decide +kernel
theorem dX9_parts_120 : decode cX9_parts 120 = .ok (.goto (-60), 3) := by decide +kernel
theorem dX9_parts_123 : decode cX9_parts 123 = .ok (.iload_n 2, 1) := by decide +kernel
theorem dX9_parts_124 : decode cX9_parts 124 = .ok (.ireturn, 1) := by decide +kernel
theorem dX9_far_0 : decode cX9_far 0 = .ok (.aload_n 0, 1) := by decide +kernel
theorem dX9_far_1 : decode cX9_far 1 = .ok (.iconst 0, 1) := by decide +kernel
theorem dX9_far_2 : decode cX9_far 2 = .ok (.putfield 1, 3) := by decide +kernel
theorem dX9_far_5 : decode cX9_far 5 = .ok (.aload_n 0, 1) := by decide +kernel
theorem dX9_far_6 : decode cX9_far 6 = .ok (.iload_n 1, 1) := by decide +kernel
theorem dX9_far_7 : decode cX9_far 7 = .ok (.invokevirtual 107, 3) := by decide +kernel
theorem dX9_far_10 : decode cX9_far 10 = .ok (.ifCond .eq 11, 3) := by decide +kernel
theorem dX9_far_13 : decode cX9_far 13 = .ok (.aload_n 0, 1) := by decide +kernel
theorem dX9_far_14 : decode cX9_far 14 = .ok (.iload_n 2, 1) := by decide +kernel
theorem dX9_far_15 : decode cX9_far 15 = .ok (.invokevirtual 107, 3) := by decide +kernel
theorem dX9_far_18 : decode cX9_far 18 = .ok (.ifCond .ne 6, 3) := by decide +kernel
theorem dX9_far_21 : decode cX9_far 21 = .ok (.bipush (-2), 2) := by decide +kernel
theorem dX9_far_23 : decode cX9_far 23 = .ok (.ireturn, 1) := by decide +kernel
theorem dX9_far_24 : decode cX9_far 24 = .ok (.aload_n 0, 1) := by decide +kernel
theorem dX9_far_25 : decode cX9_far 25 = .ok (.iload_n 1, 1) := by decide +kernel
theorem dX9_far_26 : decode cX9_far 26 = .ok (.iconst 0, 1) := by decide +kernel
theorem dX9_far_27 : decode cX9_far 27 = .ok (.invokevirtual 262, 3) := by decide +kernel
theorem dX9_far_30 : decode cX9_far 30 = .ok (.istore_n 3, 1) := by decide +kernel
theorem dX9_far_31 : decode cX9_far 31 = .ok (.aload_n 0, 1) := by decide +kernel
theorem dX9_far_32 : decode cX9_far 32 = .ok (.getfield 90, 3) := by decide +kernel
theorem dX9_far_35 : decode cX9_far 35 = .ok (.iload_n 2, 1) := by decide +kernel
theorem dX9_far_36 : decode cX9_far 36 = .ok (.iaload, 1) := by decide +kernel
theorem dX9_far_37 : decode cX9_far 37 = .ok (.ireturn, 1) := by decide +kernel
theorem dX9_count_0 : decode cX9_count 0 = .ok (.aload_n 0, 1) := by decide +kernel
theorem dX9_count_1 : decode cX9_count 1 = .ok (.iconst 0, 1) := by decide +kernel
theorem dX9_count_2 : decode cX9_count 2 = .ok (.putfield 1, 3) := by decide +kernel
theorem dX9_count_5 : decode cX9_count 5 = .ok (.iconst 0, 1) := by decide +kernel
theorem dX9_count_6 : decode cX9_count 6 = .ok (.istore_n 2, 1) := by decide +kernel
theorem dX9_count_7 : decode cX9_count 7 = .ok (.iload_n 1, 1) := by decide +kernel
theorem dX9_count_8 : decode cX9_count 8 = .ok (.tableswitch 209 0 6 #[44, 49, 75, 80, 96, 121, 163], 44) := by decide +kernel
theorem dX9_count_52 : decode cX9_count 52 = .ok (.aload_n 0, 1) := by decide +kernel
theorem dX9_count_53 : decode cX9_count 53 = .ok (.getfield 93, 3) := by decide +kernel
theorem dX9_count_56 : decode cX9_count 56 = .ok (.ireturn, 1) := by decide +kernel
theorem dX9_count_57 : decode cX9_count 57 = .ok (.iconst 0, 1) := by decide +kernel
theorem dX9_count_58 : decode cX9_count 58 = .ok (.istore_n 3, 1) := by decide +kernel
theorem dX9_count_59 : decode cX9_count 59 = .ok (.iload_n 3, 1) := by decide +kernel
theorem dX9_count_60 : decode cX9_count 60 = .ok (.aload_n 0, 1) := by decide +kernel
theorem dX9_count_61 : decode cX9_count 61 = .ok (.getfield 93, 3) := by decide +kernel
theorem dX9_count_64 : decode cX9_count 64 = .ok (.if_icmp .ge 17, 3) := by decide +kernel
theorem dX9_count_67 : decode cX9_count 67 = .ok (.iload_n 2, 1) := by decide +kernel
theorem dX9_count_68 : decode cX9_count 68 = .ok (.aload_n 0, 1) := by decide +kernel
theorem dX9_count_69 : decode cX9_count 69 = .ok (.iload_n 3, 1) := by decide +kernel
theorem dX9_count_70 : decode cX9_count 70 = .ok (.invokevirtual 115, 3) := by decide +kernel
theorem dX9_count_73 : decode cX9_count 73 = .ok (.iadd, 1) := by decide +kernel
theorem dX9_count_74 : decode cX9_count 74 = .ok (.istore_n 2, 1) := by decide +kernel
theorem dX9_count_75 : decode cX9_count 75 = .ok (.iinc 3 1, 3) := by decide +kernel
theorem dX9_count_78 : decode cX9_count 78 = .ok (.goto (-19), 3) := by decide +kernel
theorem dX9_count_81 : decode cX9_count 81 = .ok (.iload_n 2, 1) := by decide +kernel
theorem dX9_count_82 : decode cX9_count 82 = .ok (.ireturn, 1) := by decide +kernel
theorem dX9_count_83 : decode cX9_count 83 = .ok (.aload_n 0, 1) := by decide +kernel
theorem dX9_count_84 : decode cX9_count 84 = .ok (.getfield 104, 3) := by decide +kernel
theorem dX9_count_87 : decode cX9_count 87 = .ok (.ireturn, 1) := by decide +kernel
theorem dX9_count_88 : decode cX9_count 88 = .ok (.aload_n 0, 1) := by decide +kernel
theorem dX9_count_89 : decode cX9_count 89 = .ok (.getfield 100, 3) := by decide +kernel
theorem dX9_count_92 : decode cX9_count 92 = .ok (.ifCond .eq 10, 3) := by decide +kernel
theorem dX9_count_95 : decode cX9_count 95 = .ok (.aload_n 0, 1) := by decide +kernel
theorem dX9_count_96 : decode cX9_count 96 = .ok (.getfield 122, 3) := by decide +kernel
theorem dX9_count_99 : decode cX9_count 99 = .ok (.goto 4, 3) := by decide +kernel
theorem dX9_count_102 : decode cX9_count 102 = .ok (.iconst 0, 1) := by decide +kernel
theorem dX9_count_103 : decode cX9_count 103 = .ok (.ireturn, 1) := by decide +kernel
theorem dX9_count_104 : decode cX9_count 104 = .ok (.aload_n 0, 1) := by decide +kernel
theorem dX9_count_105 : decode cX9_count 105 = .ok (.getfield 100, 3) := by decide +kernel
theorem dX9_count_108 : decode cX9_count 108 = .ok (.ifCond .eq 19, 3) := by decide +kernel
theorem dX9_count_111 : decode cX9_count 111 = .ok (.aload_n 0, 1) := by decide +kernel
theorem dX9_count_112 : decode cX9_count 112 = .ok (.getfield 93, 3) := by decide +kernel
theorem dX9_count_115 : decode cX9_count 115 = .ok (.iconst 1, 1) := by decide +kernel
theorem dX9_count_116 : decode cX9_count 116 = .ok (.isub, 1) := by decide +kernel
theorem dX9_count_117 : decode cX9_count 117 = .ok (.aload_n 0, 1) := by decide +kernel
theorem dX9_count_118 : decode cX9_count 118 = .ok (.getfield 211, 3) := by decide +kernel
theorem dX9_count_121 : decode cX9_count 121 = .ok (.idiv, 1) := by decide +kernel
theorem dX9_count_122 : decode cX9_count 122 = .ok (.iconst 1, 1) := by decide +kernel
theorem dX9_count_123 : decode cX9_count 123 = .ok (.iadd, 1) := by decide +kernel
theorem dX9_count_124 : decode cX9_count 124 = .ok (.goto 4, 3) := by decide +kernel
theorem dX9_count_127 : decode cX9_count 127 = .ok (.iconst 0, 1) := by decide +kernel
theorem dX9_count_128 : decode cX9_count 128 = .ok (.ireturn, 1) := by decide +kernel
theorem dX9_count_129 : decode cX9_count 129 = .ok (.iconst 0, 1) := by decide +kernel
theorem dX9_count_130 : decode cX9_count 130 = .ok (.istore_n 3, 1) := by decide +kernel
theorem dX9_count_131 : decode cX9_count 131 = .ok (.iload_n 3, 1) := by decide +kernel
theorem dX9_count_132 : decode cX9_count 132 = .ok (.aload_n 0, 1) := by decide +kernel
theorem dX9_count_133 : decode cX9_count 133 = .ok (.getfield 93, 3) := by decide +kernel
theorem dX9_count_136 : decode cX9_count 136 = .ok (.if_icmp .ge 33, 3) := by decide +kernel
theorem dX9_count_139 : decode cX9_count 139 = .ok (.aload_n 0, 1) := by decide +kernel
theorem dX9_count_140 : decode cX9_count 140 = .ok (.getfield 100, 3) := by decide +kernel
theorem dX9_count_143 : decode cX9_count 143 = .ok (.ifCond .eq 26, 3) := by decide +kernel
theorem dX9_count_146 : decode cX9_count 146 = .ok (.iload_n 2, 1) := by decide +kernel
theorem dX9_count_147 : decode cX9_count 147 = .ok (.aload_n 0, 1) := by decide +kernel
theorem dX9_count_148 : decode cX9_count 148 = .ok (.getfield 60, 3) := by decide +kernel
theorem dX9_count_151 : decode cX9_count 151 = .ok (.iload_n 3, 1) := by decide +kernel
theorem dX9_count_152 : decode cX9_count 152 = .ok (.iaload, 1) := by decide +kernel
theorem dX9_count_153 : decode cX9_count 153 = .ok (.ifCond .le 7, 3) := by decide +kernel
theorem dX9_count_156 : decode cX9_count 156 = .ok (.iconst 1, 1) := by decide +kernel
theorem dX9_count_157 : decode cX9_count 157 = .ok (.goto 4, 3) := by decide +kernel
theorem dX9_count_160 : decode cX9_count 160 = .ok (.iconst 0, 1) := by decide +kernel
theorem dX9_count_161 : decode cX9_count 161 = .ok (.iadd, 1) := by decide +kernel
theorem dX9_count_162 : decode cX9_count 162 = .ok (.istore_n 2, 1) := by decide +kernel
theorem dX9_count_163 : decode cX9_count 163 = .ok (.iinc 3 1, 3) := by decide +kernel
theorem dX9_count_166 : decode cX9_count 166 = .ok (.goto (-35), 3) := by decide +kernel
theorem dX9_count_169 : decode cX9_count 169 = .ok (.iload_n 2, 1) := by decide +kernel
theorem dX9_count_170 : decode cX9_count 170 = .ok (.ireturn, 1) := by decide +kernel
theorem dX9_count_171 : decode cX9_count 171 = .ok (.iconst 0, 1) := by decide +kernel
theorem dX9_count_172 : decode cX9_count 172 = .ok (.istore_n 3, 1) := by decide +kernel
theorem dX9_count_173 : decode cX9_count 173 = .ok (.iload_n 3, 1) := by decide +kernel
theorem dX9_count_174 : decode cX9_count 174 = .ok (.aload_n 0, 1) := by decide +kernel
theorem dX9_count_175 : decode cX9_count 175 = .ok (.getfield 93, 3) := by decide +kernel
theorem dX9_count_178 : decode cX9_count 178 = .ok (.if_icmp .ge 37, 3) := by decide +kernel
theorem dX9_count_181 : decode cX9_count 181 = .ok (.aload_n 0, 1) := by decide +kernel
theorem dX9_count_182 : decode cX9_count 182 = .ok (.getfield 100, 3) := by decide +kernel
theorem dX9_count_185 : decode cX9_count 185 = .ok (.ifCond .eq 30, 3) := by decide +kernel
theorem dX9_count_188 : decode cX9_count 188 = .ok (.aload_n 0, 1) := by decide +kernel
theorem dX9_count_189 : decode cX9_count 189 = .ok (.getfield 63, 3) := by decide +kernel
theorem dX9_count_192 : decode cX9_count 192 = .ok (.iload_n 3, 1) := by decide +kernel
theorem dX9_count_193 : decode cX9_count 193 = .ok (.iaload, 1) := by decide +kernel
theorem dX9_count_194 : decode cX9_count 194 = .ok (.iload_n 2, 1) := by decide +kernel
theorem dX9_count_195 : decode cX9_count 195 = .ok (.if_icmp .le 12, 3) := by decide +kernel
theorem dX9_count_198 : decode cX9_count 198 = .ok (.aload_n 0, 1) := by decide +kernel
theorem dX9_count_199 : decode cX9_count 199 = .ok (.getfield 63, 3) := by decide +kernel
theorem dX9_count_202 : decode cX9_count 202 = .ok (.iload_n 3, 1) := by decide +kernel
theorem dX9_count_203 : decode cX9_count 203 = .ok (.iaload, 1) := by decide +kernel
theorem dX9_count_204 : decode cX9_count 204 = .ok (.goto 4, 3) := by decide +kernel
theorem dX9_count_207 : decode cX9_count 207 = .ok (.iload_n 2, 1) := by decide +kernel
theorem dX9_count_208 : decode cX9_count 208 = .ok (.istore_n 2, 1) := by decide +kernel
theorem dX9_count_209 : decode cX9_count 209 = .ok (.iinc 3 1, 3) := by decide +kernel
theorem dX9_count_212 : decode cX9_count 212 = .ok (.goto (-39), 3) := by decide +kernel
theorem dX9_count_215 : decode cX9_count 215 = .ok (.iload_n 2, 1) := by decide +kernel
theorem dX9_count_216 : decode cX9_count 216 = .ok (.ireturn, 1) := by decide +kernel
theorem dX9_count_217 : decode cX9_count 217 = .ok (.bipush (-2), 2) := by decide +kernel
theorem dX9_count_219 : decode cX9_count 219 = .ok (.ireturn, 1) := by decide +kernel
theorem dJ13_bitCount_95d88_0 : decode cJ13_bitCount_95d88 0 = .ok (.lload_n 0, 1) := by decide +kernel
theorem dJ13_bitCount_95d88_1 : decode cJ13_bitCount_95d88 1 = .ok (.lload_n 0, 1) := by decide +kernel
theorem dJ13_bitCount_95d88_2 : decode cJ13_bitCount_95d88 2 = .ok (.iconst 1, 1) := by decide +kernel
theorem dJ13_bitCount_95d88_3 : decode cJ13_bitCount_95d88 3 = .ok (.lushr, 1) := by decide +kernel
theorem dJ13_bitCount_95d88_4 : decode cJ13_bitCount_95d88 4 = .ok (.ldc2_w 314, 3) := by decide +kernel
theorem dJ13_bitCount_95d88_7 : decode cJ13_bitCount_95d88 7 = .ok (.land, 1) := by decide +kernel
theorem dJ13_bitCount_95d88_8 : decode cJ13_bitCount_95d88 8 = .ok (.lsub, 1) := by decide +kernel
theorem dJ13_bitCount_95d88_9 : decode cJ13_bitCount_95d88 9 = .ok (.lstore_n 0, 1) := by decide +kernel
theorem dJ13_bitCount_95d88_10 : decode cJ13_bitCount_95d88 10 = .ok (.lload_n 0, 1) := by decide +kernel
theorem dJ13_bitCount_95d88_11 : decode cJ13_bitCount_95d88 11 = .ok (.ldc2_w 316, 3) := by decide +kernel
theorem dJ13_bitCount_95d88_14 : decode cJ13_bitCount_95d88 14 = .ok (.land, 1) := by decide +kernel
theorem dJ13_bitCount_95d88_15 : decode cJ13_bitCount_95d88 15 = .ok (.lload_n 0, 1) := by decide +kernel
theorem dJ13_bitCount_95d88_16 : decode cJ13_bitCount_95d88 16 = .ok (.iconst 2, 1) := by decide +kernel
theorem dJ13_bitCount_95d88_17 : decode cJ13_bitCount_95d88 17 = .ok (.lushr, 1) := by decide +kernel
theorem dJ13_bitCount_95d88_18 : decode cJ13_bitCount_95d88 18 = .ok (.ldc2_w 316, 3) := by decide +kernel
theorem dJ13_bitCount_95d88_21 : decode cJ13_bitCount_95d88 21 = .ok (.land, 1) := by decide +kernel
theorem dJ13_bitCount_95d88_22 : decode cJ13_bitCount_95d88 22 = .ok (.ladd, 1) := by decide +kernel
theorem dJ13_bitCount_95d88_23 : decode cJ13_bitCount_95d88 23 = .ok (.lstore_n 0, 1) := by decide +kernel
theorem dJ13_bitCount_95d88_24 : decode cJ13_bitCount_95d88 24 = .ok (.lload_n 0, 1) := by decide +kernel
theorem dJ13_bitCount_95d88_25 : decode cJ13_bitCount_95d88 25 = .ok (.lload_n 0, 1) := by decide +kernel
theorem dJ13_bitCount_95d88_26 : decode cJ13_bitCount_95d88 26 = .ok (.iconst 4, 1) := by decide +kernel
theorem dJ13_bitCount_95d88_27 : decode cJ13_bitCount_95d88 27 = .ok (.lushr, 1) := by decide +kernel
theorem dJ13_bitCount_95d88_28 : decode cJ13_bitCount_95d88 28 = .ok (.ladd, 1) := by decide +kernel
theorem dJ13_bitCount_95d88_29 : decode cJ13_bitCount_95d88 29 = .ok (.ldc2_w 318, 3) := by decide +kernel
theorem dJ13_bitCount_95d88_32 : decode cJ13_bitCount_95d88 32 = .ok (.land, 1) := by decide +kernel
theorem dJ13_bitCount_95d88_33 : decode cJ13_bitCount_95d88 33 = .ok (.lstore_n 0, 1) := by decide +kernel
theorem dJ13_bitCount_95d88_34 : decode cJ13_bitCount_95d88 34 = .ok (.lload_n 0, 1) := by decide +kernel
theorem dJ13_bitCount_95d88_35 : decode cJ13_bitCount_95d88 35 = .ok (.lload_n 0, 1) := by decide +kernel
theorem dJ13_bitCount_95d88_36 : decode cJ13_bitCount_95d88 36 = .ok (.bipush 8, 2) := by decide +kernel
theorem dJ13_bitCount_95d88_38 : decode cJ13_bitCount_95d88 38 = .ok (.lushr, 1) := by decide +kernel
theorem dJ13_bitCount_95d88_39 : decode cJ13_bitCount_95d88 39 = .ok (.ladd, 1) := by decide +kernel
theorem dJ13_bitCount_95d88_40 : decode cJ13_bitCount_95d88 40 = .ok (.lstore_n 0, 1) := by decide +kernel
theorem dJ13_bitCount_95d88_41 : decode cJ13_bitCount_95d88 41 = .ok (.lload_n 0, 1) := by decide +kernel
theorem dJ13_bitCount_95d88_42 : decode cJ13_bitCount_95d88 42 = .ok (.lload_n 0, 1) := by decide +kernel
theorem dJ13_bitCount_95d88_43 : decode cJ13_bitCount_95d88 43 = .ok (.bipush 16, 2) := by decide +kernel
theorem dJ13_bitCount_95d88_45 : decode cJ13_bitCount_95d88 45 = .ok (.lushr, 1) := by decide +kernel
theorem dJ13_bitCount_95d88_46 : decode cJ13_bitCount_95d88 46 = .ok (.ladd, 1) := by decide +kernel
theorem dJ13_bitCount_95d88_47 : decode cJ13_bitCount_95d88 47 = .ok (.lstore_n 0, 1) := by decide +kernel
theorem dJ13_bitCount_95d88_48 : decode cJ13_bitCount_95d88 48 = .ok (.lload_n 0, 1) := by decide +kernel
theorem dJ13_bitCount_95d88_49 : decode cJ13_bitCount_95d88 49 = .ok (.lload_n 0, 1) := by decide +kernel
theorem dJ13_bitCount_95d88_50 : decode cJ13_bitCount_95d88 50 = .ok (.bipush 32, 2) := by decide +kernel
theorem dJ13_bitCount_95d88_52 : decode cJ13_bitCount_95d88 52 = .ok (.lushr, 1) := by decide +kernel
theorem dJ13_bitCount_95d88_53 : decode cJ13_bitCount_95d88 53 = .ok (.ladd, 1) := by decide +kernel
theorem dJ13_bitCount_95d88_54 : decode cJ13_bitCount_95d88 54 = .ok (.lstore_n 0, 1) := by decide +kernel
theorem dJ13_bitCount_95d88_55 : decode cJ13_bitCount_95d88 55 = .ok (.lload_n 0, 1) := by decide +kernel
theorem dJ13_bitCount_95d88_56 : decode cJ13_bitCount_95d88 56 = .ok (.l2i, 1) := by decide +kernel
theorem dJ13_bitCount_95d88_57 : decode cJ13_bitCount_95d88 57 = .ok (.bipush 127, 2) := by decide +kernel
theorem dJ13_bitCount_95d88_59 : decode cJ13_bitCount_95d88 59 = .ok (.iand, 1) := by decide +kernel
theorem dJ13_bitCount_95d88_60 : decode cJ13_bitCount_95d88 60 = .ok (.ireturn, 1) := by decide +kernel
theorem dJ9_floorMod_7cf53_0 : decode cJ9_floorMod_7cf53 0 = .ok (.iload_n 0, 1) := by decide +kernel
theorem dJ9_floorMod_7cf53_1 : decode cJ9_floorMod_7cf53 1 = .ok (.iload_n 1, 1) := by decide +kernel
theorem dJ9_floorMod_7cf53_2 : decode cJ9_floorMod_7cf53 2 = .ok (.irem, 1) := by decide +kernel
theorem dJ9_floorMod_7cf53_3 : decode cJ9_floorMod_7cf53 3 = .ok (.istore_n 2, 1) := by decide +kernel
theorem dJ9_floorMod_7cf53_4 : decode cJ9_floorMod_7cf53 4 = .ok (.iload_n 0, 1) := by decide +kernel
theorem dJ9_floorMod_7cf53_5 : decode cJ9_floorMod_7cf53 5 = .ok (.iload_n 1, 1) := by decide +kernel
theorem dJ9_floorMod_7cf53_6 : decode cJ9_floorMod_7cf53 6 = .ok (.ixor, 1) := by decide +kernel
theorem dJ9_floorMod_7cf53_7 : decode cJ9_floorMod_7cf53 7 = .ok (.ifCond .ge 11, 3) := by decide +kernel
theorem dJ9_floorMod_7cf53_10 : decode cJ9_floorMod_7cf53 10 = .ok (.iload_n 2, 1) := by decide +kernel
theorem dJ9_floorMod_7cf53_11 : decode cJ9_floorMod_7cf53 11 = .ok (.ifCond .eq 7, 3) := by decide +kernel
theorem dJ9_floorMod_7cf53_14 : decode cJ9_floorMod_7cf53 14 = .ok (.iload_n 2, 1) := by decide +kernel
theorem dJ9_floorMod_7cf53_15 : decode cJ9_floorMod_7cf53 15 = .ok (.iload_n 1, 1) := by decide +kernel
theorem dJ9_floorMod_7cf53_16 : decode cJ9_floorMod_7cf53 16 = .ok (.iadd, 1) := by decide +kernel
theorem dJ9_floorMod_7cf53_17 : decode cJ9_floorMod_7cf53 17 = .ok (.ireturn, 1) := by decide +kernel
theorem dJ9_floorMod_7cf53_18 : decode cJ9_floorMod_7cf53 18 = .ok (.iload_n 2, 1) := by decide +kernel
theorem dJ9_floorMod_7cf53_19 : decode cJ9_floorMod_7cf53 19 = .ok (.ireturn, 1) := by decide +kernel
theorem dJ9_max_7cf53_0 : decode cJ9_max_7cf53 0 = .ok (.iload_n 0, 1) := by decide +kernel
theorem dJ9_max_7cf53_1 : decode cJ9_max_7cf53 1 = .ok (.iload_n 1, 1) := by decide +kernel
theorem dJ9_max_7cf53_2 : decode cJ9_max_7cf53 2 = .ok (.if_icmp .lt 7, 3) := by decide +kernel
theorem dJ9_max_7cf53_5 : decode cJ9_max_7cf53 5 = .ok (.iload_n 0, 1) := by decide +kernel
theorem dJ9_max_7cf53_6 : decode cJ9_max_7cf53 6 = .ok (.goto 4, 3) := by decide +kernel
theorem dJ9_max_7cf53_9 : decode cJ9_max_7cf53 9 = .ok (.iload_n 1, 1) := by decide +kernel
theorem dJ9_max_7cf53_10 : decode cJ9_max_7cf53 10 = .ok (.ireturn, 1) := by decide +kernel
theorem dJ9_min_7cf53_0 : decode cJ9_min_7cf53 0 = .ok (.iload_n 0, 1) := by decide +kernel
theorem dJ9_min_7cf53_1 : decode cJ9_min_7cf53 1 = .ok (.iload_n 1, 1) := by decide +kernel
theorem dJ9_min_7cf53_2 : decode cJ9_min_7cf53 2 = .ok (.if_icmp .gt 7, 3) := by decide +kernel
theorem dJ9_min_7cf53_5 : decode cJ9_min_7cf53 5 = .ok (.iload_n 0, 1) := by decide +kernel
theorem dJ9_min_7cf53_6 : decode cJ9_min_7cf53 6 = .ok (.goto 4, 3) := by decide +kernel
theorem dJ9_min_7cf53_9 : decode cJ9_min_7cf53 9 = .ok (.iload_n 1, 1) := by decide +kernel
theorem dJ9_min_7cf53_10 : decode cJ9_min_7cf53 10 = .ok (.ireturn, 1) := by decide +kernel
theorem dJ7_fill_53178_0 : decode cJ7_fill_53178 0 = .ok (.iconst 0, 1) := by decide +kernel
theorem dJ7_fill_53178_1 : decode cJ7_fill_53178 1 = .ok (.istore_n 2, 1) := by decide +kernel
theorem dJ7_fill_53178_2 : decode cJ7_fill_53178 2 = .ok (.aload_n 0, 1) := by decide +kernel
theorem dJ7_fill_53178_3 : decode cJ7_fill_53178 3 = .ok (.arraylength, 1) := by decide +kernel
theorem dJ7_fill_53178_4 : decode cJ7_fill_53178 4 = .ok (.istore_n 3, 1) := by decide +kernel
theorem dJ7_fill_53178_5 : decode cJ7_fill_53178 5 = .ok (.iload_n 2, 1) := by decide +kernel
theorem dJ7_fill_53178_6 : decode cJ7_fill_53178 6 = .ok (.iload_n 3, 1) := by decide +kernel
theorem dJ7_fill_53178_7 : decode cJ7_fill_53178 7 = .ok (.if_icmp .ge 13, 3) := by decide +kernel
theorem dJ7_fill_53178_10 : decode cJ7_fill_53178 10 = .ok (.aload_n 0, 1) := by decide +kernel
theorem dJ7_fill_53178_11 : decode cJ7_fill_53178 11 = .ok (.iload_n 2, 1) := by decide +kernel
theorem dJ7_fill_53178_12 : decode cJ7_fill_53178 12 = .ok (.iload_n 1, 1) := by decide +kernel
theorem dJ7_fill_53178_13 : decode cJ7_fill_53178 13 = .ok (.iastore, 1) := by decide +kernel
theorem dJ7_fill_53178_14 : decode cJ7_fill_53178 14 = .ok (.iinc 2 1, 3) := by decide +kernel
theorem dJ7_fill_53178_17 : decode cJ7_fill_53178 17 = .ok (.goto (-12), 3) := by decide +kernel
theorem dJ7_fill_53178_20 : decode cJ7_fill_53178 20 = .ok (.return_, 1) := by decide +kernel
theorem dL_cell_0 : decode cL_cell 0 = .ok (.iload_n 1, 1) := by decide +kernel
theorem dL_cell_1 : decode cL_cell 1 = .ok (.aload_n 0, 1) := by decide +kernel
theorem dL_cell_2 : decode cL_cell 2 = .ok (.arraylength, 1) := by decide +kernel
theorem dL_cell_3 : decode cL_cell 3 = .ok (.if_icmp .ge 9, 3) := by decide +kernel
theorem dL_cell_6 : decode cL_cell 6 = .ok (.aload_n 0, 1) := by decide +kernel
theorem dL_cell_7 : decode cL_cell 7 = .ok (.iload_n 1, 1) := by decide +kernel
theorem dL_cell_8 : decode cL_cell 8 = .ok (.iaload, 1) := by decide +kernel
theorem dL_cell_9 : decode cL_cell 9 = .ok (.goto 4, 3) := by decide +kernel
theorem dL_cell_12 : decode cL_cell 12 = .ok (.iconst 0, 1) := by decide +kernel
theorem dL_cell_13 : decode cL_cell 13 = .ok (.ireturn, 1) := by decide +kernel
theorem dL_law_0 : decode cL_law 0 = .ok (.new 7, 3) := by decide +kernel
theorem dL_law_3 : decode cL_law 3 = .ok (.dup, 1) := by decide +kernel
theorem dL_law_4 : decode cL_law 4 = .ok (.aload_n 0, 1) := by decide +kernel
theorem dL_law_5 : decode cL_law 5 = .ok (.iconst 0, 1) := by decide +kernel
theorem dL_law_6 : decode cL_law 6 = .ok (.invokestatic 9, 3) := by decide +kernel
theorem dL_law_9 : decode cL_law 9 = .ok (.invokespecial 15, 3) := by decide +kernel
theorem dL_law_12 : decode cL_law 12 = .ok (.astore_n 1, 1) := by decide +kernel
theorem dL_law_13 : decode cL_law 13 = .ok (.new 18, 3) := by decide +kernel
theorem dL_law_16 : decode cL_law 16 = .ok (.dup, 1) := by decide +kernel
theorem dL_law_17 : decode cL_law 17 = .ok (.aload_n 0, 1) := by decide +kernel
theorem dL_law_18 : decode cL_law 18 = .ok (.iconst 0, 1) := by decide +kernel
theorem dL_law_19 : decode cL_law 19 = .ok (.invokestatic 9, 3) := by decide +kernel
theorem dL_law_22 : decode cL_law 22 = .ok (.invokespecial 20, 3) := by decide +kernel
theorem dL_law_25 : decode cL_law 25 = .ok (.astore_n 2, 1) := by decide +kernel
theorem dL_law_26 : decode cL_law 26 = .ok (.iconst 1, 1) := by decide +kernel
theorem dL_law_27 : decode cL_law 27 = .ok (.istore_n 3, 1) := by decide +kernel
theorem dL_law_28 : decode cL_law 28 = .ok (.iload_n 3, 1) := by decide +kernel
theorem dL_law_29 : decode cL_law 29 = .ok (.aload_n 0, 1) := by decide +kernel
theorem dL_law_30 : decode cL_law 30 = .ok (.arraylength, 1) := by decide +kernel
theorem dL_law_31 : decode cL_law 31 = .ok (.iconst 4, 1) := by decide +kernel
theorem dL_law_32 : decode cL_law 32 = .ok (.isub, 1) := by decide +kernel
theorem dL_law_33 : decode cL_law 33 = .ok (.if_icmp .gt 896, 3) := by decide +kernel
theorem dL_law_36 : decode cL_law 36 = .ok (.aload_n 0, 1) := by decide +kernel
theorem dL_law_37 : decode cL_law 37 = .ok (.iload_n 3, 1) := by decide +kernel
theorem dL_law_38 : decode cL_law 38 = .ok (.iaload, 1) := by decide +kernel
theorem dL_law_39 : decode cL_law 39 = .ok (.bipush 31, 2) := by decide +kernel
theorem dL_law_41 : decode cL_law 41 = .ok (.iand, 1) := by decide +kernel
theorem dL_law_42 : decode cL_law 42 = .ok (.tableswitch 881 0 27 #[126, 159, 192, 225, 258, 291, 324, 357, 390, 423, 456, 499, 512, 545, 568, 601, 614, 627, 650, 673, 687, 720, 733, 766, 789, 802, 825, 858], 126) := by decide +kernel
theorem dL_law_168 : decode cL_law 168 = .ok (.aload_n 1, 1) := by decide +kernel
theorem dL_law_169 : decode cL_law 169 = .ok (.aload_n 0, 1) := by decide +kernel
theorem dL_law_170 : decode cL_law 170 = .ok (.iload_n 3, 1) := by decide +kernel
theorem dL_law_171 : decode cL_law 171 = .ok (.iconst 1, 1) := by decide +kernel
theorem dL_law_172 : decode cL_law 172 = .ok (.iadd, 1) := by decide +kernel
theorem dL_law_173 : decode cL_law 173 = .ok (.iaload, 1) := by decide +kernel
theorem dL_law_174 : decode cL_law 174 = .ok (.aload_n 0, 1) := by decide +kernel
theorem dL_law_175 : decode cL_law 175 = .ok (.iload_n 3, 1) := by decide +kernel
theorem dL_law_176 : decode cL_law 176 = .ok (.iconst 2, 1) := by decide +kernel
theorem dL_law_177 : decode cL_law 177 = .ok (.iadd, 1) := by decide +kernel
theorem dL_law_178 : decode cL_law 178 = .ok (.iaload, 1) := by decide +kernel
theorem dL_law_179 : decode cL_law 179 = .ok (.invokevirtual 21, 3) := by decide +kernel
theorem dL_law_182 : decode cL_law 182 = .ok (.aload_n 2, 1) := by decide +kernel
theorem dL_law_183 : decode cL_law 183 = .ok (.aload_n 0, 1) := by decide +kernel
theorem dL_law_184 : decode cL_law 184 = .ok (.iload_n 3, 1) := by decide +kernel
theorem dL_law_185 : decode cL_law 185 = .ok (.iconst 1, 1) := by decide +kernel
theorem dL_law_186 : decode cL_law 186 = .ok (.iadd, 1) := by decide +kernel
theorem dL_law_187 : decode cL_law 187 = .ok (.iaload, 1) := by decide +kernel
theorem dL_law_188 : decode cL_law 188 = .ok (.aload_n 0, 1) := by decide +kernel
theorem dL_law_189 : decode cL_law 189 = .ok (.iload_n 3, 1) := by decide +kernel
theorem dL_law_190 : decode cL_law 190 = .ok (.iconst 2, 1) := by decide +kernel
theorem dL_law_191 : decode cL_law 191 = .ok (.iadd, 1) := by decide +kernel
theorem dL_law_192 : decode cL_law 192 = .ok (.iaload, 1) := by decide +kernel
theorem dL_law_193 : decode cL_law 193 = .ok (.invokevirtual 25, 3) := by decide +kernel
theorem dL_law_196 : decode cL_law 196 = .ok (.if_icmp .eq 727, 3) := by decide +kernel
theorem dL_law_199 : decode cL_law 199 = .ok (.iconst 0, 1) := by decide +kernel
theorem dL_law_200 : decode cL_law 200 = .ok (.ireturn, 1) := by decide +kernel
theorem dL_law_201 : decode cL_law 201 = .ok (.aload_n 1, 1) := by decide +kernel
theorem dL_law_202 : decode cL_law 202 = .ok (.aload_n 0, 1) := by decide +kernel
theorem dL_law_203 : decode cL_law 203 = .ok (.iload_n 3, 1) := by decide +kernel
theorem dL_law_204 : decode cL_law 204 = .ok (.iconst 1, 1) := by decide +kernel
theorem dL_law_205 : decode cL_law 205 = .ok (.iadd, 1) := by decide +kernel
theorem dL_law_206 : decode cL_law 206 = .ok (.iaload, 1) := by decide +kernel
theorem dL_law_207 : decode cL_law 207 = .ok (.aload_n 0, 1) := by decide +kernel
theorem dL_law_208 : decode cL_law 208 = .ok (.iload_n 3, 1) := by decide +kernel
theorem dL_law_209 : decode cL_law 209 = .ok (.iconst 2, 1) := by decide +kernel
theorem dL_law_210 : decode cL_law 210 = .ok (.iadd, 1) := by decide +kernel
theorem dL_law_211 : decode cL_law 211 = .ok (.iaload, 1) := by decide +kernel
theorem dL_law_212 : decode cL_law 212 = .ok (.invokevirtual 26, 3) := by decide +kernel
theorem dL_law_215 : decode cL_law 215 = .ok (.aload_n 2, 1) := by decide +kernel
theorem dL_law_216 : decode cL_law 216 = .ok (.aload_n 0, 1) := by decide +kernel
theorem dL_law_217 : decode cL_law 217 = .ok (.iload_n 3, 1) := by decide +kernel
theorem dL_law_218 : decode cL_law 218 = .ok (.iconst 1, 1) := by decide +kernel
theorem dL_law_219 : decode cL_law 219 = .ok (.iadd, 1) := by decide +kernel
theorem dL_law_220 : decode cL_law 220 = .ok (.iaload, 1) := by decide +kernel
theorem dL_law_221 : decode cL_law 221 = .ok (.aload_n 0, 1) := by decide +kernel
theorem dL_law_222 : decode cL_law 222 = .ok (.iload_n 3, 1) := by decide +kernel
theorem dL_law_223 : decode cL_law 223 = .ok (.iconst 2, 1) := by decide +kernel
theorem dL_law_224 : decode cL_law 224 = .ok (.iadd, 1) := by decide +kernel
theorem dL_law_225 : decode cL_law 225 = .ok (.iaload, 1) := by decide +kernel
theorem dL_law_226 : decode cL_law 226 = .ok (.invokevirtual 29, 3) := by decide +kernel
theorem dL_law_229 : decode cL_law 229 = .ok (.if_icmp .eq 694, 3) := by decide +kernel
theorem dL_law_232 : decode cL_law 232 = .ok (.iconst 0, 1) := by decide +kernel
theorem dL_law_233 : decode cL_law 233 = .ok (.ireturn, 1) := by decide +kernel
theorem dL_law_234 : decode cL_law 234 = .ok (.aload_n 1, 1) := by decide +kernel
theorem dL_law_235 : decode cL_law 235 = .ok (.aload_n 0, 1) := by decide +kernel
theorem dL_law_236 : decode cL_law 236 = .ok (.iload_n 3, 1) := by decide +kernel
theorem dL_law_237 : decode cL_law 237 = .ok (.iconst 1, 1) := by decide +kernel
theorem dL_law_238 : decode cL_law 238 = .ok (.iadd, 1) := by decide +kernel
theorem dL_law_239 : decode cL_law 239 = .ok (.iaload, 1) := by decide +kernel
theorem dL_law_240 : decode cL_law 240 = .ok (.aload_n 0, 1) := by decide +kernel
theorem dL_law_241 : decode cL_law 241 = .ok (.iload_n 3, 1) := by decide +kernel
theorem dL_law_242 : decode cL_law 242 = .ok (.iconst 2, 1) := by decide +kernel
theorem dL_law_243 : decode cL_law 243 = .ok (.iadd, 1) := by decide +kernel
theorem dL_law_244 : decode cL_law 244 = .ok (.iaload, 1) := by decide +kernel
theorem dL_law_245 : decode cL_law 245 = .ok (.invokevirtual 30, 3) := by decide +kernel
theorem dL_law_248 : decode cL_law 248 = .ok (.aload_n 2, 1) := by decide +kernel
theorem dL_law_249 : decode cL_law 249 = .ok (.aload_n 0, 1) := by decide +kernel
theorem dL_law_250 : decode cL_law 250 = .ok (.iload_n 3, 1) := by decide +kernel
theorem dL_law_251 : decode cL_law 251 = .ok (.iconst 1, 1) := by decide +kernel
theorem dL_law_252 : decode cL_law 252 = .ok (.iadd, 1) := by decide +kernel
theorem dL_law_253 : decode cL_law 253 = .ok (.iaload, 1) := by decide +kernel
theorem dL_law_254 : decode cL_law 254 = .ok (.aload_n 0, 1) := by decide +kernel
theorem dL_law_255 : decode cL_law 255 = .ok (.iload_n 3, 1) := by decide +kernel
theorem dL_law_256 : decode cL_law 256 = .ok (.iconst 2, 1) := by decide +kernel
theorem dL_law_257 : decode cL_law 257 = .ok (.iadd, 1) := by decide +kernel
theorem dL_law_258 : decode cL_law 258 = .ok (.iaload, 1) := by decide +kernel
theorem dL_law_259 : decode cL_law 259 = .ok (.invokevirtual 33, 3) := by decide +kernel
theorem dL_law_262 : decode cL_law 262 = .ok (.if_icmp .eq 661, 3) := by decide +kernel
theorem dL_law_265 : decode cL_law 265 = .ok (.iconst 0, 1) := by decide +kernel
theorem dL_law_266 : decode cL_law 266 = .ok (.ireturn, 1) := by decide +kernel
theorem dL_law_267 : decode cL_law 267 = .ok (.aload_n 1, 1) := by decide +kernel
theorem dL_law_268 : decode cL_law 268 = .ok (.aload_n 0, 1) := by decide +kernel
theorem dL_law_269 : decode cL_law 269 = .ok (.iload_n 3, 1) := by decide +kernel
theorem dL_law_270 : decode cL_law 270 = .ok (.iconst 1, 1) := by decide +kernel
theorem dL_law_271 : decode cL_law 271 = .ok (.iadd, 1) := by decide +kernel
theorem dL_law_272 : decode cL_law 272 = .ok (.iaload, 1) := by decide +kernel
theorem dL_law_273 : decode cL_law 273 = .ok (.aload_n 0, 1) := by decide +kernel
theorem dL_law_274 : decode cL_law 274 = .ok (.iload_n 3, 1) := by decide +kernel
theorem dL_law_275 : decode cL_law 275 = .ok (.iconst 2, 1) := by decide +kernel
theorem dL_law_276 : decode cL_law 276 = .ok (.iadd, 1) := by decide +kernel
theorem dL_law_277 : decode cL_law 277 = .ok (.iaload, 1) := by decide +kernel
theorem dL_law_278 : decode cL_law 278 = .ok (.invokevirtual 34, 3) := by decide +kernel
theorem dL_law_281 : decode cL_law 281 = .ok (.aload_n 2, 1) := by decide +kernel
theorem dL_law_282 : decode cL_law 282 = .ok (.aload_n 0, 1) := by decide +kernel
theorem dL_law_283 : decode cL_law 283 = .ok (.iload_n 3, 1) := by decide +kernel
theorem dL_law_284 : decode cL_law 284 = .ok (.iconst 1, 1) := by decide +kernel
theorem dL_law_285 : decode cL_law 285 = .ok (.iadd, 1) := by decide +kernel
theorem dL_law_286 : decode cL_law 286 = .ok (.iaload, 1) := by decide +kernel
theorem dL_law_287 : decode cL_law 287 = .ok (.aload_n 0, 1) := by decide +kernel
theorem dL_law_288 : decode cL_law 288 = .ok (.iload_n 3, 1) := by decide +kernel
theorem dL_law_289 : decode cL_law 289 = .ok (.iconst 2, 1) := by decide +kernel
theorem dL_law_290 : decode cL_law 290 = .ok (.iadd, 1) := by decide +kernel
theorem dL_law_291 : decode cL_law 291 = .ok (.iaload, 1) := by decide +kernel
theorem dL_law_292 : decode cL_law 292 = .ok (.invokevirtual 37, 3) := by decide +kernel
theorem dL_law_295 : decode cL_law 295 = .ok (.if_icmp .eq 628, 3) := by decide +kernel
theorem dL_law_298 : decode cL_law 298 = .ok (.iconst 0, 1) := by decide +kernel
theorem dL_law_299 : decode cL_law 299 = .ok (.ireturn, 1) := by decide +kernel
theorem dL_law_300 : decode cL_law 300 = .ok (.aload_n 1, 1) := by decide +kernel
theorem dL_law_301 : decode cL_law 301 = .ok (.aload_n 0, 1) := by decide +kernel
theorem dL_law_302 : decode cL_law 302 = .ok (.iload_n 3, 1) := by decide +kernel
theorem dL_law_303 : decode cL_law 303 = .ok (.iconst 1, 1) := by decide +kernel
theorem dL_law_304 : decode cL_law 304 = .ok (.iadd, 1) := by decide +kernel
theorem dL_law_305 : decode cL_law 305 = .ok (.iaload, 1) := by decide +kernel
theorem dL_law_306 : decode cL_law 306 = .ok (.aload_n 0, 1) := by decide +kernel
theorem dL_law_307 : decode cL_law 307 = .ok (.iload_n 3, 1) := by decide +kernel
theorem dL_law_308 : decode cL_law 308 = .ok (.iconst 2, 1) := by decide +kernel
theorem dL_law_309 : decode cL_law 309 = .ok (.iadd, 1) := by decide +kernel
theorem dL_law_310 : decode cL_law 310 = .ok (.iaload, 1) := by decide +kernel
theorem dL_law_311 : decode cL_law 311 = .ok (.invokevirtual 38, 3) := by decide +kernel
theorem dL_law_314 : decode cL_law 314 = .ok (.aload_n 2, 1) := by decide +kernel
theorem dL_law_315 : decode cL_law 315 = .ok (.aload_n 0, 1) := by decide +kernel
theorem dL_law_316 : decode cL_law 316 = .ok (.iload_n 3, 1) := by decide +kernel
theorem dL_law_317 : decode cL_law 317 = .ok (.iconst 1, 1) := by decide +kernel
theorem dL_law_318 : decode cL_law 318 = .ok (.iadd, 1) := by decide +kernel
theorem dL_law_319 : decode cL_law 319 = .ok (.iaload, 1) := by decide +kernel
theorem dL_law_320 : decode cL_law 320 = .ok (.aload_n 0, 1) := by decide +kernel
theorem dL_law_321 : decode cL_law 321 = .ok (.iload_n 3, 1) := by decide +kernel
theorem dL_law_322 : decode cL_law 322 = .ok (.iconst 2, 1) := by decide +kernel
theorem dL_law_323 : decode cL_law 323 = .ok (.iadd, 1) := by decide +kernel
theorem dL_law_324 : decode cL_law 324 = .ok (.iaload, 1) := by decide +kernel
theorem dL_law_325 : decode cL_law 325 = .ok (.invokevirtual 41, 3) := by decide +kernel
theorem dL_law_328 : decode cL_law 328 = .ok (.if_icmp .eq 595, 3) := by decide +kernel
theorem dL_law_331 : decode cL_law 331 = .ok (.iconst 0, 1) := by decide +kernel
theorem dL_law_332 : decode cL_law 332 = .ok (.ireturn, 1) := by decide +kernel
theorem dL_law_333 : decode cL_law 333 = .ok (.aload_n 1, 1) := by decide +kernel
theorem dL_law_334 : decode cL_law 334 = .ok (.aload_n 0, 1) := by decide +kernel
theorem dL_law_335 : decode cL_law 335 = .ok (.iload_n 3, 1) := by decide +kernel
theorem dL_law_336 : decode cL_law 336 = .ok (.iconst 1, 1) := by decide +kernel
theorem dL_law_337 : decode cL_law 337 = .ok (.iadd, 1) := by decide +kernel
theorem dL_law_338 : decode cL_law 338 = .ok (.iaload, 1) := by decide +kernel
theorem dL_law_339 : decode cL_law 339 = .ok (.aload_n 0, 1) := by decide +kernel
theorem dL_law_340 : decode cL_law 340 = .ok (.iload_n 3, 1) := by decide +kernel
theorem dL_law_341 : decode cL_law 341 = .ok (.iconst 2, 1) := by decide +kernel
theorem dL_law_342 : decode cL_law 342 = .ok (.iadd, 1) := by decide +kernel
theorem dL_law_343 : decode cL_law 343 = .ok (.iaload, 1) := by decide +kernel
theorem dL_law_344 : decode cL_law 344 = .ok (.invokevirtual 42, 3) := by decide +kernel
theorem dL_law_347 : decode cL_law 347 = .ok (.aload_n 2, 1) := by decide +kernel
theorem dL_law_348 : decode cL_law 348 = .ok (.aload_n 0, 1) := by decide +kernel
theorem dL_law_349 : decode cL_law 349 = .ok (.iload_n 3, 1) := by decide +kernel
theorem dL_law_350 : decode cL_law 350 = .ok (.iconst 1, 1) := by decide +kernel
theorem dL_law_351 : decode cL_law 351 = .ok (.iadd, 1) := by decide +kernel
theorem dL_law_352 : decode cL_law 352 = .ok (.iaload, 1) := by decide +kernel
theorem dL_law_353 : decode cL_law 353 = .ok (.aload_n 0, 1) := by decide +kernel
theorem dL_law_354 : decode cL_law 354 = .ok (.iload_n 3, 1) := by decide +kernel
theorem dL_law_355 : decode cL_law 355 = .ok (.iconst 2, 1) := by decide +kernel
theorem dL_law_356 : decode cL_law 356 = .ok (.iadd, 1) := by decide +kernel
theorem dL_law_357 : decode cL_law 357 = .ok (.iaload, 1) := by decide +kernel
theorem dL_law_358 : decode cL_law 358 = .ok (.invokevirtual 45, 3) := by decide +kernel
theorem dL_law_361 : decode cL_law 361 = .ok (.if_icmp .eq 562, 3) := by decide +kernel
theorem dL_law_364 : decode cL_law 364 = .ok (.iconst 0, 1) := by decide +kernel
theorem dL_law_365 : decode cL_law 365 = .ok (.ireturn, 1) := by decide +kernel
theorem dL_law_366 : decode cL_law 366 = .ok (.aload_n 1, 1) := by decide +kernel
theorem dL_law_367 : decode cL_law 367 = .ok (.aload_n 0, 1) := by decide +kernel
theorem dL_law_368 : decode cL_law 368 = .ok (.iload_n 3, 1) := by decide +kernel
theorem dL_law_369 : decode cL_law 369 = .ok (.iconst 1, 1) := by decide +kernel
theorem dL_law_370 : decode cL_law 370 = .ok (.iadd, 1) := by decide +kernel
theorem dL_law_371 : decode cL_law 371 = .ok (.iaload, 1) := by decide +kernel
theorem dL_law_372 : decode cL_law 372 = .ok (.aload_n 0, 1) := by decide +kernel
theorem dL_law_373 : decode cL_law 373 = .ok (.iload_n 3, 1) := by decide +kernel
theorem dL_law_374 : decode cL_law 374 = .ok (.iconst 2, 1) := by decide +kernel
theorem dL_law_375 : decode cL_law 375 = .ok (.iadd, 1) := by decide +kernel
theorem dL_law_376 : decode cL_law 376 = .ok (.iaload, 1) := by decide +kernel
theorem dL_law_377 : decode cL_law 377 = .ok (.invokevirtual 46, 3) := by decide +kernel
theorem dL_law_380 : decode cL_law 380 = .ok (.aload_n 2, 1) := by decide +kernel
theorem dL_law_381 : decode cL_law 381 = .ok (.aload_n 0, 1) := by decide +kernel
theorem dL_law_382 : decode cL_law 382 = .ok (.iload_n 3, 1) := by decide +kernel
theorem dL_law_383 : decode cL_law 383 = .ok (.iconst 1, 1) := by decide +kernel
theorem dL_law_384 : decode cL_law 384 = .ok (.iadd, 1) := by decide +kernel
theorem dL_law_385 : decode cL_law 385 = .ok (.iaload, 1) := by decide +kernel
theorem dL_law_386 : decode cL_law 386 = .ok (.aload_n 0, 1) := by decide +kernel
theorem dL_law_387 : decode cL_law 387 = .ok (.iload_n 3, 1) := by decide +kernel
theorem dL_law_388 : decode cL_law 388 = .ok (.iconst 2, 1) := by decide +kernel
theorem dL_law_389 : decode cL_law 389 = .ok (.iadd, 1) := by decide +kernel
theorem dL_law_390 : decode cL_law 390 = .ok (.iaload, 1) := by decide +kernel
theorem dL_law_391 : decode cL_law 391 = .ok (.invokevirtual 49, 3) := by decide +kernel
theorem dL_law_394 : decode cL_law 394 = .ok (.if_icmp .eq 529, 3) := by decide +kernel
theorem dL_law_397 : decode cL_law 397 = .ok (.iconst 0, 1) := by decide +kernel
theorem dL_law_398 : decode cL_law 398 = .ok (.ireturn, 1) := by decide +kernel
theorem dL_law_399 : decode cL_law 399 = .ok (.aload_n 1, 1) := by decide +kernel
theorem dL_law_400 : decode cL_law 400 = .ok (.aload_n 0, 1) := by decide +kernel
theorem dL_law_401 : decode cL_law 401 = .ok (.iload_n 3, 1) := by decide +kernel
theorem dL_law_402 : decode cL_law 402 = .ok (.iconst 1, 1) := by decide +kernel
theorem dL_law_403 : decode cL_law 403 = .ok (.iadd, 1) := by decide +kernel
theorem dL_law_404 : decode cL_law 404 = .ok (.iaload, 1) := by decide +kernel
theorem dL_law_405 : decode cL_law 405 = .ok (.aload_n 0, 1) := by decide +kernel
theorem dL_law_406 : decode cL_law 406 = .ok (.iload_n 3, 1) := by decide +kernel
theorem dL_law_407 : decode cL_law 407 = .ok (.iconst 2, 1) := by decide +kernel
theorem dL_law_408 : decode cL_law 408 = .ok (.iadd, 1) := by decide +kernel
theorem dL_law_409 : decode cL_law 409 = .ok (.iaload, 1) := by decide +kernel
theorem dL_law_410 : decode cL_law 410 = .ok (.invokevirtual 50, 3) := by decide +kernel
theorem dL_law_413 : decode cL_law 413 = .ok (.aload_n 2, 1) := by decide +kernel
theorem dL_law_414 : decode cL_law 414 = .ok (.aload_n 0, 1) := by decide +kernel
theorem dL_law_415 : decode cL_law 415 = .ok (.iload_n 3, 1) := by decide +kernel
theorem dL_law_416 : decode cL_law 416 = .ok (.iconst 1, 1) := by decide +kernel
theorem dL_law_417 : decode cL_law 417 = .ok (.iadd, 1) := by decide +kernel
theorem dL_law_418 : decode cL_law 418 = .ok (.iaload, 1) := by decide +kernel
theorem dL_law_419 : decode cL_law 419 = .ok (.aload_n 0, 1) := by decide +kernel
theorem dL_law_420 : decode cL_law 420 = .ok (.iload_n 3, 1) := by decide +kernel
theorem dL_law_421 : decode cL_law 421 = .ok (.iconst 2, 1) := by decide +kernel
theorem dL_law_422 : decode cL_law 422 = .ok (.iadd, 1) := by decide +kernel
theorem dL_law_423 : decode cL_law 423 = .ok (.iaload, 1) := by decide +kernel
theorem dL_law_424 : decode cL_law 424 = .ok (.invokevirtual 53, 3) := by decide +kernel
theorem dL_law_427 : decode cL_law 427 = .ok (.if_icmp .eq 496, 3) := by decide +kernel
theorem dL_law_430 : decode cL_law 430 = .ok (.iconst 0, 1) := by decide +kernel
theorem dL_law_431 : decode cL_law 431 = .ok (.ireturn, 1) := by decide +kernel
theorem dL_law_432 : decode cL_law 432 = .ok (.aload_n 1, 1) := by decide +kernel
theorem dL_law_433 : decode cL_law 433 = .ok (.aload_n 0, 1) := by decide +kernel
theorem dL_law_434 : decode cL_law 434 = .ok (.iload_n 3, 1) := by decide +kernel
theorem dL_law_435 : decode cL_law 435 = .ok (.iconst 1, 1) := by decide +kernel
theorem dL_law_436 : decode cL_law 436 = .ok (.iadd, 1) := by decide +kernel
theorem dL_law_437 : decode cL_law 437 = .ok (.iaload, 1) := by decide +kernel
theorem dL_law_438 : decode cL_law 438 = .ok (.aload_n 0, 1) := by decide +kernel
theorem dL_law_439 : decode cL_law 439 = .ok (.iload_n 3, 1) := by decide +kernel
theorem dL_law_440 : decode cL_law 440 = .ok (.iconst 2, 1) := by decide +kernel
theorem dL_law_441 : decode cL_law 441 = .ok (.iadd, 1) := by decide +kernel
theorem dL_law_442 : decode cL_law 442 = .ok (.iaload, 1) := by decide +kernel
theorem dL_law_443 : decode cL_law 443 = .ok (.invokevirtual 54, 3) := by decide +kernel
theorem dL_law_446 : decode cL_law 446 = .ok (.aload_n 2, 1) := by decide +kernel
theorem dL_law_447 : decode cL_law 447 = .ok (.aload_n 0, 1) := by decide +kernel
theorem dL_law_448 : decode cL_law 448 = .ok (.iload_n 3, 1) := by decide +kernel
theorem dL_law_449 : decode cL_law 449 = .ok (.iconst 1, 1) := by decide +kernel
theorem dL_law_450 : decode cL_law 450 = .ok (.iadd, 1) := by decide +kernel
theorem dL_law_451 : decode cL_law 451 = .ok (.iaload, 1) := by decide +kernel
theorem dL_law_452 : decode cL_law 452 = .ok (.aload_n 0, 1) := by decide +kernel
theorem dL_law_453 : decode cL_law 453 = .ok (.iload_n 3, 1) := by decide +kernel
theorem dL_law_454 : decode cL_law 454 = .ok (.iconst 2, 1) := by decide +kernel
theorem dL_law_455 : decode cL_law 455 = .ok (.iadd, 1) := by decide +kernel
theorem dL_law_456 : decode cL_law 456 = .ok (.iaload, 1) := by decide +kernel
theorem dL_law_457 : decode cL_law 457 = .ok (.invokevirtual 57, 3) := by decide +kernel
theorem dL_law_460 : decode cL_law 460 = .ok (.if_icmp .eq 463, 3) := by decide +kernel
theorem dL_law_463 : decode cL_law 463 = .ok (.iconst 0, 1) := by decide +kernel
theorem dL_law_464 : decode cL_law 464 = .ok (.ireturn, 1) := by decide +kernel
theorem dL_law_465 : decode cL_law 465 = .ok (.aload_n 1, 1) := by decide +kernel
theorem dL_law_466 : decode cL_law 466 = .ok (.aload_n 0, 1) := by decide +kernel
theorem dL_law_467 : decode cL_law 467 = .ok (.iload_n 3, 1) := by decide +kernel
theorem dL_law_468 : decode cL_law 468 = .ok (.iconst 1, 1) := by decide +kernel
theorem dL_law_469 : decode cL_law 469 = .ok (.iadd, 1) := by decide +kernel
theorem dL_law_470 : decode cL_law 470 = .ok (.iaload, 1) := by decide +kernel
theorem dL_law_471 : decode cL_law 471 = .ok (.aload_n 0, 1) := by decide +kernel
theorem dL_law_472 : decode cL_law 472 = .ok (.iload_n 3, 1) := by decide +kernel
theorem dL_law_473 : decode cL_law 473 = .ok (.iconst 2, 1) := by decide +kernel
theorem dL_law_474 : decode cL_law 474 = .ok (.iadd, 1) := by decide +kernel
theorem dL_law_475 : decode cL_law 475 = .ok (.iaload, 1) := by decide +kernel
theorem dL_law_476 : decode cL_law 476 = .ok (.invokevirtual 58, 3) := by decide +kernel
theorem dL_law_479 : decode cL_law 479 = .ok (.aload_n 2, 1) := by decide +kernel
theorem dL_law_480 : decode cL_law 480 = .ok (.aload_n 0, 1) := by decide +kernel
theorem dL_law_481 : decode cL_law 481 = .ok (.iload_n 3, 1) := by decide +kernel
theorem dL_law_482 : decode cL_law 482 = .ok (.iconst 1, 1) := by decide +kernel
theorem dL_law_483 : decode cL_law 483 = .ok (.iadd, 1) := by decide +kernel
theorem dL_law_484 : decode cL_law 484 = .ok (.iaload, 1) := by decide +kernel
theorem dL_law_485 : decode cL_law 485 = .ok (.aload_n 0, 1) := by decide +kernel
theorem dL_law_486 : decode cL_law 486 = .ok (.iload_n 3, 1) := by decide +kernel
theorem dL_law_487 : decode cL_law 487 = .ok (.iconst 2, 1) := by decide +kernel
theorem dL_law_488 : decode cL_law 488 = .ok (.iadd, 1) := by decide +kernel
theorem dL_law_489 : decode cL_law 489 = .ok (.iaload, 1) := by decide +kernel
theorem dL_law_490 : decode cL_law 490 = .ok (.invokevirtual 61, 3) := by decide +kernel
theorem dL_law_493 : decode cL_law 493 = .ok (.if_icmp .eq 430, 3) := by decide +kernel
theorem dL_law_496 : decode cL_law 496 = .ok (.iconst 0, 1) := by decide +kernel
theorem dL_law_497 : decode cL_law 497 = .ok (.ireturn, 1) := by decide +kernel
theorem dL_law_498 : decode cL_law 498 = .ok (.aload_n 1, 1) := by decide +kernel
theorem dL_law_499 : decode cL_law 499 = .ok (.aload_n 0, 1) := by decide +kernel
theorem dL_law_500 : decode cL_law 500 = .ok (.iload_n 3, 1) := by decide +kernel
theorem dL_law_501 : decode cL_law 501 = .ok (.iconst 1, 1) := by decide +kernel
theorem dL_law_502 : decode cL_law 502 = .ok (.iadd, 1) := by decide +kernel
theorem dL_law_503 : decode cL_law 503 = .ok (.iaload, 1) := by decide +kernel
theorem dL_law_504 : decode cL_law 504 = .ok (.aload_n 0, 1) := by decide +kernel
theorem dL_law_505 : decode cL_law 505 = .ok (.iload_n 3, 1) := by decide +kernel
theorem dL_law_506 : decode cL_law 506 = .ok (.iconst 2, 1) := by decide +kernel
theorem dL_law_507 : decode cL_law 507 = .ok (.iadd, 1) := by decide +kernel
theorem dL_law_508 : decode cL_law 508 = .ok (.iaload, 1) := by decide +kernel
theorem dL_law_509 : decode cL_law 509 = .ok (.aload_n 0, 1) := by decide +kernel
theorem dL_law_510 : decode cL_law 510 = .ok (.iload_n 3, 1) := by decide +kernel
theorem dL_law_511 : decode cL_law 511 = .ok (.iconst 3, 1) := by decide +kernel
theorem dL_law_512 : decode cL_law 512 = .ok (.iadd, 1) := by decide +kernel
theorem dL_law_513 : decode cL_law 513 = .ok (.iaload, 1) := by decide +kernel
theorem dL_law_514 : decode cL_law 514 = .ok (.invokevirtual 62, 3) := by decide +kernel
theorem dL_law_517 : decode cL_law 517 = .ok (.aload_n 2, 1) := by decide +kernel
theorem dL_law_518 : decode cL_law 518 = .ok (.aload_n 0, 1) := by decide +kernel
theorem dL_law_519 : decode cL_law 519 = .ok (.iload_n 3, 1) := by decide +kernel
theorem dL_law_520 : decode cL_law 520 = .ok (.iconst 1, 1) := by decide +kernel
theorem dL_law_521 : decode cL_law 521 = .ok (.iadd, 1) := by decide +kernel
theorem dL_law_522 : decode cL_law 522 = .ok (.iaload, 1) := by decide +kernel
theorem dL_law_523 : decode cL_law 523 = .ok (.aload_n 0, 1) := by decide +kernel
theorem dL_law_524 : decode cL_law 524 = .ok (.iload_n 3, 1) := by decide +kernel
theorem dL_law_525 : decode cL_law 525 = .ok (.iconst 2, 1) := by decide +kernel
theorem dL_law_526 : decode cL_law 526 = .ok (.iadd, 1) := by decide +kernel
theorem dL_law_527 : decode cL_law 527 = .ok (.iaload, 1) := by decide +kernel
theorem dL_law_528 : decode cL_law 528 = .ok (.aload_n 0, 1) := by decide +kernel
theorem dL_law_529 : decode cL_law 529 = .ok (.iload_n 3, 1) := by decide +kernel
theorem dL_law_530 : decode cL_law 530 = .ok (.iconst 3, 1) := by decide +kernel
theorem dL_law_531 : decode cL_law 531 = .ok (.iadd, 1) := by decide +kernel
theorem dL_law_532 : decode cL_law 532 = .ok (.iaload, 1) := by decide +kernel
theorem dL_law_533 : decode cL_law 533 = .ok (.invokevirtual 66, 3) := by decide +kernel
theorem dL_law_536 : decode cL_law 536 = .ok (.if_icmp .eq 387, 3) := by decide +kernel
theorem dL_law_539 : decode cL_law 539 = .ok (.iconst 0, 1) := by decide +kernel
theorem dL_law_540 : decode cL_law 540 = .ok (.ireturn, 1) := by decide +kernel
theorem dL_law_541 : decode cL_law 541 = .ok (.aload_n 1, 1) := by decide +kernel
theorem dL_law_542 : decode cL_law 542 = .ok (.invokevirtual 67, 3) := by decide +kernel
theorem dL_law_545 : decode cL_law 545 = .ok (.aload_n 2, 1) := by decide +kernel
theorem dL_law_546 : decode cL_law 546 = .ok (.invokevirtual 71, 3) := by decide +kernel
theorem dL_law_549 : decode cL_law 549 = .ok (.if_icmp .eq 374, 3) := by decide +kernel
theorem dL_law_552 : decode cL_law 552 = .ok (.iconst 0, 1) := by decide +kernel
theorem dL_law_553 : decode cL_law 553 = .ok (.ireturn, 1) := by decide +kernel
theorem dL_law_554 : decode cL_law 554 = .ok (.aload_n 1, 1) := by decide +kernel
theorem dL_law_555 : decode cL_law 555 = .ok (.aload_n 0, 1) := by decide +kernel
theorem dL_law_556 : decode cL_law 556 = .ok (.iload_n 3, 1) := by decide +kernel
theorem dL_law_557 : decode cL_law 557 = .ok (.iconst 1, 1) := by decide +kernel
theorem dL_law_558 : decode cL_law 558 = .ok (.iadd, 1) := by decide +kernel
theorem dL_law_559 : decode cL_law 559 = .ok (.iaload, 1) := by decide +kernel
theorem dL_law_560 : decode cL_law 560 = .ok (.aload_n 0, 1) := by decide +kernel
theorem dL_law_561 : decode cL_law 561 = .ok (.iload_n 3, 1) := by decide +kernel
theorem dL_law_562 : decode cL_law 562 = .ok (.iconst 2, 1) := by decide +kernel
theorem dL_law_563 : decode cL_law 563 = .ok (.iadd, 1) := by decide +kernel
theorem dL_law_564 : decode cL_law 564 = .ok (.iaload, 1) := by decide +kernel
theorem dL_law_565 : decode cL_law 565 = .ok (.invokevirtual 72, 3) := by decide +kernel
theorem dL_law_568 : decode cL_law 568 = .ok (.aload_n 2, 1) := by decide +kernel
theorem dL_law_569 : decode cL_law 569 = .ok (.aload_n 0, 1) := by decide +kernel
theorem dL_law_570 : decode cL_law 570 = .ok (.iload_n 3, 1) := by decide +kernel
theorem dL_law_571 : decode cL_law 571 = .ok (.iconst 1, 1) := by decide +kernel
theorem dL_law_572 : decode cL_law 572 = .ok (.iadd, 1) := by decide +kernel
theorem dL_law_573 : decode cL_law 573 = .ok (.iaload, 1) := by decide +kernel
theorem dL_law_574 : decode cL_law 574 = .ok (.aload_n 0, 1) := by decide +kernel
theorem dL_law_575 : decode cL_law 575 = .ok (.iload_n 3, 1) := by decide +kernel
theorem dL_law_576 : decode cL_law 576 = .ok (.iconst 2, 1) := by decide +kernel
theorem dL_law_577 : decode cL_law 577 = .ok (.iadd, 1) := by decide +kernel
theorem dL_law_578 : decode cL_law 578 = .ok (.iaload, 1) := by decide +kernel
theorem dL_law_579 : decode cL_law 579 = .ok (.invokevirtual 75, 3) := by decide +kernel
theorem dL_law_582 : decode cL_law 582 = .ok (.if_icmp .eq 341, 3) := by decide +kernel
theorem dL_law_585 : decode cL_law 585 = .ok (.iconst 0, 1) := by decide +kernel
theorem dL_law_586 : decode cL_law 586 = .ok (.ireturn, 1) := by decide +kernel
theorem dL_law_587 : decode cL_law 587 = .ok (.aload_n 1, 1) := by decide +kernel
theorem dL_law_588 : decode cL_law 588 = .ok (.aload_n 0, 1) := by decide +kernel
theorem dL_law_589 : decode cL_law 589 = .ok (.iload_n 3, 1) := by decide +kernel
theorem dL_law_590 : decode cL_law 590 = .ok (.iconst 1, 1) := by decide +kernel
theorem dL_law_591 : decode cL_law 591 = .ok (.iadd, 1) := by decide +kernel
theorem dL_law_592 : decode cL_law 592 = .ok (.iaload, 1) := by decide +kernel
theorem dL_law_593 : decode cL_law 593 = .ok (.invokevirtual 76, 3) := by decide +kernel
theorem dL_law_596 : decode cL_law 596 = .ok (.aload_n 2, 1) := by decide +kernel
theorem dL_law_597 : decode cL_law 597 = .ok (.aload_n 0, 1) := by decide +kernel
theorem dL_law_598 : decode cL_law 598 = .ok (.iload_n 3, 1) := by decide +kernel
theorem dL_law_599 : decode cL_law 599 = .ok (.iconst 1, 1) := by decide +kernel
theorem dL_law_600 : decode cL_law 600 = .ok (.iadd, 1) := by decide +kernel
theorem dL_law_601 : decode cL_law 601 = .ok (.iaload, 1) := by decide +kernel
theorem dL_law_602 : decode cL_law 602 = .ok (.invokevirtual 80, 3) := by decide +kernel
theorem dL_law_605 : decode cL_law 605 = .ok (.if_icmp .eq 318, 3) := by decide +kernel
theorem dL_law_608 : decode cL_law 608 = .ok (.iconst 0, 1) := by decide +kernel
theorem dL_law_609 : decode cL_law 609 = .ok (.ireturn, 1) := by decide +kernel
theorem dL_law_610 : decode cL_law 610 = .ok (.aload_n 1, 1) := by decide +kernel
theorem dL_law_611 : decode cL_law 611 = .ok (.aload_n 0, 1) := by decide +kernel
theorem dL_law_612 : decode cL_law 612 = .ok (.iload_n 3, 1) := by decide +kernel
theorem dL_law_613 : decode cL_law 613 = .ok (.iconst 1, 1) := by decide +kernel
theorem dL_law_614 : decode cL_law 614 = .ok (.iadd, 1) := by decide +kernel
theorem dL_law_615 : decode cL_law 615 = .ok (.iaload, 1) := by decide +kernel
theorem dL_law_616 : decode cL_law 616 = .ok (.aload_n 0, 1) := by decide +kernel
theorem dL_law_617 : decode cL_law 617 = .ok (.iload_n 3, 1) := by decide +kernel
theorem dL_law_618 : decode cL_law 618 = .ok (.iconst 2, 1) := by decide +kernel
theorem dL_law_619 : decode cL_law 619 = .ok (.iadd, 1) := by decide +kernel
theorem dL_law_620 : decode cL_law 620 = .ok (.iaload, 1) := by decide +kernel
theorem dL_law_621 : decode cL_law 621 = .ok (.invokevirtual 81, 3) := by decide +kernel
theorem dL_law_624 : decode cL_law 624 = .ok (.aload_n 2, 1) := by decide +kernel
theorem dL_law_625 : decode cL_law 625 = .ok (.aload_n 0, 1) := by decide +kernel
theorem dL_law_626 : decode cL_law 626 = .ok (.iload_n 3, 1) := by decide +kernel
theorem dL_law_627 : decode cL_law 627 = .ok (.iconst 1, 1) := by decide +kernel
theorem dL_law_628 : decode cL_law 628 = .ok (.iadd, 1) := by decide +kernel
theorem dL_law_629 : decode cL_law 629 = .ok (.iaload, 1) := by decide +kernel
theorem dL_law_630 : decode cL_law 630 = .ok (.aload_n 0, 1) := by decide +kernel
theorem dL_law_631 : decode cL_law 631 = .ok (.iload_n 3, 1) := by decide +kernel
theorem dL_law_632 : decode cL_law 632 = .ok (.iconst 2, 1) := by decide +kernel
theorem dL_law_633 : decode cL_law 633 = .ok (.iadd, 1) := by decide +kernel
theorem dL_law_634 : decode cL_law 634 = .ok (.iaload, 1) := by decide +kernel
theorem dL_law_635 : decode cL_law 635 = .ok (.invokevirtual 84, 3) := by decide +kernel
theorem dL_law_638 : decode cL_law 638 = .ok (.if_icmp .eq 285, 3) := by decide +kernel
theorem dL_law_641 : decode cL_law 641 = .ok (.iconst 0, 1) := by decide +kernel
theorem dL_law_642 : decode cL_law 642 = .ok (.ireturn, 1) := by decide +kernel
theorem dL_law_643 : decode cL_law 643 = .ok (.aload_n 1, 1) := by decide +kernel
theorem dL_law_644 : decode cL_law 644 = .ok (.invokevirtual 85, 3) := by decide +kernel
theorem dL_law_647 : decode cL_law 647 = .ok (.aload_n 2, 1) := by decide +kernel
theorem dL_law_648 : decode cL_law 648 = .ok (.invokevirtual 88, 3) := by decide +kernel
theorem dL_law_651 : decode cL_law 651 = .ok (.if_icmp .eq 272, 3) := by decide +kernel
theorem dL_law_654 : decode cL_law 654 = .ok (.iconst 0, 1) := by decide +kernel
theorem dL_law_655 : decode cL_law 655 = .ok (.ireturn, 1) := by decide +kernel
theorem dL_law_656 : decode cL_law 656 = .ok (.aload_n 1, 1) := by decide +kernel
theorem dL_law_657 : decode cL_law 657 = .ok (.invokevirtual 89, 3) := by decide +kernel
theorem dL_law_660 : decode cL_law 660 = .ok (.aload_n 2, 1) := by decide +kernel
theorem dL_law_661 : decode cL_law 661 = .ok (.invokevirtual 92, 3) := by decide +kernel
theorem dL_law_664 : decode cL_law 664 = .ok (.if_icmp .eq 259, 3) := by decide +kernel
theorem dL_law_667 : decode cL_law 667 = .ok (.iconst 0, 1) := by decide +kernel
theorem dL_law_668 : decode cL_law 668 = .ok (.ireturn, 1) := by decide +kernel
theorem dL_law_669 : decode cL_law 669 = .ok (.aload_n 1, 1) := by decide +kernel
theorem dL_law_670 : decode cL_law 670 = .ok (.aload_n 0, 1) := by decide +kernel
theorem dL_law_671 : decode cL_law 671 = .ok (.iload_n 3, 1) := by decide +kernel
theorem dL_law_672 : decode cL_law 672 = .ok (.iconst 1, 1) := by decide +kernel
theorem dL_law_673 : decode cL_law 673 = .ok (.iadd, 1) := by decide +kernel
theorem dL_law_674 : decode cL_law 674 = .ok (.iaload, 1) := by decide +kernel
theorem dL_law_675 : decode cL_law 675 = .ok (.invokevirtual 93, 3) := by decide +kernel
theorem dL_law_678 : decode cL_law 678 = .ok (.aload_n 2, 1) := by decide +kernel
theorem dL_law_679 : decode cL_law 679 = .ok (.aload_n 0, 1) := by decide +kernel
theorem dL_law_680 : decode cL_law 680 = .ok (.iload_n 3, 1) := by decide +kernel
theorem dL_law_681 : decode cL_law 681 = .ok (.iconst 1, 1) := by decide +kernel
theorem dL_law_682 : decode cL_law 682 = .ok (.iadd, 1) := by decide +kernel
theorem dL_law_683 : decode cL_law 683 = .ok (.iaload, 1) := by decide +kernel
theorem dL_law_684 : decode cL_law 684 = .ok (.invokevirtual 96, 3) := by decide +kernel
theorem dL_law_687 : decode cL_law 687 = .ok (.if_icmp .eq 236, 3) := by decide +kernel
theorem dL_law_690 : decode cL_law 690 = .ok (.iconst 0, 1) := by decide +kernel
theorem dL_law_691 : decode cL_law 691 = .ok (.ireturn, 1) := by decide +kernel
theorem dL_law_692 : decode cL_law 692 = .ok (.aload_n 1, 1) := by decide +kernel
theorem dL_law_693 : decode cL_law 693 = .ok (.aload_n 0, 1) := by decide +kernel
theorem dL_law_694 : decode cL_law 694 = .ok (.iload_n 3, 1) := by decide +kernel
theorem dL_law_695 : decode cL_law 695 = .ok (.iconst 1, 1) := by decide +kernel
theorem dL_law_696 : decode cL_law 696 = .ok (.iadd, 1) := by decide +kernel
theorem dL_law_697 : decode cL_law 697 = .ok (.iaload, 1) := by decide +kernel
theorem dL_law_698 : decode cL_law 698 = .ok (.invokevirtual 97, 3) := by decide +kernel
theorem dL_law_701 : decode cL_law 701 = .ok (.aload_n 2, 1) := by decide +kernel
theorem dL_law_702 : decode cL_law 702 = .ok (.aload_n 0, 1) := by decide +kernel
theorem dL_law_703 : decode cL_law 703 = .ok (.iload_n 3, 1) := by decide +kernel
theorem dL_law_704 : decode cL_law 704 = .ok (.iconst 1, 1) := by decide +kernel
theorem dL_law_705 : decode cL_law 705 = .ok (.iadd, 1) := by decide +kernel
theorem dL_law_706 : decode cL_law 706 = .ok (.iaload, 1) := by decide +kernel
theorem dL_law_707 : decode cL_law 707 = .ok (.invokevirtual 100, 3) := by decide +kernel
theorem dL_law_710 : decode cL_law 710 = .ok (.if_icmp .eq 213, 3) := by decide +kernel
theorem dL_law_713 : decode cL_law 713 = .ok (.iconst 0, 1) := by decide +kernel
theorem dL_law_714 : decode cL_law 714 = .ok (.ireturn, 1) := by decide +kernel
theorem dL_law_715 : decode cL_law 715 = .ok (.aload_n 1, 1) := by decide +kernel
theorem dL_law_716 : decode cL_law 716 = .ok (.invokevirtual 101, 3) := by decide +kernel
theorem dL_law_719 : decode cL_law 719 = .ok (.aload_n 2, 1) := by decide +kernel
theorem dL_law_720 : decode cL_law 720 = .ok (.invokevirtual 105, 3) := by decide +kernel
theorem dL_law_723 : decode cL_law 723 = .ok (.lcmp, 1) := by decide +kernel
theorem dL_law_724 : decode cL_law 724 = .ok (.ifCond .eq 199, 3) := by decide +kernel
theorem dL_law_727 : decode cL_law 727 = .ok (.iconst 0, 1) := by decide +kernel
theorem dL_law_728 : decode cL_law 728 = .ok (.ireturn, 1) := by decide +kernel
theorem dL_law_729 : decode cL_law 729 = .ok (.aload_n 1, 1) := by decide +kernel
theorem dL_law_730 : decode cL_law 730 = .ok (.aload_n 0, 1) := by decide +kernel
theorem dL_law_731 : decode cL_law 731 = .ok (.iload_n 3, 1) := by decide +kernel
theorem dL_law_732 : decode cL_law 732 = .ok (.iconst 1, 1) := by decide +kernel
theorem dL_law_733 : decode cL_law 733 = .ok (.iadd, 1) := by decide +kernel
theorem dL_law_734 : decode cL_law 734 = .ok (.iaload, 1) := by decide +kernel
theorem dL_law_735 : decode cL_law 735 = .ok (.aload_n 0, 1) := by decide +kernel
theorem dL_law_736 : decode cL_law 736 = .ok (.iload_n 3, 1) := by decide +kernel
theorem dL_law_737 : decode cL_law 737 = .ok (.iconst 2, 1) := by decide +kernel
theorem dL_law_738 : decode cL_law 738 = .ok (.iadd, 1) := by decide +kernel
theorem dL_law_739 : decode cL_law 739 = .ok (.iaload, 1) := by decide +kernel
theorem dL_law_740 : decode cL_law 740 = .ok (.invokevirtual 106, 3) := by decide +kernel
theorem dL_law_743 : decode cL_law 743 = .ok (.aload_n 2, 1) := by decide +kernel
theorem dL_law_744 : decode cL_law 744 = .ok (.aload_n 0, 1) := by decide +kernel
theorem dL_law_745 : decode cL_law 745 = .ok (.iload_n 3, 1) := by decide +kernel
theorem dL_law_746 : decode cL_law 746 = .ok (.iconst 1, 1) := by decide +kernel
theorem dL_law_747 : decode cL_law 747 = .ok (.iadd, 1) := by decide +kernel
theorem dL_law_748 : decode cL_law 748 = .ok (.iaload, 1) := by decide +kernel
theorem dL_law_749 : decode cL_law 749 = .ok (.aload_n 0, 1) := by decide +kernel
theorem dL_law_750 : decode cL_law 750 = .ok (.iload_n 3, 1) := by decide +kernel
theorem dL_law_751 : decode cL_law 751 = .ok (.iconst 2, 1) := by decide +kernel
theorem dL_law_752 : decode cL_law 752 = .ok (.iadd, 1) := by decide +kernel
theorem dL_law_753 : decode cL_law 753 = .ok (.iaload, 1) := by decide +kernel
theorem dL_law_754 : decode cL_law 754 = .ok (.invokevirtual 109, 3) := by decide +kernel
theorem dL_law_757 : decode cL_law 757 = .ok (.if_icmp .eq 166, 3) := by decide +kernel
theorem dL_law_760 : decode cL_law 760 = .ok (.iconst 0, 1) := by decide +kernel
theorem dL_law_761 : decode cL_law 761 = .ok (.ireturn, 1) := by decide +kernel
theorem dL_law_762 : decode cL_law 762 = .ok (.aload_n 1, 1) := by decide +kernel
theorem dL_law_763 : decode cL_law 763 = .ok (.invokevirtual 110, 3) := by decide +kernel
theorem dL_law_766 : decode cL_law 766 = .ok (.aload_n 2, 1) := by decide +kernel
theorem dL_law_767 : decode cL_law 767 = .ok (.invokevirtual 113, 3) := by decide +kernel
theorem dL_law_770 : decode cL_law 770 = .ok (.if_icmp .eq 153, 3) := by decide +kernel
theorem dL_law_773 : decode cL_law 773 = .ok (.iconst 0, 1) := by decide +kernel
theorem dL_law_774 : decode cL_law 774 = .ok (.ireturn, 1) := by decide +kernel
theorem dL_law_775 : decode cL_law 775 = .ok (.aload_n 1, 1) := by decide +kernel
theorem dL_law_776 : decode cL_law 776 = .ok (.aload_n 0, 1) := by decide +kernel
theorem dL_law_777 : decode cL_law 777 = .ok (.iload_n 3, 1) := by decide +kernel
theorem dL_law_778 : decode cL_law 778 = .ok (.iconst 1, 1) := by decide +kernel
theorem dL_law_779 : decode cL_law 779 = .ok (.iadd, 1) := by decide +kernel
theorem dL_law_780 : decode cL_law 780 = .ok (.iaload, 1) := by decide +kernel
theorem dL_law_781 : decode cL_law 781 = .ok (.aload_n 0, 1) := by decide +kernel
theorem dL_law_782 : decode cL_law 782 = .ok (.iload_n 3, 1) := by decide +kernel
theorem dL_law_783 : decode cL_law 783 = .ok (.iconst 2, 1) := by decide +kernel
theorem dL_law_784 : decode cL_law 784 = .ok (.iadd, 1) := by decide +kernel
theorem dL_law_785 : decode cL_law 785 = .ok (.iaload, 1) := by decide +kernel
theorem dL_law_786 : decode cL_law 786 = .ok (.invokevirtual 114, 3) := by decide +kernel
theorem dL_law_789 : decode cL_law 789 = .ok (.aload_n 2, 1) := by decide +kernel
theorem dL_law_790 : decode cL_law 790 = .ok (.aload_n 0, 1) := by decide +kernel
theorem dL_law_791 : decode cL_law 791 = .ok (.iload_n 3, 1) := by decide +kernel
theorem dL_law_792 : decode cL_law 792 = .ok (.iconst 1, 1) := by decide +kernel
theorem dL_law_793 : decode cL_law 793 = .ok (.iadd, 1) := by decide +kernel
theorem dL_law_794 : decode cL_law 794 = .ok (.iaload, 1) := by decide +kernel
theorem dL_law_795 : decode cL_law 795 = .ok (.aload_n 0, 1) := by decide +kernel
theorem dL_law_796 : decode cL_law 796 = .ok (.iload_n 3, 1) := by decide +kernel
theorem dL_law_797 : decode cL_law 797 = .ok (.iconst 2, 1) := by decide +kernel
theorem dL_law_798 : decode cL_law 798 = .ok (.iadd, 1) := by decide +kernel
theorem dL_law_799 : decode cL_law 799 = .ok (.iaload, 1) := by decide +kernel
theorem dL_law_800 : decode cL_law 800 = .ok (.invokevirtual 117, 3) := by decide +kernel
theorem dL_law_803 : decode cL_law 803 = .ok (.if_icmp .eq 120, 3) := by decide +kernel
theorem dL_law_806 : decode cL_law 806 = .ok (.iconst 0, 1) := by decide +kernel
theorem dL_law_807 : decode cL_law 807 = .ok (.ireturn, 1) := by decide +kernel
theorem dL_law_808 : decode cL_law 808 = .ok (.aload_n 1, 1) := by decide +kernel
theorem dL_law_809 : decode cL_law 809 = .ok (.aload_n 0, 1) := by decide +kernel
theorem dL_law_810 : decode cL_law 810 = .ok (.iload_n 3, 1) := by decide +kernel
theorem dL_law_811 : decode cL_law 811 = .ok (.iconst 1, 1) := by decide +kernel
theorem dL_law_812 : decode cL_law 812 = .ok (.iadd, 1) := by decide +kernel
theorem dL_law_813 : decode cL_law 813 = .ok (.iaload, 1) := by decide +kernel
theorem dL_law_814 : decode cL_law 814 = .ok (.invokevirtual 118, 3) := by decide +kernel
theorem dL_law_817 : decode cL_law 817 = .ok (.aload_n 2, 1) := by decide +kernel
theorem dL_law_818 : decode cL_law 818 = .ok (.aload_n 0, 1) := by decide +kernel
theorem dL_law_819 : decode cL_law 819 = .ok (.iload_n 3, 1) := by decide +kernel
theorem dL_law_820 : decode cL_law 820 = .ok (.iconst 1, 1) := by decide +kernel
theorem dL_law_821 : decode cL_law 821 = .ok (.iadd, 1) := by decide +kernel
theorem dL_law_822 : decode cL_law 822 = .ok (.iaload, 1) := by decide +kernel
theorem dL_law_823 : decode cL_law 823 = .ok (.invokevirtual 121, 3) := by decide +kernel
theorem dL_law_826 : decode cL_law 826 = .ok (.if_icmp .eq 97, 3) := by decide +kernel
theorem dL_law_829 : decode cL_law 829 = .ok (.iconst 0, 1) := by decide +kernel
theorem dL_law_830 : decode cL_law 830 = .ok (.ireturn, 1) := by decide +kernel
theorem dL_law_831 : decode cL_law 831 = .ok (.aload_n 1, 1) := by decide +kernel
theorem dL_law_832 : decode cL_law 832 = .ok (.invokevirtual 122, 3) := by decide +kernel
theorem dL_law_835 : decode cL_law 835 = .ok (.aload_n 2, 1) := by decide +kernel
theorem dL_law_836 : decode cL_law 836 = .ok (.invokevirtual 125, 3) := by decide +kernel
theorem dL_law_839 : decode cL_law 839 = .ok (.if_icmp .eq 84, 3) := by decide +kernel
theorem dL_law_842 : decode cL_law 842 = .ok (.iconst 0, 1) := by decide +kernel
theorem dL_law_843 : decode cL_law 843 = .ok (.ireturn, 1) := by decide +kernel
theorem dL_law_844 : decode cL_law 844 = .ok (.aload_n 1, 1) := by decide +kernel
theorem dL_law_845 : decode cL_law 845 = .ok (.aload_n 0, 1) := by decide +kernel
theorem dL_law_846 : decode cL_law 846 = .ok (.iload_n 3, 1) := by decide +kernel
theorem dL_law_847 : decode cL_law 847 = .ok (.iconst 1, 1) := by decide +kernel
theorem dL_law_848 : decode cL_law 848 = .ok (.iadd, 1) := by decide +kernel
theorem dL_law_849 : decode cL_law 849 = .ok (.iaload, 1) := by decide +kernel
theorem dL_law_850 : decode cL_law 850 = .ok (.invokevirtual 126, 3) := by decide +kernel
theorem dL_law_853 : decode cL_law 853 = .ok (.aload_n 2, 1) := by decide +kernel
theorem dL_law_854 : decode cL_law 854 = .ok (.aload_n 0, 1) := by decide +kernel
theorem dL_law_855 : decode cL_law 855 = .ok (.iload_n 3, 1) := by decide +kernel
theorem dL_law_856 : decode cL_law 856 = .ok (.iconst 1, 1) := by decide +kernel
theorem dL_law_857 : decode cL_law 857 = .ok (.iadd, 1) := by decide +kernel
theorem dL_law_858 : decode cL_law 858 = .ok (.iaload, 1) := by decide +kernel
theorem dL_law_859 : decode cL_law 859 = .ok (.invokevirtual 129, 3) := by decide +kernel
theorem dL_law_862 : decode cL_law 862 = .ok (.if_icmp .eq 61, 3) := by decide +kernel
theorem dL_law_865 : decode cL_law 865 = .ok (.iconst 0, 1) := by decide +kernel
theorem dL_law_866 : decode cL_law 866 = .ok (.ireturn, 1) := by decide +kernel
theorem dL_law_867 : decode cL_law 867 = .ok (.aload_n 1, 1) := by decide +kernel
theorem dL_law_868 : decode cL_law 868 = .ok (.aload_n 0, 1) := by decide +kernel
theorem dL_law_869 : decode cL_law 869 = .ok (.iload_n 3, 1) := by decide +kernel
theorem dL_law_870 : decode cL_law 870 = .ok (.iconst 1, 1) := by decide +kernel
theorem dL_law_871 : decode cL_law 871 = .ok (.iadd, 1) := by decide +kernel
theorem dL_law_872 : decode cL_law 872 = .ok (.iaload, 1) := by decide +kernel
theorem dL_law_873 : decode cL_law 873 = .ok (.aload_n 0, 1) := by decide +kernel
theorem dL_law_874 : decode cL_law 874 = .ok (.iload_n 3, 1) := by decide +kernel
theorem dL_law_875 : decode cL_law 875 = .ok (.iconst 2, 1) := by decide +kernel
theorem dL_law_876 : decode cL_law 876 = .ok (.iadd, 1) := by decide +kernel
theorem dL_law_877 : decode cL_law 877 = .ok (.iaload, 1) := by decide +kernel
theorem dL_law_878 : decode cL_law 878 = .ok (.invokevirtual 130, 3) := by decide +kernel
theorem dL_law_881 : decode cL_law 881 = .ok (.aload_n 2, 1) := by decide +kernel
theorem dL_law_882 : decode cL_law 882 = .ok (.aload_n 0, 1) := by decide +kernel
theorem dL_law_883 : decode cL_law 883 = .ok (.iload_n 3, 1) := by decide +kernel
theorem dL_law_884 : decode cL_law 884 = .ok (.iconst 1, 1) := by decide +kernel
theorem dL_law_885 : decode cL_law 885 = .ok (.iadd, 1) := by decide +kernel
theorem dL_law_886 : decode cL_law 886 = .ok (.iaload, 1) := by decide +kernel
theorem dL_law_887 : decode cL_law 887 = .ok (.aload_n 0, 1) := by decide +kernel
theorem dL_law_888 : decode cL_law 888 = .ok (.iload_n 3, 1) := by decide +kernel
theorem dL_law_889 : decode cL_law 889 = .ok (.iconst 2, 1) := by decide +kernel
theorem dL_law_890 : decode cL_law 890 = .ok (.iadd, 1) := by decide +kernel
theorem dL_law_891 : decode cL_law 891 = .ok (.iaload, 1) := by decide +kernel
theorem dL_law_892 : decode cL_law 892 = .ok (.invokevirtual 133, 3) := by decide +kernel
theorem dL_law_895 : decode cL_law 895 = .ok (.if_icmp .eq 28, 3) := by decide +kernel
theorem dL_law_898 : decode cL_law 898 = .ok (.iconst 0, 1) := by decide +kernel
theorem dL_law_899 : decode cL_law 899 = .ok (.ireturn, 1) := by decide +kernel
theorem dL_law_900 : decode cL_law 900 = .ok (.aload_n 1, 1) := by decide +kernel
theorem dL_law_901 : decode cL_law 901 = .ok (.aload_n 0, 1) := by decide +kernel
theorem dL_law_902 : decode cL_law 902 = .ok (.iload_n 3, 1) := by decide +kernel
theorem dL_law_903 : decode cL_law 903 = .ok (.iconst 1, 1) := by decide +kernel
theorem dL_law_904 : decode cL_law 904 = .ok (.iadd, 1) := by decide +kernel
theorem dL_law_905 : decode cL_law 905 = .ok (.iaload, 1) := by decide +kernel
theorem dL_law_906 : decode cL_law 906 = .ok (.invokevirtual 134, 3) := by decide +kernel
theorem dL_law_909 : decode cL_law 909 = .ok (.aload_n 2, 1) := by decide +kernel
theorem dL_law_910 : decode cL_law 910 = .ok (.aload_n 0, 1) := by decide +kernel
theorem dL_law_911 : decode cL_law 911 = .ok (.iload_n 3, 1) := by decide +kernel
theorem dL_law_912 : decode cL_law 912 = .ok (.iconst 1, 1) := by decide +kernel
theorem dL_law_913 : decode cL_law 913 = .ok (.iadd, 1) := by decide +kernel
theorem dL_law_914 : decode cL_law 914 = .ok (.iaload, 1) := by decide +kernel
theorem dL_law_915 : decode cL_law 915 = .ok (.invokevirtual 137, 3) := by decide +kernel
theorem dL_law_918 : decode cL_law 918 = .ok (.if_icmp .eq 5, 3) := by decide +kernel
theorem dL_law_921 : decode cL_law 921 = .ok (.iconst 0, 1) := by decide +kernel
theorem dL_law_922 : decode cL_law 922 = .ok (.ireturn, 1) := by decide +kernel
theorem dL_law_923 : decode cL_law 923 = .ok (.iinc 3 4, 3) := by decide +kernel
theorem dL_law_926 : decode cL_law 926 = .ok (.goto (-898), 3) := by decide +kernel
theorem dL_law_929 : decode cL_law 929 = .ok (.iconst 1, 1) := by decide +kernel
theorem dL_law_930 : decode cL_law 930 = .ok (.ireturn, 1) := by decide +kernel
end
section
def xb_isN : Cond → Bool
  | .methodLinkNest _ _ _ _ => true
  | _ => false
def xb_tbl : List Cond := lw_tbl.filter (fun w => goodWord w || xb_isN w)
theorem xb_in {w : Cond} {i : Nat} (h : lw_tbl[i]? = some w) (g : (goodWord w || xb_isN w) = true) : w ∈ xb_tbl := List.mem_filter.mpr ⟨List.mem_of_getElem? h, g⟩
theorem ks_X8_change : Cond.selects RX8 yX8_change yX8_change ∈ xb_tbl := xb_in (i := 0) (by decide +kernel) rfl
theorem ks_X6_add : Cond.selects RX6 yX6_add yX6_add ∈ xb_tbl := xb_in (i := 1) (by decide +kernel) rfl
theorem ks_X6_tellPlain : Cond.selects RX6 yX6_tellPlain yX6_tellPlain ∈ xb_tbl := xb_in (i := 2) (by decide +kernel) rfl
theorem ks_X6_tellSpans : Cond.selects RX6 yX6_tellSpans yX6_tellSpans ∈ xb_tbl := xb_in (i := 3) (by decide +kernel) rfl
theorem ks_X6_tellBlocks : Cond.selects RX6 yX6_tellBlocks yX6_tellBlocks ∈ xb_tbl := xb_in (i := 4) (by decide +kernel) rfl
theorem ks_X6_tellDense : Cond.selects RX6 yX6_tellDense yX6_tellDense ∈ xb_tbl := xb_in (i := 5) (by decide +kernel) rfl
theorem ks_X1_choose : Cond.selects RX1 yX1_choose yX1_choose ∈ xb_tbl := xb_in (i := 6) (by decide +kernel) rfl
theorem ks_X1_decide : Cond.selects RX1 yX1_decide yX1_decide ∈ xb_tbl := xb_in (i := 7) (by decide +kernel) rfl
theorem ks_X1_tallyNumbers : Cond.selects RX1 yX1_tallyNumbers yX1_tallyNumbers ∈ xb_tbl := xb_in (i := 8) (by decide +kernel) rfl
theorem ks_X0_put : Cond.selects RX0 yX0_put yX0_put ∈ xb_tbl := xb_in (i := 9) (by decide +kernel) rfl
theorem ks_X0_putNumber : Cond.selects RX0 yX0_putNumber yX0_putNumber ∈ xb_tbl := xb_in (i := 10) (by decide +kernel) rfl
theorem ks_X0_putUnary : Cond.selects RX0 yX0_putUnary yX0_putUnary ∈ xb_tbl := xb_in (i := 11) (by decide +kernel) rfl
theorem ks_X0_putDoubled : Cond.selects RX0 yX0_putDoubled yX0_putDoubled ∈ xb_tbl := xb_in (i := 12) (by decide +kernel) rfl
theorem ks_X0_putLowest : Cond.selects RX0 yX0_putLowest yX0_putLowest ∈ xb_tbl := xb_in (i := 13) (by decide +kernel) rfl
theorem ks_X2_belowOf : Cond.selects RX2 yX2_belowOf yX2_belowOf ∈ xb_tbl := xb_in (i := 14) (by decide +kernel) rfl
theorem ks_X2_findCopy : Cond.selects RX2 yX2_findCopy yX2_findCopy ∈ xb_tbl := xb_in (i := 15) (by decide +kernel) rfl
theorem ks_X2_hang : Cond.selects RX2 yX2_hang yX2_hang ∈ xb_tbl := xb_in (i := 16) (by decide +kernel) rfl
theorem ks_X3_layLayers : Cond.selects RX3 yX3_layLayers yX3_layLayers ∈ xb_tbl := xb_in (i := 17) (by decide +kernel) rfl
theorem ks_X3_layByKeys : Cond.selects RX3 yX3_layByKeys yX3_layByKeys ∈ xb_tbl := xb_in (i := 18) (by decide +kernel) rfl
theorem ks_X7_findNear : Cond.selects RX7 yX7_findNear yX7_findNear ∈ xb_tbl := xb_in (i := 19) (by decide +kernel) rfl
theorem ks_X7_partOf : Cond.selects RX7 yX7_partOf yX7_partOf ∈ xb_tbl := xb_in (i := 20) (by decide +kernel) rfl
theorem ks_X9_isThing : Cond.selects RX9 yX9_isThing yX9_isThing ∈ xb_tbl := xb_in (i := 21) (by decide +kernel) rfl
theorem ks_X9_turn : Cond.selects RX9 yX9_turn yX9_turn ∈ xb_tbl := xb_in (i := 22) (by decide +kernel) rfl
theorem ks_X9_rowSize : Cond.selects RX9 yX9_rowSize yX9_rowSize ∈ xb_tbl := xb_in (i := 23) (by decide +kernel) rfl
theorem ks_X9_isSame : Cond.selects RX9 yX9_isSame yX9_isSame ∈ xb_tbl := xb_in (i := 24) (by decide +kernel) rfl
theorem ks_X9_bitsBy : Cond.selects RX9 yX9_bitsBy yX9_bitsBy ∈ xb_tbl := xb_in (i := 25) (by decide +kernel) rfl
theorem ks_X9_tell : Cond.selects RX9 yX9_tell yX9_tell ∈ xb_tbl := xb_in (i := 26) (by decide +kernel) rfl
theorem ks_X9_say : Cond.selects RX9 yX9_say yX9_say ∈ xb_tbl := xb_in (i := 27) (by decide +kernel) rfl
theorem ks_X9_take : Cond.selects RX9 yX9_take yX9_take ∈ xb_tbl := xb_in (i := 28) (by decide +kernel) rfl
theorem ks_X9_tellPlain : Cond.selects RX9 yX9_tellPlain yX9_tellPlain ∈ xb_tbl := xb_in (i := 29) (by decide +kernel) rfl
theorem ks_X9_tellSpans : Cond.selects RX9 yX9_tellSpans yX9_tellSpans ∈ xb_tbl := xb_in (i := 30) (by decide +kernel) rfl
theorem ks_X9_runEnd : Cond.selects RX9 yX9_runEnd yX9_runEnd ∈ xb_tbl := xb_in (i := 31) (by decide +kernel) rfl
theorem ks_X9_tellCopied : Cond.selects RX9 yX9_tellCopied yX9_tellCopied ∈ xb_tbl := xb_in (i := 32) (by decide +kernel) rfl
theorem ks_X9_tellDense : Cond.selects RX9 yX9_tellDense yX9_tellDense ∈ xb_tbl := xb_in (i := 33) (by decide +kernel) rfl
theorem ks_X9_numbersBits : Cond.selects RX9 yX9_numbersBits yX9_numbersBits ∈ xb_tbl := xb_in (i := 34) (by decide +kernel) rfl
theorem ks_X9_choose : Cond.selects RX9 yX9_choose yX9_choose ∈ xb_tbl := xb_in (i := 35) (by decide +kernel) rfl
theorem ks_X9_consider : Cond.selects RX9 yX9_consider yX9_consider ∈ xb_tbl := xb_in (i := 36) (by decide +kernel) rfl
theorem ks_X9_writeRow : Cond.selects RX9 yX9_writeRow yX9_writeRow ∈ xb_tbl := xb_in (i := 37) (by decide +kernel) rfl
theorem ks_X9_putBit : Cond.selects RX9 yX9_putBit yX9_putBit ∈ xb_tbl := xb_in (i := 38) (by decide +kernel) rfl
theorem ks_X9_putNumber : Cond.selects RX9 yX9_putNumber yX9_putNumber ∈ xb_tbl := xb_in (i := 39) (by decide +kernel) rfl
theorem ks_X9_putUnary : Cond.selects RX9 yX9_putUnary yX9_putUnary ∈ xb_tbl := xb_in (i := 40) (by decide +kernel) rfl
theorem ks_X9_putDoubled : Cond.selects RX9 yX9_putDoubled yX9_putDoubled ∈ xb_tbl := xb_in (i := 41) (by decide +kernel) rfl
theorem ks_X9_putBits : Cond.selects RX9 yX9_putBits yX9_putBits ∈ xb_tbl := xb_in (i := 42) (by decide +kernel) rfl
theorem ks_X9_closeBook : Cond.selects RX9 yX9_closeBook yX9_closeBook ∈ xb_tbl := xb_in (i := 43) (by decide +kernel) rfl
theorem ks_X9_bitsOfUse : Cond.selects RX9 yX9_bitsOfUse yX9_bitsOfUse ∈ xb_tbl := xb_in (i := 44) (by decide +kernel) rfl
theorem ks_X9_weigh : Cond.selects RX9 yX9_weigh yX9_weigh ∈ xb_tbl := xb_in (i := 45) (by decide +kernel) rfl
theorem ks_X9_bytes : Cond.selects RX9 yX9_bytes yX9_bytes ∈ xb_tbl := xb_in (i := 46) (by decide +kernel) rfl
theorem ks_X9_byteAt : Cond.selects RX9 yX9_byteAt yX9_byteAt ∈ xb_tbl := xb_in (i := 47) (by decide +kernel) rfl
theorem ks_X9_toOrder : Cond.selects RX9 yX9_toOrder yX9_toOrder ∈ xb_tbl := xb_in (i := 48) (by decide +kernel) rfl
theorem ks_X9_orderLayers : Cond.selects RX9 yX9_orderLayers yX9_orderLayers ∈ xb_tbl := xb_in (i := 49) (by decide +kernel) rfl
theorem ks_X9_orderBy : Cond.selects RX9 yX9_orderBy yX9_orderBy ∈ xb_tbl := xb_in (i := 50) (by decide +kernel) rfl
theorem ks_X9_keyOf : Cond.selects RX9 yX9_keyOf yX9_keyOf ∈ xb_tbl := xb_in (i := 51) (by decide +kernel) rfl
theorem ks_X9_isJoined : Cond.selects RX9 yX9_isJoined yX9_isJoined ∈ xb_tbl := xb_in (i := 52) (by decide +kernel) rfl
theorem ks_X9_walk : Cond.selects RX9 yX9_walk yX9_walk ∈ xb_tbl := xb_in (i := 53) (by decide +kernel) rfl
theorem kn_L : Cond.initialized RL ∈ xb_tbl := xb_in (i := 54) (by decide +kernel) rfl
theorem kn_X8 : Cond.initialized RX8 ∈ xb_tbl := xb_in (i := 55) (by decide +kernel) rfl
theorem kn_J9 : Cond.initialized RJ9 ∈ xb_tbl := xb_in (i := 56) (by decide +kernel) rfl
theorem kn_X4 : Cond.initialized RX4 ∈ xb_tbl := xb_in (i := 57) (by decide +kernel) rfl
theorem kn_X5 : Cond.initialized RX5 ∈ xb_tbl := xb_in (i := 58) (by decide +kernel) rfl
theorem kn_X6 : Cond.initialized RX6 ∈ xb_tbl := xb_in (i := 59) (by decide +kernel) rfl
theorem kn_X1 : Cond.initialized RX1 ∈ xb_tbl := xb_in (i := 60) (by decide +kernel) rfl
theorem kn_X0 : Cond.initialized RX0 ∈ xb_tbl := xb_in (i := 61) (by decide +kernel) rfl
theorem kn_X2 : Cond.initialized RX2 ∈ xb_tbl := xb_in (i := 62) (by decide +kernel) rfl
theorem kn_X3 : Cond.initialized RX3 ∈ xb_tbl := xb_in (i := 63) (by decide +kernel) rfl
theorem kn_X7 : Cond.initialized RX7 ∈ xb_tbl := xb_in (i := 64) (by decide +kernel) rfl
theorem kn_X9 : Cond.initialized RX9 ∈ xb_tbl := xb_in (i := 65) (by decide +kernel) rfl
theorem kn_J13 : Cond.initialized RJ13 ∈ xb_tbl := xb_in (i := 66) (by decide +kernel) rfl
theorem kn_J7 : Cond.initialized RJ7 ∈ xb_tbl := xb_in (i := 67) (by decide +kernel) rfl
theorem cl_L_7 : Cond.classLink RL 7 RX8 ∈ xb_tbl := xb_in (i := 68) (by decide +kernel) rfl
theorem kv_X8 : Cond.instantiable RX8 7 ∈ xb_tbl := xb_in (i := 69) (by decide +kernel) rfl
theorem ml_L_15 : Cond.methodLink RL 15 yX8_init ∈ xb_tbl := xb_in (i := 70) (by decide +kernel) rfl
theorem ki_X8_init : Cond.instanceMethod yX8_init ∈ xb_tbl := xb_in (i := 71) (by decide +kernel) rfl
theorem kc_X8_init : Cond.code yX8_init cX8_init 3 none ∈ xb_tbl := xb_in (i := 72) (by decide +kernel) rfl
theorem ml_X8_1 : Cond.methodLink RX8 1 Lib.objectInit ∈ xb_tbl := xb_in (i := 73) (by decide +kernel) rfl
theorem ki_obj : Cond.instanceMethod Lib.objectInit ∈ xb_tbl := xb_in (i := 74) (by decide +kernel) rfl
theorem kc_obj : Cond.code Lib.objectInit ⟨#[0xb1]⟩ 1 none ∈ xb_tbl := xb_in (i := 75) (by decide +kernel) rfl
theorem ml_X8_9 : Cond.methodLink RX8 9 yJ9_min_7cf53 ∈ xb_tbl := xb_in (i := 76) (by decide +kernel) rfl
theorem kt_J9_min_7cf53 : Cond.static yJ9_min_7cf53 ∈ xb_tbl := xb_in (i := 77) (by decide +kernel) rfl
theorem kc_J9_min_7cf53 : Cond.code yJ9_min_7cf53 cJ9_min_7cf53 2 (some .int) ∈ xb_tbl := xb_in (i := 78) (by decide +kernel) rfl
theorem ml_X8_15 : Cond.methodLink RX8 15 yJ9_max_7cf53 ∈ xb_tbl := xb_in (i := 79) (by decide +kernel) rfl
theorem kt_J9_max_7cf53 : Cond.static yJ9_max_7cf53 ∈ xb_tbl := xb_in (i := 80) (by decide +kernel) rfl
theorem kc_J9_max_7cf53 : Cond.code yJ9_max_7cf53 cJ9_max_7cf53 2 (some .int) ∈ xb_tbl := xb_in (i := 81) (by decide +kernel) rfl
theorem cl_X8_18 : Cond.classLink RX8 18 RX4 ∈ xb_tbl := xb_in (i := 82) (by decide +kernel) rfl
theorem kv_X4 : Cond.instantiable RX4 2 ∈ xb_tbl := xb_in (i := 83) (by decide +kernel) rfl
theorem ml_X8_20 : Cond.methodLink RX8 20 yX4_init ∈ xb_tbl := xb_in (i := 84) (by decide +kernel) rfl
theorem ki_X4_init : Cond.instanceMethod yX4_init ∈ xb_tbl := xb_in (i := 85) (by decide +kernel) rfl
theorem kc_X4_init : Cond.code yX4_init cX4_init 2 none ∈ xb_tbl := xb_in (i := 86) (by decide +kernel) rfl
theorem ml_X4_1 : Cond.methodLink RX4 1 Lib.objectInit ∈ xb_tbl := xb_in (i := 87) (by decide +kernel) rfl
theorem fl_X4_7 : Cond.fieldLink RX4 7 RX4 "rows" "[J" ∈ xb_tbl := xb_in (i := 88) (by decide +kernel) rfl
theorem fl_X4_13 : Cond.fieldLink RX4 13 RX4 "renumbered" "[J" ∈ xb_tbl := xb_in (i := 89) (by decide +kernel) rfl
theorem ka_long : Cond.arrayClass .long ∈ xb_tbl := xb_in (i := 95) (by decide +kernel) rfl
theorem cl_X8_27 : Cond.classLink RX8 27 RX5 ∈ xb_tbl := xb_in (i := 96) (by decide +kernel) rfl
theorem kv_X5 : Cond.instantiable RX5 2 ∈ xb_tbl := xb_in (i := 97) (by decide +kernel) rfl
theorem mn_X8_29 : Cond.methodLinkNest RX8 29 yX5_init RX8 ∈ xb_tbl := xb_in (i := 98) (by decide +kernel) rfl
theorem ki_X5_init : Cond.instanceMethod yX5_init ∈ xb_tbl := xb_in (i := 99) (by decide +kernel) rfl
theorem kc_X5_init : Cond.code yX5_init cX5_init 1 none ∈ xb_tbl := xb_in (i := 100) (by decide +kernel) rfl
theorem ml_X5_1 : Cond.methodLink RX5 1 Lib.objectInit ∈ xb_tbl := xb_in (i := 101) (by decide +kernel) rfl
theorem fl_X5_7 : Cond.fieldLink RX5 7 RX5 "formsOfUses" "[I" ∈ xb_tbl := xb_in (i := 102) (by decide +kernel) rfl
theorem fl_X5_13 : Cond.fieldLink RX5 13 RX5 "values" "[I" ∈ xb_tbl := xb_in (i := 103) (by decide +kernel) rfl
theorem ka_int : Cond.arrayClass .int ∈ xb_tbl := xb_in (i := 109) (by decide +kernel) rfl
theorem cl_X8_34 : Cond.classLink RX8 34 RX6 ∈ xb_tbl := xb_in (i := 110) (by decide +kernel) rfl
theorem kv_X6 : Cond.instantiable RX6 3 ∈ xb_tbl := xb_in (i := 111) (by decide +kernel) rfl
theorem mn_X8_36 : Cond.methodLinkNest RX8 36 yX6_init RX8 ∈ xb_tbl := xb_in (i := 112) (by decide +kernel) rfl
theorem ki_X6_init : Cond.instanceMethod yX6_init ∈ xb_tbl := xb_in (i := 113) (by decide +kernel) rfl
theorem kc_X6_init : Cond.code yX6_init cX6_init 1 none ∈ xb_tbl := xb_in (i := 114) (by decide +kernel) rfl
theorem ml_X6_3 : Cond.methodLink RX6 3 Lib.objectInit ∈ xb_tbl := xb_in (i := 115) (by decide +kernel) rfl
theorem fl_X6_11 : Cond.fieldLink RX6 11 RX6 "uses" "[I" ∈ xb_tbl := xb_in (i := 116) (by decide +kernel) rfl
theorem fl_X6_15 : Cond.fieldLink RX6 15 RX6 "numbers" "[I" ∈ xb_tbl := xb_in (i := 117) (by decide +kernel) rfl
theorem fl_X6_18 : Cond.fieldLink RX6 18 RX6 "size" "I" ∈ xb_tbl := xb_in (i := 118) (by decide +kernel) rfl
theorem cl_X8_41 : Cond.classLink RX8 41 RX1 ∈ xb_tbl := xb_in (i := 126) (by decide +kernel) rfl
theorem kv_X1 : Cond.instantiable RX1 9 ∈ xb_tbl := xb_in (i := 127) (by decide +kernel) rfl
theorem ml_X8_43 : Cond.methodLink RX8 43 yX1_init ∈ xb_tbl := xb_in (i := 128) (by decide +kernel) rfl
theorem ki_X1_init : Cond.instanceMethod yX1_init ∈ xb_tbl := xb_in (i := 129) (by decide +kernel) rfl
theorem kc_X1_init : Cond.code yX1_init cX1_init 2 none ∈ xb_tbl := xb_in (i := 130) (by decide +kernel) rfl
theorem ml_X1_3 : Cond.methodLink RX1 3 Lib.objectInit ∈ xb_tbl := xb_in (i := 131) (by decide +kernel) rfl
theorem cl_X1_23 : Cond.classLink RX1 23 RX4 ∈ xb_tbl := xb_in (i := 132) (by decide +kernel) rfl
theorem ml_X1_25 : Cond.methodLink RX1 25 yX4_init ∈ xb_tbl := xb_in (i := 133) (by decide +kernel) rfl
theorem cl_X1_32 : Cond.classLink RX1 32 RX0 ∈ xb_tbl := xb_in (i := 134) (by decide +kernel) rfl
theorem kv_X0 : Cond.instantiable RX0 3 ∈ xb_tbl := xb_in (i := 135) (by decide +kernel) rfl
theorem ml_X1_34 : Cond.methodLink RX1 34 yX0_init ∈ xb_tbl := xb_in (i := 136) (by decide +kernel) rfl
theorem ki_X0_init : Cond.instanceMethod yX0_init ∈ xb_tbl := xb_in (i := 137) (by decide +kernel) rfl
theorem kc_X0_init : Cond.code yX0_init cX0_init 3 none ∈ xb_tbl := xb_in (i := 138) (by decide +kernel) rfl
theorem ml_X0_3 : Cond.methodLink RX0 3 Lib.objectInit ∈ xb_tbl := xb_in (i := 139) (by decide +kernel) rfl
theorem ml_X0_15 : Cond.methodLink RX0 15 yJ9_max_7cf53 ∈ xb_tbl := xb_in (i := 140) (by decide +kernel) rfl
theorem fl_X0_21 : Cond.fieldLink RX0 21 RX0 "written" "[I" ∈ xb_tbl := xb_in (i := 141) (by decide +kernel) rfl
theorem fl_X0_25 : Cond.fieldLink RX0 25 RX0 "now" "[I" ∈ xb_tbl := xb_in (i := 142) (by decide +kernel) rfl
theorem fl_X0_9 : Cond.fieldLink RX0 9 RX0 "size" "I" ∈ xb_tbl := xb_in (i := 143) (by decide +kernel) rfl
theorem fl_X1_28 : Cond.fieldLink RX1 28 RX1 "packed" "LNeighbourBook$Pairs;" ∈ xb_tbl := xb_in (i := 151) (by decide +kernel) rfl
theorem fl_X1_35 : Cond.fieldLink RX1 35 RX1 "bits" "LNeighbourBook$Bits;" ∈ xb_tbl := xb_in (i := 152) (by decide +kernel) rfl
theorem fl_X1_39 : Cond.fieldLink RX1 39 RX1 "kinds" "[I" ∈ xb_tbl := xb_in (i := 153) (by decide +kernel) rfl
theorem fl_X1_42 : Cond.fieldLink RX1 42 RX1 "distances" "[I" ∈ xb_tbl := xb_in (i := 154) (by decide +kernel) rfl
theorem fl_X1_45 : Cond.fieldLink RX1 45 RX1 "depths" "[I" ∈ xb_tbl := xb_in (i := 155) (by decide +kernel) rfl
theorem fl_X1_48 : Cond.fieldLink RX1 48 RX1 "starts" "[I" ∈ xb_tbl := xb_in (i := 156) (by decide +kernel) rfl
theorem fl_X1_11 : Cond.fieldLink RX1 11 RX1 "tally" "[I" ∈ xb_tbl := xb_in (i := 157) (by decide +kernel) rfl
theorem fl_X1_15 : Cond.fieldLink RX1 15 RX1 "there" "Z" ∈ xb_tbl := xb_in (i := 158) (by decide +kernel) rfl
theorem fl_X1_19 : Cond.fieldLink RX1 19 RX1 "step" "I" ∈ xb_tbl := xb_in (i := 159) (by decide +kernel) rfl
theorem cl_X8_48 : Cond.classLink RX8 48 RX2 ∈ xb_tbl := xb_in (i := 179) (by decide +kernel) rfl
theorem kv_X2 : Cond.instantiable RX2 4 ∈ xb_tbl := xb_in (i := 180) (by decide +kernel) rfl
theorem ml_X8_50 : Cond.methodLink RX8 50 yX2_init ∈ xb_tbl := xb_in (i := 181) (by decide +kernel) rfl
theorem ki_X2_init : Cond.instanceMethod yX2_init ∈ xb_tbl := xb_in (i := 182) (by decide +kernel) rfl
theorem kc_X2_init : Cond.code yX2_init cX2_init 2 none ∈ xb_tbl := xb_in (i := 183) (by decide +kernel) rfl
theorem ml_X2_3 : Cond.methodLink RX2 3 Lib.objectInit ∈ xb_tbl := xb_in (i := 184) (by decide +kernel) rfl
theorem fl_X2_18 : Cond.fieldLink RX2 18 RX2 "things" "I" ∈ xb_tbl := xb_in (i := 185) (by decide +kernel) rfl
theorem fl_X2_21 : Cond.fieldLink RX2 21 RX2 "below" "[I" ∈ xb_tbl := xb_in (i := 186) (by decide +kernel) rfl
theorem fl_X2_9 : Cond.fieldLink RX2 9 RX2 "copyBits" "I" ∈ xb_tbl := xb_in (i := 187) (by decide +kernel) rfl
theorem fl_X2_15 : Cond.fieldLink RX2 15 RX2 "copyDistance" "I" ∈ xb_tbl := xb_in (i := 188) (by decide +kernel) rfl
theorem cl_X8_55 : Cond.classLink RX8 55 RX3 ∈ xb_tbl := xb_in (i := 198) (by decide +kernel) rfl
theorem kv_X3 : Cond.instantiable RX3 2 ∈ xb_tbl := xb_in (i := 199) (by decide +kernel) rfl
theorem ml_X8_57 : Cond.methodLink RX8 57 yX3_init ∈ xb_tbl := xb_in (i := 200) (by decide +kernel) rfl
theorem ki_X3_init : Cond.instanceMethod yX3_init ∈ xb_tbl := xb_in (i := 201) (by decide +kernel) rfl
theorem kc_X3_init : Cond.code yX3_init cX3_init 2 none ∈ xb_tbl := xb_in (i := 202) (by decide +kernel) rfl
theorem ml_X3_3 : Cond.methodLink RX3 3 Lib.objectInit ∈ xb_tbl := xb_in (i := 203) (by decide +kernel) rfl
theorem fl_X3_9 : Cond.fieldLink RX3 9 RX3 "line" "[I" ∈ xb_tbl := xb_in (i := 204) (by decide +kernel) rfl
theorem fl_X3_15 : Cond.fieldLink RX3 15 RX3 "keys" "[I" ∈ xb_tbl := xb_in (i := 205) (by decide +kernel) rfl
theorem cl_X8_62 : Cond.classLink RX8 62 RX7 ∈ xb_tbl := xb_in (i := 211) (by decide +kernel) rfl
theorem kv_X7 : Cond.instantiable RX7 1 ∈ xb_tbl := xb_in (i := 212) (by decide +kernel) rfl
theorem ml_X8_64 : Cond.methodLink RX8 64 yX7_init ∈ xb_tbl := xb_in (i := 213) (by decide +kernel) rfl
theorem ki_X7_init : Cond.instanceMethod yX7_init ∈ xb_tbl := xb_in (i := 214) (by decide +kernel) rfl
theorem kc_X7_init : Cond.code yX7_init cX7_init 2 none ∈ xb_tbl := xb_in (i := 215) (by decide +kernel) rfl
theorem ml_X7_3 : Cond.methodLink RX7 3 Lib.objectInit ∈ xb_tbl := xb_in (i := 216) (by decide +kernel) rfl
theorem fl_X7_9 : Cond.fieldLink RX7 9 RX7 "near" "[J" ∈ xb_tbl := xb_in (i := 217) (by decide +kernel) rfl
theorem fl_X8_23 : Cond.fieldLink RX8 23 RX8 "pairs" "LNeighbourBook$Pairs;" ∈ xb_tbl := xb_in (i := 221) (by decide +kernel) rfl
theorem fl_X8_30 : Cond.fieldLink RX8 30 RX8 "rules" "LNeighbourBook$Rules;" ∈ xb_tbl := xb_in (i := 222) (by decide +kernel) rfl
theorem fl_X8_37 : Cond.fieldLink RX8 37 RX8 "telling" "LNeighbourBook$Telling;" ∈ xb_tbl := xb_in (i := 223) (by decide +kernel) rfl
theorem fl_X8_44 : Cond.fieldLink RX8 44 RX8 "book" "LNeighbourBook$Book;" ∈ xb_tbl := xb_in (i := 224) (by decide +kernel) rfl
theorem fl_X8_51 : Cond.fieldLink RX8 51 RX8 "copying" "LNeighbourBook$Copying;" ∈ xb_tbl := xb_in (i := 225) (by decide +kernel) rfl
theorem fl_X8_58 : Cond.fieldLink RX8 58 RX8 "orders" "LNeighbourBook$Orders;" ∈ xb_tbl := xb_in (i := 226) (by decide +kernel) rfl
theorem fl_X8_65 : Cond.fieldLink RX8 65 RX8 "walks" "LNeighbourBook$Walks;" ∈ xb_tbl := xb_in (i := 227) (by decide +kernel) rfl
theorem ml_L_21 : Cond.methodLink RL 21 yX8_pair ∈ xb_tbl := xb_in (i := 243) (by decide +kernel) rfl
theorem ki_X8_pair : Cond.instanceMethod yX8_pair ∈ xb_tbl := xb_in (i := 244) (by decide +kernel) rfl
theorem ks_X8_pair : Cond.selects RX8 yX8_pair yX8_pair ∈ xb_tbl := xb_in (i := 245) (by decide +kernel) rfl
theorem kc_X8_pair : Cond.code yX8_pair cX8_pair 3 (some .int) ∈ xb_tbl := xb_in (i := 246) (by decide +kernel) rfl
theorem ml_X8_69 : Cond.methodLink RX8 69 yX8_change ∈ xb_tbl := xb_in (i := 247) (by decide +kernel) rfl
theorem ki_X8_change : Cond.instanceMethod yX8_change ∈ xb_tbl := xb_in (i := 249) (by decide +kernel) rfl
theorem kc_X8_change : Cond.code yX8_change cX8_change 5 (some .int) ∈ xb_tbl := xb_in (i := 250) (by decide +kernel) rfl
theorem ml_X8_73 : Cond.methodLink RX8 73 yX4_isThing ∈ xb_tbl := xb_in (i := 251) (by decide +kernel) rfl
theorem ki_X4_isThing : Cond.instanceMethod yX4_isThing ∈ xb_tbl := xb_in (i := 252) (by decide +kernel) rfl
theorem ks_X4_isThing : Cond.selects RX4 yX4_isThing yX4_isThing ∈ xb_tbl := xb_in (i := 253) (by decide +kernel) rfl
theorem kc_X4_isThing : Cond.code yX4_isThing cX4_isThing 2 (some .boolean) ∈ xb_tbl := xb_in (i := 254) (by decide +kernel) rfl
theorem ml_X8_77 : Cond.methodLink RX8 77 yX4_joined ∈ xb_tbl := xb_in (i := 255) (by decide +kernel) rfl
theorem ki_X4_joined : Cond.instanceMethod yX4_joined ∈ xb_tbl := xb_in (i := 256) (by decide +kernel) rfl
theorem ks_X4_joined : Cond.selects RX4 yX4_joined yX4_joined ∈ xb_tbl := xb_in (i := 257) (by decide +kernel) rfl
theorem kc_X4_joined : Cond.code yX4_joined cX4_joined 3 (some .boolean) ∈ xb_tbl := xb_in (i := 258) (by decide +kernel) rfl
theorem ml_X4_22 : Cond.methodLink RX4 22 yX4_rowOf ∈ xb_tbl := xb_in (i := 259) (by decide +kernel) rfl
theorem ki_X4_rowOf : Cond.instanceMethod yX4_rowOf ∈ xb_tbl := xb_in (i := 260) (by decide +kernel) rfl
theorem ks_X4_rowOf : Cond.selects RX4 yX4_rowOf yX4_rowOf ∈ xb_tbl := xb_in (i := 261) (by decide +kernel) rfl
theorem kc_X4_rowOf : Cond.code yX4_rowOf cX4_rowOf 2 (some .long) ∈ xb_tbl := xb_in (i := 262) (by decide +kernel) rfl
theorem mn_X4_16 : Cond.methodLinkNest RX4 16 yX8_isIn RX8 ∈ xb_tbl := xb_in (i := 263) (by decide +kernel) rfl
theorem kt_X8_isIn : Cond.static yX8_isIn ∈ xb_tbl := xb_in (i := 264) (by decide +kernel) rfl
theorem kc_X8_isIn : Cond.code yX8_isIn cX8_isIn 3 (some .boolean) ∈ xb_tbl := xb_in (i := 265) (by decide +kernel) rfl
theorem ml_X8_141 : Cond.methodLink RX8 141 yX1_isThere ∈ xb_tbl := xb_in (i := 266) (by decide +kernel) rfl
theorem ki_X1_isThere : Cond.instanceMethod yX1_isThere ∈ xb_tbl := xb_in (i := 267) (by decide +kernel) rfl
theorem ks_X1_isThere : Cond.selects RX1 yX1_isThere yX1_isThere ∈ xb_tbl := xb_in (i := 268) (by decide +kernel) rfl
theorem kc_X1_isThere : Cond.code yX1_isThere cX1_isThere 1 (some .boolean) ∈ xb_tbl := xb_in (i := 269) (by decide +kernel) rfl
theorem ml_X8_251 : Cond.methodLink RX8 251 yX1_isPatch ∈ xb_tbl := xb_in (i := 270) (by decide +kernel) rfl
theorem ki_X1_isPatch : Cond.instanceMethod yX1_isPatch ∈ xb_tbl := xb_in (i := 271) (by decide +kernel) rfl
theorem ks_X1_isPatch : Cond.selects RX1 yX1_isPatch yX1_isPatch ∈ xb_tbl := xb_in (i := 272) (by decide +kernel) rfl
theorem kc_X1_isPatch : Cond.code yX1_isPatch cX1_isPatch 4 (some .boolean) ∈ xb_tbl := xb_in (i := 273) (by decide +kernel) rfl
theorem ml_X1_55 : Cond.methodLink RX1 55 yX4_joined ∈ xb_tbl := xb_in (i := 274) (by decide +kernel) rfl
theorem ml_X8_163 : Cond.methodLink RX8 163 yX1_patchesTo ∈ xb_tbl := xb_in (i := 275) (by decide +kernel) rfl
theorem ki_X1_patchesTo : Cond.instanceMethod yX1_patchesTo ∈ xb_tbl := xb_in (i := 276) (by decide +kernel) rfl
theorem ks_X1_patchesTo : Cond.selects RX1 yX1_patchesTo yX1_patchesTo ∈ xb_tbl := xb_in (i := 277) (by decide +kernel) rfl
theorem kc_X1_patchesTo : Cond.code yX1_patchesTo cX1_patchesTo 2 (some .int) ∈ xb_tbl := xb_in (i := 278) (by decide +kernel) rfl
theorem ml_X1_59 : Cond.methodLink RX1 59 yX4_countOther ∈ xb_tbl := xb_in (i := 279) (by decide +kernel) rfl
theorem ki_X4_countOther : Cond.instanceMethod yX4_countOther ∈ xb_tbl := xb_in (i := 280) (by decide +kernel) rfl
theorem ks_X4_countOther : Cond.selects RX4 yX4_countOther yX4_countOther ∈ xb_tbl := xb_in (i := 281) (by decide +kernel) rfl
theorem kc_X4_countOther : Cond.code yX4_countOther cX4_countOther 4 (some .int) ∈ xb_tbl := xb_in (i := 282) (by decide +kernel) rfl
theorem ml_X4_30 : Cond.methodLink RX4 30 yJ13_bitCount_95d88 ∈ xb_tbl := xb_in (i := 283) (by decide +kernel) rfl
theorem kt_J13_bitCount_95d88 : Cond.static yJ13_bitCount_95d88 ∈ xb_tbl := xb_in (i := 284) (by decide +kernel) rfl
theorem kc_J13_bitCount_95d88 : Cond.code yJ13_bitCount_95d88 cJ13_bitCount_95d88 2 (some .int) ∈ xb_tbl := xb_in (i := 285) (by decide +kernel) rfl
theorem kl_J13_314 : Cond.constantLong RJ13 314 (6148914691236517205) ∈ xb_tbl := xb_in (i := 286) (by decide +kernel) rfl
theorem kl_J13_316 : Cond.constantLong RJ13 316 (3689348814741910323) ∈ xb_tbl := xb_in (i := 287) (by decide +kernel) rfl
theorem kl_J13_318 : Cond.constantLong RJ13 318 (1085102592571150095) ∈ xb_tbl := xb_in (i := 288) (by decide +kernel) rfl
theorem ml_X8_255 : Cond.methodLink RX8 255 yX4_flip ∈ xb_tbl := xb_in (i := 289) (by decide +kernel) rfl
theorem ki_X4_flip : Cond.instanceMethod yX4_flip ∈ xb_tbl := xb_in (i := 290) (by decide +kernel) rfl
theorem ks_X4_flip : Cond.selects RX4 yX4_flip yX4_flip ∈ xb_tbl := xb_in (i := 291) (by decide +kernel) rfl
theorem kc_X4_flip : Cond.code yX4_flip cX4_flip 3 none ∈ xb_tbl := xb_in (i := 292) (by decide +kernel) rfl
theorem ml_X4_26 : Cond.methodLink RX4 26 yX4_isThing ∈ xb_tbl := xb_in (i := 293) (by decide +kernel) rfl
theorem ml_L_26 : Cond.methodLink RL 26 yX8_drop ∈ xb_tbl := xb_in (i := 294) (by decide +kernel) rfl
theorem ki_X8_drop : Cond.instanceMethod yX8_drop ∈ xb_tbl := xb_in (i := 295) (by decide +kernel) rfl
theorem ks_X8_drop : Cond.selects RX8 yX8_drop yX8_drop ∈ xb_tbl := xb_in (i := 296) (by decide +kernel) rfl
theorem kc_X8_drop : Cond.code yX8_drop cX8_drop 3 (some .int) ∈ xb_tbl := xb_in (i := 297) (by decide +kernel) rfl
theorem ml_L_30 : Cond.methodLink RL 30 yX8_has ∈ xb_tbl := xb_in (i := 298) (by decide +kernel) rfl
theorem ki_X8_has : Cond.instanceMethod yX8_has ∈ xb_tbl := xb_in (i := 299) (by decide +kernel) rfl
theorem ks_X8_has : Cond.selects RX8 yX8_has yX8_has ∈ xb_tbl := xb_in (i := 300) (by decide +kernel) rfl
theorem kc_X8_has : Cond.code yX8_has cX8_has 3 (some .int) ∈ xb_tbl := xb_in (i := 301) (by decide +kernel) rfl
theorem ml_L_34 : Cond.methodLink RL 34 yX8_next ∈ xb_tbl := xb_in (i := 302) (by decide +kernel) rfl
theorem ki_X8_next : Cond.instanceMethod yX8_next ∈ xb_tbl := xb_in (i := 303) (by decide +kernel) rfl
theorem ks_X8_next : Cond.selects RX8 yX8_next yX8_next ∈ xb_tbl := xb_in (i := 304) (by decide +kernel) rfl
theorem kc_X8_next : Cond.code yX8_next cX8_next 3 (some .int) ∈ xb_tbl := xb_in (i := 305) (by decide +kernel) rfl
theorem ml_X8_81 : Cond.methodLink RX8 81 yX4_rowOf ∈ xb_tbl := xb_in (i := 306) (by decide +kernel) rfl
theorem ml_X8_85 : Cond.methodLink RX8 85 yX8_firstFrom ∈ xb_tbl := xb_in (i := 307) (by decide +kernel) rfl
theorem kt_X8_firstFrom : Cond.static yX8_firstFrom ∈ xb_tbl := xb_in (i := 308) (by decide +kernel) rfl
theorem kc_X8_firstFrom : Cond.code yX8_firstFrom cX8_firstFrom 4 (some .int) ∈ xb_tbl := xb_in (i := 309) (by decide +kernel) rfl
theorem ml_L_38 : Cond.methodLink RL 38 yX8_degree ∈ xb_tbl := xb_in (i := 310) (by decide +kernel) rfl
theorem ki_X8_degree : Cond.instanceMethod yX8_degree ∈ xb_tbl := xb_in (i := 311) (by decide +kernel) rfl
theorem ks_X8_degree : Cond.selects RX8 yX8_degree yX8_degree ∈ xb_tbl := xb_in (i := 312) (by decide +kernel) rfl
theorem kc_X8_degree : Cond.code yX8_degree cX8_degree 3 (some .int) ∈ xb_tbl := xb_in (i := 313) (by decide +kernel) rfl
theorem ml_X8_89 : Cond.methodLink RX8 89 yX8_isBelow ∈ xb_tbl := xb_in (i := 314) (by decide +kernel) rfl
theorem kt_X8_isBelow : Cond.static yX8_isBelow ∈ xb_tbl := xb_in (i := 315) (by decide +kernel) rfl
theorem kc_X8_isBelow : Cond.code yX8_isBelow cX8_isBelow 2 (some .boolean) ∈ xb_tbl := xb_in (i := 316) (by decide +kernel) rfl
theorem ml_X8_92 : Cond.methodLink RX8 92 yX4_columnOf ∈ xb_tbl := xb_in (i := 317) (by decide +kernel) rfl
theorem ki_X4_columnOf : Cond.instanceMethod yX4_columnOf ∈ xb_tbl := xb_in (i := 318) (by decide +kernel) rfl
theorem ks_X4_columnOf : Cond.selects RX4 yX4_columnOf yX4_columnOf ∈ xb_tbl := xb_in (i := 319) (by decide +kernel) rfl
theorem kc_X4_columnOf : Cond.code yX4_columnOf cX4_columnOf 5 (some .long) ∈ xb_tbl := xb_in (i := 320) (by decide +kernel) rfl
theorem ml_X8_95 : Cond.methodLink RX8 95 yJ13_bitCount_95d88 ∈ xb_tbl := xb_in (i := 321) (by decide +kernel) rfl
theorem ml_L_42 : Cond.methodLink RL 42 yX8_meet ∈ xb_tbl := xb_in (i := 322) (by decide +kernel) rfl
theorem ki_X8_meet : Cond.instanceMethod yX8_meet ∈ xb_tbl := xb_in (i := 323) (by decide +kernel) rfl
theorem ks_X8_meet : Cond.selects RX8 yX8_meet yX8_meet ∈ xb_tbl := xb_in (i := 324) (by decide +kernel) rfl
theorem kc_X8_meet : Cond.code yX8_meet cX8_meet 3 (some .int) ∈ xb_tbl := xb_in (i := 325) (by decide +kernel) rfl
theorem ml_L_46 : Cond.methodLink RL 46 yX8_back ∈ xb_tbl := xb_in (i := 326) (by decide +kernel) rfl
theorem ki_X8_back : Cond.instanceMethod yX8_back ∈ xb_tbl := xb_in (i := 327) (by decide +kernel) rfl
theorem ks_X8_back : Cond.selects RX8 yX8_back yX8_back ∈ xb_tbl := xb_in (i := 328) (by decide +kernel) rfl
theorem kc_X8_back : Cond.code yX8_back cX8_back 3 (some .int) ∈ xb_tbl := xb_in (i := 329) (by decide +kernel) rfl
theorem ml_X8_101 : Cond.methodLink RX8 101 yX8_thingAt ∈ xb_tbl := xb_in (i := 330) (by decide +kernel) rfl
theorem kt_X8_thingAt : Cond.static yX8_thingAt ∈ xb_tbl := xb_in (i := 331) (by decide +kernel) rfl
theorem kc_X8_thingAt : Cond.code yX8_thingAt cX8_thingAt 5 (some .int) ∈ xb_tbl := xb_in (i := 332) (by decide +kernel) rfl
theorem ml_X8_258 : Cond.methodLink RX8 258 yX8_isIn ∈ xb_tbl := xb_in (i := 333) (by decide +kernel) rfl
theorem ml_L_50 : Cond.methodLink RL 50 yX8_form ∈ xb_tbl := xb_in (i := 334) (by decide +kernel) rfl
theorem ki_X8_form : Cond.instanceMethod yX8_form ∈ xb_tbl := xb_in (i := 335) (by decide +kernel) rfl
theorem ks_X8_form : Cond.selects RX8 yX8_form yX8_form ∈ xb_tbl := xb_in (i := 336) (by decide +kernel) rfl
theorem kc_X8_form : Cond.code yX8_form cX8_form 4 (some .int) ∈ xb_tbl := xb_in (i := 337) (by decide +kernel) rfl
theorem ml_X8_104 : Cond.methodLink RX8 104 yX5_formOf ∈ xb_tbl := xb_in (i := 338) (by decide +kernel) rfl
theorem ki_X5_formOf : Cond.instanceMethod yX5_formOf ∈ xb_tbl := xb_in (i := 339) (by decide +kernel) rfl
theorem ks_X5_formOf : Cond.selects RX5 yX5_formOf yX5_formOf ∈ xb_tbl := xb_in (i := 340) (by decide +kernel) rfl
theorem kc_X5_formOf : Cond.code yX5_formOf cX5_formOf 2 (some .int) ∈ xb_tbl := xb_in (i := 341) (by decide +kernel) rfl
theorem mn_X5_16 : Cond.methodLinkNest RX5 16 yX8_element RX8 ∈ xb_tbl := xb_in (i := 342) (by decide +kernel) rfl
theorem kt_X8_element : Cond.static yX8_element ∈ xb_tbl := xb_in (i := 343) (by decide +kernel) rfl
theorem kc_X8_element : Cond.code yX8_element cX8_element 2 (some .int) ∈ xb_tbl := xb_in (i := 344) (by decide +kernel) rfl
theorem ml_X8_108 : Cond.methodLink RX8 108 yX5_setForm ∈ xb_tbl := xb_in (i := 345) (by decide +kernel) rfl
theorem ki_X5_setForm : Cond.instanceMethod yX5_setForm ∈ xb_tbl := xb_in (i := 346) (by decide +kernel) rfl
theorem ks_X5_setForm : Cond.selects RX5 yX5_setForm yX5_setForm ∈ xb_tbl := xb_in (i := 347) (by decide +kernel) rfl
theorem kc_X5_setForm : Cond.code yX5_setForm cX5_setForm 3 none ∈ xb_tbl := xb_in (i := 348) (by decide +kernel) rfl
theorem ml_L_54 : Cond.methodLink RL 54 yX8_setting ∈ xb_tbl := xb_in (i := 349) (by decide +kernel) rfl
theorem ki_X8_setting : Cond.instanceMethod yX8_setting ∈ xb_tbl := xb_in (i := 350) (by decide +kernel) rfl
theorem ks_X8_setting : Cond.selects RX8 yX8_setting yX8_setting ∈ xb_tbl := xb_in (i := 351) (by decide +kernel) rfl
theorem kc_X8_setting : Cond.code yX8_setting cX8_setting 4 (some .int) ∈ xb_tbl := xb_in (i := 352) (by decide +kernel) rfl
theorem ml_X8_112 : Cond.methodLink RX8 112 yX5_allows ∈ xb_tbl := xb_in (i := 353) (by decide +kernel) rfl
theorem ki_X5_allows : Cond.instanceMethod yX5_allows ∈ xb_tbl := xb_in (i := 354) (by decide +kernel) rfl
theorem ks_X5_allows : Cond.selects RX5 yX5_allows yX5_allows ∈ xb_tbl := xb_in (i := 355) (by decide +kernel) rfl
theorem kc_X5_allows : Cond.code yX5_allows cX5_allows 3 (some .boolean) ∈ xb_tbl := xb_in (i := 356) (by decide +kernel) rfl
theorem mn_X5_22 : Cond.methodLinkNest RX5 22 yX8_isBelow RX8 ∈ xb_tbl := xb_in (i := 357) (by decide +kernel) rfl
theorem fl_X5_26 : Cond.fieldLink RX5 26 RX5 "LEAST" "[I" ∈ xb_tbl := xb_in (i := 358) (by decide +kernel) rfl
theorem kz_LEAST : Cond.laysStatic RX5 "LEAST" "[I" ∈ lw_tbl := List.mem_of_getElem? (i := 359) (by decide +kernel)
theorem fl_X5_29 : Cond.fieldLink RX5 29 RX5 "MOST" "[I" ∈ xb_tbl := xb_in (i := 360) (by decide +kernel) rfl
theorem kz_MOST : Cond.laysStatic RX5 "MOST" "[I" ∈ lw_tbl := List.mem_of_getElem? (i := 361) (by decide +kernel)
theorem ml_X8_115 : Cond.methodLink RX8 115 yX5_valueOf ∈ xb_tbl := xb_in (i := 362) (by decide +kernel) rfl
theorem ki_X5_valueOf : Cond.instanceMethod yX5_valueOf ∈ xb_tbl := xb_in (i := 363) (by decide +kernel) rfl
theorem ks_X5_valueOf : Cond.selects RX5 yX5_valueOf yX5_valueOf ∈ xb_tbl := xb_in (i := 364) (by decide +kernel) rfl
theorem kc_X5_valueOf : Cond.code yX5_valueOf cX5_valueOf 2 (some .int) ∈ xb_tbl := xb_in (i := 365) (by decide +kernel) rfl
theorem ml_X8_118 : Cond.methodLink RX8 118 yX5_setValue ∈ xb_tbl := xb_in (i := 366) (by decide +kernel) rfl
theorem ki_X5_setValue : Cond.instanceMethod yX5_setValue ∈ xb_tbl := xb_in (i := 367) (by decide +kernel) rfl
theorem ks_X5_setValue : Cond.selects RX5 yX5_setValue yX5_setValue ∈ xb_tbl := xb_in (i := 368) (by decide +kernel) rfl
theorem kc_X5_setValue : Cond.code yX5_setValue cX5_setValue 3 none ∈ xb_tbl := xb_in (i := 369) (by decide +kernel) rfl
theorem ml_L_58 : Cond.methodLink RL 58 yX8_length ∈ xb_tbl := xb_in (i := 370) (by decide +kernel) rfl
theorem ki_X8_length : Cond.instanceMethod yX8_length ∈ xb_tbl := xb_in (i := 371) (by decide +kernel) rfl
theorem ks_X8_length : Cond.selects RX8 yX8_length yX8_length ∈ xb_tbl := xb_in (i := 372) (by decide +kernel) rfl
theorem kc_X8_length : Cond.code yX8_length cX8_length 3 (some .int) ∈ xb_tbl := xb_in (i := 373) (by decide +kernel) rfl
theorem kk_X8_121 : Cond.constant RX8 121 (100000) ∈ xb_tbl := xb_in (i := 374) (by decide +kernel) rfl
theorem ml_X8_122 : Cond.methodLink RX8 122 yX8_bitsIn ∈ xb_tbl := xb_in (i := 375) (by decide +kernel) rfl
theorem kt_X8_bitsIn : Cond.static yX8_bitsIn ∈ xb_tbl := xb_in (i := 376) (by decide +kernel) rfl
theorem kc_X8_bitsIn : Cond.code yX8_bitsIn cX8_bitsIn 4 (some .int) ∈ xb_tbl := xb_in (i := 377) (by decide +kernel) rfl
theorem ml_X8_262 : Cond.methodLink RX8 262 yX8_digitsOf ∈ xb_tbl := xb_in (i := 378) (by decide +kernel) rfl
theorem kt_X8_digitsOf : Cond.static yX8_digitsOf ∈ xb_tbl := xb_in (i := 379) (by decide +kernel) rfl
theorem kc_X8_digitsOf : Cond.code yX8_digitsOf cX8_digitsOf 2 (some .int) ∈ xb_tbl := xb_in (i := 380) (by decide +kernel) rfl
theorem ml_L_62 : Cond.methodLink RL 62 yX8_cost ∈ xb_tbl := xb_in (i := 381) (by decide +kernel) rfl
theorem ki_X8_cost : Cond.instanceMethod yX8_cost ∈ xb_tbl := xb_in (i := 382) (by decide +kernel) rfl
theorem ks_X8_cost : Cond.selects RX8 yX8_cost yX8_cost ∈ xb_tbl := xb_in (i := 383) (by decide +kernel) rfl
theorem kc_X8_cost : Cond.code yX8_cost cX8_cost 5 (some .int) ∈ xb_tbl := xb_in (i := 384) (by decide +kernel) rfl
theorem ml_X8_125 : Cond.methodLink RX8 125 yX8_isCopy ∈ xb_tbl := xb_in (i := 385) (by decide +kernel) rfl
theorem kt_X8_isCopy : Cond.static yX8_isCopy ∈ xb_tbl := xb_in (i := 386) (by decide +kernel) rfl
theorem kc_X8_isCopy : Cond.code yX8_isCopy cX8_isCopy 1 (some .boolean) ∈ xb_tbl := xb_in (i := 387) (by decide +kernel) rfl
theorem ml_X8_128 : Cond.methodLink RX8 128 yX6_bitsToTell ∈ xb_tbl := xb_in (i := 388) (by decide +kernel) rfl
theorem ki_X6_bitsToTell : Cond.instanceMethod yX6_bitsToTell ∈ xb_tbl := xb_in (i := 389) (by decide +kernel) rfl
theorem ks_X6_bitsToTell : Cond.selects RX6 yX6_bitsToTell yX6_bitsToTell ∈ xb_tbl := xb_in (i := 390) (by decide +kernel) rfl
theorem kc_X6_bitsToTell : Cond.code yX6_bitsToTell cX6_bitsToTell 9 (some .int) ∈ xb_tbl := xb_in (i := 391) (by decide +kernel) rfl
theorem ml_X6_53 : Cond.methodLink RX6 53 yX6_tell ∈ xb_tbl := xb_in (i := 392) (by decide +kernel) rfl
theorem ki_X6_tell : Cond.instanceMethod yX6_tell ∈ xb_tbl := xb_in (i := 393) (by decide +kernel) rfl
theorem ks_X6_tell : Cond.selects RX6 yX6_tell yX6_tell ∈ xb_tbl := xb_in (i := 394) (by decide +kernel) rfl
theorem kc_X6_tell : Cond.code yX6_tell cX6_tell 9 (some .boolean) ∈ xb_tbl := xb_in (i := 395) (by decide +kernel) rfl
theorem ml_X6_26 : Cond.methodLink RX6 26 yX4_rowOf ∈ xb_tbl := xb_in (i := 396) (by decide +kernel) rfl
theorem ml_X6_32 : Cond.methodLink RX6 32 yX6_add ∈ xb_tbl := xb_in (i := 397) (by decide +kernel) rfl
theorem ki_X6_add : Cond.instanceMethod yX6_add ∈ xb_tbl := xb_in (i := 399) (by decide +kernel) rfl
theorem kc_X6_add : Cond.code yX6_add cX6_add 3 none ∈ xb_tbl := xb_in (i := 400) (by decide +kernel) rfl
theorem ml_X6_36 : Cond.methodLink RX6 36 yX6_tellPlain ∈ xb_tbl := xb_in (i := 401) (by decide +kernel) rfl
theorem ki_X6_tellPlain : Cond.instanceMethod yX6_tellPlain ∈ xb_tbl := xb_in (i := 403) (by decide +kernel) rfl
theorem kc_X6_tellPlain : Cond.code yX6_tellPlain cX6_tellPlain 6 none ∈ xb_tbl := xb_in (i := 404) (by decide +kernel) rfl
theorem ml_X6_74 : Cond.methodLink RX6 74 yJ13_bitCount_95d88 ∈ xb_tbl := xb_in (i := 405) (by decide +kernel) rfl
theorem mn_X6_80 : Cond.methodLinkNest RX6 80 yX8_isIn RX8 ∈ xb_tbl := xb_in (i := 406) (by decide +kernel) rfl
theorem mn_X6_84 : Cond.methodLinkNest RX6 84 yX8_folded RX8 ∈ xb_tbl := xb_in (i := 407) (by decide +kernel) rfl
theorem kt_X8_folded : Cond.static yX8_folded ∈ xb_tbl := xb_in (i := 408) (by decide +kernel) rfl
theorem kc_X8_folded : Cond.code yX8_folded cX8_folded 1 (some .int) ∈ xb_tbl := xb_in (i := 409) (by decide +kernel) rfl
theorem ml_X6_40 : Cond.methodLink RX6 40 yX6_tellSpans ∈ xb_tbl := xb_in (i := 410) (by decide +kernel) rfl
theorem ki_X6_tellSpans : Cond.instanceMethod yX6_tellSpans ∈ xb_tbl := xb_in (i := 412) (by decide +kernel) rfl
theorem kc_X6_tellSpans : Cond.code yX6_tellSpans cX6_tellSpans 15 (some .long) ∈ xb_tbl := xb_in (i := 413) (by decide +kernel) rfl
theorem kl_X6_48 : Cond.constantLong RX6 48 (-1) ∈ xb_tbl := xb_in (i := 414) (by decide +kernel) rfl
theorem ml_X6_44 : Cond.methodLink RX6 44 yX6_tellBlocks ∈ xb_tbl := xb_in (i := 415) (by decide +kernel) rfl
theorem ki_X6_tellBlocks : Cond.instanceMethod yX6_tellBlocks ∈ xb_tbl := xb_in (i := 417) (by decide +kernel) rfl
theorem kc_X6_tellBlocks : Cond.code yX6_tellBlocks cX6_tellBlocks 10 none ∈ xb_tbl := xb_in (i := 418) (by decide +kernel) rfl
theorem ml_X6_50 : Cond.methodLink RX6 50 yX6_tellDense ∈ xb_tbl := xb_in (i := 419) (by decide +kernel) rfl
theorem ki_X6_tellDense : Cond.instanceMethod yX6_tellDense ∈ xb_tbl := xb_in (i := 421) (by decide +kernel) rfl
theorem kc_X6_tellDense : Cond.code yX6_tellDense cX6_tellDense 7 none ∈ xb_tbl := xb_in (i := 422) (by decide +kernel) rfl
theorem mn_X6_87 : Cond.methodLinkNest RX6 87 yX8_firstFrom RX8 ∈ xb_tbl := xb_in (i := 423) (by decide +kernel) rfl
theorem mn_X6_91 : Cond.methodLinkNest RX6 91 yX8_lastOf RX8 ∈ xb_tbl := xb_in (i := 424) (by decide +kernel) rfl
theorem kt_X8_lastOf : Cond.static yX8_lastOf ∈ xb_tbl := xb_in (i := 425) (by decide +kernel) rfl
theorem kc_X8_lastOf : Cond.code yX8_lastOf cX8_lastOf 3 (some .int) ∈ xb_tbl := xb_in (i := 426) (by decide +kernel) rfl
theorem kk_X6_57 : Cond.constant RX6 57 (1000000) ∈ xb_tbl := xb_in (i := 427) (by decide +kernel) rfl
theorem ml_X6_58 : Cond.methodLink RX6 58 yX6_useAt ∈ xb_tbl := xb_in (i := 428) (by decide +kernel) rfl
theorem ki_X6_useAt : Cond.instanceMethod yX6_useAt ∈ xb_tbl := xb_in (i := 429) (by decide +kernel) rfl
theorem ks_X6_useAt : Cond.selects RX6 yX6_useAt yX6_useAt ∈ xb_tbl := xb_in (i := 430) (by decide +kernel) rfl
theorem kc_X6_useAt : Cond.code yX6_useAt cX6_useAt 2 (some .int) ∈ xb_tbl := xb_in (i := 431) (by decide +kernel) rfl
theorem mn_X6_22 : Cond.methodLinkNest RX6 22 yX8_element RX8 ∈ xb_tbl := xb_in (i := 432) (by decide +kernel) rfl
theorem ml_X6_62 : Cond.methodLink RX6 62 yX5_formOf ∈ xb_tbl := xb_in (i := 433) (by decide +kernel) rfl
theorem ml_X6_67 : Cond.methodLink RX6 67 yX6_numberAt ∈ xb_tbl := xb_in (i := 434) (by decide +kernel) rfl
theorem ki_X6_numberAt : Cond.instanceMethod yX6_numberAt ∈ xb_tbl := xb_in (i := 435) (by decide +kernel) rfl
theorem ks_X6_numberAt : Cond.selects RX6 yX6_numberAt yX6_numberAt ∈ xb_tbl := xb_in (i := 436) (by decide +kernel) rfl
theorem kc_X6_numberAt : Cond.code yX6_numberAt cX6_numberAt 2 (some .int) ∈ xb_tbl := xb_in (i := 437) (by decide +kernel) rfl
theorem mn_X6_70 : Cond.methodLinkNest RX6 70 yX8_bitsIn RX8 ∈ xb_tbl := xb_in (i := 438) (by decide +kernel) rfl
theorem kk_X8_132 : Cond.constant RX8 132 (1000000) ∈ xb_tbl := xb_in (i := 439) (by decide +kernel) rfl
theorem ml_L_67 : Cond.methodLink RL 67 yX8_pack ∈ xb_tbl := xb_in (i := 440) (by decide +kernel) rfl
theorem ki_X8_pack : Cond.instanceMethod yX8_pack ∈ xb_tbl := xb_in (i := 441) (by decide +kernel) rfl
theorem ks_X8_pack : Cond.selects RX8 yX8_pack yX8_pack ∈ xb_tbl := xb_in (i := 442) (by decide +kernel) rfl
theorem kc_X8_pack : Cond.code yX8_pack cX8_pack 1 (some .int) ∈ xb_tbl := xb_in (i := 443) (by decide +kernel) rfl
theorem ml_X8_133 : Cond.methodLink RX8 133 yX1_decideAll ∈ xb_tbl := xb_in (i := 444) (by decide +kernel) rfl
theorem ki_X1_decideAll : Cond.instanceMethod yX1_decideAll ∈ xb_tbl := xb_in (i := 445) (by decide +kernel) rfl
theorem ks_X1_decideAll : Cond.selects RX1 yX1_decideAll yX1_decideAll ∈ xb_tbl := xb_in (i := 446) (by decide +kernel) rfl
theorem kc_X1_decideAll : Cond.code yX1_decideAll cX1_decideAll 5 none ∈ xb_tbl := xb_in (i := 447) (by decide +kernel) rfl
theorem ml_X1_63 : Cond.methodLink RX1 63 yX4_takeAllOf ∈ xb_tbl := xb_in (i := 448) (by decide +kernel) rfl
theorem ki_X4_takeAllOf : Cond.instanceMethod yX4_takeAllOf ∈ xb_tbl := xb_in (i := 449) (by decide +kernel) rfl
theorem ks_X4_takeAllOf : Cond.selects RX4 yX4_takeAllOf yX4_takeAllOf ∈ xb_tbl := xb_in (i := 450) (by decide +kernel) rfl
theorem kc_X4_takeAllOf : Cond.code yX4_takeAllOf cX4_takeAllOf 3 none ∈ xb_tbl := xb_in (i := 451) (by decide +kernel) rfl
theorem ml_X1_67 : Cond.methodLink RX1 67 yX5_valueOf ∈ xb_tbl := xb_in (i := 452) (by decide +kernel) rfl
theorem ml_X1_73 : Cond.methodLink RX1 73 yJ9_max_7cf53 ∈ xb_tbl := xb_in (i := 453) (by decide +kernel) rfl
theorem ml_X1_79 : Cond.methodLink RX1 79 yJ7_fill_53178 ∈ xb_tbl := xb_in (i := 454) (by decide +kernel) rfl
theorem kt_J7_fill_53178 : Cond.static yJ7_fill_53178 ∈ xb_tbl := xb_in (i := 455) (by decide +kernel) rfl
theorem kc_J7_fill_53178 : Cond.code yJ7_fill_53178 cJ7_fill_53178 4 none ∈ xb_tbl := xb_in (i := 456) (by decide +kernel) rfl
theorem ml_X1_85 : Cond.methodLink RX1 85 yX1_choose ∈ xb_tbl := xb_in (i := 457) (by decide +kernel) rfl
theorem ki_X1_choose : Cond.instanceMethod yX1_choose ∈ xb_tbl := xb_in (i := 459) (by decide +kernel) rfl
theorem kc_X1_choose : Cond.code yX1_choose cX1_choose 11 none ∈ xb_tbl := xb_in (i := 460) (by decide +kernel) rfl
theorem ml_X1_135 : Cond.methodLink RX1 135 yJ9_min_7cf53 ∈ xb_tbl := xb_in (i := 461) (by decide +kernel) rfl
theorem kk_X1_138 : Cond.constant RX1 138 (1000000) ∈ xb_tbl := xb_in (i := 462) (by decide +kernel) rfl
theorem mn_X1_128 : Cond.methodLinkNest RX1 128 yX8_isCopy RX8 ∈ xb_tbl := xb_in (i := 463) (by decide +kernel) rfl
theorem ml_X1_139 : Cond.methodLink RX1 139 yX1_depthOf ∈ xb_tbl := xb_in (i := 464) (by decide +kernel) rfl
theorem ki_X1_depthOf : Cond.instanceMethod yX1_depthOf ∈ xb_tbl := xb_in (i := 465) (by decide +kernel) rfl
theorem ks_X1_depthOf : Cond.selects RX1 yX1_depthOf yX1_depthOf ∈ xb_tbl := xb_in (i := 466) (by decide +kernel) rfl
theorem kc_X1_depthOf : Cond.code yX1_depthOf cX1_depthOf 2 (some .int) ∈ xb_tbl := xb_in (i := 467) (by decide +kernel) rfl
theorem mn_X1_51 : Cond.methodLinkNest RX1 51 yX8_element RX8 ∈ xb_tbl := xb_in (i := 468) (by decide +kernel) rfl
theorem ml_X1_142 : Cond.methodLink RX1 142 yX6_bitsToTell ∈ xb_tbl := xb_in (i := 469) (by decide +kernel) rfl
theorem ml_X1_146 : Cond.methodLink RX1 146 yX1_decide ∈ xb_tbl := xb_in (i := 470) (by decide +kernel) rfl
theorem ki_X1_decide : Cond.instanceMethod yX1_decide ∈ xb_tbl := xb_in (i := 472) (by decide +kernel) rfl
theorem kc_X1_decide : Cond.code yX1_decide cX1_decide 4 none ∈ xb_tbl := xb_in (i := 473) (by decide +kernel) rfl
theorem ml_X1_89 : Cond.methodLink RX1 89 yX1_kindOf ∈ xb_tbl := xb_in (i := 474) (by decide +kernel) rfl
theorem ki_X1_kindOf : Cond.instanceMethod yX1_kindOf ∈ xb_tbl := xb_in (i := 475) (by decide +kernel) rfl
theorem ks_X1_kindOf : Cond.selects RX1 yX1_kindOf yX1_kindOf ∈ xb_tbl := xb_in (i := 476) (by decide +kernel) rfl
theorem kc_X1_kindOf : Cond.code yX1_kindOf cX1_kindOf 2 (some .int) ∈ xb_tbl := xb_in (i := 477) (by decide +kernel) rfl
theorem ml_X1_92 : Cond.methodLink RX1 92 yX1_distanceOf ∈ xb_tbl := xb_in (i := 478) (by decide +kernel) rfl
theorem ki_X1_distanceOf : Cond.instanceMethod yX1_distanceOf ∈ xb_tbl := xb_in (i := 479) (by decide +kernel) rfl
theorem ks_X1_distanceOf : Cond.selects RX1 yX1_distanceOf yX1_distanceOf ∈ xb_tbl := xb_in (i := 480) (by decide +kernel) rfl
theorem kc_X1_distanceOf : Cond.code yX1_distanceOf cX1_distanceOf 2 (some .int) ∈ xb_tbl := xb_in (i := 481) (by decide +kernel) rfl
theorem ml_X1_95 : Cond.methodLink RX1 95 yX6_tell ∈ xb_tbl := xb_in (i := 482) (by decide +kernel) rfl
theorem ml_X1_101 : Cond.methodLink RX1 101 yX1_tallyNumbers ∈ xb_tbl := xb_in (i := 483) (by decide +kernel) rfl
theorem ki_X1_tallyNumbers : Cond.instanceMethod yX1_tallyNumbers ∈ xb_tbl := xb_in (i := 485) (by decide +kernel) rfl
theorem kc_X1_tallyNumbers : Cond.code yX1_tallyNumbers cX1_tallyNumbers 4 none ∈ xb_tbl := xb_in (i := 486) (by decide +kernel) rfl
theorem ml_X1_150 : Cond.methodLink RX1 150 yX6_size ∈ xb_tbl := xb_in (i := 487) (by decide +kernel) rfl
theorem ki_X6_size : Cond.instanceMethod yX6_size ∈ xb_tbl := xb_in (i := 488) (by decide +kernel) rfl
theorem ks_X6_size : Cond.selects RX6 yX6_size yX6_size ∈ xb_tbl := xb_in (i := 489) (by decide +kernel) rfl
theorem kc_X6_size : Cond.code yX6_size cX6_size 1 (some .int) ∈ xb_tbl := xb_in (i := 490) (by decide +kernel) rfl
theorem ml_X1_151 : Cond.methodLink RX1 151 yX6_useAt ∈ xb_tbl := xb_in (i := 491) (by decide +kernel) rfl
theorem ml_X1_154 : Cond.methodLink RX1 154 yX6_numberAt ∈ xb_tbl := xb_in (i := 492) (by decide +kernel) rfl
theorem ml_X8_137 : Cond.methodLink RX8 137 yX1_writeAnew ∈ xb_tbl := xb_in (i := 493) (by decide +kernel) rfl
theorem ki_X1_writeAnew : Cond.instanceMethod yX1_writeAnew ∈ xb_tbl := xb_in (i := 494) (by decide +kernel) rfl
theorem ks_X1_writeAnew : Cond.selects RX1 yX1_writeAnew yX1_writeAnew ∈ xb_tbl := xb_in (i := 495) (by decide +kernel) rfl
theorem kc_X1_writeAnew : Cond.code yX1_writeAnew cX1_writeAnew 4 (some .int) ∈ xb_tbl := xb_in (i := 496) (by decide +kernel) rfl
theorem ml_X1_105 : Cond.methodLink RX1 105 yX0_clear ∈ xb_tbl := xb_in (i := 497) (by decide +kernel) rfl
theorem ki_X0_clear : Cond.instanceMethod yX0_clear ∈ xb_tbl := xb_in (i := 498) (by decide +kernel) rfl
theorem ks_X0_clear : Cond.selects RX0 yX0_clear yX0_clear ∈ xb_tbl := xb_in (i := 499) (by decide +kernel) rfl
theorem kc_X0_clear : Cond.code yX0_clear cX0_clear 1 none ∈ xb_tbl := xb_in (i := 500) (by decide +kernel) rfl
theorem ml_X0_28 : Cond.methodLink RX0 28 yJ7_fill_53178 ∈ xb_tbl := xb_in (i := 501) (by decide +kernel) rfl
theorem ml_X1_108 : Cond.methodLink RX1 108 yX0_size ∈ xb_tbl := xb_in (i := 502) (by decide +kernel) rfl
theorem ki_X0_size : Cond.instanceMethod yX0_size ∈ xb_tbl := xb_in (i := 503) (by decide +kernel) rfl
theorem ks_X0_size : Cond.selects RX0 yX0_size yX0_size ∈ xb_tbl := xb_in (i := 504) (by decide +kernel) rfl
theorem kc_X0_size : Cond.code yX0_size cX0_size 1 (some .int) ∈ xb_tbl := xb_in (i := 505) (by decide +kernel) rfl
theorem ml_X1_112 : Cond.methodLink RX1 112 yX0_write ∈ xb_tbl := xb_in (i := 506) (by decide +kernel) rfl
theorem ki_X0_write : Cond.instanceMethod yX0_write ∈ xb_tbl := xb_in (i := 507) (by decide +kernel) rfl
theorem ks_X0_write : Cond.selects RX0 yX0_write yX0_write ∈ xb_tbl := xb_in (i := 508) (by decide +kernel) rfl
theorem kc_X0_write : Cond.code yX0_write cX0_write 5 none ∈ xb_tbl := xb_in (i := 509) (by decide +kernel) rfl
theorem ml_X0_34 : Cond.methodLink RX0 34 yX6_size ∈ xb_tbl := xb_in (i := 510) (by decide +kernel) rfl
theorem ml_X0_39 : Cond.methodLink RX0 39 yX6_useAt ∈ xb_tbl := xb_in (i := 511) (by decide +kernel) rfl
theorem ml_X0_43 : Cond.methodLink RX0 43 yX6_numberAt ∈ xb_tbl := xb_in (i := 512) (by decide +kernel) rfl
theorem ml_X0_46 : Cond.methodLink RX0 46 yX0_put ∈ xb_tbl := xb_in (i := 513) (by decide +kernel) rfl
theorem ki_X0_put : Cond.instanceMethod yX0_put ∈ xb_tbl := xb_in (i := 515) (by decide +kernel) rfl
theorem kc_X0_put : Cond.code yX0_put cX0_put 4 none ∈ xb_tbl := xb_in (i := 516) (by decide +kernel) rfl
theorem ml_X0_50 : Cond.methodLink RX0 50 yX5_formOf ∈ xb_tbl := xb_in (i := 517) (by decide +kernel) rfl
theorem ml_X0_55 : Cond.methodLink RX0 55 yX0_putNumber ∈ xb_tbl := xb_in (i := 518) (by decide +kernel) rfl
theorem ki_X0_putNumber : Cond.instanceMethod yX0_putNumber ∈ xb_tbl := xb_in (i := 520) (by decide +kernel) rfl
theorem kc_X0_putNumber : Cond.code yX0_putNumber cX0_putNumber 5 none ∈ xb_tbl := xb_in (i := 521) (by decide +kernel) rfl
theorem ml_X0_75 : Cond.methodLink RX0 75 yX0_putUnary ∈ xb_tbl := xb_in (i := 522) (by decide +kernel) rfl
theorem ki_X0_putUnary : Cond.instanceMethod yX0_putUnary ∈ xb_tbl := xb_in (i := 524) (by decide +kernel) rfl
theorem kc_X0_putUnary : Cond.code yX0_putUnary cX0_putUnary 3 none ∈ xb_tbl := xb_in (i := 525) (by decide +kernel) rfl
theorem ml_X0_78 : Cond.methodLink RX0 78 yX0_putDoubled ∈ xb_tbl := xb_in (i := 526) (by decide +kernel) rfl
theorem ki_X0_putDoubled : Cond.instanceMethod yX0_putDoubled ∈ xb_tbl := xb_in (i := 528) (by decide +kernel) rfl
theorem kc_X0_putDoubled : Cond.code yX0_putDoubled cX0_putDoubled 4 none ∈ xb_tbl := xb_in (i := 529) (by decide +kernel) rfl
theorem mn_X0_81 : Cond.methodLinkNest RX0 81 yX8_digitsOf RX8 ∈ xb_tbl := xb_in (i := 530) (by decide +kernel) rfl
theorem ml_X0_84 : Cond.methodLink RX0 84 yX0_putLowest ∈ xb_tbl := xb_in (i := 531) (by decide +kernel) rfl
theorem ki_X0_putLowest : Cond.instanceMethod yX0_putLowest ∈ xb_tbl := xb_in (i := 533) (by decide +kernel) rfl
theorem kc_X0_putLowest : Cond.code yX0_putLowest cX0_putLowest 4 none ∈ xb_tbl := xb_in (i := 534) (by decide +kernel) rfl
theorem ml_L_72 : Cond.methodLink RL 72 yX8_told ∈ xb_tbl := xb_in (i := 535) (by decide +kernel) rfl
theorem ki_X8_told : Cond.instanceMethod yX8_told ∈ xb_tbl := xb_in (i := 536) (by decide +kernel) rfl
theorem ks_X8_told : Cond.selects RX8 yX8_told yX8_told ∈ xb_tbl := xb_in (i := 537) (by decide +kernel) rfl
theorem kc_X8_told : Cond.code yX8_told cX8_told 3 (some .int) ∈ xb_tbl := xb_in (i := 538) (by decide +kernel) rfl
theorem ml_X8_145 : Cond.methodLink RX8 145 yX1_kindOf ∈ xb_tbl := xb_in (i := 539) (by decide +kernel) rfl
theorem ml_X8_148 : Cond.methodLink RX8 148 yX1_distanceOf ∈ xb_tbl := xb_in (i := 540) (by decide +kernel) rfl
theorem ml_X8_151 : Cond.methodLink RX8 151 yX1_depthOf ∈ xb_tbl := xb_in (i := 541) (by decide +kernel) rfl
theorem ml_X8_154 : Cond.methodLink RX8 154 yX1_startOf ∈ xb_tbl := xb_in (i := 542) (by decide +kernel) rfl
theorem ki_X1_startOf : Cond.instanceMethod yX1_startOf ∈ xb_tbl := xb_in (i := 543) (by decide +kernel) rfl
theorem ks_X1_startOf : Cond.selects RX1 yX1_startOf yX1_startOf ∈ xb_tbl := xb_in (i := 544) (by decide +kernel) rfl
theorem kc_X1_startOf : Cond.code yX1_startOf cX1_startOf 2 (some .int) ∈ xb_tbl := xb_in (i := 545) (by decide +kernel) rfl
theorem ml_L_76 : Cond.methodLink RL 76 yX8_looked ∈ xb_tbl := xb_in (i := 546) (by decide +kernel) rfl
theorem ki_X8_looked : Cond.instanceMethod yX8_looked ∈ xb_tbl := xb_in (i := 547) (by decide +kernel) rfl
theorem ks_X8_looked : Cond.selects RX8 yX8_looked yX8_looked ∈ xb_tbl := xb_in (i := 548) (by decide +kernel) rfl
theorem kc_X8_looked : Cond.code yX8_looked cX8_looked 2 (some .int) ∈ xb_tbl := xb_in (i := 549) (by decide +kernel) rfl
theorem ml_X8_157 : Cond.methodLink RX8 157 yX1_bitsToRead ∈ xb_tbl := xb_in (i := 550) (by decide +kernel) rfl
theorem ki_X1_bitsToRead : Cond.instanceMethod yX1_bitsToRead ∈ xb_tbl := xb_in (i := 551) (by decide +kernel) rfl
theorem ks_X1_bitsToRead : Cond.selects RX1 yX1_bitsToRead yX1_bitsToRead ∈ xb_tbl := xb_in (i := 552) (by decide +kernel) rfl
theorem kc_X1_bitsToRead : Cond.code yX1_bitsToRead cX1_bitsToRead 5 (some .int) ∈ xb_tbl := xb_in (i := 553) (by decide +kernel) rfl
theorem ml_X1_122 : Cond.methodLink RX1 122 yX1_startOf ∈ xb_tbl := xb_in (i := 554) (by decide +kernel) rfl
theorem ml_X1_125 : Cond.methodLink RX1 125 yJ9_floorMod_7cf53 ∈ xb_tbl := xb_in (i := 555) (by decide +kernel) rfl
theorem kt_J9_floorMod_7cf53 : Cond.static yJ9_floorMod_7cf53 ∈ xb_tbl := xb_in (i := 556) (by decide +kernel) rfl
theorem kc_J9_floorMod_7cf53 : Cond.code yJ9_floorMod_7cf53 cJ9_floorMod_7cf53 3 (some .int) ∈ xb_tbl := xb_in (i := 557) (by decide +kernel) rfl
theorem ml_L_81 : Cond.methodLink RL 81 yX8_would ∈ xb_tbl := xb_in (i := 558) (by decide +kernel) rfl
theorem ki_X8_would : Cond.instanceMethod yX8_would ∈ xb_tbl := xb_in (i := 559) (by decide +kernel) rfl
theorem ks_X8_would : Cond.selects RX8 yX8_would yX8_would ∈ xb_tbl := xb_in (i := 560) (by decide +kernel) rfl
theorem kc_X8_would : Cond.code yX8_would cX8_would 3 (some .int) ∈ xb_tbl := xb_in (i := 561) (by decide +kernel) rfl
theorem ml_X8_160 : Cond.methodLink RX8 160 yX1_bitsOfUse ∈ xb_tbl := xb_in (i := 562) (by decide +kernel) rfl
theorem ki_X1_bitsOfUse : Cond.instanceMethod yX1_bitsOfUse ∈ xb_tbl := xb_in (i := 563) (by decide +kernel) rfl
theorem ks_X1_bitsOfUse : Cond.selects RX1 yX1_bitsOfUse yX1_bitsOfUse ∈ xb_tbl := xb_in (i := 564) (by decide +kernel) rfl
theorem kc_X1_bitsOfUse : Cond.code yX1_bitsOfUse cX1_bitsOfUse 5 (some .int) ∈ xb_tbl := xb_in (i := 565) (by decide +kernel) rfl
theorem mn_X1_116 : Cond.methodLinkNest RX1 116 yX8_bitsIn RX8 ∈ xb_tbl := xb_in (i := 566) (by decide +kernel) rfl
theorem ml_L_85 : Cond.methodLink RL 85 yX8_forms ∈ xb_tbl := xb_in (i := 567) (by decide +kernel) rfl
theorem ki_X8_forms : Cond.instanceMethod yX8_forms ∈ xb_tbl := xb_in (i := 568) (by decide +kernel) rfl
theorem ks_X8_forms : Cond.selects RX8 yX8_forms yX8_forms ∈ xb_tbl := xb_in (i := 569) (by decide +kernel) rfl
theorem kc_X8_forms : Cond.code yX8_forms cX8_forms 2 (some .int) ∈ xb_tbl := xb_in (i := 570) (by decide +kernel) rfl
theorem ml_X8_167 : Cond.methodLink RX8 167 yX1_cheapestForm ∈ xb_tbl := xb_in (i := 571) (by decide +kernel) rfl
theorem ki_X1_cheapestForm : Cond.instanceMethod yX1_cheapestForm ∈ xb_tbl := xb_in (i := 572) (by decide +kernel) rfl
theorem ks_X1_cheapestForm : Cond.selects RX1 yX1_cheapestForm yX1_cheapestForm ∈ xb_tbl := xb_in (i := 573) (by decide +kernel) rfl
theorem kc_X1_cheapestForm : Cond.code yX1_cheapestForm cX1_cheapestForm 4 (some .int) ∈ xb_tbl := xb_in (i := 574) (by decide +kernel) rfl
theorem ml_X1_119 : Cond.methodLink RX1 119 yX1_bitsOfUse ∈ xb_tbl := xb_in (i := 575) (by decide +kernel) rfl
theorem ml_L_89 : Cond.methodLink RL 89 yX8_best ∈ xb_tbl := xb_in (i := 576) (by decide +kernel) rfl
theorem ki_X8_best : Cond.instanceMethod yX8_best ∈ xb_tbl := xb_in (i := 577) (by decide +kernel) rfl
theorem ks_X8_best : Cond.selects RX8 yX8_best yX8_best ∈ xb_tbl := xb_in (i := 578) (by decide +kernel) rfl
theorem kc_X8_best : Cond.code yX8_best cX8_best 1 (some .int) ∈ xb_tbl := xb_in (i := 579) (by decide +kernel) rfl
theorem ml_X8_170 : Cond.methodLink RX8 170 yX2_leastSum ∈ xb_tbl := xb_in (i := 580) (by decide +kernel) rfl
theorem ki_X2_leastSum : Cond.instanceMethod yX2_leastSum ∈ xb_tbl := xb_in (i := 581) (by decide +kernel) rfl
theorem ks_X2_leastSum : Cond.selects RX2 yX2_leastSum yX2_leastSum ∈ xb_tbl := xb_in (i := 582) (by decide +kernel) rfl
theorem kc_X2_leastSum : Cond.code yX2_leastSum cX2_leastSum 8 (some .int) ∈ xb_tbl := xb_in (i := 583) (by decide +kernel) rfl
theorem ml_X2_25 : Cond.methodLink RX2 25 yJ7_fill_53178 ∈ xb_tbl := xb_in (i := 584) (by decide +kernel) rfl
theorem ml_X2_31 : Cond.methodLink RX2 31 yX5_valueOf ∈ xb_tbl := xb_in (i := 585) (by decide +kernel) rfl
theorem ml_X2_37 : Cond.methodLink RX2 37 yX2_bitsAlone ∈ xb_tbl := xb_in (i := 586) (by decide +kernel) rfl
theorem kt_X2_bitsAlone : Cond.static yX2_bitsAlone ∈ xb_tbl := xb_in (i := 587) (by decide +kernel) rfl
theorem kc_X2_bitsAlone : Cond.code yX2_bitsAlone cX2_bitsAlone 6 (some .int) ∈ xb_tbl := xb_in (i := 588) (by decide +kernel) rfl
theorem kk_X2_62 : Cond.constant RX2 62 (1000000) ∈ xb_tbl := xb_in (i := 589) (by decide +kernel) rfl
theorem mn_X2_63 : Cond.methodLinkNest RX2 63 yX8_isCopy RX8 ∈ xb_tbl := xb_in (i := 590) (by decide +kernel) rfl
theorem ml_X2_67 : Cond.methodLink RX2 67 yX6_bitsToTell ∈ xb_tbl := xb_in (i := 591) (by decide +kernel) rfl
theorem ml_X2_53 : Cond.methodLink RX2 53 yJ9_min_7cf53 ∈ xb_tbl := xb_in (i := 592) (by decide +kernel) rfl
theorem ml_X2_41 : Cond.methodLink RX2 41 yX2_belowOf ∈ xb_tbl := xb_in (i := 593) (by decide +kernel) rfl
theorem ki_X2_belowOf : Cond.instanceMethod yX2_belowOf ∈ xb_tbl := xb_in (i := 595) (by decide +kernel) rfl
theorem kc_X2_belowOf : Cond.code yX2_belowOf cX2_belowOf 3 (some .int) ∈ xb_tbl := xb_in (i := 596) (by decide +kernel) rfl
theorem mn_X2_58 : Cond.methodLinkNest RX2 58 yX8_element RX8 ∈ xb_tbl := xb_in (i := 597) (by decide +kernel) rfl
theorem ml_X2_45 : Cond.methodLink RX2 45 yX2_findCopy ∈ xb_tbl := xb_in (i := 598) (by decide +kernel) rfl
theorem ki_X2_findCopy : Cond.instanceMethod yX2_findCopy ∈ xb_tbl := xb_in (i := 600) (by decide +kernel) rfl
theorem kc_X2_findCopy : Cond.code yX2_findCopy cX2_findCopy 9 none ∈ xb_tbl := xb_in (i := 601) (by decide +kernel) rfl
theorem ml_X2_49 : Cond.methodLink RX2 49 yX2_hang ∈ xb_tbl := xb_in (i := 602) (by decide +kernel) rfl
theorem ki_X2_hang : Cond.instanceMethod yX2_hang ∈ xb_tbl := xb_in (i := 604) (by decide +kernel) rfl
theorem kc_X2_hang : Cond.code yX2_hang cX2_hang 7 none ∈ xb_tbl := xb_in (i := 605) (by decide +kernel) rfl
theorem ml_L_93 : Cond.methodLink RL 93 yX8_bit ∈ xb_tbl := xb_in (i := 606) (by decide +kernel) rfl
theorem ki_X8_bit : Cond.instanceMethod yX8_bit ∈ xb_tbl := xb_in (i := 607) (by decide +kernel) rfl
theorem ks_X8_bit : Cond.selects RX8 yX8_bit yX8_bit ∈ xb_tbl := xb_in (i := 608) (by decide +kernel) rfl
theorem kc_X8_bit : Cond.code yX8_bit cX8_bit 2 (some .int) ∈ xb_tbl := xb_in (i := 609) (by decide +kernel) rfl
theorem ml_X8_174 : Cond.methodLink RX8 174 yX1_bits ∈ xb_tbl := xb_in (i := 610) (by decide +kernel) rfl
theorem ki_X1_bits : Cond.instanceMethod yX1_bits ∈ xb_tbl := xb_in (i := 611) (by decide +kernel) rfl
theorem ks_X1_bits : Cond.selects RX1 yX1_bits yX1_bits ∈ xb_tbl := xb_in (i := 612) (by decide +kernel) rfl
theorem kc_X1_bits : Cond.code yX1_bits cX1_bits 1 (some (.object "NeighbourBook$Bits")) ∈ xb_tbl := xb_in (i := 613) (by decide +kernel) rfl
theorem ml_X8_178 : Cond.methodLink RX8 178 yX0_bitNow ∈ xb_tbl := xb_in (i := 614) (by decide +kernel) rfl
theorem ki_X0_bitNow : Cond.instanceMethod yX0_bitNow ∈ xb_tbl := xb_in (i := 615) (by decide +kernel) rfl
theorem ks_X0_bitNow : Cond.selects RX0 yX0_bitNow yX0_bitNow ∈ xb_tbl := xb_in (i := 616) (by decide +kernel) rfl
theorem kc_X0_bitNow : Cond.code yX0_bitNow cX0_bitNow 2 (some .int) ∈ xb_tbl := xb_in (i := 617) (by decide +kernel) rfl
theorem mn_X0_59 : Cond.methodLinkNest RX0 59 yX8_isBelow RX8 ∈ xb_tbl := xb_in (i := 618) (by decide +kernel) rfl
theorem ml_X0_63 : Cond.methodLink RX0 63 yX0_bitOf ∈ xb_tbl := xb_in (i := 619) (by decide +kernel) rfl
theorem kt_X0_bitOf : Cond.static yX0_bitOf ∈ xb_tbl := xb_in (i := 620) (by decide +kernel) rfl
theorem kc_X0_bitOf : Cond.code yX0_bitOf cX0_bitOf 2 (some .int) ∈ xb_tbl := xb_in (i := 621) (by decide +kernel) rfl
theorem mn_X0_72 : Cond.methodLinkNest RX0 72 yX8_element RX8 ∈ xb_tbl := xb_in (i := 622) (by decide +kernel) rfl
theorem ml_L_97 : Cond.methodLink RL 97 yX8_place ∈ xb_tbl := xb_in (i := 623) (by decide +kernel) rfl
theorem ki_X8_place : Cond.instanceMethod yX8_place ∈ xb_tbl := xb_in (i := 624) (by decide +kernel) rfl
theorem ks_X8_place : Cond.selects RX8 yX8_place yX8_place ∈ xb_tbl := xb_in (i := 625) (by decide +kernel) rfl
theorem kc_X8_place : Cond.code yX8_place cX8_place 2 (some .int) ∈ xb_tbl := xb_in (i := 626) (by decide +kernel) rfl
theorem ml_X8_183 : Cond.methodLink RX8 183 yX1_placeCount ∈ xb_tbl := xb_in (i := 627) (by decide +kernel) rfl
theorem ki_X1_placeCount : Cond.instanceMethod yX1_placeCount ∈ xb_tbl := xb_in (i := 628) (by decide +kernel) rfl
theorem ks_X1_placeCount : Cond.selects RX1 yX1_placeCount yX1_placeCount ∈ xb_tbl := xb_in (i := 629) (by decide +kernel) rfl
theorem kc_X1_placeCount : Cond.code yX1_placeCount cX1_placeCount 1 (some .int) ∈ xb_tbl := xb_in (i := 630) (by decide +kernel) rfl
theorem ml_X8_187 : Cond.methodLink RX8 187 yX1_placeStart ∈ xb_tbl := xb_in (i := 631) (by decide +kernel) rfl
theorem ki_X1_placeStart : Cond.instanceMethod yX1_placeStart ∈ xb_tbl := xb_in (i := 632) (by decide +kernel) rfl
theorem ks_X1_placeStart : Cond.selects RX1 yX1_placeStart yX1_placeStart ∈ xb_tbl := xb_in (i := 633) (by decide +kernel) rfl
theorem kc_X1_placeStart : Cond.code yX1_placeStart cX1_placeStart 2 (some .int) ∈ xb_tbl := xb_in (i := 634) (by decide +kernel) rfl
theorem ml_L_101 : Cond.methodLink RL 101 yX8_sum ∈ xb_tbl := xb_in (i := 635) (by decide +kernel) rfl
theorem ki_X8_sum : Cond.instanceMethod yX8_sum ∈ xb_tbl := xb_in (i := 636) (by decide +kernel) rfl
theorem ks_X8_sum : Cond.selects RX8 yX8_sum yX8_sum ∈ xb_tbl := xb_in (i := 637) (by decide +kernel) rfl
theorem kc_X8_sum : Cond.code yX8_sum cX8_sum 1 (some .long) ∈ xb_tbl := xb_in (i := 638) (by decide +kernel) rfl
theorem ml_X8_190 : Cond.methodLink RX8 190 yX0_hash ∈ xb_tbl := xb_in (i := 639) (by decide +kernel) rfl
theorem ki_X0_hash : Cond.instanceMethod yX0_hash ∈ xb_tbl := xb_in (i := 640) (by decide +kernel) rfl
theorem ks_X0_hash : Cond.selects RX0 yX0_hash yX0_hash ∈ xb_tbl := xb_in (i := 641) (by decide +kernel) rfl
theorem kc_X0_hash : Cond.code yX0_hash cX0_hash 4 (some .long) ∈ xb_tbl := xb_in (i := 642) (by decide +kernel) rfl
theorem ml_X0_67 : Cond.methodLink RX0 67 yX0_byteCount ∈ xb_tbl := xb_in (i := 643) (by decide +kernel) rfl
theorem ki_X0_byteCount : Cond.instanceMethod yX0_byteCount ∈ xb_tbl := xb_in (i := 644) (by decide +kernel) rfl
theorem ks_X0_byteCount : Cond.selects RX0 yX0_byteCount yX0_byteCount ∈ xb_tbl := xb_in (i := 645) (by decide +kernel) rfl
theorem kc_X0_byteCount : Cond.code yX0_byteCount cX0_byteCount 1 (some .int) ∈ xb_tbl := xb_in (i := 646) (by decide +kernel) rfl
theorem kl_X0_70 : Cond.constantLong RX0 70 (33) ∈ xb_tbl := xb_in (i := 647) (by decide +kernel) rfl
theorem kl_X8_194 : Cond.constantLong RX8 194 (-3) ∈ xb_tbl := xb_in (i := 648) (by decide +kernel) rfl
theorem ml_L_106 : Cond.methodLink RL 106 yX8_alter ∈ xb_tbl := xb_in (i := 649) (by decide +kernel) rfl
theorem ki_X8_alter : Cond.instanceMethod yX8_alter ∈ xb_tbl := xb_in (i := 650) (by decide +kernel) rfl
theorem ks_X8_alter : Cond.selects RX8 yX8_alter yX8_alter ∈ xb_tbl := xb_in (i := 651) (by decide +kernel) rfl
theorem kc_X8_alter : Cond.code yX8_alter cX8_alter 3 (some .int) ∈ xb_tbl := xb_in (i := 652) (by decide +kernel) rfl
theorem ml_X8_196 : Cond.methodLink RX8 196 yX0_byteCount ∈ xb_tbl := xb_in (i := 653) (by decide +kernel) rfl
theorem ml_X8_199 : Cond.methodLink RX8 199 yX0_turn ∈ xb_tbl := xb_in (i := 654) (by decide +kernel) rfl
theorem ki_X0_turn : Cond.instanceMethod yX0_turn ∈ xb_tbl := xb_in (i := 655) (by decide +kernel) rfl
theorem ks_X0_turn : Cond.selects RX0 yX0_turn yX0_turn ∈ xb_tbl := xb_in (i := 656) (by decide +kernel) rfl
theorem kc_X0_turn : Cond.code yX0_turn cX0_turn 3 (some .int) ∈ xb_tbl := xb_in (i := 657) (by decide +kernel) rfl
theorem ml_L_110 : Cond.methodLink RL 110 yX8_judge ∈ xb_tbl := xb_in (i := 658) (by decide +kernel) rfl
theorem ki_X8_judge : Cond.instanceMethod yX8_judge ∈ xb_tbl := xb_in (i := 659) (by decide +kernel) rfl
theorem ks_X8_judge : Cond.selects RX8 yX8_judge yX8_judge ∈ xb_tbl := xb_in (i := 660) (by decide +kernel) rfl
theorem kc_X8_judge : Cond.code yX8_judge cX8_judge 1 (some .int) ∈ xb_tbl := xb_in (i := 661) (by decide +kernel) rfl
theorem ml_X8_202 : Cond.methodLink RX8 202 yX1_firstSpoiled ∈ xb_tbl := xb_in (i := 662) (by decide +kernel) rfl
theorem ki_X1_firstSpoiled : Cond.instanceMethod yX1_firstSpoiled ∈ xb_tbl := xb_in (i := 663) (by decide +kernel) rfl
theorem ks_X1_firstSpoiled : Cond.selects RX1 yX1_firstSpoiled yX1_firstSpoiled ∈ xb_tbl := xb_in (i := 664) (by decide +kernel) rfl
theorem kc_X1_firstSpoiled : Cond.code yX1_firstSpoiled cX1_firstSpoiled 3 (some .int) ∈ xb_tbl := xb_in (i := 665) (by decide +kernel) rfl
theorem ml_X1_132 : Cond.methodLink RX1 132 yX0_firstTurned ∈ xb_tbl := xb_in (i := 666) (by decide +kernel) rfl
theorem ki_X0_firstTurned : Cond.instanceMethod yX0_firstTurned ∈ xb_tbl := xb_in (i := 667) (by decide +kernel) rfl
theorem ks_X0_firstTurned : Cond.selects RX0 yX0_firstTurned yX0_firstTurned ∈ xb_tbl := xb_in (i := 668) (by decide +kernel) rfl
theorem kc_X0_firstTurned : Cond.code yX0_firstTurned cX0_firstTurned 2 (some .int) ∈ xb_tbl := xb_in (i := 669) (by decide +kernel) rfl
theorem ml_L_114 : Cond.methodLink RL 114 yX8_order ∈ xb_tbl := xb_in (i := 670) (by decide +kernel) rfl
theorem ki_X8_order : Cond.instanceMethod yX8_order ∈ xb_tbl := xb_in (i := 671) (by decide +kernel) rfl
theorem ks_X8_order : Cond.selects RX8 yX8_order yX8_order ∈ xb_tbl := xb_in (i := 672) (by decide +kernel) rfl
theorem kc_X8_order : Cond.code yX8_order cX8_order 3 (some .int) ∈ xb_tbl := xb_in (i := 673) (by decide +kernel) rfl
theorem ml_X8_205 : Cond.methodLink RX8 205 yX3_arrange ∈ xb_tbl := xb_in (i := 674) (by decide +kernel) rfl
theorem ki_X3_arrange : Cond.instanceMethod yX3_arrange ∈ xb_tbl := xb_in (i := 675) (by decide +kernel) rfl
theorem ks_X3_arrange : Cond.selects RX3 yX3_arrange yX3_arrange ∈ xb_tbl := xb_in (i := 676) (by decide +kernel) rfl
theorem kc_X3_arrange : Cond.code yX3_arrange cX3_arrange 6 none ∈ xb_tbl := xb_in (i := 677) (by decide +kernel) rfl
theorem ml_X3_22 : Cond.methodLink RX3 22 yX3_layLayers ∈ xb_tbl := xb_in (i := 678) (by decide +kernel) rfl
theorem ki_X3_layLayers : Cond.instanceMethod yX3_layLayers ∈ xb_tbl := xb_in (i := 680) (by decide +kernel) rfl
theorem kc_X3_layLayers : Cond.code yX3_layLayers cX3_layLayers 9 none ∈ xb_tbl := xb_in (i := 681) (by decide +kernel) rfl
theorem kl_X3_56 : Cond.constantLong RX3 56 (-1) ∈ xb_tbl := xb_in (i := 682) (by decide +kernel) rfl
theorem mn_X3_58 : Cond.methodLinkNest RX3 58 yX8_firstFrom RX8 ∈ xb_tbl := xb_in (i := 683) (by decide +kernel) rfl
theorem ml_X3_26 : Cond.methodLink RX3 26 yX4_rowOf ∈ xb_tbl := xb_in (i := 684) (by decide +kernel) rfl
theorem mn_X3_44 : Cond.methodLinkNest RX3 44 yX8_isIn RX8 ∈ xb_tbl := xb_in (i := 685) (by decide +kernel) rfl
theorem ml_X3_32 : Cond.methodLink RX3 32 yJ13_bitCount_95d88 ∈ xb_tbl := xb_in (i := 686) (by decide +kernel) rfl
theorem ml_X3_38 : Cond.methodLink RX3 38 yX3_leastKey ∈ xb_tbl := xb_in (i := 687) (by decide +kernel) rfl
theorem kt_X3_leastKey : Cond.static yX3_leastKey ∈ xb_tbl := xb_in (i := 688) (by decide +kernel) rfl
theorem kc_X3_leastKey : Cond.code yX3_leastKey cX3_leastKey 4 (some .int) ∈ xb_tbl := xb_in (i := 689) (by decide +kernel) rfl
theorem kk_X3_48 : Cond.constant RX3 48 (40503) ∈ xb_tbl := xb_in (i := 690) (by decide +kernel) rfl
theorem kk_X3_49 : Cond.constant RX3 49 (65535) ∈ xb_tbl := xb_in (i := 691) (by decide +kernel) rfl
theorem ml_X3_50 : Cond.methodLink RX3 50 yJ9_min_7cf53 ∈ xb_tbl := xb_in (i := 692) (by decide +kernel) rfl
theorem ml_X3_41 : Cond.methodLink RX3 41 yX3_layByKeys ∈ xb_tbl := xb_in (i := 693) (by decide +kernel) rfl
theorem ki_X3_layByKeys : Cond.instanceMethod yX3_layByKeys ∈ xb_tbl := xb_in (i := 695) (by decide +kernel) rfl
theorem kc_X3_layByKeys : Cond.code yX3_layByKeys cX3_layByKeys 3 none ∈ xb_tbl := xb_in (i := 696) (by decide +kernel) rfl
theorem mn_X3_18 : Cond.methodLinkNest RX3 18 yX8_element RX8 ∈ xb_tbl := xb_in (i := 697) (by decide +kernel) rfl
theorem ml_X8_209 : Cond.methodLink RX8 209 yX3_thingAtPlace ∈ xb_tbl := xb_in (i := 698) (by decide +kernel) rfl
theorem ki_X3_thingAtPlace : Cond.instanceMethod yX3_thingAtPlace ∈ xb_tbl := xb_in (i := 699) (by decide +kernel) rfl
theorem ks_X3_thingAtPlace : Cond.selects RX3 yX3_thingAtPlace yX3_thingAtPlace ∈ xb_tbl := xb_in (i := 700) (by decide +kernel) rfl
theorem kc_X3_thingAtPlace : Cond.code yX3_thingAtPlace cX3_thingAtPlace 2 (some .int) ∈ xb_tbl := xb_in (i := 701) (by decide +kernel) rfl
theorem ml_L_118 : Cond.methodLink RL 118 yX8_renumber ∈ xb_tbl := xb_in (i := 702) (by decide +kernel) rfl
theorem ki_X8_renumber : Cond.instanceMethod yX8_renumber ∈ xb_tbl := xb_in (i := 703) (by decide +kernel) rfl
theorem ks_X8_renumber : Cond.selects RX8 yX8_renumber yX8_renumber ∈ xb_tbl := xb_in (i := 704) (by decide +kernel) rfl
theorem kc_X8_renumber : Cond.code yX8_renumber cX8_renumber 2 (some .int) ∈ xb_tbl := xb_in (i := 705) (by decide +kernel) rfl
theorem ml_X8_212 : Cond.methodLink RX8 212 yX4_renumberBy ∈ xb_tbl := xb_in (i := 706) (by decide +kernel) rfl
theorem ki_X4_renumberBy : Cond.instanceMethod yX4_renumberBy ∈ xb_tbl := xb_in (i := 707) (by decide +kernel) rfl
theorem ks_X4_renumberBy : Cond.selects RX4 yX4_renumberBy yX4_renumberBy ∈ xb_tbl := xb_in (i := 708) (by decide +kernel) rfl
theorem kc_X4_renumberBy : Cond.code yX4_renumberBy cX4_renumberBy 8 none ∈ xb_tbl := xb_in (i := 709) (by decide +kernel) rfl
theorem ml_X4_36 : Cond.methodLink RX4 36 yX3_thingAtPlace ∈ xb_tbl := xb_in (i := 710) (by decide +kernel) rfl
theorem ml_X8_216 : Cond.methodLink RX8 216 yX1_forget ∈ xb_tbl := xb_in (i := 711) (by decide +kernel) rfl
theorem ki_X1_forget : Cond.instanceMethod yX1_forget ∈ xb_tbl := xb_in (i := 712) (by decide +kernel) rfl
theorem ks_X1_forget : Cond.selects RX1 yX1_forget yX1_forget ∈ xb_tbl := xb_in (i := 713) (by decide +kernel) rfl
theorem kc_X1_forget : Cond.code yX1_forget cX1_forget 1 none ∈ xb_tbl := xb_in (i := 714) (by decide +kernel) rfl
theorem ml_X8_219 : Cond.methodLink RX8 219 yX4_countToLesser ∈ xb_tbl := xb_in (i := 715) (by decide +kernel) rfl
theorem ki_X4_countToLesser : Cond.instanceMethod yX4_countToLesser ∈ xb_tbl := xb_in (i := 716) (by decide +kernel) rfl
theorem ks_X4_countToLesser : Cond.selects RX4 yX4_countToLesser yX4_countToLesser ∈ xb_tbl := xb_in (i := 717) (by decide +kernel) rfl
theorem kc_X4_countToLesser : Cond.code yX4_countToLesser cX4_countToLesser 3 (some .int) ∈ xb_tbl := xb_in (i := 718) (by decide +kernel) rfl
theorem ml_L_122 : Cond.methodLink RL 122 yX8_threes ∈ xb_tbl := xb_in (i := 719) (by decide +kernel) rfl
theorem ki_X8_threes : Cond.instanceMethod yX8_threes ∈ xb_tbl := xb_in (i := 720) (by decide +kernel) rfl
theorem ks_X8_threes : Cond.selects RX8 yX8_threes yX8_threes ∈ xb_tbl := xb_in (i := 721) (by decide +kernel) rfl
theorem kc_X8_threes : Cond.code yX8_threes cX8_threes 1 (some .int) ∈ xb_tbl := xb_in (i := 722) (by decide +kernel) rfl
theorem ml_X8_222 : Cond.methodLink RX8 222 yX7_countThrees ∈ xb_tbl := xb_in (i := 723) (by decide +kernel) rfl
theorem ki_X7_countThrees : Cond.instanceMethod yX7_countThrees ∈ xb_tbl := xb_in (i := 724) (by decide +kernel) rfl
theorem ks_X7_countThrees : Cond.selects RX7 yX7_countThrees yX7_countThrees ∈ xb_tbl := xb_in (i := 725) (by decide +kernel) rfl
theorem kc_X7_countThrees : Cond.code yX7_countThrees cX7_countThrees 7 (some .int) ∈ xb_tbl := xb_in (i := 726) (by decide +kernel) rfl
theorem ml_X7_15 : Cond.methodLink RX7 15 yX7_findNear ∈ xb_tbl := xb_in (i := 727) (by decide +kernel) rfl
theorem ki_X7_findNear : Cond.instanceMethod yX7_findNear ∈ xb_tbl := xb_in (i := 729) (by decide +kernel) rfl
theorem kc_X7_findNear : Cond.code yX7_findNear cX7_findNear 3 none ∈ xb_tbl := xb_in (i := 730) (by decide +kernel) rfl
theorem ml_X7_41 : Cond.methodLink RX7 41 yX4_rowOf ∈ xb_tbl := xb_in (i := 731) (by decide +kernel) rfl
theorem ml_X7_44 : Cond.methodLink RX7 44 yX4_columnOf ∈ xb_tbl := xb_in (i := 732) (by decide +kernel) rfl
theorem kl_X7_23 : Cond.constantLong RX7 23 (-1) ∈ xb_tbl := xb_in (i := 733) (by decide +kernel) rfl
theorem mn_X7_19 : Cond.methodLinkNest RX7 19 yX8_isIn RX8 ∈ xb_tbl := xb_in (i := 734) (by decide +kernel) rfl
theorem ml_X7_25 : Cond.methodLink RX7 25 yJ13_bitCount_95d88 ∈ xb_tbl := xb_in (i := 735) (by decide +kernel) rfl
theorem ml_L_126 : Cond.methodLink RL 126 yX8_parts ∈ xb_tbl := xb_in (i := 736) (by decide +kernel) rfl
theorem ki_X8_parts : Cond.instanceMethod yX8_parts ∈ xb_tbl := xb_in (i := 737) (by decide +kernel) rfl
theorem ks_X8_parts : Cond.selects RX8 yX8_parts yX8_parts ∈ xb_tbl := xb_in (i := 738) (by decide +kernel) rfl
theorem kc_X8_parts : Cond.code yX8_parts cX8_parts 2 (some .int) ∈ xb_tbl := xb_in (i := 739) (by decide +kernel) rfl
theorem ml_X8_225 : Cond.methodLink RX8 225 yX7_countParts ∈ xb_tbl := xb_in (i := 740) (by decide +kernel) rfl
theorem ki_X7_countParts : Cond.instanceMethod yX7_countParts ∈ xb_tbl := xb_in (i := 741) (by decide +kernel) rfl
theorem ks_X7_countParts : Cond.selects RX7 yX7_countParts yX7_countParts ∈ xb_tbl := xb_in (i := 742) (by decide +kernel) rfl
theorem kc_X7_countParts : Cond.code yX7_countParts cX7_countParts 6 (some .int) ∈ xb_tbl := xb_in (i := 743) (by decide +kernel) rfl
theorem ml_X7_31 : Cond.methodLink RX7 31 yX7_partOf ∈ xb_tbl := xb_in (i := 744) (by decide +kernel) rfl
theorem ki_X7_partOf : Cond.instanceMethod yX7_partOf ∈ xb_tbl := xb_in (i := 746) (by decide +kernel) rfl
theorem kc_X7_partOf : Cond.code yX7_partOf cX7_partOf 8 (some .long) ∈ xb_tbl := xb_in (i := 747) (by decide +kernel) rfl
theorem ml_X8_228 : Cond.methodLink RX8 228 yX7_sizeOfPart ∈ xb_tbl := xb_in (i := 748) (by decide +kernel) rfl
theorem ki_X7_sizeOfPart : Cond.instanceMethod yX7_sizeOfPart ∈ xb_tbl := xb_in (i := 749) (by decide +kernel) rfl
theorem ks_X7_sizeOfPart : Cond.selects RX7 yX7_sizeOfPart yX7_sizeOfPart ∈ xb_tbl := xb_in (i := 750) (by decide +kernel) rfl
theorem kc_X7_sizeOfPart : Cond.code yX7_sizeOfPart cX7_sizeOfPart 3 (some .int) ∈ xb_tbl := xb_in (i := 751) (by decide +kernel) rfl
theorem ml_L_130 : Cond.methodLink RL 130 yX8_far ∈ xb_tbl := xb_in (i := 752) (by decide +kernel) rfl
theorem ki_X8_far : Cond.instanceMethod yX8_far ∈ xb_tbl := xb_in (i := 753) (by decide +kernel) rfl
theorem ks_X8_far : Cond.selects RX8 yX8_far yX8_far ∈ xb_tbl := xb_in (i := 754) (by decide +kernel) rfl
theorem kc_X8_far : Cond.code yX8_far cX8_far 3 (some .int) ∈ xb_tbl := xb_in (i := 755) (by decide +kernel) rfl
theorem ml_X8_232 : Cond.methodLink RX8 232 yX7_stepsBetween ∈ xb_tbl := xb_in (i := 756) (by decide +kernel) rfl
theorem ki_X7_stepsBetween : Cond.instanceMethod yX7_stepsBetween ∈ xb_tbl := xb_in (i := 757) (by decide +kernel) rfl
theorem ks_X7_stepsBetween : Cond.selects RX7 yX7_stepsBetween yX7_stepsBetween ∈ xb_tbl := xb_in (i := 758) (by decide +kernel) rfl
theorem kc_X7_stepsBetween : Cond.code yX7_stepsBetween cX7_stepsBetween 10 (some .int) ∈ xb_tbl := xb_in (i := 759) (by decide +kernel) rfl
theorem ml_X7_35 : Cond.methodLink RX7 35 yX4_things ∈ xb_tbl := xb_in (i := 760) (by decide +kernel) rfl
theorem ki_X4_things : Cond.instanceMethod yX4_things ∈ xb_tbl := xb_in (i := 761) (by decide +kernel) rfl
theorem ks_X4_things : Cond.selects RX4 yX4_things yX4_things ∈ xb_tbl := xb_in (i := 762) (by decide +kernel) rfl
theorem kc_X4_things : Cond.code yX4_things cX4_things 1 (some .int) ∈ xb_tbl := xb_in (i := 763) (by decide +kernel) rfl
theorem ml_L_134 : Cond.methodLink RL 134 yX8_count ∈ xb_tbl := xb_in (i := 764) (by decide +kernel) rfl
theorem ki_X8_count : Cond.instanceMethod yX8_count ∈ xb_tbl := xb_in (i := 765) (by decide +kernel) rfl
theorem ks_X8_count : Cond.selects RX8 yX8_count yX8_count ∈ xb_tbl := xb_in (i := 766) (by decide +kernel) rfl
theorem kc_X8_count : Cond.code yX8_count cX8_count 2 (some .int) ∈ xb_tbl := xb_in (i := 767) (by decide +kernel) rfl
theorem ml_X8_236 : Cond.methodLink RX8 236 yX4_things ∈ xb_tbl := xb_in (i := 768) (by decide +kernel) rfl
theorem ml_X8_239 : Cond.methodLink RX8 239 yX4_countAll ∈ xb_tbl := xb_in (i := 769) (by decide +kernel) rfl
theorem ki_X4_countAll : Cond.instanceMethod yX4_countAll ∈ xb_tbl := xb_in (i := 770) (by decide +kernel) rfl
theorem ks_X4_countAll : Cond.selects RX4 yX4_countAll yX4_countAll ∈ xb_tbl := xb_in (i := 771) (by decide +kernel) rfl
theorem kc_X4_countAll : Cond.code yX4_countAll cX4_countAll 3 (some .int) ∈ xb_tbl := xb_in (i := 772) (by decide +kernel) rfl
theorem ml_X8_242 : Cond.methodLink RX8 242 yX0_size ∈ xb_tbl := xb_in (i := 773) (by decide +kernel) rfl
theorem ml_X8_245 : Cond.methodLink RX8 245 yX1_copiedRows ∈ xb_tbl := xb_in (i := 774) (by decide +kernel) rfl
theorem ki_X1_copiedRows : Cond.instanceMethod yX1_copiedRows ∈ xb_tbl := xb_in (i := 775) (by decide +kernel) rfl
theorem ks_X1_copiedRows : Cond.selects RX1 yX1_copiedRows yX1_copiedRows ∈ xb_tbl := xb_in (i := 776) (by decide +kernel) rfl
theorem kc_X1_copiedRows : Cond.code yX1_copiedRows cX1_copiedRows 3 (some .int) ∈ xb_tbl := xb_in (i := 777) (by decide +kernel) rfl
theorem ml_X8_248 : Cond.methodLink RX8 248 yX1_greatestDepth ∈ xb_tbl := xb_in (i := 778) (by decide +kernel) rfl
theorem ki_X1_greatestDepth : Cond.instanceMethod yX1_greatestDepth ∈ xb_tbl := xb_in (i := 779) (by decide +kernel) rfl
theorem ks_X1_greatestDepth : Cond.selects RX1 yX1_greatestDepth yX1_greatestDepth ∈ xb_tbl := xb_in (i := 780) (by decide +kernel) rfl
theorem kc_X1_greatestDepth : Cond.code yX1_greatestDepth cX1_greatestDepth 3 (some .int) ∈ xb_tbl := xb_in (i := 781) (by decide +kernel) rfl
theorem ml_L_9 : Cond.methodLink RL 9 yL_cell ∈ xb_tbl := xb_in (i := 782) (by decide +kernel) rfl
theorem kt_L_cell : Cond.static yL_cell ∈ xb_tbl := xb_in (i := 783) (by decide +kernel) rfl
theorem kc_L_cell : Cond.code yL_cell cL_cell 2 (some .int) ∈ xb_tbl := xb_in (i := 784) (by decide +kernel) rfl
theorem cl_L_18 : Cond.classLink RL 18 RX9 ∈ xb_tbl := xb_in (i := 785) (by decide +kernel) rfl
theorem kv_X9 : Cond.instantiable RX9 35 ∈ xb_tbl := xb_in (i := 786) (by decide +kernel) rfl
theorem ml_L_20 : Cond.methodLink RL 20 yX9_init ∈ xb_tbl := xb_in (i := 787) (by decide +kernel) rfl
theorem ki_X9_init : Cond.instanceMethod yX9_init ∈ xb_tbl := xb_in (i := 788) (by decide +kernel) rfl
theorem kc_X9_init : Cond.code yX9_init cX9_init 3 none ∈ xb_tbl := xb_in (i := 789) (by decide +kernel) rfl
theorem ml_X9_7 : Cond.methodLink RX9 7 Lib.objectInit ∈ xb_tbl := xb_in (i := 790) (by decide +kernel) rfl
theorem fl_X9_1 : Cond.fieldLink RX9 1 RX9 "thrown" "I" ∈ xb_tbl := xb_in (i := 791) (by decide +kernel) rfl
theorem fl_X9_93 : Cond.fieldLink RX9 93 RX9 "n" "I" ∈ xb_tbl := xb_in (i := 792) (by decide +kernel) rfl
theorem fl_X9_13 : Cond.fieldLink RX9 13 RX9 "now" "[Z" ∈ xb_tbl := xb_in (i := 793) (by decide +kernel) rfl
theorem fl_X9_17 : Cond.fieldLink RX9 17 RX9 "packed" "[Z" ∈ xb_tbl := xb_in (i := 794) (by decide +kernel) rfl
theorem fl_X9_20 : Cond.fieldLink RX9 20 RX9 "turned" "[Z" ∈ xb_tbl := xb_in (i := 795) (by decide +kernel) rfl
theorem fl_X9_100 : Cond.fieldLink RX9 100 RX9 "isBook" "Z" ∈ xb_tbl := xb_in (i := 796) (by decide +kernel) rfl
theorem fl_X9_104 : Cond.fieldLink RX9 104 RX9 "patches" "I" ∈ xb_tbl := xb_in (i := 797) (by decide +kernel) rfl
theorem fl_X9_23 : Cond.fieldLink RX9 23 RX9 "forms" "[I" ∈ xb_tbl := xb_in (i := 798) (by decide +kernel) rfl
theorem fl_X9_27 : Cond.fieldLink RX9 27 RX9 "window" "I" ∈ xb_tbl := xb_in (i := 799) (by decide +kernel) rfl
theorem fl_X9_30 : Cond.fieldLink RX9 30 RX9 "chain" "I" ∈ xb_tbl := xb_in (i := 800) (by decide +kernel) rfl
theorem fl_X9_33 : Cond.fieldLink RX9 33 RX9 "step" "I" ∈ xb_tbl := xb_in (i := 801) (by decide +kernel) rfl
theorem fl_X9_36 : Cond.fieldLink RX9 36 RX9 "bits" "[I" ∈ xb_tbl := xb_in (i := 802) (by decide +kernel) rfl
theorem fl_X9_39 : Cond.fieldLink RX9 39 RX9 "written" "[I" ∈ xb_tbl := xb_in (i := 803) (by decide +kernel) rfl
theorem fl_X9_122 : Cond.fieldLink RX9 122 RX9 "size" "I" ∈ xb_tbl := xb_in (i := 804) (by decide +kernel) rfl
theorem fl_X9_42 : Cond.fieldLink RX9 42 RX9 "use" "[I" ∈ xb_tbl := xb_in (i := 805) (by decide +kernel) rfl
theorem fl_X9_45 : Cond.fieldLink RX9 45 RX9 "number" "[I" ∈ xb_tbl := xb_in (i := 806) (by decide +kernel) rfl
theorem fl_X9_139 : Cond.fieldLink RX9 139 RX9 "numbers" "I" ∈ xb_tbl := xb_in (i := 807) (by decide +kernel) rfl
theorem fl_X9_48 : Cond.fieldLink RX9 48 RX9 "list" "[I" ∈ xb_tbl := xb_in (i := 808) (by decide +kernel) rfl
theorem fl_X9_142 : Cond.fieldLink RX9 142 RX9 "listed" "I" ∈ xb_tbl := xb_in (i := 809) (by decide +kernel) rfl
theorem fl_X9_51 : Cond.fieldLink RX9 51 RX9 "other" "[I" ∈ xb_tbl := xb_in (i := 810) (by decide +kernel) rfl
theorem fl_X9_54 : Cond.fieldLink RX9 54 RX9 "blocks" "[I" ∈ xb_tbl := xb_in (i := 811) (by decide +kernel) rfl
theorem fl_X9_57 : Cond.fieldLink RX9 57 RX9 "kindOf" "[I" ∈ xb_tbl := xb_in (i := 812) (by decide +kernel) rfl
theorem fl_X9_60 : Cond.fieldLink RX9 60 RX9 "fromOf" "[I" ∈ xb_tbl := xb_in (i := 813) (by decide +kernel) rfl
theorem fl_X9_63 : Cond.fieldLink RX9 63 RX9 "depthOf" "[I" ∈ xb_tbl := xb_in (i := 814) (by decide +kernel) rfl
theorem fl_X9_66 : Cond.fieldLink RX9 66 RX9 "beginOf" "[I" ∈ xb_tbl := xb_in (i := 815) (by decide +kernel) rfl
theorem fl_X9_211 : Cond.fieldLink RX9 211 RX9 "packedStep" "I" ∈ xb_tbl := xb_in (i := 816) (by decide +kernel) rfl
theorem fl_X9_204 : Cond.fieldLink RX9 204 RX9 "bestBits" "I" ∈ xb_tbl := xb_in (i := 817) (by decide +kernel) rfl
theorem fl_X9_69 : Cond.fieldLink RX9 69 RX9 "own" "[I" ∈ xb_tbl := xb_in (i := 818) (by decide +kernel) rfl
theorem fl_X9_72 : Cond.fieldLink RX9 72 RX9 "copied" "[I" ∈ xb_tbl := xb_in (i := 819) (by decide +kernel) rfl
theorem fl_X9_75 : Cond.fieldLink RX9 75 RX9 "parent" "[I" ∈ xb_tbl := xb_in (i := 820) (by decide +kernel) rfl
theorem fl_X9_78 : Cond.fieldLink RX9 78 RX9 "least" "[I" ∈ xb_tbl := xb_in (i := 821) (by decide +kernel) rfl
theorem fl_X9_81 : Cond.fieldLink RX9 81 RX9 "place" "[I" ∈ xb_tbl := xb_in (i := 822) (by decide +kernel) rfl
theorem fl_X9_84 : Cond.fieldLink RX9 84 RX9 "isThere" "[Z" ∈ xb_tbl := xb_in (i := 823) (by decide +kernel) rfl
theorem fl_X9_87 : Cond.fieldLink RX9 87 RX9 "row" "[I" ∈ xb_tbl := xb_in (i := 824) (by decide +kernel) rfl
theorem fl_X9_90 : Cond.fieldLink RX9 90 RX9 "away" "[I" ∈ xb_tbl := xb_in (i := 825) (by decide +kernel) rfl
theorem ka_boolean : Cond.arrayClass .boolean ∈ xb_tbl := xb_in (i := 897) (by decide +kernel) rfl
theorem ml_L_25 : Cond.methodLink RL 25 yX9_pair ∈ xb_tbl := xb_in (i := 898) (by decide +kernel) rfl
theorem ki_X9_pair : Cond.instanceMethod yX9_pair ∈ xb_tbl := xb_in (i := 899) (by decide +kernel) rfl
theorem ks_X9_pair : Cond.selects RX9 yX9_pair yX9_pair ∈ xb_tbl := xb_in (i := 900) (by decide +kernel) rfl
theorem kc_X9_pair : Cond.code yX9_pair cX9_pair 3 (some .int) ∈ xb_tbl := xb_in (i := 901) (by decide +kernel) rfl
theorem ml_X9_107 : Cond.methodLink RX9 107 yX9_isThing ∈ xb_tbl := xb_in (i := 902) (by decide +kernel) rfl
theorem ki_X9_isThing : Cond.instanceMethod yX9_isThing ∈ xb_tbl := xb_in (i := 904) (by decide +kernel) rfl
theorem kc_X9_isThing : Cond.code yX9_isThing cX9_isThing 2 (some .boolean) ∈ xb_tbl := xb_in (i := 905) (by decide +kernel) rfl
theorem ml_X9_96 : Cond.methodLink RX9 96 yX9_in ∈ xb_tbl := xb_in (i := 906) (by decide +kernel) rfl
theorem kt_X9_in : Cond.static yX9_in ∈ xb_tbl := xb_in (i := 907) (by decide +kernel) rfl
theorem kc_X9_in : Cond.code yX9_in cX9_in 6 (some .boolean) ∈ xb_tbl := xb_in (i := 908) (by decide +kernel) rfl
theorem ml_X9_111 : Cond.methodLink RX9 111 yX9_turn ∈ xb_tbl := xb_in (i := 909) (by decide +kernel) rfl
theorem ki_X9_turn : Cond.instanceMethod yX9_turn ∈ xb_tbl := xb_in (i := 911) (by decide +kernel) rfl
theorem kc_X9_turn : Cond.code yX9_turn cX9_turn 6 (some .int) ∈ xb_tbl := xb_in (i := 912) (by decide +kernel) rfl
theorem ml_L_29 : Cond.methodLink RL 29 yX9_drop ∈ xb_tbl := xb_in (i := 913) (by decide +kernel) rfl
theorem ki_X9_drop : Cond.instanceMethod yX9_drop ∈ xb_tbl := xb_in (i := 914) (by decide +kernel) rfl
theorem ks_X9_drop : Cond.selects RX9 yX9_drop yX9_drop ∈ xb_tbl := xb_in (i := 915) (by decide +kernel) rfl
theorem kc_X9_drop : Cond.code yX9_drop cX9_drop 3 (some .int) ∈ xb_tbl := xb_in (i := 916) (by decide +kernel) rfl
theorem ml_L_33 : Cond.methodLink RL 33 yX9_has ∈ xb_tbl := xb_in (i := 917) (by decide +kernel) rfl
theorem ki_X9_has : Cond.instanceMethod yX9_has ∈ xb_tbl := xb_in (i := 918) (by decide +kernel) rfl
theorem ks_X9_has : Cond.selects RX9 yX9_has yX9_has ∈ xb_tbl := xb_in (i := 919) (by decide +kernel) rfl
theorem kc_X9_has : Cond.code yX9_has cX9_has 3 (some .int) ∈ xb_tbl := xb_in (i := 920) (by decide +kernel) rfl
theorem ml_L_37 : Cond.methodLink RL 37 yX9_next ∈ xb_tbl := xb_in (i := 921) (by decide +kernel) rfl
theorem ki_X9_next : Cond.instanceMethod yX9_next ∈ xb_tbl := xb_in (i := 922) (by decide +kernel) rfl
theorem ks_X9_next : Cond.selects RX9 yX9_next yX9_next ∈ xb_tbl := xb_in (i := 923) (by decide +kernel) rfl
theorem kc_X9_next : Cond.code yX9_next cX9_next 4 (some .int) ∈ xb_tbl := xb_in (i := 924) (by decide +kernel) rfl
theorem ml_L_41 : Cond.methodLink RL 41 yX9_degree ∈ xb_tbl := xb_in (i := 925) (by decide +kernel) rfl
theorem ki_X9_degree : Cond.instanceMethod yX9_degree ∈ xb_tbl := xb_in (i := 926) (by decide +kernel) rfl
theorem ks_X9_degree : Cond.selects RX9 yX9_degree yX9_degree ∈ xb_tbl := xb_in (i := 927) (by decide +kernel) rfl
theorem kc_X9_degree : Cond.code yX9_degree cX9_degree 5 (some .int) ∈ xb_tbl := xb_in (i := 928) (by decide +kernel) rfl
theorem ml_X9_115 : Cond.methodLink RX9 115 yX9_rowSize ∈ xb_tbl := xb_in (i := 929) (by decide +kernel) rfl
theorem ki_X9_rowSize : Cond.instanceMethod yX9_rowSize ∈ xb_tbl := xb_in (i := 931) (by decide +kernel) rfl
theorem kc_X9_rowSize : Cond.code yX9_rowSize cX9_rowSize 4 (some .int) ∈ xb_tbl := xb_in (i := 932) (by decide +kernel) rfl
theorem ml_L_45 : Cond.methodLink RL 45 yX9_meet ∈ xb_tbl := xb_in (i := 933) (by decide +kernel) rfl
theorem ki_X9_meet : Cond.instanceMethod yX9_meet ∈ xb_tbl := xb_in (i := 934) (by decide +kernel) rfl
theorem ks_X9_meet : Cond.selects RX9 yX9_meet yX9_meet ∈ xb_tbl := xb_in (i := 935) (by decide +kernel) rfl
theorem kc_X9_meet : Cond.code yX9_meet cX9_meet 5 (some .int) ∈ xb_tbl := xb_in (i := 936) (by decide +kernel) rfl
theorem ml_L_49 : Cond.methodLink RL 49 yX9_back ∈ xb_tbl := xb_in (i := 937) (by decide +kernel) rfl
theorem ki_X9_back : Cond.instanceMethod yX9_back ∈ xb_tbl := xb_in (i := 938) (by decide +kernel) rfl
theorem ks_X9_back : Cond.selects RX9 yX9_back yX9_back ∈ xb_tbl := xb_in (i := 939) (by decide +kernel) rfl
theorem kc_X9_back : Cond.code yX9_back cX9_back 5 (some .int) ∈ xb_tbl := xb_in (i := 940) (by decide +kernel) rfl
theorem ml_L_53 : Cond.methodLink RL 53 yX9_form ∈ xb_tbl := xb_in (i := 941) (by decide +kernel) rfl
theorem ki_X9_form : Cond.instanceMethod yX9_form ∈ xb_tbl := xb_in (i := 942) (by decide +kernel) rfl
theorem ks_X9_form : Cond.selects RX9 yX9_form yX9_form ∈ xb_tbl := xb_in (i := 943) (by decide +kernel) rfl
theorem kc_X9_form : Cond.code yX9_form cX9_form 4 (some .int) ∈ xb_tbl := xb_in (i := 944) (by decide +kernel) rfl
theorem kl_X9_183 : Cond.constantLong RX9 183 (7) ∈ xb_tbl := xb_in (i := 945) (by decide +kernel) rfl
theorem kl_X9_185 : Cond.constantLong RX9 185 (9) ∈ xb_tbl := xb_in (i := 946) (by decide +kernel) rfl
theorem ml_L_57 : Cond.methodLink RL 57 yX9_setting ∈ xb_tbl := xb_in (i := 947) (by decide +kernel) rfl
theorem ki_X9_setting : Cond.instanceMethod yX9_setting ∈ xb_tbl := xb_in (i := 948) (by decide +kernel) rfl
theorem ks_X9_setting : Cond.selects RX9 yX9_setting yX9_setting ∈ xb_tbl := xb_in (i := 949) (by decide +kernel) rfl
theorem kc_X9_setting : Cond.code yX9_setting cX9_setting 4 (some .int) ∈ xb_tbl := xb_in (i := 950) (by decide +kernel) rfl
theorem kl_X9_187 : Cond.constantLong RX9 187 (5) ∈ xb_tbl := xb_in (i := 951) (by decide +kernel) rfl
theorem ml_L_61 : Cond.methodLink RL 61 yX9_length ∈ xb_tbl := xb_in (i := 952) (by decide +kernel) rfl
theorem ki_X9_length : Cond.instanceMethod yX9_length ∈ xb_tbl := xb_in (i := 953) (by decide +kernel) rfl
theorem ks_X9_length : Cond.selects RX9 yX9_length yX9_length ∈ xb_tbl := xb_in (i := 954) (by decide +kernel) rfl
theorem kc_X9_length : Cond.code yX9_length cX9_length 3 (some .int) ∈ xb_tbl := xb_in (i := 955) (by decide +kernel) rfl
theorem kl_X9_189 : Cond.constantLong RX9 189 (100000) ∈ xb_tbl := xb_in (i := 956) (by decide +kernel) rfl
theorem ml_X9_171 : Cond.methodLink RX9 171 yX9_lengthIn ∈ xb_tbl := xb_in (i := 957) (by decide +kernel) rfl
theorem kt_X9_lengthIn : Cond.static yX9_lengthIn ∈ xb_tbl := xb_in (i := 958) (by decide +kernel) rfl
theorem kc_X9_lengthIn : Cond.code yX9_lengthIn cX9_lengthIn 3 (some .int) ∈ xb_tbl := xb_in (i := 959) (by decide +kernel) rfl
theorem ml_X9_119 : Cond.methodLink RX9 119 yX9_bitsOf ∈ xb_tbl := xb_in (i := 960) (by decide +kernel) rfl
theorem kt_X9_bitsOf : Cond.static yX9_bitsOf ∈ xb_tbl := xb_in (i := 961) (by decide +kernel) rfl
theorem kc_X9_bitsOf : Cond.code yX9_bitsOf cX9_bitsOf 3 (some .int) ∈ xb_tbl := xb_in (i := 962) (by decide +kernel) rfl
theorem ml_L_66 : Cond.methodLink RL 66 yX9_cost ∈ xb_tbl := xb_in (i := 963) (by decide +kernel) rfl
theorem ki_X9_cost : Cond.instanceMethod yX9_cost ∈ xb_tbl := xb_in (i := 964) (by decide +kernel) rfl
theorem ks_X9_cost : Cond.selects RX9 yX9_cost yX9_cost ∈ xb_tbl := xb_in (i := 965) (by decide +kernel) rfl
theorem kc_X9_cost : Cond.code yX9_cost cX9_cost 5 (some .int) ∈ xb_tbl := xb_in (i := 966) (by decide +kernel) rfl
theorem kl_X9_191 : Cond.constantLong RX9 191 (4) ∈ xb_tbl := xb_in (i := 967) (by decide +kernel) rfl
theorem ml_X9_193 : Cond.methodLink RX9 193 yX9_isSame ∈ xb_tbl := xb_in (i := 968) (by decide +kernel) rfl
theorem ki_X9_isSame : Cond.instanceMethod yX9_isSame ∈ xb_tbl := xb_in (i := 970) (by decide +kernel) rfl
theorem kc_X9_isSame : Cond.code yX9_isSame cX9_isSame 6 (some .boolean) ∈ xb_tbl := xb_in (i := 971) (by decide +kernel) rfl
theorem ml_X9_197 : Cond.methodLink RX9 197 yX9_bitsBy ∈ xb_tbl := xb_in (i := 972) (by decide +kernel) rfl
theorem ki_X9_bitsBy : Cond.instanceMethod yX9_bitsBy ∈ xb_tbl := xb_in (i := 974) (by decide +kernel) rfl
theorem kc_X9_bitsBy : Cond.code yX9_bitsBy cX9_bitsBy 5 (some .int) ∈ xb_tbl := xb_in (i := 975) (by decide +kernel) rfl
theorem ml_X9_175 : Cond.methodLink RX9 175 yX9_tell ∈ xb_tbl := xb_in (i := 976) (by decide +kernel) rfl
theorem ki_X9_tell : Cond.instanceMethod yX9_tell ∈ xb_tbl := xb_in (i := 978) (by decide +kernel) rfl
theorem kc_X9_tell : Cond.code yX9_tell cX9_tell 5 none ∈ xb_tbl := xb_in (i := 979) (by decide +kernel) rfl
theorem ml_X9_145 : Cond.methodLink RX9 145 yX9_say ∈ xb_tbl := xb_in (i := 980) (by decide +kernel) rfl
theorem ki_X9_say : Cond.instanceMethod yX9_say ∈ xb_tbl := xb_in (i := 982) (by decide +kernel) rfl
theorem kc_X9_say : Cond.code yX9_say cX9_say 3 none ∈ xb_tbl := xb_in (i := 983) (by decide +kernel) rfl
theorem ml_X9_157 : Cond.methodLink RX9 157 yX9_take ∈ xb_tbl := xb_in (i := 984) (by decide +kernel) rfl
theorem ki_X9_take : Cond.instanceMethod yX9_take ∈ xb_tbl := xb_in (i := 986) (by decide +kernel) rfl
theorem kc_X9_take : Cond.code yX9_take cX9_take 5 none ∈ xb_tbl := xb_in (i := 987) (by decide +kernel) rfl
theorem ml_X9_154 : Cond.methodLink RX9 154 yX9_tellPlain ∈ xb_tbl := xb_in (i := 988) (by decide +kernel) rfl
theorem ki_X9_tellPlain : Cond.instanceMethod yX9_tellPlain ∈ xb_tbl := xb_in (i := 990) (by decide +kernel) rfl
theorem kc_X9_tellPlain : Cond.code yX9_tellPlain cX9_tellPlain 3 none ∈ xb_tbl := xb_in (i := 991) (by decide +kernel) rfl
theorem ml_X9_148 : Cond.methodLink RX9 148 yX9_folded ∈ xb_tbl := xb_in (i := 992) (by decide +kernel) rfl
theorem kt_X9_folded : Cond.static yX9_folded ∈ xb_tbl := xb_in (i := 993) (by decide +kernel) rfl
theorem kc_X9_folded : Cond.code yX9_folded cX9_folded 1 (some .int) ∈ xb_tbl := xb_in (i := 994) (by decide +kernel) rfl
theorem ml_X9_161 : Cond.methodLink RX9 161 yX9_tellSpans ∈ xb_tbl := xb_in (i := 995) (by decide +kernel) rfl
theorem ki_X9_tellSpans : Cond.instanceMethod yX9_tellSpans ∈ xb_tbl := xb_in (i := 997) (by decide +kernel) rfl
theorem kc_X9_tellSpans : Cond.code yX9_tellSpans cX9_tellSpans 9 none ∈ xb_tbl := xb_in (i := 998) (by decide +kernel) rfl
theorem ml_X9_151 : Cond.methodLink RX9 151 yX9_runEnd ∈ xb_tbl := xb_in (i := 999) (by decide +kernel) rfl
theorem ki_X9_runEnd : Cond.instanceMethod yX9_runEnd ∈ xb_tbl := xb_in (i := 1001) (by decide +kernel) rfl
theorem kc_X9_runEnd : Cond.code yX9_runEnd cX9_runEnd 3 (some .int) ∈ xb_tbl := xb_in (i := 1002) (by decide +kernel) rfl
theorem ml_X9_164 : Cond.methodLink RX9 164 yX9_tellCopied ∈ xb_tbl := xb_in (i := 1003) (by decide +kernel) rfl
theorem ki_X9_tellCopied : Cond.instanceMethod yX9_tellCopied ∈ xb_tbl := xb_in (i := 1005) (by decide +kernel) rfl
theorem kc_X9_tellCopied : Cond.code yX9_tellCopied cX9_tellCopied 7 none ∈ xb_tbl := xb_in (i := 1006) (by decide +kernel) rfl
theorem ml_X9_167 : Cond.methodLink RX9 167 yX9_tellDense ∈ xb_tbl := xb_in (i := 1007) (by decide +kernel) rfl
theorem ki_X9_tellDense : Cond.instanceMethod yX9_tellDense ∈ xb_tbl := xb_in (i := 1009) (by decide +kernel) rfl
theorem kc_X9_tellDense : Cond.code yX9_tellDense cX9_tellDense 6 none ∈ xb_tbl := xb_in (i := 1010) (by decide +kernel) rfl
theorem ml_X9_179 : Cond.methodLink RX9 179 yX9_numbersBits ∈ xb_tbl := xb_in (i := 1011) (by decide +kernel) rfl
theorem ki_X9_numbersBits : Cond.instanceMethod yX9_numbersBits ∈ xb_tbl := xb_in (i := 1013) (by decide +kernel) rfl
theorem kc_X9_numbersBits : Cond.code yX9_numbersBits cX9_numbersBits 3 (some .int) ∈ xb_tbl := xb_in (i := 1014) (by decide +kernel) rfl
theorem ml_L_71 : Cond.methodLink RL 71 yX9_pack ∈ xb_tbl := xb_in (i := 1015) (by decide +kernel) rfl
theorem ki_X9_pack : Cond.instanceMethod yX9_pack ∈ xb_tbl := xb_in (i := 1016) (by decide +kernel) rfl
theorem ks_X9_pack : Cond.selects RX9 yX9_pack yX9_pack ∈ xb_tbl := xb_in (i := 1017) (by decide +kernel) rfl
theorem kc_X9_pack : Cond.code yX9_pack cX9_pack 2 (some .int) ∈ xb_tbl := xb_in (i := 1018) (by decide +kernel) rfl
theorem ml_X9_214 : Cond.methodLink RX9 214 yX9_choose ∈ xb_tbl := xb_in (i := 1019) (by decide +kernel) rfl
theorem ki_X9_choose : Cond.instanceMethod yX9_choose ∈ xb_tbl := xb_in (i := 1021) (by decide +kernel) rfl
theorem kc_X9_choose : Cond.code yX9_choose cX9_choose 5 none ∈ xb_tbl := xb_in (i := 1022) (by decide +kernel) rfl
theorem ml_X9_207 : Cond.methodLink RX9 207 yX9_consider ∈ xb_tbl := xb_in (i := 1023) (by decide +kernel) rfl
theorem ki_X9_consider : Cond.instanceMethod yX9_consider ∈ xb_tbl := xb_in (i := 1025) (by decide +kernel) rfl
theorem kc_X9_consider : Cond.code yX9_consider cX9_consider 6 none ∈ xb_tbl := xb_in (i := 1026) (by decide +kernel) rfl
theorem ml_X9_217 : Cond.methodLink RX9 217 yX9_writeRow ∈ xb_tbl := xb_in (i := 1027) (by decide +kernel) rfl
theorem ki_X9_writeRow : Cond.instanceMethod yX9_writeRow ∈ xb_tbl := xb_in (i := 1029) (by decide +kernel) rfl
theorem kc_X9_writeRow : Cond.code yX9_writeRow cX9_writeRow 3 none ∈ xb_tbl := xb_in (i := 1030) (by decide +kernel) rfl
theorem ml_X9_125 : Cond.methodLink RX9 125 yX9_putBit ∈ xb_tbl := xb_in (i := 1031) (by decide +kernel) rfl
theorem ki_X9_putBit : Cond.instanceMethod yX9_putBit ∈ xb_tbl := xb_in (i := 1033) (by decide +kernel) rfl
theorem kc_X9_putBit : Cond.code yX9_putBit cX9_putBit 2 none ∈ xb_tbl := xb_in (i := 1034) (by decide +kernel) rfl
theorem ml_X9_201 : Cond.methodLink RX9 201 yX9_putNumber ∈ xb_tbl := xb_in (i := 1035) (by decide +kernel) rfl
theorem ki_X9_putNumber : Cond.instanceMethod yX9_putNumber ∈ xb_tbl := xb_in (i := 1037) (by decide +kernel) rfl
theorem kc_X9_putNumber : Cond.code yX9_putNumber cX9_putNumber 4 none ∈ xb_tbl := xb_in (i := 1038) (by decide +kernel) rfl
theorem ml_X9_133 : Cond.methodLink RX9 133 yX9_putUnary ∈ xb_tbl := xb_in (i := 1039) (by decide +kernel) rfl
theorem ki_X9_putUnary : Cond.instanceMethod yX9_putUnary ∈ xb_tbl := xb_in (i := 1041) (by decide +kernel) rfl
theorem kc_X9_putUnary : Cond.code yX9_putUnary cX9_putUnary 3 none ∈ xb_tbl := xb_in (i := 1042) (by decide +kernel) rfl
theorem ml_X9_136 : Cond.methodLink RX9 136 yX9_putDoubled ∈ xb_tbl := xb_in (i := 1043) (by decide +kernel) rfl
theorem ki_X9_putDoubled : Cond.instanceMethod yX9_putDoubled ∈ xb_tbl := xb_in (i := 1045) (by decide +kernel) rfl
theorem kc_X9_putDoubled : Cond.code yX9_putDoubled cX9_putDoubled 4 none ∈ xb_tbl := xb_in (i := 1046) (by decide +kernel) rfl
theorem ml_X9_129 : Cond.methodLink RX9 129 yX9_putBits ∈ xb_tbl := xb_in (i := 1047) (by decide +kernel) rfl
theorem ki_X9_putBits : Cond.instanceMethod yX9_putBits ∈ xb_tbl := xb_in (i := 1049) (by decide +kernel) rfl
theorem kc_X9_putBits : Cond.code yX9_putBits cX9_putBits 4 none ∈ xb_tbl := xb_in (i := 1050) (by decide +kernel) rfl
theorem ml_X9_220 : Cond.methodLink RX9 220 yX9_closeBook ∈ xb_tbl := xb_in (i := 1051) (by decide +kernel) rfl
theorem ki_X9_closeBook : Cond.instanceMethod yX9_closeBook ∈ xb_tbl := xb_in (i := 1053) (by decide +kernel) rfl
theorem kc_X9_closeBook : Cond.code yX9_closeBook cX9_closeBook 2 none ∈ xb_tbl := xb_in (i := 1054) (by decide +kernel) rfl
theorem ml_L_75 : Cond.methodLink RL 75 yX9_told ∈ xb_tbl := xb_in (i := 1055) (by decide +kernel) rfl
theorem ki_X9_told : Cond.instanceMethod yX9_told ∈ xb_tbl := xb_in (i := 1056) (by decide +kernel) rfl
theorem ks_X9_told : Cond.selects RX9 yX9_told yX9_told ∈ xb_tbl := xb_in (i := 1057) (by decide +kernel) rfl
theorem kc_X9_told : Cond.code yX9_told cX9_told 3 (some .int) ∈ xb_tbl := xb_in (i := 1058) (by decide +kernel) rfl
theorem ml_L_80 : Cond.methodLink RL 80 yX9_looked ∈ xb_tbl := xb_in (i := 1059) (by decide +kernel) rfl
theorem ki_X9_looked : Cond.instanceMethod yX9_looked ∈ xb_tbl := xb_in (i := 1060) (by decide +kernel) rfl
theorem ks_X9_looked : Cond.selects RX9 yX9_looked yX9_looked ∈ xb_tbl := xb_in (i := 1061) (by decide +kernel) rfl
theorem kc_X9_looked : Cond.code yX9_looked cX9_looked 5 (some .int) ∈ xb_tbl := xb_in (i := 1062) (by decide +kernel) rfl
theorem ml_L_84 : Cond.methodLink RL 84 yX9_would ∈ xb_tbl := xb_in (i := 1063) (by decide +kernel) rfl
theorem ki_X9_would : Cond.instanceMethod yX9_would ∈ xb_tbl := xb_in (i := 1064) (by decide +kernel) rfl
theorem ks_X9_would : Cond.selects RX9 yX9_would yX9_would ∈ xb_tbl := xb_in (i := 1065) (by decide +kernel) rfl
theorem kc_X9_would : Cond.code yX9_would cX9_would 3 (some .int) ∈ xb_tbl := xb_in (i := 1066) (by decide +kernel) rfl
theorem ml_X9_223 : Cond.methodLink RX9 223 yX9_bitsOfUse ∈ xb_tbl := xb_in (i := 1067) (by decide +kernel) rfl
theorem ki_X9_bitsOfUse : Cond.instanceMethod yX9_bitsOfUse ∈ xb_tbl := xb_in (i := 1069) (by decide +kernel) rfl
theorem kc_X9_bitsOfUse : Cond.code yX9_bitsOfUse cX9_bitsOfUse 6 (some .int) ∈ xb_tbl := xb_in (i := 1070) (by decide +kernel) rfl
theorem ml_L_88 : Cond.methodLink RL 88 yX9_forms ∈ xb_tbl := xb_in (i := 1071) (by decide +kernel) rfl
theorem ki_X9_forms : Cond.instanceMethod yX9_forms ∈ xb_tbl := xb_in (i := 1072) (by decide +kernel) rfl
theorem ks_X9_forms : Cond.selects RX9 yX9_forms yX9_forms ∈ xb_tbl := xb_in (i := 1073) (by decide +kernel) rfl
theorem kc_X9_forms : Cond.code yX9_forms cX9_forms 4 (some .int) ∈ xb_tbl := xb_in (i := 1074) (by decide +kernel) rfl
theorem ml_L_92 : Cond.methodLink RL 92 yX9_best ∈ xb_tbl := xb_in (i := 1075) (by decide +kernel) rfl
theorem ki_X9_best : Cond.instanceMethod yX9_best ∈ xb_tbl := xb_in (i := 1076) (by decide +kernel) rfl
theorem ks_X9_best : Cond.selects RX9 yX9_best yX9_best ∈ xb_tbl := xb_in (i := 1077) (by decide +kernel) rfl
theorem kc_X9_best : Cond.code yX9_best cX9_best 7 (some .int) ∈ xb_tbl := xb_in (i := 1078) (by decide +kernel) rfl
theorem ml_X9_227 : Cond.methodLink RX9 227 yX9_weigh ∈ xb_tbl := xb_in (i := 1079) (by decide +kernel) rfl
theorem ki_X9_weigh : Cond.instanceMethod yX9_weigh ∈ xb_tbl := xb_in (i := 1081) (by decide +kernel) rfl
theorem kc_X9_weigh : Cond.code yX9_weigh cX9_weigh 8 none ∈ xb_tbl := xb_in (i := 1082) (by decide +kernel) rfl
theorem kk_X9_226 : Cond.constant RX9 226 (1000000000) ∈ xb_tbl := xb_in (i := 1083) (by decide +kernel) rfl
theorem ml_L_96 : Cond.methodLink RL 96 yX9_bit ∈ xb_tbl := xb_in (i := 1084) (by decide +kernel) rfl
theorem ki_X9_bit : Cond.instanceMethod yX9_bit ∈ xb_tbl := xb_in (i := 1085) (by decide +kernel) rfl
theorem ks_X9_bit : Cond.selects RX9 yX9_bit yX9_bit ∈ xb_tbl := xb_in (i := 1086) (by decide +kernel) rfl
theorem kc_X9_bit : Cond.code yX9_bit cX9_bit 2 (some .int) ∈ xb_tbl := xb_in (i := 1087) (by decide +kernel) rfl
theorem ml_L_100 : Cond.methodLink RL 100 yX9_place ∈ xb_tbl := xb_in (i := 1088) (by decide +kernel) rfl
theorem ki_X9_place : Cond.instanceMethod yX9_place ∈ xb_tbl := xb_in (i := 1089) (by decide +kernel) rfl
theorem ks_X9_place : Cond.selects RX9 yX9_place yX9_place ∈ xb_tbl := xb_in (i := 1090) (by decide +kernel) rfl
theorem kc_X9_place : Cond.code yX9_place cX9_place 2 (some .int) ∈ xb_tbl := xb_in (i := 1091) (by decide +kernel) rfl
theorem ml_L_105 : Cond.methodLink RL 105 yX9_sum ∈ xb_tbl := xb_in (i := 1092) (by decide +kernel) rfl
theorem ki_X9_sum : Cond.instanceMethod yX9_sum ∈ xb_tbl := xb_in (i := 1093) (by decide +kernel) rfl
theorem ks_X9_sum : Cond.selects RX9 yX9_sum yX9_sum ∈ xb_tbl := xb_in (i := 1094) (by decide +kernel) rfl
theorem kc_X9_sum : Cond.code yX9_sum cX9_sum 4 (some .long) ∈ xb_tbl := xb_in (i := 1095) (by decide +kernel) rfl
theorem kl_X9_230 : Cond.constantLong RX9 230 (-3) ∈ xb_tbl := xb_in (i := 1096) (by decide +kernel) rfl
theorem ml_X9_232 : Cond.methodLink RX9 232 yX9_bytes ∈ xb_tbl := xb_in (i := 1097) (by decide +kernel) rfl
theorem ki_X9_bytes : Cond.instanceMethod yX9_bytes ∈ xb_tbl := xb_in (i := 1099) (by decide +kernel) rfl
theorem kc_X9_bytes : Cond.code yX9_bytes cX9_bytes 1 (some .int) ∈ xb_tbl := xb_in (i := 1100) (by decide +kernel) rfl
theorem kl_X9_235 : Cond.constantLong RX9 235 (33) ∈ xb_tbl := xb_in (i := 1101) (by decide +kernel) rfl
theorem ml_X9_237 : Cond.methodLink RX9 237 yX9_byteAt ∈ xb_tbl := xb_in (i := 1102) (by decide +kernel) rfl
theorem ki_X9_byteAt : Cond.instanceMethod yX9_byteAt ∈ xb_tbl := xb_in (i := 1104) (by decide +kernel) rfl
theorem kc_X9_byteAt : Cond.code yX9_byteAt cX9_byteAt 4 (some .int) ∈ xb_tbl := xb_in (i := 1105) (by decide +kernel) rfl
theorem ml_L_109 : Cond.methodLink RL 109 yX9_alter ∈ xb_tbl := xb_in (i := 1106) (by decide +kernel) rfl
theorem ki_X9_alter : Cond.instanceMethod yX9_alter ∈ xb_tbl := xb_in (i := 1107) (by decide +kernel) rfl
theorem ks_X9_alter : Cond.selects RX9 yX9_alter yX9_alter ∈ xb_tbl := xb_in (i := 1108) (by decide +kernel) rfl
theorem kc_X9_alter : Cond.code yX9_alter cX9_alter 4 (some .int) ∈ xb_tbl := xb_in (i := 1109) (by decide +kernel) rfl
theorem kl_X9_240 : Cond.constantLong RX9 240 (255) ∈ xb_tbl := xb_in (i := 1110) (by decide +kernel) rfl
theorem ml_L_113 : Cond.methodLink RL 113 yX9_judge ∈ xb_tbl := xb_in (i := 1111) (by decide +kernel) rfl
theorem ki_X9_judge : Cond.instanceMethod yX9_judge ∈ xb_tbl := xb_in (i := 1112) (by decide +kernel) rfl
theorem ks_X9_judge : Cond.selects RX9 yX9_judge yX9_judge ∈ xb_tbl := xb_in (i := 1113) (by decide +kernel) rfl
theorem kc_X9_judge : Cond.code yX9_judge cX9_judge 3 (some .int) ∈ xb_tbl := xb_in (i := 1114) (by decide +kernel) rfl
theorem ml_L_117 : Cond.methodLink RL 117 yX9_order ∈ xb_tbl := xb_in (i := 1115) (by decide +kernel) rfl
theorem ki_X9_order : Cond.instanceMethod yX9_order ∈ xb_tbl := xb_in (i := 1116) (by decide +kernel) rfl
theorem ks_X9_order : Cond.selects RX9 yX9_order yX9_order ∈ xb_tbl := xb_in (i := 1117) (by decide +kernel) rfl
theorem kc_X9_order : Cond.code yX9_order cX9_order 3 (some .int) ∈ xb_tbl := xb_in (i := 1118) (by decide +kernel) rfl
theorem kl_X9_253 : Cond.constantLong RX9 253 (2) ∈ xb_tbl := xb_in (i := 1119) (by decide +kernel) rfl
theorem ml_X9_255 : Cond.methodLink RX9 255 yX9_toOrder ∈ xb_tbl := xb_in (i := 1120) (by decide +kernel) rfl
theorem ki_X9_toOrder : Cond.instanceMethod yX9_toOrder ∈ xb_tbl := xb_in (i := 1122) (by decide +kernel) rfl
theorem kc_X9_toOrder : Cond.code yX9_toOrder cX9_toOrder 2 none ∈ xb_tbl := xb_in (i := 1123) (by decide +kernel) rfl
theorem ml_X9_247 : Cond.methodLink RX9 247 yX9_orderLayers ∈ xb_tbl := xb_in (i := 1124) (by decide +kernel) rfl
theorem ki_X9_orderLayers : Cond.instanceMethod yX9_orderLayers ∈ xb_tbl := xb_in (i := 1126) (by decide +kernel) rfl
theorem kc_X9_orderLayers : Cond.code yX9_orderLayers cX9_orderLayers 4 none ∈ xb_tbl := xb_in (i := 1127) (by decide +kernel) rfl
theorem ml_X9_250 : Cond.methodLink RX9 250 yX9_orderBy ∈ xb_tbl := xb_in (i := 1128) (by decide +kernel) rfl
theorem ki_X9_orderBy : Cond.instanceMethod yX9_orderBy ∈ xb_tbl := xb_in (i := 1130) (by decide +kernel) rfl
theorem kc_X9_orderBy : Cond.code yX9_orderBy cX9_orderBy 7 none ∈ xb_tbl := xb_in (i := 1131) (by decide +kernel) rfl
theorem ml_X9_244 : Cond.methodLink RX9 244 yX9_keyOf ∈ xb_tbl := xb_in (i := 1132) (by decide +kernel) rfl
theorem ki_X9_keyOf : Cond.instanceMethod yX9_keyOf ∈ xb_tbl := xb_in (i := 1134) (by decide +kernel) rfl
theorem kc_X9_keyOf : Cond.code yX9_keyOf cX9_keyOf 5 (some .int) ∈ xb_tbl := xb_in (i := 1135) (by decide +kernel) rfl
theorem kk_X9_242 : Cond.constant RX9 242 (40503) ∈ xb_tbl := xb_in (i := 1136) (by decide +kernel) rfl
theorem kk_X9_243 : Cond.constant RX9 243 (65536) ∈ xb_tbl := xb_in (i := 1137) (by decide +kernel) rfl
theorem ml_L_121 : Cond.methodLink RL 121 yX9_renumber ∈ xb_tbl := xb_in (i := 1138) (by decide +kernel) rfl
theorem ki_X9_renumber : Cond.instanceMethod yX9_renumber ∈ xb_tbl := xb_in (i := 1139) (by decide +kernel) rfl
theorem ks_X9_renumber : Cond.selects RX9 yX9_renumber yX9_renumber ∈ xb_tbl := xb_in (i := 1140) (by decide +kernel) rfl
theorem kc_X9_renumber : Cond.code yX9_renumber cX9_renumber 5 (some .int) ∈ xb_tbl := xb_in (i := 1141) (by decide +kernel) rfl
theorem ml_L_125 : Cond.methodLink RL 125 yX9_threes ∈ xb_tbl := xb_in (i := 1142) (by decide +kernel) rfl
theorem ki_X9_threes : Cond.instanceMethod yX9_threes ∈ xb_tbl := xb_in (i := 1143) (by decide +kernel) rfl
theorem ks_X9_threes : Cond.selects RX9 yX9_threes yX9_threes ∈ xb_tbl := xb_in (i := 1144) (by decide +kernel) rfl
theorem kc_X9_threes : Cond.code yX9_threes cX9_threes 5 (some .int) ∈ xb_tbl := xb_in (i := 1145) (by decide +kernel) rfl
theorem ml_X9_258 : Cond.methodLink RX9 258 yX9_isJoined ∈ xb_tbl := xb_in (i := 1146) (by decide +kernel) rfl
theorem ki_X9_isJoined : Cond.instanceMethod yX9_isJoined ∈ xb_tbl := xb_in (i := 1148) (by decide +kernel) rfl
theorem kc_X9_isJoined : Cond.code yX9_isJoined cX9_isJoined 3 (some .boolean) ∈ xb_tbl := xb_in (i := 1149) (by decide +kernel) rfl
theorem ml_L_129 : Cond.methodLink RL 129 yX9_parts ∈ xb_tbl := xb_in (i := 1150) (by decide +kernel) rfl
theorem ki_X9_parts : Cond.instanceMethod yX9_parts ∈ xb_tbl := xb_in (i := 1151) (by decide +kernel) rfl
theorem ks_X9_parts : Cond.selects RX9 yX9_parts yX9_parts ∈ xb_tbl := xb_in (i := 1152) (by decide +kernel) rfl
theorem kc_X9_parts : Cond.code yX9_parts cX9_parts 6 (some .int) ∈ xb_tbl := xb_in (i := 1153) (by decide +kernel) rfl
theorem ml_X9_262 : Cond.methodLink RX9 262 yX9_walk ∈ xb_tbl := xb_in (i := 1154) (by decide +kernel) rfl
theorem ki_X9_walk : Cond.instanceMethod yX9_walk ∈ xb_tbl := xb_in (i := 1156) (by decide +kernel) rfl
theorem kc_X9_walk : Cond.code yX9_walk cX9_walk 6 (some .int) ∈ xb_tbl := xb_in (i := 1157) (by decide +kernel) rfl
theorem ml_L_133 : Cond.methodLink RL 133 yX9_far ∈ xb_tbl := xb_in (i := 1158) (by decide +kernel) rfl
theorem ki_X9_far : Cond.instanceMethod yX9_far ∈ xb_tbl := xb_in (i := 1159) (by decide +kernel) rfl
theorem ks_X9_far : Cond.selects RX9 yX9_far yX9_far ∈ xb_tbl := xb_in (i := 1160) (by decide +kernel) rfl
theorem kc_X9_far : Cond.code yX9_far cX9_far 4 (some .int) ∈ xb_tbl := xb_in (i := 1161) (by decide +kernel) rfl
theorem ml_L_137 : Cond.methodLink RL 137 yX9_count ∈ xb_tbl := xb_in (i := 1162) (by decide +kernel) rfl
theorem ki_X9_count : Cond.instanceMethod yX9_count ∈ xb_tbl := xb_in (i := 1163) (by decide +kernel) rfl
theorem ks_X9_count : Cond.selects RX9 yX9_count yX9_count ∈ xb_tbl := xb_in (i := 1164) (by decide +kernel) rfl
theorem kc_X9_count : Cond.code yX9_count cX9_count 4 (some .int) ∈ xb_tbl := xb_in (i := 1165) (by decide +kernel) rfl
theorem kw_X0 : ∀ w ∈ u_ws RX0 TX0 3, w ∈ xb_tbl := by decide +kernel
theorem kw_X1 : ∀ w ∈ u_ws RX1 TX1 9, w ∈ xb_tbl := by decide +kernel
theorem kw_X2 : ∀ w ∈ u_ws RX2 TX2 4, w ∈ xb_tbl := by decide +kernel
theorem kw_X3 : ∀ w ∈ u_ws RX3 TX3 2, w ∈ xb_tbl := by decide +kernel
theorem kw_X4 : ∀ w ∈ u_ws RX4 TX4 2, w ∈ xb_tbl := by decide +kernel
theorem kw_X5 : ∀ w ∈ u_ws RX5 TX5 2, w ∈ xb_tbl := by decide +kernel
theorem kw_X6 : ∀ w ∈ u_ws RX6 TX6 3, w ∈ xb_tbl := by decide +kernel
theorem kw_X7 : ∀ w ∈ u_ws RX7 TX7 1, w ∈ xb_tbl := by decide +kernel
theorem kw_X8 : ∀ w ∈ u_ws RX8 TX8 7, w ∈ xb_tbl := by decide +kernel
theorem kw_X9 : ∀ w ∈ u_ws RX9 TX9 35, w ∈ xb_tbl := by decide +kernel
end
section
/-! ===== my base: a world as one list, a judgement that hides heap, locals' array and frame; one row an instruction ===== -/
theorem xb_words {w : Cond} (h : w ∈ xb_tbl) : (goodWord w || xb_isN w) = true := (List.mem_filter.mp h).2
def xb_N (U : State) : Prop := ∀ w ∈ xb_tbl, va_Nw w U
theorem xb_N.warm {s U : State} (h : xb_N s) (hW : s.WarmedH U.vm) : xb_N U := by
  intro w hw
  have h1 := xb_words hw
  rcases (Bool.or_eq_true _ _).mp h1 with g | g
  · exact word_at hW (good_of_word g) (h w hw)
  · cases w <;> first | exact va_Nw.warmM hW (h _ hw) | cases g
theorem xb_N.get {s : State} {w : Cond} {args : Array Value} (h : xb_N s) (hw : w ∈ xb_tbl) : w.before args s = true := by
  have h1 := xb_words hw
  rcases (Bool.or_eq_true _ _).mp h1 with g | g
  · exact word_at (State.WarmedH.refl s) (good_of_word g) (h w hw)
  · cases w <;> first | exact va_Nw.use rfl (h _ hw) | cases g
theorem xb_N.of {s : State} {args : Array Value} (h0 : ∀ w ∈ lw_tbl, w.before args s = true) : xb_N s := by
  intro w hw
  have h := h0 w (List.mem_filter.mp hw).1
  have h1 := xb_words hw
  rcases (Bool.or_eq_true _ _).mp h1 with g | g
  · exact word_at (State.WarmedH.refl s) (good_of_word g) h
  · cases w <;> first | exact va_Nw.of rfl h | cases g
theorem xb_N.all {s : State} {args : Array Value} (h : xb_N s) : ∀ w ∈ xb_tbl, w.before args s = true := fun _ hw => h.get hw
/-- the two static rows of Rules -/
def xb_fL : Nat → Value := fun j => .int (if j = 2 then 1 else 0)
def xb_fM : Nat → Value := fun j => .int (if j = 0 then 7 else if j = 1 then 5 else 9)
def xb_Z (A : (Nat → Prop) × Nat × Nat) (U : State) (H : Heap) : Prop := va_Z RX5 "LEAST" "[I" (.ref A.2.1) A.1 U H ∧ va_T .int A.2.1 3 xb_fL A.1 U H ∧ va_Z RX5 "MOST" "[I" (.ref A.2.2) A.1 U H ∧ va_T .int A.2.2 3 xb_fM A.1 U H
theorem xb_Z.moved {A : (Nat → Prop) × Nat × Nat} {u U : State} {H : Heap} (hvm : u.vm.Alike U.vm) (h : xb_Z A u H) : xb_Z A U H := by
  obtain ⟨h1, h2, h3, h4⟩ := h
  exact ⟨h1.moved hvm, h2.moved hvm, h3.moved hvm, h4.moved hvm⟩
theorem xb_Z.kept {A : (Nat → Prop) × Nat × Nat} {U : State} {H H1 : Heap} (h : xb_Z A U H) (hq : ∀ a : Nat, a < H.size → ¬ A.1 a → H1[a]? = H[a]?) : xb_Z A U H1 := by
  obtain ⟨h1, h2, h3, h4⟩ := h
  exact ⟨h1.kept hq, h2.kept hq, h3.kept hq, h4.kept hq⟩
abbrev xb_G : Type := va_G × ClassId × ClassId × ClassId
abbrev xb_t (G : xb_G) : List (ClassId × FieldType) := [(G.2.1, .int), (G.2.2.1, .long), (G.2.2.2, .boolean)]
/-- launch, classes, which cells may change -/
abbrev xb_k : Type := Launch × xb_G × (Nat → Prop) × Nat × Nat
/-- a frame's surroundings -/
abbrev xb_X : Type := Program × Env × Room × State × MethodId × Array Value × List Frame × Method × Code × (State → Prop)
def xb_R (κ : xb_k) (U : State) : Prop := va_K κ.2.1.1 vwCl (xb_t κ.2.1) U ∧ xb_N U ∧ xb_Z κ.2.2 U U.heap
def xb_P (κ : xb_k) (av : List Value) (ws : va_W) : Array Value → State → Prop := va_Pc av (fun U => va_P κ.2.1.1 vwCl ws U.heap ∧ va_D κ.2.2.1 ws ∧ xb_R κ U)
def xb_B (κ : xb_k) (ws : va_W) : Unit → State → Prop := fun _ t => va_P κ.2.1.1 vwCl ws t.heap ∧ va_D κ.2.2.1 ws
def xb_Qi (κ : xb_k) (r : Int32) (ws : va_W) : Array Value → State → Outcome → State → Prop := va_Qi (fun x (_ : Unit) => x = r) (xb_B κ ws) κ.2.2.1
def xb_Ql (κ : xb_k) (r : Int64) (ws : va_W) : Array Value → State → Outcome → State → Prop := va_Ql (fun x (_ : Unit) => x = r) (xb_B κ ws) κ.2.2.1
def xb_Qv (κ : xb_k) (ws : va_W) : Array Value → State → Outcome → State → Prop := va_Qv (fun (_ : Unit) => True) (xb_B κ ws) κ.2.2.1
def xb_Qr (κ : xb_k) (r : Nat) (ws : va_W) : Array Value → State → Outcome → State → Prop := va_Qr (fun (_ : Unit) => True) (fun u a t => a = r ∧ xb_B κ ws u t) κ.2.2.1
def xb_C (κ : xb_k) (Γ : xb_X) (nL : Nat) (cc : ByteArray) (own : String) (rm : Room) : Prop :=
  Γ.1.tables.exec = Jvm.exec ∧ Γ.2.2.2.2.2.2.2.2.1.code = cc ∧ Γ.2.2.2.2.2.2.2.2.1.maxLocals = nL ∧ Γ.2.2.2.1.vm.findClass own = some Γ.2.2.2.2.1.cls ∧ xb_R κ Γ.2.2.2.1 ∧ Γ.2.2.2.2.2.2.2.1.locks = false ∧ Γ.2.2.1 = rm
def xb_E (κ : xb_k) (Γ : xb_X) (Qc : Array Value → State → Outcome → State → Prop) (mc ms : Nat) (ret : Option FieldType) : Prop :=
  Γ.2.2.2.2.2.2.2.2.2 = MQ Γ.2.2.2.2.2.2.1 Qc Γ.2.2.2.2.2.1 Γ.2.2.2.1 mc ms κ.2.2.1 ∧ Γ.2.2.2.2.2.2.2.1.sig.returnType = ret
def xb_W (κ : xb_k) (Γ : xb_X) (nL cells slots pc : Nat) (lv : List (Nat × Value)) (st : List Value) (ws : va_W) : Prop :=
  ∀ (H : Heap) (locs : List Loc) (ls : Array Slot), va_P κ.2.1.1 vwCl ws H → va_D κ.2.2.1 ws → va_S κ.2.2.1 Γ.2.2.2.1.heap H locs → lv_has ls nL lv →
    W Γ.1 κ.1 Γ.2.1 Γ.2.2.1 Γ.2.2.2.1 Γ.2.2.2.2.1 Γ.2.2.2.2.2.1 Γ.2.2.2.2.2.2.1 Γ.2.2.2.2.2.2.2.1 Γ.2.2.2.2.2.2.2.2.1 H locs cells slots Γ.2.2.2.2.2.2.2.2.2 (F0 Γ.2.2.2.2.1 pc ls st)
theorem xb_R.call {κ : xb_k} {s U : State} {H : Heap} {locs : List Loc} (h : xb_R κ s) (hS : va_S κ.2.2.1 s.heap H locs) (hU : U.heap = H) (hW : s.WarmedH U.vm) : xb_R κ U := by
  obtain ⟨h1, h2, h3⟩ := h
  refine ⟨va_K.moved hW.alike h1, h2.warm hW, ?_⟩
  rw [hU]
  exact (h3.kept hS.2.1).moved hW.alike
theorem xb_P.blind {κ : xb_k} {av : List Value} {ws : va_W} : FrameBlind (xb_P κ av ws) := by
  intro a U g mk q
  obtain ⟨q0, qP, qD, qK, qN, qZ⟩ := q
  exact ⟨q0, qP, qD, va_K.moved (u := U) (U := U.calling g mk a) (Vm.Alike.refl U.vm) qK, qN.warm (U := U.calling g mk a) (State.WarmedH.refl U), qZ.moved (u := U) (U := U.calling g mk a) (Vm.Alike.refl U.vm)⟩
/-- the head of any method -/
theorem x_enter {κ : xb_k} {y : MethodName} {cc : ByteArray} {maxL : Nat} {ret : Option FieldType} {rm : Room} {av : List Value} {ws : va_W} {Qc : Array Value → State → Outcome → State → Prop} {mc ms : Nat} {own : String} {lv0 : List (Nat × Value)} (hy : plainName y.cls = true) (hown : y.cls = own) (hn : Nat.ble (lg_sl av).length maxL = true) (hlv : lv_args 0 av = lv0)
    (body : ∀ Γ : xb_X, xb_C κ Γ maxL cc own rm → xb_E κ Γ Qc mc ms ret → xb_W κ Γ maxL 0 0 0 lv0 [] ws) : Met κ.1 y [Cond.code y cc maxL ret] rm (xb_P κ av ws) Qc mc ms κ.2.2.1 := by
  refine Met.ofW (cc := cc) (maxL := maxL) (ret := ret) hy rfl ?_
  intro p e s m args below meth c s₁ B hml hv
  obtain ⟨rfl, hP, hD, hR⟩ := hv
  have hown' : s.vm.findClass own = some m.cls := hown ▸ findClass_of_methodNamed B.named
  have hl := lv_entry av (n := maxL) (Nat.le_of_ble_eq_true hn)
  rw [hlv] at hl
  rw [lg_entry_eq]
  exact body (p, e, rm, s, m, av.toArray, below, meth, c, MQ below Qc av.toArray s mc ms κ.2.2.1) ⟨B.exec, B.bytes, hml, hown', hR, B.notSynchronized, rfl⟩ ⟨rfl, B.returns⟩ s.heap [] _ hP hD va_S.rf hl
/-! what the machine's own tests are, as numbers; answers that may be wanting -/
def ck {α : Type} (b : Bool) (k : Option α) : Option α := if b = true then k else none
theorem ck_s {α : Type} {b : Bool} {k : Option α} {o : α} (h : ck b k = some o) : b = true ∧ k = some o := by
  unfold ck at h
  split at h
  · exact ⟨by assumption, h⟩
  · cases h
theorem ck_t {α : Type} {b : Bool} {k : Option α} (h : b = true) : ck b k = k := if_pos h
def bn (i : Int32) (n : Nat) : Bool := decide (¬ (i < 0 ∨ n ≤ i.toNatClampNeg))
theorem bn_in {i : Int32} {n : Nat} (h : bn i n = true) : vp_in i n := of_decide_eq_true (p := ¬ (i < 0 ∨ n ≤ i.toNatClampNeg)) h
theorem bn_of {i : Int32} {n : Nat} (h : vp_in i n) : bn i n = true := decide_eq_true (p := ¬ (i < 0 ∨ n ≤ i.toNatClampNeg)) h
def nz (y : Int32) : Bool := decide (¬ y = 0)
theorem nz_ne {y : Int32} (h : nz y = true) : ¬ y = 0 := of_decide_eq_true h
def zb (y : Int32) : Bool := decide (y = 0 ∨ y = 1)
theorem zb_nar {y : Int32} (h : zb y = true) : narrow .boolean (.int y) = .int y := by
  rcases of_decide_eq_true h with rfl | rfl <;> rfl
theorem bd_s {α β : Type} {x : Option α} {f : α → Option β} {o : β} (h : x.bind f = some o) : ∃ a, x = some a ∧ f a = some o := by
  cases x with
  | none => cases h
  | some a => exact ⟨a, rfl, h⟩
theorem bd_t {α β : Type} {x : Option α} {f : α → Option β} {a : α} (h : x = some a) : x.bind f = f a := by rw [h]; rfl
theorem ifp {α : Type} {c : Prop} [Decidable c] {a b o : α} (h : c) (e : (if c then a else b) = o) : a = o := by rw [if_pos h] at e; exact e
theorem ifn {α : Type} {c : Prop} [Decidable c] {a b o : α} (h : ¬ c) (e : (if c then a else b) = o) : b = o := by rw [if_neg h] at e; exact e
def xb_ushr (x : Int64) (y : Int32) : Int64 := (x.toUInt64 >>> (y.toInt64.toUInt64 &&& Int64.toUInt64 63)).toInt64
theorem ts_out (n : Nat) (hn : n < 2 ^ 31) {x : Int32} (h : ∀ k : Nat, k ≤ n → ¬ x = nI k) : x.toInt < 0 ∨ (n : Int) < x.toInt := by
  rcases Int.lt_or_le x.toInt 0 with a | a
  · exact Or.inl a
  · rcases Int.lt_or_le (n : Int) x.toInt with b | b
    · exact Or.inr b
    · exfalso
      have e : x = nI x.toInt.toNat := by
        apply Int32.toInt_inj.mp
        rw [nI_toInt (by omega)]
        omega
      exact h x.toInt.toNat (by omega) e
def nm {α β : Type} (a : α) (f : α → Option β) : Option β := f a
theorem nm_s {α β : Type} {a : α} {f : α → Option β} {o : β} (h : nm a f = some o) : ∃ v, v = a ∧ f v = some o := ⟨a, rfl, h⟩
section
variable {κ : xb_k} {Γ : xb_X} {nL cells slots pc : Nat} {lv : List (Nat × Value)} {st : List Value} {ws : va_W} {cc : ByteArray} {own : String} {rm : Room}
theorem x_iconst {n : Int} {v : Int32} (C : xb_C κ Γ nL cc own rm) (hd : decode cc pc = .ok (.iconst n, 1)) (hv : Int32.ofInt n = v) (k : xb_W κ Γ nL cells slots (pc + 1) lv (.int v :: st) ws) : xb_W κ Γ nL cells slots pc lv st ws := fun H locs ls hP hD hS hl => lv_iconst C.1 C.2.1 hd hv (k H locs ls hP hD hS hl)
theorem x_bipush {n : Int} {v : Int32} (C : xb_C κ Γ nL cc own rm) (hd : decode cc pc = .ok (.bipush n, 2)) (hv : (Int8.ofInt n).toInt32 = v) (k : xb_W κ Γ nL cells slots (pc + 2) lv (.int v :: st) ws) : xb_W κ Γ nL cells slots pc lv st ws := fun H locs ls hP hD hS hl => lv_bipush C.1 C.2.1 hd hv (k H locs ls hP hD hS hl)
theorem x_sipush {n : Int} {v : Int32} (C : xb_C κ Γ nL cc own rm) (hd : decode cc pc = .ok (.sipush n, 3)) (hv : (Int16.ofInt n).toInt32 = v) (k : xb_W κ Γ nL cells slots (pc + 3) lv (.int v :: st) ws) : xb_W κ Γ nL cells slots pc lv st ws := fun H locs ls hP hD hS hl => lv_sipush C.1 C.2.1 hd hv (k H locs ls hP hD hS hl)
theorem x_lconst {n : Fin 2} {v : Int64} (C : xb_C κ Γ nL cc own rm) (hd : decode cc pc = .ok (.lconst n, 1)) (hv : Int64.ofNat (n : Nat) = v) (k : xb_W κ Γ nL cells slots (pc + 1) lv (.long v :: st) ws) : xb_W κ Γ nL cells slots pc lv st ws := fun H locs ls hP hD hS hl => lv_lconst C.1 C.2.1 hd hv (k H locs ls hP hD hS hl)
theorem x_ldc {i : Nat} {v : Int32} (C : xb_C κ Γ nL cc own rm) (hd : decode cc pc = .ok (.ldc i, 2)) (hw : Cond.constant own i v ∈ xb_tbl) (k : xb_W κ Γ nL cells slots (pc + 2) lv (.int v :: st) ws) : xb_W κ Γ nL cells slots pc lv st ws := fun H locs ls hP hD hS hl => lv_ldc C.1 C.2.1 C.2.2.2.1 (C.2.2.2.2.1.2.1.get hw) hd (k H locs ls hP hD hS hl)
theorem x_ldc2 {i : Nat} {v : Int64} (C : xb_C κ Γ nL cc own rm) (hd : decode cc pc = .ok (.ldc2_w i, 3)) (hw : Cond.constantLong own i v ∈ xb_tbl) (k : xb_W κ Γ nL cells slots (pc + 3) lv (.long v :: st) ws) : xb_W κ Γ nL cells slots pc lv st ws := fun H locs ls hP hD hS hl => lv_ldc2 C.1 C.2.1 C.2.2.2.1 (C.2.2.2.2.1.2.1.get hw) hd (k H locs ls hP hD hS hl)
theorem x_iload_n {i : Fin 4} {x : Int32} (C : xb_C κ Γ nL cc own rm) (hd : decode cc pc = .ok (.iload_n i, 1)) (j : Nat) (hk : lv[j]? = some ((i : Nat), .int x)) (k : xb_W κ Γ nL cells slots (pc + 1) lv (.int x :: st) ws) : xb_W κ Γ nL cells slots pc lv st ws := fun H locs ls hP hD hS hl => lv_iload_n C.1 C.2.1 hd rfl (lv_at hl j hk) (k H locs ls hP hD hS hl)
theorem x_iload {i : Nat} {x : Int32} (C : xb_C κ Γ nL cc own rm) (hd : decode cc pc = .ok (.iload i, 2)) (j : Nat) (hk : lv[j]? = some (i, .int x)) (k : xb_W κ Γ nL cells slots (pc + 2) lv (.int x :: st) ws) : xb_W κ Γ nL cells slots pc lv st ws := fun H locs ls hP hD hS hl => lv_iload C.1 C.2.1 hd (lv_at hl j hk) (k H locs ls hP hD hS hl)
theorem x_lload_n {i : Fin 4} {x : Int64} (C : xb_C κ Γ nL cc own rm) (hd : decode cc pc = .ok (.lload_n i, 1)) (j : Nat) (hk : lv[j]? = some ((i : Nat), .long x)) (k : xb_W κ Γ nL cells slots (pc + 1) lv (.long x :: st) ws) : xb_W κ Γ nL cells slots pc lv st ws := fun H locs ls hP hD hS hl => lv_lload_n C.1 C.2.1 hd rfl (lv_at hl j hk) (k H locs ls hP hD hS hl)
theorem x_lload {i : Nat} {x : Int64} (C : xb_C κ Γ nL cc own rm) (hd : decode cc pc = .ok (.lload i, 2)) (j : Nat) (hk : lv[j]? = some (i, .long x)) (k : xb_W κ Γ nL cells slots (pc + 2) lv (.long x :: st) ws) : xb_W κ Γ nL cells slots pc lv st ws := fun H locs ls hP hD hS hl => lv_lload C.1 C.2.1 hd (lv_at hl j hk) (k H locs ls hP hD hS hl)
theorem x_aload_n {i : Fin 4} {x : Nat} (C : xb_C κ Γ nL cc own rm) (hd : decode cc pc = .ok (.aload_n i, 1)) (j : Nat) (hk : lv[j]? = some ((i : Nat), .ref x)) (k : xb_W κ Γ nL cells slots (pc + 1) lv (.ref x :: st) ws) : xb_W κ Γ nL cells slots pc lv st ws := fun H locs ls hP hD hS hl => lv_aload_n C.1 C.2.1 hd rfl (lv_at hl j hk) (k H locs ls hP hD hS hl)
theorem x_aload {i : Nat} {x : Nat} (C : xb_C κ Γ nL cc own rm) (hd : decode cc pc = .ok (.aload i, 2)) (j : Nat) (hk : lv[j]? = some (i, .ref x)) (k : xb_W κ Γ nL cells slots (pc + 2) lv (.ref x :: st) ws) : xb_W κ Γ nL cells slots pc lv st ws := fun H locs ls hP hD hS hl => lv_aload C.1 C.2.1 hd (lv_at hl j hk) (k H locs ls hP hD hS hl)
theorem x_istore_n {k0 : Fin 4} {i : Nat} {x : Int32} {lv2 : List (Nat × Value)} (C : xb_C κ Γ nL cc own rm) (hd : decode cc pc = .ok (.istore_n k0, 1)) (hi : (k0 : Nat) = i) (hn : i < nL) (h2 : (i, Value.int x) :: lv.filter (fun q => !(q.1 == i) && !(q.1 + 1 == i && q.2.category == 2)) = lv2) (k : xb_W κ Γ nL cells slots (pc + 1) lv2 st ws) : xb_W κ Γ nL cells slots pc lv (.int x :: st) ws := fun H locs ls hP hD hS hl => lv_istore_n C.1 C.2.1 hd hi hl hn h2 (fun ls2 hl2 => k H locs ls2 hP hD hS hl2)
theorem x_istore {i : Nat} {x : Int32} {lv2 : List (Nat × Value)} (C : xb_C κ Γ nL cc own rm) (hd : decode cc pc = .ok (.istore i, 2)) (hn : i < nL) (h2 : (i, Value.int x) :: lv.filter (fun q => !(q.1 == i) && !(q.1 + 1 == i && q.2.category == 2)) = lv2) (k : xb_W κ Γ nL cells slots (pc + 2) lv2 st ws) : xb_W κ Γ nL cells slots pc lv (.int x :: st) ws := fun H locs ls hP hD hS hl => lv_istore C.1 C.2.1 hd hl hn h2 (fun ls2 hl2 => k H locs ls2 hP hD hS hl2)
theorem x_lstore_n {k0 : Fin 4} {i : Nat} {x : Int64} {lv2 : List (Nat × Value)} (C : xb_C κ Γ nL cc own rm) (hd : decode cc pc = .ok (.lstore_n k0, 1)) (hi : (k0 : Nat) = i) (hn : i + 1 < nL) (h2 : (i, Value.long x) :: lv.filter (fun q => !(q.1 == i) && (!(q.1 == i + 1) && !(q.1 + 1 == i && q.2.category == 2))) = lv2) (k : xb_W κ Γ nL cells slots (pc + 1) lv2 st ws) : xb_W κ Γ nL cells slots pc lv (.long x :: st) ws := fun H locs ls hP hD hS hl => lv_lstore_n C.1 C.2.1 hd hi hl hn h2 (fun ls2 hl2 => k H locs ls2 hP hD hS hl2)
theorem x_lstore {i : Nat} {x : Int64} {lv2 : List (Nat × Value)} (C : xb_C κ Γ nL cc own rm) (hd : decode cc pc = .ok (.lstore i, 2)) (hn : i + 1 < nL) (h2 : (i, Value.long x) :: lv.filter (fun q => !(q.1 == i) && (!(q.1 == i + 1) && !(q.1 + 1 == i && q.2.category == 2))) = lv2) (k : xb_W κ Γ nL cells slots (pc + 2) lv2 st ws) : xb_W κ Γ nL cells slots pc lv (.long x :: st) ws := fun H locs ls hP hD hS hl => lv_lstore C.1 C.2.1 hd hl hn h2 (fun ls2 hl2 => k H locs ls2 hP hD hS hl2)
theorem x_astore_n {k0 : Fin 4} {i : Nat} {x : Nat} {lv2 : List (Nat × Value)} (C : xb_C κ Γ nL cc own rm) (hd : decode cc pc = .ok (.astore_n k0, 1)) (hi : (k0 : Nat) = i) (hn : i < nL) (h2 : (i, Value.ref x) :: lv.filter (fun q => !(q.1 == i) && !(q.1 + 1 == i && q.2.category == 2)) = lv2) (k : xb_W κ Γ nL cells slots (pc + 1) lv2 st ws) : xb_W κ Γ nL cells slots pc lv (.ref x :: st) ws := fun H locs ls hP hD hS hl => lv_astore_n C.1 C.2.1 hd hi hl hn h2 (fun ls2 hl2 => k H locs ls2 hP hD hS hl2)
theorem x_astore {i : Nat} {x : Nat} {lv2 : List (Nat × Value)} (C : xb_C κ Γ nL cc own rm) (hd : decode cc pc = .ok (.astore i, 2)) (hn : i < nL) (h2 : (i, Value.ref x) :: lv.filter (fun q => !(q.1 == i) && !(q.1 + 1 == i && q.2.category == 2)) = lv2) (k : xb_W κ Γ nL cells slots (pc + 2) lv2 st ws) : xb_W κ Γ nL cells slots pc lv (.ref x :: st) ws := fun H locs ls hP hD hS hl => lv_astore C.1 C.2.1 hd hl hn h2 (fun ls2 hl2 => k H locs ls2 hP hD hS hl2)
theorem x_iinc {i : Nat} {n : Int} {x v : Int32} {lv2 : List (Nat × Value)} (C : xb_C κ Γ nL cc own rm) (hd : decode cc pc = .ok (.iinc i n, 3)) (j : Nat) (hk : lv[j]? = some (i, .int x)) (hv : x + Int32.ofInt n = v) (hn : i < nL) (h2 : (i, Value.int v) :: lv.filter (fun q => !(q.1 == i) && !(q.1 + 1 == i && q.2.category == 2)) = lv2) (k : xb_W κ Γ nL cells slots (pc + 3) lv2 st ws) : xb_W κ Γ nL cells slots pc lv st ws := fun H locs ls hP hD hS hl => lv_iinc C.1 C.2.1 hd hl hk hv hn h2 (fun ls2 hl2 => k H locs ls2 hP hD hS hl2)
theorem x_iadd {x y : Int32} (C : xb_C κ Γ nL cc own rm) (hd : decode cc pc = .ok (.iadd, 1)) (k : xb_W κ Γ nL cells slots (pc + 1) lv (.int (x + y) :: st) ws) : xb_W κ Γ nL cells slots pc lv (.int y :: .int x :: st) ws := fun H locs ls hP hD hS hl => lv_iadd C.1 C.2.1 hd (k H locs ls hP hD hS hl)
theorem x_isub {x y : Int32} (C : xb_C κ Γ nL cc own rm) (hd : decode cc pc = .ok (.isub, 1)) (k : xb_W κ Γ nL cells slots (pc + 1) lv (.int (x - y) :: st) ws) : xb_W κ Γ nL cells slots pc lv (.int y :: .int x :: st) ws := fun H locs ls hP hD hS hl => lv_isub C.1 C.2.1 hd (k H locs ls hP hD hS hl)
theorem x_imul {x y : Int32} (C : xb_C κ Γ nL cc own rm) (hd : decode cc pc = .ok (.imul, 1)) (k : xb_W κ Γ nL cells slots (pc + 1) lv (.int (x * y) :: st) ws) : xb_W κ Γ nL cells slots pc lv (.int y :: .int x :: st) ws := fun H locs ls hP hD hS hl => lv_imul C.1 C.2.1 hd (k H locs ls hP hD hS hl)
theorem x_iand {x y : Int32} (C : xb_C κ Γ nL cc own rm) (hd : decode cc pc = .ok (.iand, 1)) (k : xb_W κ Γ nL cells slots (pc + 1) lv (.int (x &&& y) :: st) ws) : xb_W κ Γ nL cells slots pc lv (.int y :: .int x :: st) ws := fun H locs ls hP hD hS hl => lv_iand C.1 C.2.1 hd (k H locs ls hP hD hS hl)
theorem x_ior {x y : Int32} (C : xb_C κ Γ nL cc own rm) (hd : decode cc pc = .ok (.ior, 1)) (k : xb_W κ Γ nL cells slots (pc + 1) lv (.int (x ||| y) :: st) ws) : xb_W κ Γ nL cells slots pc lv (.int y :: .int x :: st) ws := fun H locs ls hP hD hS hl => lv_ior C.1 C.2.1 hd (k H locs ls hP hD hS hl)
theorem x_ixor {x y : Int32} (C : xb_C κ Γ nL cc own rm) (hd : decode cc pc = .ok (.ixor, 1)) (k : xb_W κ Γ nL cells slots (pc + 1) lv (.int (x ^^^ y) :: st) ws) : xb_W κ Γ nL cells slots pc lv (.int y :: .int x :: st) ws := fun H locs ls hP hD hS hl => lv_ixor C.1 C.2.1 hd (k H locs ls hP hD hS hl)
theorem x_ishl {x y : Int32} (C : xb_C κ Γ nL cc own rm) (hd : decode cc pc = .ok (.ishl, 1)) (k : xb_W κ Γ nL cells slots (pc + 1) lv (.int (x <<< (y &&& 31)) :: st) ws) : xb_W κ Γ nL cells slots pc lv (.int y :: .int x :: st) ws := fun H locs ls hP hD hS hl => lv_ishl C.1 C.2.1 hd (k H locs ls hP hD hS hl)
theorem x_ishr {x y : Int32} (C : xb_C κ Γ nL cc own rm) (hd : decode cc pc = .ok (.ishr, 1)) (k : xb_W κ Γ nL cells slots (pc + 1) lv (.int (x >>> (y &&& 31)) :: st) ws) : xb_W κ Γ nL cells slots pc lv (.int y :: .int x :: st) ws := fun H locs ls hP hD hS hl => lv_ishr C.1 C.2.1 hd (k H locs ls hP hD hS hl)
theorem x_idiv {x y : Int32} (C : xb_C κ Γ nL cc own rm) (hd : decode cc pc = .ok (.idiv, 1)) (hne : ¬ y = 0) (k : xb_W κ Γ nL cells slots (pc + 1) lv (.int (x / y) :: st) ws) : xb_W κ Γ nL cells slots pc lv (.int y :: .int x :: st) ws := fun H locs ls hP hD hS hl => lv_idiv C.1 C.2.1 hd hne (k H locs ls hP hD hS hl)
theorem x_irem {x y : Int32} (C : xb_C κ Γ nL cc own rm) (hd : decode cc pc = .ok (.irem, 1)) (hne : ¬ y = 0) (k : xb_W κ Γ nL cells slots (pc + 1) lv (.int (x - x / y * y) :: st) ws) : xb_W κ Γ nL cells slots pc lv (.int y :: .int x :: st) ws := fun H locs ls hP hD hS hl => lv_irem C.1 C.2.1 hd hne (k H locs ls hP hD hS hl)
theorem x_ineg {x : Int32} (C : xb_C κ Γ nL cc own rm) (hd : decode cc pc = .ok (.ineg, 1)) (k : xb_W κ Γ nL cells slots (pc + 1) lv (.int (-x) :: st) ws) : xb_W κ Γ nL cells slots pc lv (.int x :: st) ws := fun H locs ls hP hD hS hl => lv_ineg C.1 C.2.1 hd (k H locs ls hP hD hS hl)
theorem x_ladd {x y : Int64} (C : xb_C κ Γ nL cc own rm) (hd : decode cc pc = .ok (.ladd, 1)) (k : xb_W κ Γ nL cells slots (pc + 1) lv (.long (x + y) :: st) ws) : xb_W κ Γ nL cells slots pc lv (.long y :: .long x :: st) ws := fun H locs ls hP hD hS hl => lv_ladd C.1 C.2.1 hd (k H locs ls hP hD hS hl)
theorem x_lsub {x y : Int64} (C : xb_C κ Γ nL cc own rm) (hd : decode cc pc = .ok (.lsub, 1)) (k : xb_W κ Γ nL cells slots (pc + 1) lv (.long (x - y) :: st) ws) : xb_W κ Γ nL cells slots pc lv (.long y :: .long x :: st) ws := fun H locs ls hP hD hS hl => lv_lsub C.1 C.2.1 hd (k H locs ls hP hD hS hl)
theorem x_lmul {x y : Int64} (C : xb_C κ Γ nL cc own rm) (hd : decode cc pc = .ok (.lmul, 1)) (k : xb_W κ Γ nL cells slots (pc + 1) lv (.long (x * y) :: st) ws) : xb_W κ Γ nL cells slots pc lv (.long y :: .long x :: st) ws := fun H locs ls hP hD hS hl => lv_lmul C.1 C.2.1 hd (k H locs ls hP hD hS hl)
theorem x_land {x y : Int64} (C : xb_C κ Γ nL cc own rm) (hd : decode cc pc = .ok (.land, 1)) (k : xb_W κ Γ nL cells slots (pc + 1) lv (.long (x &&& y) :: st) ws) : xb_W κ Γ nL cells slots pc lv (.long y :: .long x :: st) ws := fun H locs ls hP hD hS hl => lv_land C.1 C.2.1 hd (k H locs ls hP hD hS hl)
theorem x_lor {x y : Int64} (C : xb_C κ Γ nL cc own rm) (hd : decode cc pc = .ok (.lor, 1)) (k : xb_W κ Γ nL cells slots (pc + 1) lv (.long (x ||| y) :: st) ws) : xb_W κ Γ nL cells slots pc lv (.long y :: .long x :: st) ws := fun H locs ls hP hD hS hl => lv_lor C.1 C.2.1 hd (k H locs ls hP hD hS hl)
theorem x_lxor {x y : Int64} (C : xb_C κ Γ nL cc own rm) (hd : decode cc pc = .ok (.lxor, 1)) (k : xb_W κ Γ nL cells slots (pc + 1) lv (.long (x ^^^ y) :: st) ws) : xb_W κ Γ nL cells slots pc lv (.long y :: .long x :: st) ws := fun H locs ls hP hD hS hl => lv_lxor C.1 C.2.1 hd (k H locs ls hP hD hS hl)
theorem x_lshl {x : Int64} {y : Int32} (C : xb_C κ Γ nL cc own rm) (hd : decode cc pc = .ok (.lshl, 1)) (k : xb_W κ Γ nL cells slots (pc + 1) lv (.long (x <<< (y.toInt64 &&& 63)) :: st) ws) : xb_W κ Γ nL cells slots pc lv (.int y :: .long x :: st) ws := fun H locs ls hP hD hS hl => lv_lshl C.1 C.2.1 hd rfl (k H locs ls hP hD hS hl)
theorem x_lushr {x : Int64} {y : Int32} (C : xb_C κ Γ nL cc own rm) (hd : decode cc pc = .ok (.lushr, 1)) (k : xb_W κ Γ nL cells slots (pc + 1) lv (.long (xb_ushr x y) :: st) ws) : xb_W κ Γ nL cells slots pc lv (.int y :: .long x :: st) ws := fun H locs ls hP hD hS hl => lv_lushr C.1 C.2.1 hd rfl (k H locs ls hP hD hS hl)
theorem x_i2l {x : Int32} (C : xb_C κ Γ nL cc own rm) (hd : decode cc pc = .ok (.i2l, 1)) (k : xb_W κ Γ nL cells slots (pc + 1) lv (.long x.toInt64 :: st) ws) : xb_W κ Γ nL cells slots pc lv (.int x :: st) ws := fun H locs ls hP hD hS hl => lv_i2l C.1 C.2.1 hd rfl (k H locs ls hP hD hS hl)
theorem x_l2i {x : Int64} (C : xb_C κ Γ nL cc own rm) (hd : decode cc pc = .ok (.l2i, 1)) (k : xb_W κ Γ nL cells slots (pc + 1) lv (.int x.toInt32 :: st) ws) : xb_W κ Γ nL cells slots pc lv (.long x :: st) ws := fun H locs ls hP hD hS hl => lv_l2i C.1 C.2.1 hd rfl (k H locs ls hP hD hS hl)
theorem x_lcmp {x y : Int64} (C : xb_C κ Γ nL cc own rm) (hd : decode cc pc = .ok (.lcmp, 1)) (k : xb_W κ Γ nL cells slots (pc + 1) lv (.int (lg_cmp x y) :: st) ws) : xb_W κ Γ nL cells slots pc lv (.long y :: .long x :: st) ws := fun H locs ls hP hD hS hl => W.lcmp C.1 C.2.1 hd (k H locs ls hP hD hS hl)
theorem x_dup {v : Value} (C : xb_C κ Γ nL cc own rm) (hd : decode cc pc = .ok (.dup, 1)) (hv : v.category = 1) (k : xb_W κ Γ nL cells slots (pc + 1) lv (v :: v :: st) ws) : xb_W κ Γ nL cells slots pc lv (v :: st) ws := fun H locs ls hP hD hS hl => lv_dup C.1 C.2.1 hd hv (k H locs ls hP hD hS hl)
theorem x_dup2 {v w : Value} (C : xb_C κ Γ nL cc own rm) (hd : decode cc pc = .ok (.dup2, 1)) (hv : v.category = 1) (hw : w.category = 1) (k : xb_W κ Γ nL cells slots (pc + 1) lv (v :: w :: v :: w :: st) ws) : xb_W κ Γ nL cells slots pc lv (v :: w :: st) ws := fun H locs ls hP hD hS hl => lv_dup2_11 C.1 C.2.1 hd hv hw (k H locs ls hP hD hS hl)
theorem x_pop {v : Value} (C : xb_C κ Γ nL cc own rm) (hd : decode cc pc = .ok (.pop, 1)) (hv : v.category = 1) (k : xb_W κ Γ nL cells slots (pc + 1) lv st ws) : xb_W κ Γ nL cells slots pc lv (v :: st) ws := fun H locs ls hP hD hS hl => lv_pop C.1 C.2.1 hd hv (k H locs ls hP hD hS hl)
theorem x_if_eq {x : Int32} {off : Int} {tgt : Nat} (C : xb_C κ Γ nL cc own rm) (hd : decode cc pc = .ok (.ifCond .eq off, 3)) (ht : (pc : Int) + off = (tgt : Int)) (kt : x = 0 → xb_W κ Γ nL cells slots tgt lv st ws) (kf : ¬ (x = 0) → xb_W κ Γ nL cells slots (pc + 3) lv st ws) : xb_W κ Γ nL cells slots pc lv (.int x :: st) ws := fun H locs ls hP hD hS hl => lv_if_eq C.1 C.2.1 hd ht (fun h => kt h H locs ls hP hD hS hl) (fun h => kf h H locs ls hP hD hS hl)
theorem x_icmp_eq {x y : Int32} {off : Int} {tgt : Nat} (C : xb_C κ Γ nL cc own rm) (hd : decode cc pc = .ok (.if_icmp .eq off, 3)) (ht : (pc : Int) + off = (tgt : Int)) (kt : x = y → xb_W κ Γ nL cells slots tgt lv st ws) (kf : ¬ (x = y) → xb_W κ Γ nL cells slots (pc + 3) lv st ws) : xb_W κ Γ nL cells slots pc lv (.int y :: .int x :: st) ws := fun H locs ls hP hD hS hl => lv_icmp_eq C.1 C.2.1 hd ht (fun h => kt h H locs ls hP hD hS hl) (fun h => kf h H locs ls hP hD hS hl)
theorem x_if_ne {x : Int32} {off : Int} {tgt : Nat} (C : xb_C κ Γ nL cc own rm) (hd : decode cc pc = .ok (.ifCond .ne off, 3)) (ht : (pc : Int) + off = (tgt : Int)) (kt : ¬ x = 0 → xb_W κ Γ nL cells slots tgt lv st ws) (kf : x = 0 → xb_W κ Γ nL cells slots (pc + 3) lv st ws) : xb_W κ Γ nL cells slots pc lv (.int x :: st) ws := fun H locs ls hP hD hS hl => lv_if_ne C.1 C.2.1 hd ht (fun h => kt h H locs ls hP hD hS hl) (fun h => kf h H locs ls hP hD hS hl)
theorem x_icmp_ne {x y : Int32} {off : Int} {tgt : Nat} (C : xb_C κ Γ nL cc own rm) (hd : decode cc pc = .ok (.if_icmp .ne off, 3)) (ht : (pc : Int) + off = (tgt : Int)) (kt : ¬ x = y → xb_W κ Γ nL cells slots tgt lv st ws) (kf : x = y → xb_W κ Γ nL cells slots (pc + 3) lv st ws) : xb_W κ Γ nL cells slots pc lv (.int y :: .int x :: st) ws := fun H locs ls hP hD hS hl => lv_icmp_ne C.1 C.2.1 hd ht (fun h => kt h H locs ls hP hD hS hl) (fun h => kf h H locs ls hP hD hS hl)
theorem x_if_lt {x : Int32} {off : Int} {tgt : Nat} (C : xb_C κ Γ nL cc own rm) (hd : decode cc pc = .ok (.ifCond .lt off, 3)) (ht : (pc : Int) + off = (tgt : Int)) (kt : x < 0 → xb_W κ Γ nL cells slots tgt lv st ws) (kf : ¬ (x < 0) → xb_W κ Γ nL cells slots (pc + 3) lv st ws) : xb_W κ Γ nL cells slots pc lv (.int x :: st) ws := fun H locs ls hP hD hS hl => lv_if_lt C.1 C.2.1 hd ht (fun h => kt h H locs ls hP hD hS hl) (fun h => kf h H locs ls hP hD hS hl)
theorem x_icmp_lt {x y : Int32} {off : Int} {tgt : Nat} (C : xb_C κ Γ nL cc own rm) (hd : decode cc pc = .ok (.if_icmp .lt off, 3)) (ht : (pc : Int) + off = (tgt : Int)) (kt : x < y → xb_W κ Γ nL cells slots tgt lv st ws) (kf : ¬ (x < y) → xb_W κ Γ nL cells slots (pc + 3) lv st ws) : xb_W κ Γ nL cells slots pc lv (.int y :: .int x :: st) ws := fun H locs ls hP hD hS hl => lv_icmp_lt C.1 C.2.1 hd ht (fun h => kt h H locs ls hP hD hS hl) (fun h => kf h H locs ls hP hD hS hl)
theorem x_if_ge {x : Int32} {off : Int} {tgt : Nat} (C : xb_C κ Γ nL cc own rm) (hd : decode cc pc = .ok (.ifCond .ge off, 3)) (ht : (pc : Int) + off = (tgt : Int)) (kt : 0 ≤ x → xb_W κ Γ nL cells slots tgt lv st ws) (kf : ¬ (0 ≤ x) → xb_W κ Γ nL cells slots (pc + 3) lv st ws) : xb_W κ Γ nL cells slots pc lv (.int x :: st) ws := fun H locs ls hP hD hS hl => lv_if_ge C.1 C.2.1 hd ht (fun h => kt h H locs ls hP hD hS hl) (fun h => kf h H locs ls hP hD hS hl)
theorem x_icmp_ge {x y : Int32} {off : Int} {tgt : Nat} (C : xb_C κ Γ nL cc own rm) (hd : decode cc pc = .ok (.if_icmp .ge off, 3)) (ht : (pc : Int) + off = (tgt : Int)) (kt : y ≤ x → xb_W κ Γ nL cells slots tgt lv st ws) (kf : ¬ (y ≤ x) → xb_W κ Γ nL cells slots (pc + 3) lv st ws) : xb_W κ Γ nL cells slots pc lv (.int y :: .int x :: st) ws := fun H locs ls hP hD hS hl => lv_icmp_ge C.1 C.2.1 hd ht (fun h => kt h H locs ls hP hD hS hl) (fun h => kf h H locs ls hP hD hS hl)
theorem x_if_gt {x : Int32} {off : Int} {tgt : Nat} (C : xb_C κ Γ nL cc own rm) (hd : decode cc pc = .ok (.ifCond .gt off, 3)) (ht : (pc : Int) + off = (tgt : Int)) (kt : 0 < x → xb_W κ Γ nL cells slots tgt lv st ws) (kf : ¬ (0 < x) → xb_W κ Γ nL cells slots (pc + 3) lv st ws) : xb_W κ Γ nL cells slots pc lv (.int x :: st) ws := fun H locs ls hP hD hS hl => lv_if_gt C.1 C.2.1 hd ht (fun h => kt h H locs ls hP hD hS hl) (fun h => kf h H locs ls hP hD hS hl)
theorem x_icmp_gt {x y : Int32} {off : Int} {tgt : Nat} (C : xb_C κ Γ nL cc own rm) (hd : decode cc pc = .ok (.if_icmp .gt off, 3)) (ht : (pc : Int) + off = (tgt : Int)) (kt : y < x → xb_W κ Γ nL cells slots tgt lv st ws) (kf : ¬ (y < x) → xb_W κ Γ nL cells slots (pc + 3) lv st ws) : xb_W κ Γ nL cells slots pc lv (.int y :: .int x :: st) ws := fun H locs ls hP hD hS hl => lv_icmp_gt C.1 C.2.1 hd ht (fun h => kt h H locs ls hP hD hS hl) (fun h => kf h H locs ls hP hD hS hl)
theorem x_if_le {x : Int32} {off : Int} {tgt : Nat} (C : xb_C κ Γ nL cc own rm) (hd : decode cc pc = .ok (.ifCond .le off, 3)) (ht : (pc : Int) + off = (tgt : Int)) (kt : x ≤ 0 → xb_W κ Γ nL cells slots tgt lv st ws) (kf : ¬ (x ≤ 0) → xb_W κ Γ nL cells slots (pc + 3) lv st ws) : xb_W κ Γ nL cells slots pc lv (.int x :: st) ws := fun H locs ls hP hD hS hl => lv_if_le C.1 C.2.1 hd ht (fun h => kt h H locs ls hP hD hS hl) (fun h => kf h H locs ls hP hD hS hl)
theorem x_icmp_le {x y : Int32} {off : Int} {tgt : Nat} (C : xb_C κ Γ nL cc own rm) (hd : decode cc pc = .ok (.if_icmp .le off, 3)) (ht : (pc : Int) + off = (tgt : Int)) (kt : x ≤ y → xb_W κ Γ nL cells slots tgt lv st ws) (kf : ¬ (x ≤ y) → xb_W κ Γ nL cells slots (pc + 3) lv st ws) : xb_W κ Γ nL cells slots pc lv (.int y :: .int x :: st) ws := fun H locs ls hP hD hS hl => lv_icmp_le C.1 C.2.1 hd ht (fun h => kt h H locs ls hP hD hS hl) (fun h => kf h H locs ls hP hD hS hl)
theorem x_goto {off : Int} {tgt : Nat} (C : xb_C κ Γ nL cc own rm) (hd : decode cc pc = .ok (.goto off, 3)) (ht : (pc : Int) + off = (tgt : Int)) (k : xb_W κ Γ nL cells slots tgt lv st ws) : xb_W κ Γ nL cells slots pc lv st ws := fun H locs ls hP hD hS hl => lv_goto C.1 C.2.1 hd ht (k H locs ls hP hD hS hl)
theorem x_tswIn {dflt lo hi : Int} {offs : Array Int} {len : Nat} {x : Int32} {off : Int} {tgt : Nat} (v : Int32) (C : xb_C κ Γ nL cc own rm) (hd : decode cc pc = .ok (.tableswitch dflt lo hi offs, len)) (hx : x = v) (h1 : ¬ v.toInt < lo) (h2 : ¬ hi < v.toInt) (ho : offs[(v.toInt - lo).toNat]? = some off) (ht : (pc : Int) + off = (tgt : Int)) (k : xb_W κ Γ nL cells slots tgt lv st ws) : xb_W κ Γ nL cells slots pc lv (.int x :: st) ws := by
  subst hx
  exact fun H locs ls hP hD hS hl => lv_tableIn C.1 C.2.1 hd h1 h2 ho ht (k H locs ls hP hD hS hl)
theorem x_tswOut {dflt lo hi : Int} {offs : Array Int} {len : Nat} {x : Int32} {tgt : Nat} (C : xb_C κ Γ nL cc own rm) (hd : decode cc pc = .ok (.tableswitch dflt lo hi offs, len)) (h : x.toInt < lo ∨ hi < x.toInt) (ht : (pc : Int) + dflt = (tgt : Int)) (k : xb_W κ Γ nL cells slots tgt lv st ws) : xb_W κ Γ nL cells slots pc lv (.int x :: st) ws := fun H locs ls hP hD hS hl => lv_tableOut C.1 C.2.1 hd h ht (k H locs ls hP hD hS hl)
theorem x_sub {lv2 : List (Nat × Value)} (ks : List Nat) (h : lv_pick lv ks = lv2) (k : xb_W κ Γ nL cells slots pc lv2 st ws) : xb_W κ Γ nL cells slots pc lv st ws := fun H locs ls hP hD hS hl => k H locs ls hP hD hS (lv_sub hl ks h)
theorem x_eq {ws2 : va_W} (h : ws = ws2) (k : xb_W κ Γ nL cells slots pc lv st ws2) : xb_W κ Γ nL cells slots pc lv st ws := h ▸ k
theorem x_get {Cn : String} {T : u_T} {N ci index a : Nat} {fs : List Value} {v : Value} (C : xb_C κ Γ nL cc own rm) (q0 : Nat) (he : ws[q0]? = some (a, .inr (ci, fs))) (hc : vwCl[ci]? = some (Cn, T, N)) (j : Nat) (hj : j < N) (hw : ∀ w ∈ u_ws Cn T N, w ∈ xb_tbl) (hl0 : Cond.fieldLink own index (T j).1 (T j).2.1 (T j).2.2.1 ∈ xb_tbl) (hv : fs[j]? = some v) (hd : decode cc pc = .ok (.getfield index, 3)) (k : xb_W κ Γ nL cells slots (pc + 3) lv (v :: st) ws) : xb_W κ Γ nL cells slots pc lv (.ref a :: st) ws := fun H locs ls hP hD hS hl => va_get (args := Γ.2.2.2.2.2.1) (ref := (T j).1) C.1 C.2.1 C.2.2.2.2.1.2.1.all hw C.2.2.2.1 C.2.2.2.2.1.1 hP q0 he hc j hj (C.2.2.2.2.1.2.1.get hl0) (fun _ h => h) hv hd (k H locs ls hP hD hS hl)
theorem x_put {Cn : String} {T : u_T} {N ci index a : Nat} {fs : List Value} {v : Value} {ty : FieldType} {ws2 : va_W} (ty0 : Nat → FieldType) (C : xb_C κ Γ nL cc own rm) (q0 : Nat) (he : ws[q0]? = some (a, .inr (ci, fs))) (hc : vwCl[ci]? = some (Cn, T, N)) (j : Nat) (hj : j < N) (hw : ∀ w ∈ u_ws Cn T N, w ∈ xb_tbl) (hty : ∀ k, k < N → parseFieldDescriptor (T k).2.2.1 = some (ty0 k)) (hnm : ∀ a, a < N → ∀ b, b < N → a ≠ b → (T a).2.1 ≠ (T b).2.1) (hl0 : Cond.fieldLink own index (T j).1 (T j).2.1 (T j).2.2.1 ∈ xb_tbl) (hfin : (T j).2.2.2 = false) (hp : parseFieldDescriptor (T j).2.2.1 = some ty) (hn : narrow ty v = v) (hfit : fits ty v = true) (hlen : j < fs.length) (hd : decode cc pc = .ok (.putfield index, 3)) (h2 : ws.set q0 (a, .inr (ci, fs.set j v)) = ws2) (k : xb_W κ Γ nL cells slots (pc + 3) lv st ws2) : xb_W κ Γ nL cells slots pc lv (v :: .ref a :: st) ws := fun H locs ls hP hD hS hl => va_put (args := Γ.2.2.2.2.2.1) (ref := (T j).1) C.1 C.2.1 C.2.2.2.2.1.2.1.all hw ty0 hty hnm C.2.2.2.1 C.2.2.2.2.1.1 hP hD hS q0 he hc j hj (C.2.2.2.2.1.2.1.get hl0) (fun _ h => h) hfin hp hn hfit hlen hd (fun H1 locs1 hP1 hD1 hS1 => k H1 locs1 ls (h2 ▸ hP1) (h2 ▸ hD1) hS1 hl)
theorem x_putF {Cn : String} {T : u_T} {N ci index a : Nat} {fs : List Value} {v : Value} {ty : FieldType} {ws2 : va_W} (ty0 : Nat → FieldType) (C : xb_C κ Γ nL cc own rm) (hin : Γ.2.2.2.2.2.2.2.1.name = "<init>") (q0 : Nat) (he : ws[q0]? = some (a, .inr (ci, fs))) (hc : vwCl[ci]? = some (Cn, T, N)) (j : Nat) (hj : j < N) (hw : ∀ w ∈ u_ws Cn T N, w ∈ xb_tbl) (hty : ∀ k, k < N → parseFieldDescriptor (T k).2.2.1 = some (ty0 k)) (hnm : ∀ a, a < N → ∀ b, b < N → a ≠ b → (T a).2.1 ≠ (T b).2.1) (hl0 : Cond.fieldLink own index (T j).1 (T j).2.1 (T j).2.2.1 ∈ xb_tbl) (hfin : (T j).2.2.2 = true) (hdc : (T j).1 = own) (hp : parseFieldDescriptor (T j).2.2.1 = some ty) (hn : narrow ty v = v) (hfit : fits ty v = true) (hlen : j < fs.length) (hd : decode cc pc = .ok (.putfield index, 3)) (h2 : ws.set q0 (a, .inr (ci, fs.set j v)) = ws2) (k : xb_W κ Γ nL cells slots (pc + 3) lv st ws2) : xb_W κ Γ nL cells slots pc lv (v :: .ref a :: st) ws := fun H locs ls hP hD hS hl => va_putF (args := Γ.2.2.2.2.2.1) (ref := (T j).1) C.1 C.2.1 C.2.2.2.2.1.2.1.all hw ty0 hty hnm C.2.2.2.1 C.2.2.2.2.1.1 hP hD hS q0 he hc j hj (C.2.2.2.2.1.2.1.get hl0) (fun _ h => h) hfin hin hdc hp hn hfit hlen hd (fun H1 locs1 hP1 hD1 hS1 => k H1 locs1 ls (h2 ▸ hP1) (h2 ▸ hD1) hS1 hl)
theorem x_iald {a n : Nat} {f : Nat → Int32} {i : Int32} (C : xb_C κ Γ nL cc own rm) (q0 : Nat) (ha : ws[q0]? = some (a, .inl (κ.2.1.2.1, n, .inl f))) (hb : bn i n = true) (hd : decode cc pc = .ok (.iaload, 1)) (k : xb_W κ Γ nL cells slots (pc + 1) lv (.int (f i.toNatClampNeg) :: st) ws) : xb_W κ Γ nL cells slots pc lv (.int i :: .ref a :: st) ws := fun H locs ls hP hD hS hl => va_iald C.1 C.2.1 C.2.2.2.2.1.1 hP q0 0 ha rfl (bn_in hb) hd (k H locs ls hP hD hS hl)
theorem x_lald {a n : Nat} {f : Nat → Int64} {i : Int32} (C : xb_C κ Γ nL cc own rm) (q0 : Nat) (ha : ws[q0]? = some (a, .inl (κ.2.1.2.2.1, n, .inr (.inl f)))) (hb : bn i n = true) (hd : decode cc pc = .ok (.laload, 1)) (k : xb_W κ Γ nL cells slots (pc + 1) lv (.long (f i.toNatClampNeg) :: st) ws) : xb_W κ Γ nL cells slots pc lv (.int i :: .ref a :: st) ws := fun H locs ls hP hD hS hl => va_lald C.1 C.2.1 C.2.2.2.2.1.1 hP q0 1 ha rfl (bn_in hb) hd (k H locs ls hP hD hS hl)
theorem x_zald {a n : Nat} {f : Nat → Int32} {i : Int32} (C : xb_C κ Γ nL cc own rm) (q0 : Nat) (ha : ws[q0]? = some (a, .inl (κ.2.1.2.2.2, n, .inl f))) (hb : bn i n = true) (hd : decode cc pc = .ok (.baload, 1)) (k : xb_W κ Γ nL cells slots (pc + 1) lv (.int (f i.toNatClampNeg) :: st) ws) : xb_W κ Γ nL cells slots pc lv (.int i :: .ref a :: st) ws := fun H locs ls hP hD hS hl => va_zald C.1 C.2.1 C.2.2.2.2.1.1 hP q0 2 ha rfl (bn_in hb) hd (k H locs ls hP hD hS hl)
theorem x_iast {a n : Nat} {f : Nat → Int32} {i : Int32} {x : Int32} {ws2 : va_W} (C : xb_C κ Γ nL cc own rm) (q0 : Nat) (ha : ws[q0]? = some (a, .inl (κ.2.1.2.1, n, .inl f))) (hb : bn i n = true) (hd : decode cc pc = .ok (.iastore, 1)) (h2 : ws.set q0 (a, .inl (κ.2.1.2.1, n, .inl (upd f i.toNatClampNeg x))) = ws2) (k : xb_W κ Γ nL cells slots (pc + 1) lv st ws2) : xb_W κ Γ nL cells slots pc lv (.int x :: .int i :: .ref a :: st) ws := fun H locs ls hP hD hS hl => va_iast C.1 C.2.1 C.2.2.2.2.1.1 hP hD hS q0 0 ha rfl (bn_in hb) hd (fun H1 locs1 hP1 hD1 hS1 => k H1 locs1 ls (h2 ▸ hP1) (h2 ▸ hD1) hS1 hl)
theorem x_last {a n : Nat} {f : Nat → Int64} {i : Int32} {x : Int64} {ws2 : va_W} (C : xb_C κ Γ nL cc own rm) (q0 : Nat) (ha : ws[q0]? = some (a, .inl (κ.2.1.2.2.1, n, .inr (.inl f)))) (hb : bn i n = true) (hd : decode cc pc = .ok (.lastore, 1)) (h2 : ws.set q0 (a, .inl (κ.2.1.2.2.1, n, .inr (.inl (vp_updL f i.toNatClampNeg x)))) = ws2) (k : xb_W κ Γ nL cells slots (pc + 1) lv st ws2) : xb_W κ Γ nL cells slots pc lv (.long x :: .int i :: .ref a :: st) ws := fun H locs ls hP hD hS hl => va_last C.1 C.2.1 C.2.2.2.2.1.1 hP hD hS q0 1 ha rfl (bn_in hb) hd (fun H1 locs1 hP1 hD1 hS1 => k H1 locs1 ls (h2 ▸ hP1) (h2 ▸ hD1) hS1 hl)
theorem x_zast {a n : Nat} {f : Nat → Int32} {i : Int32} {x : Int32} {ws2 : va_W} (C : xb_C κ Γ nL cc own rm) (q0 : Nat) (ha : ws[q0]? = some (a, .inl (κ.2.1.2.2.2, n, .inl f))) (hb : bn i n = true) (hd : decode cc pc = .ok (.bastore, 1)) (h2 : ws.set q0 (a, .inl (κ.2.1.2.2.2, n, .inl (upd f i.toNatClampNeg (vp_nar .boolean x)))) = ws2) (k : xb_W κ Γ nL cells slots (pc + 1) lv st ws2) : xb_W κ Γ nL cells slots pc lv (.int x :: .int i :: .ref a :: st) ws := fun H locs ls hP hD hS hl => va_zast C.1 C.2.1 C.2.2.2.2.1.1 hP hD hS q0 2 ha rfl (bn_in hb) hd (fun H1 locs1 hP1 hD1 hS1 => k H1 locs1 ls (h2 ▸ hP1) (h2 ▸ hD1) hS1 hl)
theorem x_alen {a : Nat} {cA : ClassId} {x : vp_A} {ty : FieldType} {v : Int32} (C : xb_C κ Γ nL cc own rm) (q0 t0 : Nat) (ha : ws[q0]? = some (a, .inl (cA, x))) (ht : (xb_t κ.2.1)[t0]? = some (cA, ty)) (hv : Int32.ofNat x.1 = v) (hd : decode cc pc = .ok (.arraylength, 1)) (k : xb_W κ Γ nL cells slots (pc + 1) lv (.int v :: st) ws) : xb_W κ Γ nL cells slots pc lv (.ref a :: st) ws := fun H locs ls hP hD hS hl => va_alen C.1 C.2.1 C.2.2.2.2.1.1 hP q0 t0 ha ht hv hd (k H locs ls hP hD hS hl)
theorem x_good {y : MethodName} {cb : ByteArray} {maxL : Nat} {ret : Option FieldType} (h : Cond.code y cb maxL ret ∈ xb_tbl) : GoodIn xb_tbl [Cond.code y cb maxL ret] := by
  intro w hw
  rw [List.mem_singleton] at hw
  subst hw
  exact ⟨h, Or.inl rfl⟩
theorem x_rm {rm rmc : Room} {mc ms maxL : Nat} (hr : (rmc.cells == mc && rmc.slots == ms && Nat.ble (rmc.frames + 1) rm.frames && Nat.ble (8 + (maxL + 11) + rmc.locals) rm.locals) = true) : rmc.cells = mc ∧ rmc.slots = ms ∧ rmc.frames + 1 ≤ rm.frames ∧ 8 + (maxL + 11) + rmc.locals ≤ rm.locals := by
  simp only [Bool.and_eq_true, beq_iff_eq] at hr
  exact ⟨hr.1.1.1, hr.1.1.2, Nat.le_of_ble_eq_true hr.1.2, Nat.le_of_ble_eq_true hr.2⟩
def xm_V (y : MethodName) (cls : String) (cb : ByteArray) (maxL : Nat) (ret : Option FieldType) (n : Nat) : Prop := Cond.instanceMethod y ∈ xb_tbl ∧ Cond.selects cls y y ∈ xb_tbl ∧ Cond.initialized cls ∈ xb_tbl ∧ Cond.code y cb maxL ret ∈ xb_tbl ∧ (y.cls = cls ∧ y.cls ≠ "java/lang/invoke/MethodHandle" ∧ y.cls ≠ "java/lang/invoke/VarHandle" ∧ (parseMethodDescriptor y.desc).map (fun d => d.parameters.length) = some n)
def xm_S (y : MethodName) (cls : String) (cb : ByteArray) (maxL : Nat) (ret : Option FieldType) (n : Nat) : Prop := Cond.static y ∈ xb_tbl ∧ Cond.initialized cls ∈ xb_tbl ∧ Cond.code y cb maxL ret ∈ xb_tbl ∧ (y.cls = cls ∧ y.cls ≠ "java/lang/invoke/MethodHandle" ∧ y.cls ≠ "java/lang/invoke/VarHandle" ∧ (parseMethodDescriptor y.desc).map (fun d => d.parameters.length) = some n)
def xm_I (y : MethodName) (cls : String) (cb : ByteArray) (maxL : Nat) (ret : Option FieldType) (n : Nat) : Prop := Cond.instanceMethod y ∈ xb_tbl ∧ Cond.initialized cls ∈ xb_tbl ∧ Cond.code y cb maxL ret ∈ xb_tbl ∧ (y.cls = cls ∧ y.cls ≠ "java/lang/invoke/MethodHandle" ∧ y.cls ≠ "java/lang/invoke/VarHandle" ∧ (parseMethodDescriptor y.desc).map (fun d => d.parameters.length) = some n)
theorem x_runV {y : MethodName} {cls : String} {cb : ByteArray} {maxL n idx mc ms : Nat} {ret : Option FieldType} {rmc : Room} {Qc : Array Value → State → Outcome → State → Prop} {As st0 : List Value} {b q0 ci : Nat} {T : u_T} {N : Nat} {fs : List Value} {H : Heap} {locs : List Loc} {ls : Array Slot} (C : xb_C κ Γ nL cc own rm) (hM : Met κ.1 y [Cond.code y cb maxL ret] rmc (xb_P κ (.ref b :: As) ws) Qc mc ms κ.2.2.1) (hm : xm_V y cls cb maxL ret n) (hlk : Cond.methodLink own idx y ∈ xb_tbl) (hc : vwCl[ci]? = some (cls, T, N)) (he : ws[q0]? = some (b, .inr (ci, fs))) (hr : (rmc.cells == mc && rmc.slots == ms && Nat.ble (rmc.frames + 1) rm.frames && Nat.ble (8 + (maxL + 11) + rmc.locals) rm.locals) = true) (hn : As.length = n) (hst : st0 = As.reverse ++ .ref b :: st) (hrm : Nat.ble (st.map fun v => v.category).sum 8 = true) (hd : decode cc pc = .ok (.invokevirtual idx, 3)) (hf : Nat.ble (cells + mc) rm.cells = true ∧ Nat.ble (slots + ms) rm.slots = true) (hP : va_P κ.2.1.1 vwCl ws H) (hD : va_D κ.2.2.1 ws) (hS : va_S κ.2.2.1 Γ.2.2.2.1.heap H locs) (hl : lv_has ls nL lv) : va_Run Γ.1 κ.1 Γ.2.1 Γ.2.2.1 Γ.2.2.2.1 Γ.2.2.2.2.1 Γ.2.2.2.2.2.1 Γ.2.2.2.2.2.2.1 Γ.2.2.2.2.2.2.2.1 Γ.2.2.2.2.2.2.2.2.1 H locs cells slots mc ms (F0 Γ.2.2.2.2.1 pc ls st0) st (Qc (Value.ref b :: As).toArray) κ.2.2.1 := by
  obtain ⟨h1, h2, h3, h4⟩ := x_rm hr
  rw [← C.2.2.2.2.2.2] at h3 h4 hf
  have hN := C.2.2.2.2.1.2.1
  obtain ⟨m1, m2, m3, m4, rfl, m6⟩ := hm
  exact va_runV ⟨C.1, C.2.1, C.2.2.1, C.2.2.2.1, C.2.2.2.2.1.2.1.all⟩ hM ⟨callB_of n hN.all (x_good m4) rfl h1 h2 (hN.get m3) (hN.get hlk) m6 ⟨h3, h4⟩, hN.get m1, hN.get m2⟩ ⟨xb_P.blind, va_recv C.2.2.2.2.1.1 hP hc he, (fun U hU hW => ⟨rfl, by rw [hU]; exact hP, hD, C.2.2.2.2.1.call hS hU hW⟩)⟩ rfl hn hl.1 hst (lv_room (Nat.le_of_ble_eq_true hrm)) hd ⟨Nat.le_of_ble_eq_true hf.1, Nat.le_of_ble_eq_true hf.2⟩
theorem x_runS {y : MethodName} {cls : String} {cb : ByteArray} {maxL n idx mc ms : Nat} {ret : Option FieldType} {rmc : Room} {Qc : Array Value → State → Outcome → State → Prop} {As st0 : List Value} {H : Heap} {locs : List Loc} {ls : Array Slot} (C : xb_C κ Γ nL cc own rm) (hM : Met κ.1 y [Cond.code y cb maxL ret] rmc (xb_P κ As ws) Qc mc ms κ.2.2.1) (hm : xm_S y cls cb maxL ret n) (hlk : Cond.methodLink own idx y ∈ xb_tbl) (hr : (rmc.cells == mc && rmc.slots == ms && Nat.ble (rmc.frames + 1) rm.frames && Nat.ble (8 + (maxL + 11) + rmc.locals) rm.locals) = true) (hn : As.length = n) (hst : st0 = As.reverse ++ st) (hrm : Nat.ble (st.map fun v => v.category).sum 8 = true) (hd : decode cc pc = .ok (.invokestatic idx, 3)) (hf : Nat.ble (cells + mc) rm.cells = true ∧ Nat.ble (slots + ms) rm.slots = true) (hP : va_P κ.2.1.1 vwCl ws H) (hD : va_D κ.2.2.1 ws) (hS : va_S κ.2.2.1 Γ.2.2.2.1.heap H locs) (hl : lv_has ls nL lv) : va_Run Γ.1 κ.1 Γ.2.1 Γ.2.2.1 Γ.2.2.2.1 Γ.2.2.2.2.1 Γ.2.2.2.2.2.1 Γ.2.2.2.2.2.2.1 Γ.2.2.2.2.2.2.2.1 Γ.2.2.2.2.2.2.2.2.1 H locs cells slots mc ms (F0 Γ.2.2.2.2.1 pc ls st0) st (Qc As.toArray) κ.2.2.1 := by
  obtain ⟨h1, h2, h3, h4⟩ := x_rm hr
  rw [← C.2.2.2.2.2.2] at h3 h4 hf
  have hN := C.2.2.2.2.1.2.1
  obtain ⟨m1, m3, m4, rfl, m6⟩ := hm
  exact va_runS ⟨C.1, C.2.1, C.2.2.1, C.2.2.2.1, C.2.2.2.2.1.2.1.all⟩ hM ⟨callB_of n hN.all (x_good m4) rfl h1 h2 (hN.get m3) (hN.get hlk) m6 ⟨h3, h4⟩, hN.get m1⟩ ⟨xb_P.blind, (fun U hU hW => ⟨rfl, by rw [hU]; exact hP, hD, C.2.2.2.2.1.call hS hU hW⟩)⟩ rfl hn hl.1 hst (lv_room (Nat.le_of_ble_eq_true hrm)) hd ⟨Nat.le_of_ble_eq_true hf.1, Nat.le_of_ble_eq_true hf.2⟩
theorem x_runN {y : MethodName} {cls : String} {cb : ByteArray} {maxL n idx mc ms : Nat} {ret : Option FieldType} {rmc : Room} {Qc : Array Value → State → Outcome → State → Prop} {As st0 : List Value} {host : String} {H : Heap} {locs : List Loc} {ls : Array Slot} (C : xb_C κ Γ nL cc own rm) (hM : Met κ.1 y [Cond.code y cb maxL ret] rmc (xb_P κ As ws) Qc mc ms κ.2.2.1) (hm : xm_S y cls cb maxL ret n) (hlk : Cond.methodLinkNest own idx y host ∈ xb_tbl) (hr : (rmc.cells == mc && rmc.slots == ms && Nat.ble (rmc.frames + 1) rm.frames && Nat.ble (8 + (maxL + 11) + rmc.locals) rm.locals) = true) (hn : As.length = n) (hst : st0 = As.reverse ++ st) (hrm : Nat.ble (st.map fun v => v.category).sum 8 = true) (hd : decode cc pc = .ok (.invokestatic idx, 3)) (hf : Nat.ble (cells + mc) rm.cells = true ∧ Nat.ble (slots + ms) rm.slots = true) (hP : va_P κ.2.1.1 vwCl ws H) (hD : va_D κ.2.2.1 ws) (hS : va_S κ.2.2.1 Γ.2.2.2.1.heap H locs) (hl : lv_has ls nL lv) : va_Run Γ.1 κ.1 Γ.2.1 Γ.2.2.1 Γ.2.2.2.1 Γ.2.2.2.2.1 Γ.2.2.2.2.2.1 Γ.2.2.2.2.2.2.1 Γ.2.2.2.2.2.2.2.1 Γ.2.2.2.2.2.2.2.2.1 H locs cells slots mc ms (F0 Γ.2.2.2.2.1 pc ls st0) st (Qc As.toArray) κ.2.2.1 := by
  obtain ⟨h1, h2, h3, h4⟩ := x_rm hr
  rw [← C.2.2.2.2.2.2] at h3 h4 hf
  have hN := C.2.2.2.2.1.2.1
  obtain ⟨m1, m3, m4, rfl, m6⟩ := hm
  exact va_runSN ⟨C.1, C.2.1, C.2.2.1, C.2.2.2.1, C.2.2.2.2.1.2.1.all⟩ hM ⟨va_cnB n hN.all (x_good m4) rfl h1 h2 (hN _ hlk) (hN.get m3) m6 ⟨h3, h4⟩, hN.get m1, trivial⟩ ⟨xb_P.blind, (fun U hU hW => ⟨rfl, by rw [hU]; exact hP, hD, C.2.2.2.2.1.call hS hU hW⟩)⟩ rfl hn hl.1 hst (lv_room (Nat.le_of_ble_eq_true hrm)) hd ⟨Nat.le_of_ble_eq_true hf.1, Nat.le_of_ble_eq_true hf.2⟩
theorem x_callVi {y : MethodName} {cls : String} {cb : ByteArray} {maxL n idx mc ms : Nat} {ret : Option FieldType} {rmc : Room} {As st0 : List Value} {ws2 : va_W} {r : Int32} {b ci N : Nat} {T : u_T} {fs : List Value} (C : xb_C κ Γ nL cc own rm) (hM : Met κ.1 y [Cond.code y cb maxL ret] rmc (xb_P κ (.ref b :: As) ws) (xb_Qi κ r ws2) mc ms κ.2.2.1) (hm : xm_V y cls cb maxL ret n) (hlk : Cond.methodLink own idx y ∈ xb_tbl) (q0 : Nat) (hc : vwCl[ci]? = some (cls, T, N)) (he : ws[q0]? = some (b, .inr (ci, fs))) (hr : (rmc.cells == mc && rmc.slots == ms && Nat.ble (rmc.frames + 1) rm.frames && Nat.ble (8 + (maxL + 11) + rmc.locals) rm.locals) = true) (hn : As.length = n) (hst : st0 = As.reverse ++ .ref b :: st) (hrm : Nat.ble (st.map fun v => v.category).sum 8 = true) (hd : decode cc pc = .ok (.invokevirtual idx, 3)) (hf : Nat.ble (cells + mc) rm.cells = true ∧ Nat.ble (slots + ms) rm.slots = true) (k : xb_W κ Γ nL (cells + mc) (slots + ms) (pc + 3) lv (.int r :: st) ws2) : xb_W κ Γ nL cells slots pc lv st0 ws := fun H locs ls hP hD hS hl => va_calli (x_runV C hM hm hlk hc he hr hn hst hrm hd hf hP hD hS hl) hS (fun _ _ h => h) (fun _ h => h) (fun x u t H1 locs1 ht hvm hx hB hz hk hS1 => by subst hx; exact k H1 locs1 ls (ht ▸ hB.1) hB.2 hS1 hl)
theorem x_callSi {y : MethodName} {cls : String} {cb : ByteArray} {maxL n idx mc ms : Nat} {ret : Option FieldType} {rmc : Room} {As st0 : List Value} {ws2 : va_W} {r : Int32} (C : xb_C κ Γ nL cc own rm) (hM : Met κ.1 y [Cond.code y cb maxL ret] rmc (xb_P κ As ws) (xb_Qi κ r ws2) mc ms κ.2.2.1) (hm : xm_S y cls cb maxL ret n) (hlk : Cond.methodLink own idx y ∈ xb_tbl) (hr : (rmc.cells == mc && rmc.slots == ms && Nat.ble (rmc.frames + 1) rm.frames && Nat.ble (8 + (maxL + 11) + rmc.locals) rm.locals) = true) (hn : As.length = n) (hst : st0 = As.reverse ++ st) (hrm : Nat.ble (st.map fun v => v.category).sum 8 = true) (hd : decode cc pc = .ok (.invokestatic idx, 3)) (hf : Nat.ble (cells + mc) rm.cells = true ∧ Nat.ble (slots + ms) rm.slots = true) (k : xb_W κ Γ nL (cells + mc) (slots + ms) (pc + 3) lv (.int r :: st) ws2) : xb_W κ Γ nL cells slots pc lv st0 ws := fun H locs ls hP hD hS hl => va_calli (x_runS C hM hm hlk hr hn hst hrm hd hf hP hD hS hl) hS (fun _ _ h => h) (fun _ h => h) (fun x u t H1 locs1 ht hvm hx hB hz hk hS1 => by subst hx; exact k H1 locs1 ls (ht ▸ hB.1) hB.2 hS1 hl)
theorem x_callNi {y : MethodName} {cls : String} {cb : ByteArray} {maxL n idx mc ms : Nat} {ret : Option FieldType} {rmc : Room} {As st0 : List Value} {ws2 : va_W} {r : Int32} {host : String} (C : xb_C κ Γ nL cc own rm) (hM : Met κ.1 y [Cond.code y cb maxL ret] rmc (xb_P κ As ws) (xb_Qi κ r ws2) mc ms κ.2.2.1) (hm : xm_S y cls cb maxL ret n) (hlk : Cond.methodLinkNest own idx y host ∈ xb_tbl) (hr : (rmc.cells == mc && rmc.slots == ms && Nat.ble (rmc.frames + 1) rm.frames && Nat.ble (8 + (maxL + 11) + rmc.locals) rm.locals) = true) (hn : As.length = n) (hst : st0 = As.reverse ++ st) (hrm : Nat.ble (st.map fun v => v.category).sum 8 = true) (hd : decode cc pc = .ok (.invokestatic idx, 3)) (hf : Nat.ble (cells + mc) rm.cells = true ∧ Nat.ble (slots + ms) rm.slots = true) (k : xb_W κ Γ nL (cells + mc) (slots + ms) (pc + 3) lv (.int r :: st) ws2) : xb_W κ Γ nL cells slots pc lv st0 ws := fun H locs ls hP hD hS hl => va_calli (x_runN C hM hm hlk hr hn hst hrm hd hf hP hD hS hl) hS (fun _ _ h => h) (fun _ h => h) (fun x u t H1 locs1 ht hvm hx hB hz hk hS1 => by subst hx; exact k H1 locs1 ls (ht ▸ hB.1) hB.2 hS1 hl)
theorem x_callVl {y : MethodName} {cls : String} {cb : ByteArray} {maxL n idx mc ms : Nat} {ret : Option FieldType} {rmc : Room} {As st0 : List Value} {ws2 : va_W} {r : Int64} {b ci N : Nat} {T : u_T} {fs : List Value} (C : xb_C κ Γ nL cc own rm) (hM : Met κ.1 y [Cond.code y cb maxL ret] rmc (xb_P κ (.ref b :: As) ws) (xb_Ql κ r ws2) mc ms κ.2.2.1) (hm : xm_V y cls cb maxL ret n) (hlk : Cond.methodLink own idx y ∈ xb_tbl) (q0 : Nat) (hc : vwCl[ci]? = some (cls, T, N)) (he : ws[q0]? = some (b, .inr (ci, fs))) (hr : (rmc.cells == mc && rmc.slots == ms && Nat.ble (rmc.frames + 1) rm.frames && Nat.ble (8 + (maxL + 11) + rmc.locals) rm.locals) = true) (hn : As.length = n) (hst : st0 = As.reverse ++ .ref b :: st) (hrm : Nat.ble (st.map fun v => v.category).sum 8 = true) (hd : decode cc pc = .ok (.invokevirtual idx, 3)) (hf : Nat.ble (cells + mc) rm.cells = true ∧ Nat.ble (slots + ms) rm.slots = true) (k : xb_W κ Γ nL (cells + mc) (slots + ms) (pc + 3) lv (.long r :: st) ws2) : xb_W κ Γ nL cells slots pc lv st0 ws := fun H locs ls hP hD hS hl => va_calll (x_runV C hM hm hlk hc he hr hn hst hrm hd hf hP hD hS hl) hS (fun _ _ h => h) (fun _ h => h) (fun x u t H1 locs1 ht hvm hx hB hz hk hS1 => by subst hx; exact k H1 locs1 ls (ht ▸ hB.1) hB.2 hS1 hl)
theorem x_callSl {y : MethodName} {cls : String} {cb : ByteArray} {maxL n idx mc ms : Nat} {ret : Option FieldType} {rmc : Room} {As st0 : List Value} {ws2 : va_W} {r : Int64} (C : xb_C κ Γ nL cc own rm) (hM : Met κ.1 y [Cond.code y cb maxL ret] rmc (xb_P κ As ws) (xb_Ql κ r ws2) mc ms κ.2.2.1) (hm : xm_S y cls cb maxL ret n) (hlk : Cond.methodLink own idx y ∈ xb_tbl) (hr : (rmc.cells == mc && rmc.slots == ms && Nat.ble (rmc.frames + 1) rm.frames && Nat.ble (8 + (maxL + 11) + rmc.locals) rm.locals) = true) (hn : As.length = n) (hst : st0 = As.reverse ++ st) (hrm : Nat.ble (st.map fun v => v.category).sum 8 = true) (hd : decode cc pc = .ok (.invokestatic idx, 3)) (hf : Nat.ble (cells + mc) rm.cells = true ∧ Nat.ble (slots + ms) rm.slots = true) (k : xb_W κ Γ nL (cells + mc) (slots + ms) (pc + 3) lv (.long r :: st) ws2) : xb_W κ Γ nL cells slots pc lv st0 ws := fun H locs ls hP hD hS hl => va_calll (x_runS C hM hm hlk hr hn hst hrm hd hf hP hD hS hl) hS (fun _ _ h => h) (fun _ h => h) (fun x u t H1 locs1 ht hvm hx hB hz hk hS1 => by subst hx; exact k H1 locs1 ls (ht ▸ hB.1) hB.2 hS1 hl)
theorem x_callNl {y : MethodName} {cls : String} {cb : ByteArray} {maxL n idx mc ms : Nat} {ret : Option FieldType} {rmc : Room} {As st0 : List Value} {ws2 : va_W} {r : Int64} {host : String} (C : xb_C κ Γ nL cc own rm) (hM : Met κ.1 y [Cond.code y cb maxL ret] rmc (xb_P κ As ws) (xb_Ql κ r ws2) mc ms κ.2.2.1) (hm : xm_S y cls cb maxL ret n) (hlk : Cond.methodLinkNest own idx y host ∈ xb_tbl) (hr : (rmc.cells == mc && rmc.slots == ms && Nat.ble (rmc.frames + 1) rm.frames && Nat.ble (8 + (maxL + 11) + rmc.locals) rm.locals) = true) (hn : As.length = n) (hst : st0 = As.reverse ++ st) (hrm : Nat.ble (st.map fun v => v.category).sum 8 = true) (hd : decode cc pc = .ok (.invokestatic idx, 3)) (hf : Nat.ble (cells + mc) rm.cells = true ∧ Nat.ble (slots + ms) rm.slots = true) (k : xb_W κ Γ nL (cells + mc) (slots + ms) (pc + 3) lv (.long r :: st) ws2) : xb_W κ Γ nL cells slots pc lv st0 ws := fun H locs ls hP hD hS hl => va_calll (x_runN C hM hm hlk hr hn hst hrm hd hf hP hD hS hl) hS (fun _ _ h => h) (fun _ h => h) (fun x u t H1 locs1 ht hvm hx hB hz hk hS1 => by subst hx; exact k H1 locs1 ls (ht ▸ hB.1) hB.2 hS1 hl)
theorem x_callVv {y : MethodName} {cls : String} {cb : ByteArray} {maxL n idx mc ms : Nat} {ret : Option FieldType} {rmc : Room} {As st0 : List Value} {ws2 : va_W}  {b ci N : Nat} {T : u_T} {fs : List Value} (C : xb_C κ Γ nL cc own rm) (hM : Met κ.1 y [Cond.code y cb maxL ret] rmc (xb_P κ (.ref b :: As) ws) (xb_Qv κ ws2) mc ms κ.2.2.1) (hm : xm_V y cls cb maxL ret n) (hlk : Cond.methodLink own idx y ∈ xb_tbl) (q0 : Nat) (hc : vwCl[ci]? = some (cls, T, N)) (he : ws[q0]? = some (b, .inr (ci, fs))) (hr : (rmc.cells == mc && rmc.slots == ms && Nat.ble (rmc.frames + 1) rm.frames && Nat.ble (8 + (maxL + 11) + rmc.locals) rm.locals) = true) (hn : As.length = n) (hst : st0 = As.reverse ++ .ref b :: st) (hrm : Nat.ble (st.map fun v => v.category).sum 8 = true) (hd : decode cc pc = .ok (.invokevirtual idx, 3)) (hf : Nat.ble (cells + mc) rm.cells = true ∧ Nat.ble (slots + ms) rm.slots = true) (k : xb_W κ Γ nL (cells + mc) (slots + ms) (pc + 3) lv st ws2) : xb_W κ Γ nL cells slots pc lv st0 ws := fun H locs ls hP hD hS hl => va_callv (x_runV C hM hm hlk hc he hr hn hst hrm hd hf hP hD hS hl) hS (fun _ _ h => h) (fun _ h => h) (fun u t H1 locs1 ht hvm hx hB hz hk hS1 => k H1 locs1 ls (ht ▸ hB.1) hB.2 hS1 hl)
theorem x_callSv {y : MethodName} {cls : String} {cb : ByteArray} {maxL n idx mc ms : Nat} {ret : Option FieldType} {rmc : Room} {As st0 : List Value} {ws2 : va_W}  (C : xb_C κ Γ nL cc own rm) (hM : Met κ.1 y [Cond.code y cb maxL ret] rmc (xb_P κ As ws) (xb_Qv κ ws2) mc ms κ.2.2.1) (hm : xm_S y cls cb maxL ret n) (hlk : Cond.methodLink own idx y ∈ xb_tbl) (hr : (rmc.cells == mc && rmc.slots == ms && Nat.ble (rmc.frames + 1) rm.frames && Nat.ble (8 + (maxL + 11) + rmc.locals) rm.locals) = true) (hn : As.length = n) (hst : st0 = As.reverse ++ st) (hrm : Nat.ble (st.map fun v => v.category).sum 8 = true) (hd : decode cc pc = .ok (.invokestatic idx, 3)) (hf : Nat.ble (cells + mc) rm.cells = true ∧ Nat.ble (slots + ms) rm.slots = true) (k : xb_W κ Γ nL (cells + mc) (slots + ms) (pc + 3) lv st ws2) : xb_W κ Γ nL cells slots pc lv st0 ws := fun H locs ls hP hD hS hl => va_callv (x_runS C hM hm hlk hr hn hst hrm hd hf hP hD hS hl) hS (fun _ _ h => h) (fun _ h => h) (fun u t H1 locs1 ht hvm hx hB hz hk hS1 => k H1 locs1 ls (ht ▸ hB.1) hB.2 hS1 hl)
theorem x_callNv {y : MethodName} {cls : String} {cb : ByteArray} {maxL n idx mc ms : Nat} {ret : Option FieldType} {rmc : Room} {As st0 : List Value} {ws2 : va_W}  {host : String} (C : xb_C κ Γ nL cc own rm) (hM : Met κ.1 y [Cond.code y cb maxL ret] rmc (xb_P κ As ws) (xb_Qv κ ws2) mc ms κ.2.2.1) (hm : xm_S y cls cb maxL ret n) (hlk : Cond.methodLinkNest own idx y host ∈ xb_tbl) (hr : (rmc.cells == mc && rmc.slots == ms && Nat.ble (rmc.frames + 1) rm.frames && Nat.ble (8 + (maxL + 11) + rmc.locals) rm.locals) = true) (hn : As.length = n) (hst : st0 = As.reverse ++ st) (hrm : Nat.ble (st.map fun v => v.category).sum 8 = true) (hd : decode cc pc = .ok (.invokestatic idx, 3)) (hf : Nat.ble (cells + mc) rm.cells = true ∧ Nat.ble (slots + ms) rm.slots = true) (k : xb_W κ Γ nL (cells + mc) (slots + ms) (pc + 3) lv st ws2) : xb_W κ Γ nL cells slots pc lv st0 ws := fun H locs ls hP hD hS hl => va_callv (x_runN C hM hm hlk hr hn hst hrm hd hf hP hD hS hl) hS (fun _ _ h => h) (fun _ h => h) (fun u t H1 locs1 ht hvm hx hB hz hk hS1 => k H1 locs1 ls (ht ▸ hB.1) hB.2 hS1 hl)
theorem x_callVr {y : MethodName} {cls : String} {cb : ByteArray} {maxL n idx mc ms : Nat} {ret : Option FieldType} {rmc : Room} {As st0 : List Value} {ws2 : va_W} {r : Nat} {b ci N : Nat} {T : u_T} {fs : List Value} (C : xb_C κ Γ nL cc own rm) (hM : Met κ.1 y [Cond.code y cb maxL ret] rmc (xb_P κ (.ref b :: As) ws) (xb_Qr κ r ws2) mc ms κ.2.2.1) (hm : xm_V y cls cb maxL ret n) (hlk : Cond.methodLink own idx y ∈ xb_tbl) (q0 : Nat) (hc : vwCl[ci]? = some (cls, T, N)) (he : ws[q0]? = some (b, .inr (ci, fs))) (hr : (rmc.cells == mc && rmc.slots == ms && Nat.ble (rmc.frames + 1) rm.frames && Nat.ble (8 + (maxL + 11) + rmc.locals) rm.locals) = true) (hn : As.length = n) (hst : st0 = As.reverse ++ .ref b :: st) (hrm : Nat.ble (st.map fun v => v.category).sum 8 = true) (hd : decode cc pc = .ok (.invokevirtual idx, 3)) (hf : Nat.ble (cells + mc) rm.cells = true ∧ Nat.ble (slots + ms) rm.slots = true) (k : xb_W κ Γ nL (cells + mc) (slots + ms) (pc + 3) lv (.ref r :: st) ws2) : xb_W κ Γ nL cells slots pc lv st0 ws := fun H locs ls hP hD hS hl => va_callr (x_runV C hM hm hlk hc he hr hn hst hrm hd hf hP hD hS hl) hS (fun _ _ h => h) (fun _ h => h) (fun u x t H1 locs1 ht hvm hx hB hz hk hS1 => by obtain ⟨rfl, hB⟩ := hB; exact k H1 locs1 ls (ht ▸ hB.1) hB.2 hS1 hl)
theorem x_callSr {y : MethodName} {cls : String} {cb : ByteArray} {maxL n idx mc ms : Nat} {ret : Option FieldType} {rmc : Room} {As st0 : List Value} {ws2 : va_W} {r : Nat} (C : xb_C κ Γ nL cc own rm) (hM : Met κ.1 y [Cond.code y cb maxL ret] rmc (xb_P κ As ws) (xb_Qr κ r ws2) mc ms κ.2.2.1) (hm : xm_S y cls cb maxL ret n) (hlk : Cond.methodLink own idx y ∈ xb_tbl) (hr : (rmc.cells == mc && rmc.slots == ms && Nat.ble (rmc.frames + 1) rm.frames && Nat.ble (8 + (maxL + 11) + rmc.locals) rm.locals) = true) (hn : As.length = n) (hst : st0 = As.reverse ++ st) (hrm : Nat.ble (st.map fun v => v.category).sum 8 = true) (hd : decode cc pc = .ok (.invokestatic idx, 3)) (hf : Nat.ble (cells + mc) rm.cells = true ∧ Nat.ble (slots + ms) rm.slots = true) (k : xb_W κ Γ nL (cells + mc) (slots + ms) (pc + 3) lv (.ref r :: st) ws2) : xb_W κ Γ nL cells slots pc lv st0 ws := fun H locs ls hP hD hS hl => va_callr (x_runS C hM hm hlk hr hn hst hrm hd hf hP hD hS hl) hS (fun _ _ h => h) (fun _ h => h) (fun u x t H1 locs1 ht hvm hx hB hz hk hS1 => by obtain ⟨rfl, hB⟩ := hB; exact k H1 locs1 ls (ht ▸ hB.1) hB.2 hS1 hl)
theorem x_callNr {y : MethodName} {cls : String} {cb : ByteArray} {maxL n idx mc ms : Nat} {ret : Option FieldType} {rmc : Room} {As st0 : List Value} {ws2 : va_W} {r : Nat} {host : String} (C : xb_C κ Γ nL cc own rm) (hM : Met κ.1 y [Cond.code y cb maxL ret] rmc (xb_P κ As ws) (xb_Qr κ r ws2) mc ms κ.2.2.1) (hm : xm_S y cls cb maxL ret n) (hlk : Cond.methodLinkNest own idx y host ∈ xb_tbl) (hr : (rmc.cells == mc && rmc.slots == ms && Nat.ble (rmc.frames + 1) rm.frames && Nat.ble (8 + (maxL + 11) + rmc.locals) rm.locals) = true) (hn : As.length = n) (hst : st0 = As.reverse ++ st) (hrm : Nat.ble (st.map fun v => v.category).sum 8 = true) (hd : decode cc pc = .ok (.invokestatic idx, 3)) (hf : Nat.ble (cells + mc) rm.cells = true ∧ Nat.ble (slots + ms) rm.slots = true) (k : xb_W κ Γ nL (cells + mc) (slots + ms) (pc + 3) lv (.ref r :: st) ws2) : xb_W κ Γ nL cells slots pc lv st0 ws := fun H locs ls hP hD hS hl => va_callr (x_runN C hM hm hlk hr hn hst hrm hd hf hP hD hS hl) hS (fun _ _ h => h) (fun _ h => h) (fun u x t H1 locs1 ht hvm hx hB hz hk hS1 => by obtain ⟨rfl, hB⟩ := hB; exact k H1 locs1 ls (ht ▸ hB.1) hB.2 hS1 hl)
theorem x_iret {r : Int32} (C : xb_C κ Γ nL cc own rm) (E : xb_E κ Γ (xb_Qi κ r ws) cells slots (some .int)) (hd : decode cc pc = .ok (.ireturn, 1)) : xb_W κ Γ nL cells slots pc lv [.int r] ws := by
  intro H locs ls hP hD hS hl
  rw [E.1]
  exact W.iret C.1 C.2.1 E.2 (fun t ht hW => ⟨⟨r, (), rfl, rfl, by rw [ht]; exact hP, hD⟩, hS.F ht⟩) hS.2.2 hd (hlocks := C.2.2.2.2.2.1)
theorem x_zret {r : Int32} (C : xb_C κ Γ nL cc own rm) (E : xb_E κ Γ (xb_Qi κ r ws) cells slots (some .boolean)) (hn : narrow .boolean (.int r) = .int r) (hd : decode cc pc = .ok (.ireturn, 1)) : xb_W κ Γ nL cells slots pc lv [.int r] ws := by
  intro H locs ls hP hD hS hl
  rw [E.1]
  exact W.zret C.1 C.2.1 E.2 hn (fun t ht hW => ⟨⟨r, (), rfl, rfl, by rw [ht]; exact hP, hD⟩, hS.F ht⟩) hS.2.2 hd (hlocks := C.2.2.2.2.2.1)
theorem x_lret {r : Int64} (C : xb_C κ Γ nL cc own rm) (E : xb_E κ Γ (xb_Ql κ r ws) cells slots (some .long)) (hd : decode cc pc = .ok (.lreturn, 1)) : xb_W κ Γ nL cells slots pc lv [.long r] ws := by
  intro H locs ls hP hD hS hl
  rw [E.1]
  exact W.lret C.1 C.2.1 E.2 (fun t ht hW => ⟨⟨r, (), rfl, rfl, by rw [ht]; exact hP, hD⟩, hS.F ht⟩) hS.2.2 hd (hlocks := C.2.2.2.2.2.1)
theorem x_vret  (C : xb_C κ Γ nL cc own rm) (E : xb_E κ Γ (xb_Qv κ ws) cells slots none) (hd : decode cc pc = .ok (.return_, 1)) : xb_W κ Γ nL cells slots pc lv [] ws := by
  intro H locs ls hP hD hS hl
  rw [E.1]
  exact W.vret C.1 C.2.1 E.2 (fun t ht hW => ⟨⟨(), rfl, trivial, by rw [ht]; exact hP, hD⟩, hS.F ht⟩) hS.2.2 hd (hlocks := C.2.2.2.2.2.1)
theorem x_aret {r : Nat} {cn : String} (C : xb_C κ Γ nL cc own rm) (E : xb_E κ Γ (xb_Qr κ r ws) cells slots (some (.object cn))) (hd : decode cc pc = .ok (.areturn, 1)) : xb_W κ Γ nL cells slots pc lv [.ref r] ws := by
  intro H locs ls hP hD hS hl
  rw [E.1]
  exact W.aret C.1 C.2.1 E.2 (Or.inl ⟨_, rfl⟩) (Or.inr ⟨_, rfl⟩) (fun t ht hW => ⟨⟨(), r, rfl, trivial, rfl, by rw [ht]; exact hP, hD⟩, hS.F ht⟩) hS.2.2 hd (hlocks := C.2.2.2.2.2.1)
theorem x_getsL (C : xb_C κ Γ nL cc RX5 rm) (hd : decode cc pc = .ok (.getstatic 26, 3)) (k : xb_W κ Γ nL cells slots (pc + 3) lv (.ref κ.2.2.2.1 :: st) ws) : xb_W κ Γ nL cells slots pc lv st ws := fun H locs ls hP hD hS hl => va_gets C.1 C.2.1 C.2.2.2.2.1.2.2.1 hS C.2.2.2.1 (C.2.2.2.2.1.2.1.get fl_X5_26) (fun _ h => h) hd (k H locs ls hP hD hS hl)
theorem x_getsM (C : xb_C κ Γ nL cc RX5 rm) (hd : decode cc pc = .ok (.getstatic 29, 3)) (k : xb_W κ Γ nL cells slots (pc + 3) lv (.ref κ.2.2.2.2 :: st) ws) : xb_W κ Γ nL cells slots pc lv st ws := fun H locs ls hP hD hS hl => va_gets C.1 C.2.1 C.2.2.2.2.1.2.2.2.2.1 hS C.2.2.2.1 (C.2.2.2.2.1.2.1.get fl_X5_29) (fun _ h => h) hd (k H locs ls hP hD hS hl)
theorem x_topi {x y : Int32} (h : y = x) (k : xb_W κ Γ nL cells slots pc lv (.int y :: st) ws) : xb_W κ Γ nL cells slots pc lv (.int x :: st) ws := h ▸ k
theorem x_topl {x y : Int64} (h : y = x) (k : xb_W κ Γ nL cells slots pc lv (.long y :: st) ws) : xb_W κ Γ nL cells slots pc lv (.long x :: st) ws := h ▸ k
end
end
section
def xw (κ : xb_k) (q : Nat → Nat) (nn : Nat) (xro : (Nat → Int64)) (xrn : (Nat → Int64)) (xfo : (Nat → Int32)) (xva : (Nat → Int32)) (xts : Int32) (xus : (Nat → Int32)) (xnu : (Nat → Int32)) (xth : Int32) (xsp : Int32) (xpr : (Nat → Int64)) (xpn : (Nat → Int64)) (xbs : Int32) (xwr : (Nat → Int32)) (xno : (Nat → Int32)) (xki : (Nat → Int32)) (xdi : (Nat → Int32)) (xde : (Nat → Int32)) (xst : (Nat → Int32)) (xta : (Nat → Int32)) (xcb : Int32) (xcd : Int32) (xbe : (Nat → Int32)) (xli : (Nat → Int32)) (xke : (Nat → Int32)) (xne : (Nat → Int64)) : va_W := [(q 0, .inr (8, [.ref (q 1), .ref (q 4), .ref (q 7), .ref (q 10), .ref (q 22), .ref (q 24), .ref (q 27)])), (q 1, .inr (4, [.ref (q 2), .ref (q 3)])), (q 2, .inl (κ.2.1.2.2.1, nn, .inr (.inl xro))), (q 3, .inl (κ.2.1.2.2.1, nn, .inr (.inl xrn))), (q 4, .inr (5, [.ref (q 5), .ref (q 6)])), (q 5, .inl (κ.2.1.2.1, 8, .inl xfo)), (q 6, .inl (κ.2.1.2.1, 3, .inl xva)), (q 7, .inr (6, [.ref (q 8), .ref (q 9), .int xts])), (q 8, .inl (κ.2.1.2.1, 160, .inl xus)), (q 9, .inl (κ.2.1.2.1, 160, .inl xnu)), (q 10, .inr (1, [.ref (q 11), .ref (q 14), .ref (q 17), .ref (q 18), .ref (q 19), .ref (q 20), .ref (q 21), .int xth, .int xsp])), (q 11, .inr (4, [.ref (q 12), .ref (q 13)])), (q 12, .inl (κ.2.1.2.2.1, nn, .inr (.inl xpr))), (q 13, .inl (κ.2.1.2.2.1, nn, .inr (.inl xpn))), (q 14, .inr (0, [.ref (q 15), .ref (q 16), .int xbs])), (q 15, .inl (κ.2.1.2.1, (64 * nn), .inl xwr)), (q 16, .inl (κ.2.1.2.1, (64 * nn), .inl xno)), (q 17, .inl (κ.2.1.2.1, nn, .inl xki)), (q 18, .inl (κ.2.1.2.1, nn, .inl xdi)), (q 19, .inl (κ.2.1.2.1, nn, .inl xde)), (q 20, .inl (κ.2.1.2.1, (nn + 1), .inl xst)), (q 21, .inl (κ.2.1.2.1, 768, .inl xta)), (q 22, .inr (2, [.int (nI nn), .ref (q 23), .int xcb, .int xcd])), (q 23, .inl (κ.2.1.2.1, (6 * nn), .inl xbe)), (q 24, .inr (3, [.ref (q 25), .ref (q 26)])), (q 25, .inl (κ.2.1.2.1, nn, .inl xli)), (q 26, .inl (κ.2.1.2.1, nn, .inl xke)), (q 27, .inr (7, [.ref (q 28)])), (q 28, .inl (κ.2.1.2.2.1, nn, .inr (.inl xne)))]
def mw (κ : xb_k) (q : Nat → Nat) (mth : Int32) (mn : Int32) (mib : Int32) (mpa : Int32) (mwi : Int32) (mch : Int32) (mst : Int32) (msz : Int32) (mns : Int32) (mld : Int32) (mps : Int32) (mbb : Int32) (mno : (Nat → Int32)) (mpk : (Nat → Int32)) (mtu : (Nat → Int32)) (mfo : (Nat → Int32)) (mbi : (Nat → Int32)) (mwr : (Nat → Int32)) (mus : (Nat → Int32)) (mnu : (Nat → Int32)) (mli : (Nat → Int32)) (mot : (Nat → Int32)) (mbl : (Nat → Int32)) (mki : (Nat → Int32)) (mfr : (Nat → Int32)) (mde : (Nat → Int32)) (mbe : (Nat → Int32)) (mow : (Nat → Int32)) (mco : (Nat → Int32)) (mpt : (Nat → Int32)) (mle : (Nat → Int32)) (mpl : (Nat → Int32)) (mit : (Nat → Int32)) (mro : (Nat → Int32)) (maw : (Nat → Int32)) : va_W := [(q 0, .inr (9, [.int mth, .int mn, .ref (q 1), .ref (q 2), .ref (q 3), .int mib, .int mpa, .ref (q 4), .int mwi, .int mch, .int mst, .ref (q 5), .ref (q 6), .int msz, .ref (q 7), .ref (q 8), .int mns, .ref (q 9), .int mld, .ref (q 10), .ref (q 11), .ref (q 12), .ref (q 13), .ref (q 14), .ref (q 15), .int mps, .int mbb, .ref (q 16), .ref (q 17), .ref (q 18), .ref (q 19), .ref (q 20), .ref (q 21), .ref (q 22), .ref (q 23)])), (q 1, .inl (κ.2.1.2.2.2, 2304, .inl mno)), (q 2, .inl (κ.2.1.2.2.2, 2304, .inl mpk)), (q 3, .inl (κ.2.1.2.2.2, 2304, .inl mtu)), (q 4, .inl (κ.2.1.2.1, 8, .inl mfo)), (q 5, .inl (κ.2.1.2.1, 16384, .inl mbi)), (q 6, .inl (κ.2.1.2.1, 16384, .inl mwr)), (q 7, .inl (κ.2.1.2.1, 400, .inl mus)), (q 8, .inl (κ.2.1.2.1, 400, .inl mnu)), (q 9, .inl (κ.2.1.2.1, 48, .inl mli)), (q 10, .inl (κ.2.1.2.1, 48, .inl mot)), (q 11, .inl (κ.2.1.2.1, 50, .inl mbl)), (q 12, .inl (κ.2.1.2.1, 48, .inl mki)), (q 13, .inl (κ.2.1.2.1, 48, .inl mfr)), (q 14, .inl (κ.2.1.2.1, 48, .inl mde)), (q 15, .inl (κ.2.1.2.1, 49, .inl mbe)), (q 16, .inl (κ.2.1.2.1, 48, .inl mow)), (q 17, .inl (κ.2.1.2.1, 48, .inl mco)), (q 18, .inl (κ.2.1.2.1, 48, .inl mpt)), (q 19, .inl (κ.2.1.2.1, 336, .inl mle)), (q 20, .inl (κ.2.1.2.1, 48, .inl mpl)), (q 21, .inl (κ.2.1.2.2.2, 48, .inl mit)), (q 22, .inl (κ.2.1.2.1, 48, .inl mro)), (q 23, .inl (κ.2.1.2.1, 48, .inl maw))]
section
variable {κ : xb_k} {Γ : xb_X} {nL cells slots pc : Nat} {lv : List (Nat × Value)} {st : List Value} {ws : va_W} {cc : ByteArray} {rm : Room}
theorem gf_X4_7 {a : Nat} {fs : List Value} {v : Value} (C : xb_C κ Γ nL cc RX4 rm) (q0 : Nat) (he : ws[q0]? = some (a, .inr (4, fs))) (hv : fs[0]? = some v) (hd : decode cc pc = .ok (.getfield 7, 3)) (k : xb_W κ Γ nL cells slots (pc + 3) lv (v :: st) ws) : xb_W κ Γ nL cells slots pc lv (.ref a :: st) ws := x_get C q0 he rfl 0 (by decide) kw_X4 fl_X4_7 hv hd k
theorem gf_X4_13 {a : Nat} {fs : List Value} {v : Value} (C : xb_C κ Γ nL cc RX4 rm) (q0 : Nat) (he : ws[q0]? = some (a, .inr (4, fs))) (hv : fs[1]? = some v) (hd : decode cc pc = .ok (.getfield 13, 3)) (k : xb_W κ Γ nL cells slots (pc + 3) lv (v :: st) ws) : xb_W κ Γ nL cells slots pc lv (.ref a :: st) ws := x_get C q0 he rfl 1 (by decide) kw_X4 fl_X4_13 hv hd k
theorem gf_X5_7 {a : Nat} {fs : List Value} {v : Value} (C : xb_C κ Γ nL cc RX5 rm) (q0 : Nat) (he : ws[q0]? = some (a, .inr (5, fs))) (hv : fs[0]? = some v) (hd : decode cc pc = .ok (.getfield 7, 3)) (k : xb_W κ Γ nL cells slots (pc + 3) lv (v :: st) ws) : xb_W κ Γ nL cells slots pc lv (.ref a :: st) ws := x_get C q0 he rfl 0 (by decide) kw_X5 fl_X5_7 hv hd k
theorem gf_X5_13 {a : Nat} {fs : List Value} {v : Value} (C : xb_C κ Γ nL cc RX5 rm) (q0 : Nat) (he : ws[q0]? = some (a, .inr (5, fs))) (hv : fs[1]? = some v) (hd : decode cc pc = .ok (.getfield 13, 3)) (k : xb_W κ Γ nL cells slots (pc + 3) lv (v :: st) ws) : xb_W κ Γ nL cells slots pc lv (.ref a :: st) ws := x_get C q0 he rfl 1 (by decide) kw_X5 fl_X5_13 hv hd k
theorem gf_X6_11 {a : Nat} {fs : List Value} {v : Value} (C : xb_C κ Γ nL cc RX6 rm) (q0 : Nat) (he : ws[q0]? = some (a, .inr (6, fs))) (hv : fs[0]? = some v) (hd : decode cc pc = .ok (.getfield 11, 3)) (k : xb_W κ Γ nL cells slots (pc + 3) lv (v :: st) ws) : xb_W κ Γ nL cells slots pc lv (.ref a :: st) ws := x_get C q0 he rfl 0 (by decide) kw_X6 fl_X6_11 hv hd k
theorem gf_X6_15 {a : Nat} {fs : List Value} {v : Value} (C : xb_C κ Γ nL cc RX6 rm) (q0 : Nat) (he : ws[q0]? = some (a, .inr (6, fs))) (hv : fs[1]? = some v) (hd : decode cc pc = .ok (.getfield 15, 3)) (k : xb_W κ Γ nL cells slots (pc + 3) lv (v :: st) ws) : xb_W κ Γ nL cells slots pc lv (.ref a :: st) ws := x_get C q0 he rfl 1 (by decide) kw_X6 fl_X6_15 hv hd k
theorem gf_X6_18 {a : Nat} {fs : List Value} {v : Value} (C : xb_C κ Γ nL cc RX6 rm) (q0 : Nat) (he : ws[q0]? = some (a, .inr (6, fs))) (hv : fs[2]? = some v) (hd : decode cc pc = .ok (.getfield 18, 3)) (k : xb_W κ Γ nL cells slots (pc + 3) lv (v :: st) ws) : xb_W κ Γ nL cells slots pc lv (.ref a :: st) ws := x_get C q0 he rfl 2 (by decide) kw_X6 fl_X6_18 hv hd k
theorem pf_X6_18 {a : Nat} {fs : List Value} {x : Int32} {ws2 : va_W} (C : xb_C κ Γ nL cc RX6 rm) (q0 : Nat) (he : ws[q0]? = some (a, .inr (6, fs))) (hd : decode cc pc = .ok (.putfield 18, 3)) (h2 : ws.set q0 (a, .inr (6, fs.set 2 (.int x))) = ws2) (hlen : Nat.ble 3 fs.length = true := by rfl) (k : xb_W κ Γ nL cells slots (pc + 3) lv st ws2) : xb_W κ Γ nL cells slots pc lv (.int x :: .ref a :: st) ws := x_put (ty := .int) tyX6 C q0 he rfl 2 (by decide) kw_X6 tyX6_ok nmX6 fl_X6_18 rfl (by decide +kernel) rfl rfl (Nat.le_of_ble_eq_true hlen) hd h2 k
theorem gf_X0_21 {a : Nat} {fs : List Value} {v : Value} (C : xb_C κ Γ nL cc RX0 rm) (q0 : Nat) (he : ws[q0]? = some (a, .inr (0, fs))) (hv : fs[0]? = some v) (hd : decode cc pc = .ok (.getfield 21, 3)) (k : xb_W κ Γ nL cells slots (pc + 3) lv (v :: st) ws) : xb_W κ Γ nL cells slots pc lv (.ref a :: st) ws := x_get C q0 he rfl 0 (by decide) kw_X0 fl_X0_21 hv hd k
theorem gf_X0_25 {a : Nat} {fs : List Value} {v : Value} (C : xb_C κ Γ nL cc RX0 rm) (q0 : Nat) (he : ws[q0]? = some (a, .inr (0, fs))) (hv : fs[1]? = some v) (hd : decode cc pc = .ok (.getfield 25, 3)) (k : xb_W κ Γ nL cells slots (pc + 3) lv (v :: st) ws) : xb_W κ Γ nL cells slots pc lv (.ref a :: st) ws := x_get C q0 he rfl 1 (by decide) kw_X0 fl_X0_25 hv hd k
theorem gf_X0_9 {a : Nat} {fs : List Value} {v : Value} (C : xb_C κ Γ nL cc RX0 rm) (q0 : Nat) (he : ws[q0]? = some (a, .inr (0, fs))) (hv : fs[2]? = some v) (hd : decode cc pc = .ok (.getfield 9, 3)) (k : xb_W κ Γ nL cells slots (pc + 3) lv (v :: st) ws) : xb_W κ Γ nL cells slots pc lv (.ref a :: st) ws := x_get C q0 he rfl 2 (by decide) kw_X0 fl_X0_9 hv hd k
theorem pf_X0_9 {a : Nat} {fs : List Value} {x : Int32} {ws2 : va_W} (C : xb_C κ Γ nL cc RX0 rm) (q0 : Nat) (he : ws[q0]? = some (a, .inr (0, fs))) (hd : decode cc pc = .ok (.putfield 9, 3)) (h2 : ws.set q0 (a, .inr (0, fs.set 2 (.int x))) = ws2) (hlen : Nat.ble 3 fs.length = true := by rfl) (k : xb_W κ Γ nL cells slots (pc + 3) lv st ws2) : xb_W κ Γ nL cells slots pc lv (.int x :: .ref a :: st) ws := x_put (ty := .int) tyX0 C q0 he rfl 2 (by decide) kw_X0 tyX0_ok nmX0 fl_X0_9 rfl (by decide +kernel) rfl rfl (Nat.le_of_ble_eq_true hlen) hd h2 k
theorem gf_X1_28 {a : Nat} {fs : List Value} {v : Value} (C : xb_C κ Γ nL cc RX1 rm) (q0 : Nat) (he : ws[q0]? = some (a, .inr (1, fs))) (hv : fs[0]? = some v) (hd : decode cc pc = .ok (.getfield 28, 3)) (k : xb_W κ Γ nL cells slots (pc + 3) lv (v :: st) ws) : xb_W κ Γ nL cells slots pc lv (.ref a :: st) ws := x_get C q0 he rfl 0 (by decide) kw_X1 fl_X1_28 hv hd k
theorem gf_X1_35 {a : Nat} {fs : List Value} {v : Value} (C : xb_C κ Γ nL cc RX1 rm) (q0 : Nat) (he : ws[q0]? = some (a, .inr (1, fs))) (hv : fs[1]? = some v) (hd : decode cc pc = .ok (.getfield 35, 3)) (k : xb_W κ Γ nL cells slots (pc + 3) lv (v :: st) ws) : xb_W κ Γ nL cells slots pc lv (.ref a :: st) ws := x_get C q0 he rfl 1 (by decide) kw_X1 fl_X1_35 hv hd k
theorem gf_X1_39 {a : Nat} {fs : List Value} {v : Value} (C : xb_C κ Γ nL cc RX1 rm) (q0 : Nat) (he : ws[q0]? = some (a, .inr (1, fs))) (hv : fs[2]? = some v) (hd : decode cc pc = .ok (.getfield 39, 3)) (k : xb_W κ Γ nL cells slots (pc + 3) lv (v :: st) ws) : xb_W κ Γ nL cells slots pc lv (.ref a :: st) ws := x_get C q0 he rfl 2 (by decide) kw_X1 fl_X1_39 hv hd k
theorem gf_X1_42 {a : Nat} {fs : List Value} {v : Value} (C : xb_C κ Γ nL cc RX1 rm) (q0 : Nat) (he : ws[q0]? = some (a, .inr (1, fs))) (hv : fs[3]? = some v) (hd : decode cc pc = .ok (.getfield 42, 3)) (k : xb_W κ Γ nL cells slots (pc + 3) lv (v :: st) ws) : xb_W κ Γ nL cells slots pc lv (.ref a :: st) ws := x_get C q0 he rfl 3 (by decide) kw_X1 fl_X1_42 hv hd k
theorem gf_X1_45 {a : Nat} {fs : List Value} {v : Value} (C : xb_C κ Γ nL cc RX1 rm) (q0 : Nat) (he : ws[q0]? = some (a, .inr (1, fs))) (hv : fs[4]? = some v) (hd : decode cc pc = .ok (.getfield 45, 3)) (k : xb_W κ Γ nL cells slots (pc + 3) lv (v :: st) ws) : xb_W κ Γ nL cells slots pc lv (.ref a :: st) ws := x_get C q0 he rfl 4 (by decide) kw_X1 fl_X1_45 hv hd k
theorem gf_X1_48 {a : Nat} {fs : List Value} {v : Value} (C : xb_C κ Γ nL cc RX1 rm) (q0 : Nat) (he : ws[q0]? = some (a, .inr (1, fs))) (hv : fs[5]? = some v) (hd : decode cc pc = .ok (.getfield 48, 3)) (k : xb_W κ Γ nL cells slots (pc + 3) lv (v :: st) ws) : xb_W κ Γ nL cells slots pc lv (.ref a :: st) ws := x_get C q0 he rfl 5 (by decide) kw_X1 fl_X1_48 hv hd k
theorem gf_X1_11 {a : Nat} {fs : List Value} {v : Value} (C : xb_C κ Γ nL cc RX1 rm) (q0 : Nat) (he : ws[q0]? = some (a, .inr (1, fs))) (hv : fs[6]? = some v) (hd : decode cc pc = .ok (.getfield 11, 3)) (k : xb_W κ Γ nL cells slots (pc + 3) lv (v :: st) ws) : xb_W κ Γ nL cells slots pc lv (.ref a :: st) ws := x_get C q0 he rfl 6 (by decide) kw_X1 fl_X1_11 hv hd k
theorem gf_X1_15 {a : Nat} {fs : List Value} {v : Value} (C : xb_C κ Γ nL cc RX1 rm) (q0 : Nat) (he : ws[q0]? = some (a, .inr (1, fs))) (hv : fs[7]? = some v) (hd : decode cc pc = .ok (.getfield 15, 3)) (k : xb_W κ Γ nL cells slots (pc + 3) lv (v :: st) ws) : xb_W κ Γ nL cells slots pc lv (.ref a :: st) ws := x_get C q0 he rfl 7 (by decide) kw_X1 fl_X1_15 hv hd k
theorem pf_X1_15 {a : Nat} {fs : List Value} {x : Int32} {ws2 : va_W} (C : xb_C κ Γ nL cc RX1 rm) (q0 : Nat) (he : ws[q0]? = some (a, .inr (1, fs))) (hz : narrow .boolean (.int x) = .int x) (hz2 : fits .boolean (.int x) = true) (hd : decode cc pc = .ok (.putfield 15, 3)) (h2 : ws.set q0 (a, .inr (1, fs.set 7 (.int x))) = ws2) (hlen : Nat.ble 8 fs.length = true := by rfl) (k : xb_W κ Γ nL cells slots (pc + 3) lv st ws2) : xb_W κ Γ nL cells slots pc lv (.int x :: .ref a :: st) ws := x_put (ty := .boolean) tyX1 C q0 he rfl 7 (by decide) kw_X1 tyX1_ok nmX1 fl_X1_15 rfl (by decide +kernel) hz hz2 (Nat.le_of_ble_eq_true hlen) hd h2 k
theorem gf_X1_19 {a : Nat} {fs : List Value} {v : Value} (C : xb_C κ Γ nL cc RX1 rm) (q0 : Nat) (he : ws[q0]? = some (a, .inr (1, fs))) (hv : fs[8]? = some v) (hd : decode cc pc = .ok (.getfield 19, 3)) (k : xb_W κ Γ nL cells slots (pc + 3) lv (v :: st) ws) : xb_W κ Γ nL cells slots pc lv (.ref a :: st) ws := x_get C q0 he rfl 8 (by decide) kw_X1 fl_X1_19 hv hd k
theorem pf_X1_19 {a : Nat} {fs : List Value} {x : Int32} {ws2 : va_W} (C : xb_C κ Γ nL cc RX1 rm) (q0 : Nat) (he : ws[q0]? = some (a, .inr (1, fs))) (hd : decode cc pc = .ok (.putfield 19, 3)) (h2 : ws.set q0 (a, .inr (1, fs.set 8 (.int x))) = ws2) (hlen : Nat.ble 9 fs.length = true := by rfl) (k : xb_W κ Γ nL cells slots (pc + 3) lv st ws2) : xb_W κ Γ nL cells slots pc lv (.int x :: .ref a :: st) ws := x_put (ty := .int) tyX1 C q0 he rfl 8 (by decide) kw_X1 tyX1_ok nmX1 fl_X1_19 rfl (by decide +kernel) rfl rfl (Nat.le_of_ble_eq_true hlen) hd h2 k
theorem gf_X2_18 {a : Nat} {fs : List Value} {v : Value} (C : xb_C κ Γ nL cc RX2 rm) (q0 : Nat) (he : ws[q0]? = some (a, .inr (2, fs))) (hv : fs[0]? = some v) (hd : decode cc pc = .ok (.getfield 18, 3)) (k : xb_W κ Γ nL cells slots (pc + 3) lv (v :: st) ws) : xb_W κ Γ nL cells slots pc lv (.ref a :: st) ws := x_get C q0 he rfl 0 (by decide) kw_X2 fl_X2_18 hv hd k
theorem gf_X2_21 {a : Nat} {fs : List Value} {v : Value} (C : xb_C κ Γ nL cc RX2 rm) (q0 : Nat) (he : ws[q0]? = some (a, .inr (2, fs))) (hv : fs[1]? = some v) (hd : decode cc pc = .ok (.getfield 21, 3)) (k : xb_W κ Γ nL cells slots (pc + 3) lv (v :: st) ws) : xb_W κ Γ nL cells slots pc lv (.ref a :: st) ws := x_get C q0 he rfl 1 (by decide) kw_X2 fl_X2_21 hv hd k
theorem gf_X2_9 {a : Nat} {fs : List Value} {v : Value} (C : xb_C κ Γ nL cc RX2 rm) (q0 : Nat) (he : ws[q0]? = some (a, .inr (2, fs))) (hv : fs[2]? = some v) (hd : decode cc pc = .ok (.getfield 9, 3)) (k : xb_W κ Γ nL cells slots (pc + 3) lv (v :: st) ws) : xb_W κ Γ nL cells slots pc lv (.ref a :: st) ws := x_get C q0 he rfl 2 (by decide) kw_X2 fl_X2_9 hv hd k
theorem pf_X2_9 {a : Nat} {fs : List Value} {x : Int32} {ws2 : va_W} (C : xb_C κ Γ nL cc RX2 rm) (q0 : Nat) (he : ws[q0]? = some (a, .inr (2, fs))) (hd : decode cc pc = .ok (.putfield 9, 3)) (h2 : ws.set q0 (a, .inr (2, fs.set 2 (.int x))) = ws2) (hlen : Nat.ble 3 fs.length = true := by rfl) (k : xb_W κ Γ nL cells slots (pc + 3) lv st ws2) : xb_W κ Γ nL cells slots pc lv (.int x :: .ref a :: st) ws := x_put (ty := .int) tyX2 C q0 he rfl 2 (by decide) kw_X2 tyX2_ok nmX2 fl_X2_9 rfl (by decide +kernel) rfl rfl (Nat.le_of_ble_eq_true hlen) hd h2 k
theorem gf_X2_15 {a : Nat} {fs : List Value} {v : Value} (C : xb_C κ Γ nL cc RX2 rm) (q0 : Nat) (he : ws[q0]? = some (a, .inr (2, fs))) (hv : fs[3]? = some v) (hd : decode cc pc = .ok (.getfield 15, 3)) (k : xb_W κ Γ nL cells slots (pc + 3) lv (v :: st) ws) : xb_W κ Γ nL cells slots pc lv (.ref a :: st) ws := x_get C q0 he rfl 3 (by decide) kw_X2 fl_X2_15 hv hd k
theorem pf_X2_15 {a : Nat} {fs : List Value} {x : Int32} {ws2 : va_W} (C : xb_C κ Γ nL cc RX2 rm) (q0 : Nat) (he : ws[q0]? = some (a, .inr (2, fs))) (hd : decode cc pc = .ok (.putfield 15, 3)) (h2 : ws.set q0 (a, .inr (2, fs.set 3 (.int x))) = ws2) (hlen : Nat.ble 4 fs.length = true := by rfl) (k : xb_W κ Γ nL cells slots (pc + 3) lv st ws2) : xb_W κ Γ nL cells slots pc lv (.int x :: .ref a :: st) ws := x_put (ty := .int) tyX2 C q0 he rfl 3 (by decide) kw_X2 tyX2_ok nmX2 fl_X2_15 rfl (by decide +kernel) rfl rfl (Nat.le_of_ble_eq_true hlen) hd h2 k
theorem gf_X3_9 {a : Nat} {fs : List Value} {v : Value} (C : xb_C κ Γ nL cc RX3 rm) (q0 : Nat) (he : ws[q0]? = some (a, .inr (3, fs))) (hv : fs[0]? = some v) (hd : decode cc pc = .ok (.getfield 9, 3)) (k : xb_W κ Γ nL cells slots (pc + 3) lv (v :: st) ws) : xb_W κ Γ nL cells slots pc lv (.ref a :: st) ws := x_get C q0 he rfl 0 (by decide) kw_X3 fl_X3_9 hv hd k
theorem gf_X3_15 {a : Nat} {fs : List Value} {v : Value} (C : xb_C κ Γ nL cc RX3 rm) (q0 : Nat) (he : ws[q0]? = some (a, .inr (3, fs))) (hv : fs[1]? = some v) (hd : decode cc pc = .ok (.getfield 15, 3)) (k : xb_W κ Γ nL cells slots (pc + 3) lv (v :: st) ws) : xb_W κ Γ nL cells slots pc lv (.ref a :: st) ws := x_get C q0 he rfl 1 (by decide) kw_X3 fl_X3_15 hv hd k
theorem gf_X7_9 {a : Nat} {fs : List Value} {v : Value} (C : xb_C κ Γ nL cc RX7 rm) (q0 : Nat) (he : ws[q0]? = some (a, .inr (7, fs))) (hv : fs[0]? = some v) (hd : decode cc pc = .ok (.getfield 9, 3)) (k : xb_W κ Γ nL cells slots (pc + 3) lv (v :: st) ws) : xb_W κ Γ nL cells slots pc lv (.ref a :: st) ws := x_get C q0 he rfl 0 (by decide) kw_X7 fl_X7_9 hv hd k
theorem gf_X8_23 {a : Nat} {fs : List Value} {v : Value} (C : xb_C κ Γ nL cc RX8 rm) (q0 : Nat) (he : ws[q0]? = some (a, .inr (8, fs))) (hv : fs[0]? = some v) (hd : decode cc pc = .ok (.getfield 23, 3)) (k : xb_W κ Γ nL cells slots (pc + 3) lv (v :: st) ws) : xb_W κ Γ nL cells slots pc lv (.ref a :: st) ws := x_get C q0 he rfl 0 (by decide) kw_X8 fl_X8_23 hv hd k
theorem gf_X8_30 {a : Nat} {fs : List Value} {v : Value} (C : xb_C κ Γ nL cc RX8 rm) (q0 : Nat) (he : ws[q0]? = some (a, .inr (8, fs))) (hv : fs[1]? = some v) (hd : decode cc pc = .ok (.getfield 30, 3)) (k : xb_W κ Γ nL cells slots (pc + 3) lv (v :: st) ws) : xb_W κ Γ nL cells slots pc lv (.ref a :: st) ws := x_get C q0 he rfl 1 (by decide) kw_X8 fl_X8_30 hv hd k
theorem gf_X8_37 {a : Nat} {fs : List Value} {v : Value} (C : xb_C κ Γ nL cc RX8 rm) (q0 : Nat) (he : ws[q0]? = some (a, .inr (8, fs))) (hv : fs[2]? = some v) (hd : decode cc pc = .ok (.getfield 37, 3)) (k : xb_W κ Γ nL cells slots (pc + 3) lv (v :: st) ws) : xb_W κ Γ nL cells slots pc lv (.ref a :: st) ws := x_get C q0 he rfl 2 (by decide) kw_X8 fl_X8_37 hv hd k
theorem gf_X8_44 {a : Nat} {fs : List Value} {v : Value} (C : xb_C κ Γ nL cc RX8 rm) (q0 : Nat) (he : ws[q0]? = some (a, .inr (8, fs))) (hv : fs[3]? = some v) (hd : decode cc pc = .ok (.getfield 44, 3)) (k : xb_W κ Γ nL cells slots (pc + 3) lv (v :: st) ws) : xb_W κ Γ nL cells slots pc lv (.ref a :: st) ws := x_get C q0 he rfl 3 (by decide) kw_X8 fl_X8_44 hv hd k
theorem gf_X8_51 {a : Nat} {fs : List Value} {v : Value} (C : xb_C κ Γ nL cc RX8 rm) (q0 : Nat) (he : ws[q0]? = some (a, .inr (8, fs))) (hv : fs[4]? = some v) (hd : decode cc pc = .ok (.getfield 51, 3)) (k : xb_W κ Γ nL cells slots (pc + 3) lv (v :: st) ws) : xb_W κ Γ nL cells slots pc lv (.ref a :: st) ws := x_get C q0 he rfl 4 (by decide) kw_X8 fl_X8_51 hv hd k
theorem gf_X8_58 {a : Nat} {fs : List Value} {v : Value} (C : xb_C κ Γ nL cc RX8 rm) (q0 : Nat) (he : ws[q0]? = some (a, .inr (8, fs))) (hv : fs[5]? = some v) (hd : decode cc pc = .ok (.getfield 58, 3)) (k : xb_W κ Γ nL cells slots (pc + 3) lv (v :: st) ws) : xb_W κ Γ nL cells slots pc lv (.ref a :: st) ws := x_get C q0 he rfl 5 (by decide) kw_X8 fl_X8_58 hv hd k
theorem gf_X8_65 {a : Nat} {fs : List Value} {v : Value} (C : xb_C κ Γ nL cc RX8 rm) (q0 : Nat) (he : ws[q0]? = some (a, .inr (8, fs))) (hv : fs[6]? = some v) (hd : decode cc pc = .ok (.getfield 65, 3)) (k : xb_W κ Γ nL cells slots (pc + 3) lv (v :: st) ws) : xb_W κ Γ nL cells slots pc lv (.ref a :: st) ws := x_get C q0 he rfl 6 (by decide) kw_X8 fl_X8_65 hv hd k
theorem gf_X9_1 {a : Nat} {fs : List Value} {v : Value} (C : xb_C κ Γ nL cc RX9 rm) (q0 : Nat) (he : ws[q0]? = some (a, .inr (9, fs))) (hv : fs[0]? = some v) (hd : decode cc pc = .ok (.getfield 1, 3)) (k : xb_W κ Γ nL cells slots (pc + 3) lv (v :: st) ws) : xb_W κ Γ nL cells slots pc lv (.ref a :: st) ws := x_get C q0 he rfl 0 (by decide) kw_X9 fl_X9_1 hv hd k
theorem pf_X9_1 {a : Nat} {fs : List Value} {x : Int32} {ws2 : va_W} (C : xb_C κ Γ nL cc RX9 rm) (q0 : Nat) (he : ws[q0]? = some (a, .inr (9, fs))) (hd : decode cc pc = .ok (.putfield 1, 3)) (h2 : ws.set q0 (a, .inr (9, fs.set 0 (.int x))) = ws2) (hlen : Nat.ble 1 fs.length = true := by rfl) (k : xb_W κ Γ nL cells slots (pc + 3) lv st ws2) : xb_W κ Γ nL cells slots pc lv (.int x :: .ref a :: st) ws := x_put (ty := .int) tyX9 C q0 he rfl 0 (by decide) kw_X9 tyX9_ok nmX9 fl_X9_1 rfl (by decide +kernel) rfl rfl (Nat.le_of_ble_eq_true hlen) hd h2 k
theorem gf_X9_93 {a : Nat} {fs : List Value} {v : Value} (C : xb_C κ Γ nL cc RX9 rm) (q0 : Nat) (he : ws[q0]? = some (a, .inr (9, fs))) (hv : fs[1]? = some v) (hd : decode cc pc = .ok (.getfield 93, 3)) (k : xb_W κ Γ nL cells slots (pc + 3) lv (v :: st) ws) : xb_W κ Γ nL cells slots pc lv (.ref a :: st) ws := x_get C q0 he rfl 1 (by decide) kw_X9 fl_X9_93 hv hd k
theorem gf_X9_13 {a : Nat} {fs : List Value} {v : Value} (C : xb_C κ Γ nL cc RX9 rm) (q0 : Nat) (he : ws[q0]? = some (a, .inr (9, fs))) (hv : fs[2]? = some v) (hd : decode cc pc = .ok (.getfield 13, 3)) (k : xb_W κ Γ nL cells slots (pc + 3) lv (v :: st) ws) : xb_W κ Γ nL cells slots pc lv (.ref a :: st) ws := x_get C q0 he rfl 2 (by decide) kw_X9 fl_X9_13 hv hd k
theorem gf_X9_17 {a : Nat} {fs : List Value} {v : Value} (C : xb_C κ Γ nL cc RX9 rm) (q0 : Nat) (he : ws[q0]? = some (a, .inr (9, fs))) (hv : fs[3]? = some v) (hd : decode cc pc = .ok (.getfield 17, 3)) (k : xb_W κ Γ nL cells slots (pc + 3) lv (v :: st) ws) : xb_W κ Γ nL cells slots pc lv (.ref a :: st) ws := x_get C q0 he rfl 3 (by decide) kw_X9 fl_X9_17 hv hd k
theorem gf_X9_20 {a : Nat} {fs : List Value} {v : Value} (C : xb_C κ Γ nL cc RX9 rm) (q0 : Nat) (he : ws[q0]? = some (a, .inr (9, fs))) (hv : fs[4]? = some v) (hd : decode cc pc = .ok (.getfield 20, 3)) (k : xb_W κ Γ nL cells slots (pc + 3) lv (v :: st) ws) : xb_W κ Γ nL cells slots pc lv (.ref a :: st) ws := x_get C q0 he rfl 4 (by decide) kw_X9 fl_X9_20 hv hd k
theorem gf_X9_100 {a : Nat} {fs : List Value} {v : Value} (C : xb_C κ Γ nL cc RX9 rm) (q0 : Nat) (he : ws[q0]? = some (a, .inr (9, fs))) (hv : fs[5]? = some v) (hd : decode cc pc = .ok (.getfield 100, 3)) (k : xb_W κ Γ nL cells slots (pc + 3) lv (v :: st) ws) : xb_W κ Γ nL cells slots pc lv (.ref a :: st) ws := x_get C q0 he rfl 5 (by decide) kw_X9 fl_X9_100 hv hd k
theorem pf_X9_100 {a : Nat} {fs : List Value} {x : Int32} {ws2 : va_W} (C : xb_C κ Γ nL cc RX9 rm) (q0 : Nat) (he : ws[q0]? = some (a, .inr (9, fs))) (hz : narrow .boolean (.int x) = .int x) (hz2 : fits .boolean (.int x) = true) (hd : decode cc pc = .ok (.putfield 100, 3)) (h2 : ws.set q0 (a, .inr (9, fs.set 5 (.int x))) = ws2) (hlen : Nat.ble 6 fs.length = true := by rfl) (k : xb_W κ Γ nL cells slots (pc + 3) lv st ws2) : xb_W κ Γ nL cells slots pc lv (.int x :: .ref a :: st) ws := x_put (ty := .boolean) tyX9 C q0 he rfl 5 (by decide) kw_X9 tyX9_ok nmX9 fl_X9_100 rfl (by decide +kernel) hz hz2 (Nat.le_of_ble_eq_true hlen) hd h2 k
theorem gf_X9_104 {a : Nat} {fs : List Value} {v : Value} (C : xb_C κ Γ nL cc RX9 rm) (q0 : Nat) (he : ws[q0]? = some (a, .inr (9, fs))) (hv : fs[6]? = some v) (hd : decode cc pc = .ok (.getfield 104, 3)) (k : xb_W κ Γ nL cells slots (pc + 3) lv (v :: st) ws) : xb_W κ Γ nL cells slots pc lv (.ref a :: st) ws := x_get C q0 he rfl 6 (by decide) kw_X9 fl_X9_104 hv hd k
theorem pf_X9_104 {a : Nat} {fs : List Value} {x : Int32} {ws2 : va_W} (C : xb_C κ Γ nL cc RX9 rm) (q0 : Nat) (he : ws[q0]? = some (a, .inr (9, fs))) (hd : decode cc pc = .ok (.putfield 104, 3)) (h2 : ws.set q0 (a, .inr (9, fs.set 6 (.int x))) = ws2) (hlen : Nat.ble 7 fs.length = true := by rfl) (k : xb_W κ Γ nL cells slots (pc + 3) lv st ws2) : xb_W κ Γ nL cells slots pc lv (.int x :: .ref a :: st) ws := x_put (ty := .int) tyX9 C q0 he rfl 6 (by decide) kw_X9 tyX9_ok nmX9 fl_X9_104 rfl (by decide +kernel) rfl rfl (Nat.le_of_ble_eq_true hlen) hd h2 k
theorem gf_X9_23 {a : Nat} {fs : List Value} {v : Value} (C : xb_C κ Γ nL cc RX9 rm) (q0 : Nat) (he : ws[q0]? = some (a, .inr (9, fs))) (hv : fs[7]? = some v) (hd : decode cc pc = .ok (.getfield 23, 3)) (k : xb_W κ Γ nL cells slots (pc + 3) lv (v :: st) ws) : xb_W κ Γ nL cells slots pc lv (.ref a :: st) ws := x_get C q0 he rfl 7 (by decide) kw_X9 fl_X9_23 hv hd k
theorem gf_X9_27 {a : Nat} {fs : List Value} {v : Value} (C : xb_C κ Γ nL cc RX9 rm) (q0 : Nat) (he : ws[q0]? = some (a, .inr (9, fs))) (hv : fs[8]? = some v) (hd : decode cc pc = .ok (.getfield 27, 3)) (k : xb_W κ Γ nL cells slots (pc + 3) lv (v :: st) ws) : xb_W κ Γ nL cells slots pc lv (.ref a :: st) ws := x_get C q0 he rfl 8 (by decide) kw_X9 fl_X9_27 hv hd k
theorem pf_X9_27 {a : Nat} {fs : List Value} {x : Int32} {ws2 : va_W} (C : xb_C κ Γ nL cc RX9 rm) (q0 : Nat) (he : ws[q0]? = some (a, .inr (9, fs))) (hd : decode cc pc = .ok (.putfield 27, 3)) (h2 : ws.set q0 (a, .inr (9, fs.set 8 (.int x))) = ws2) (hlen : Nat.ble 9 fs.length = true := by rfl) (k : xb_W κ Γ nL cells slots (pc + 3) lv st ws2) : xb_W κ Γ nL cells slots pc lv (.int x :: .ref a :: st) ws := x_put (ty := .int) tyX9 C q0 he rfl 8 (by decide) kw_X9 tyX9_ok nmX9 fl_X9_27 rfl (by decide +kernel) rfl rfl (Nat.le_of_ble_eq_true hlen) hd h2 k
theorem gf_X9_30 {a : Nat} {fs : List Value} {v : Value} (C : xb_C κ Γ nL cc RX9 rm) (q0 : Nat) (he : ws[q0]? = some (a, .inr (9, fs))) (hv : fs[9]? = some v) (hd : decode cc pc = .ok (.getfield 30, 3)) (k : xb_W κ Γ nL cells slots (pc + 3) lv (v :: st) ws) : xb_W κ Γ nL cells slots pc lv (.ref a :: st) ws := x_get C q0 he rfl 9 (by decide) kw_X9 fl_X9_30 hv hd k
theorem pf_X9_30 {a : Nat} {fs : List Value} {x : Int32} {ws2 : va_W} (C : xb_C κ Γ nL cc RX9 rm) (q0 : Nat) (he : ws[q0]? = some (a, .inr (9, fs))) (hd : decode cc pc = .ok (.putfield 30, 3)) (h2 : ws.set q0 (a, .inr (9, fs.set 9 (.int x))) = ws2) (hlen : Nat.ble 10 fs.length = true := by rfl) (k : xb_W κ Γ nL cells slots (pc + 3) lv st ws2) : xb_W κ Γ nL cells slots pc lv (.int x :: .ref a :: st) ws := x_put (ty := .int) tyX9 C q0 he rfl 9 (by decide) kw_X9 tyX9_ok nmX9 fl_X9_30 rfl (by decide +kernel) rfl rfl (Nat.le_of_ble_eq_true hlen) hd h2 k
theorem gf_X9_33 {a : Nat} {fs : List Value} {v : Value} (C : xb_C κ Γ nL cc RX9 rm) (q0 : Nat) (he : ws[q0]? = some (a, .inr (9, fs))) (hv : fs[10]? = some v) (hd : decode cc pc = .ok (.getfield 33, 3)) (k : xb_W κ Γ nL cells slots (pc + 3) lv (v :: st) ws) : xb_W κ Γ nL cells slots pc lv (.ref a :: st) ws := x_get C q0 he rfl 10 (by decide) kw_X9 fl_X9_33 hv hd k
theorem pf_X9_33 {a : Nat} {fs : List Value} {x : Int32} {ws2 : va_W} (C : xb_C κ Γ nL cc RX9 rm) (q0 : Nat) (he : ws[q0]? = some (a, .inr (9, fs))) (hd : decode cc pc = .ok (.putfield 33, 3)) (h2 : ws.set q0 (a, .inr (9, fs.set 10 (.int x))) = ws2) (hlen : Nat.ble 11 fs.length = true := by rfl) (k : xb_W κ Γ nL cells slots (pc + 3) lv st ws2) : xb_W κ Γ nL cells slots pc lv (.int x :: .ref a :: st) ws := x_put (ty := .int) tyX9 C q0 he rfl 10 (by decide) kw_X9 tyX9_ok nmX9 fl_X9_33 rfl (by decide +kernel) rfl rfl (Nat.le_of_ble_eq_true hlen) hd h2 k
theorem gf_X9_36 {a : Nat} {fs : List Value} {v : Value} (C : xb_C κ Γ nL cc RX9 rm) (q0 : Nat) (he : ws[q0]? = some (a, .inr (9, fs))) (hv : fs[11]? = some v) (hd : decode cc pc = .ok (.getfield 36, 3)) (k : xb_W κ Γ nL cells slots (pc + 3) lv (v :: st) ws) : xb_W κ Γ nL cells slots pc lv (.ref a :: st) ws := x_get C q0 he rfl 11 (by decide) kw_X9 fl_X9_36 hv hd k
theorem gf_X9_39 {a : Nat} {fs : List Value} {v : Value} (C : xb_C κ Γ nL cc RX9 rm) (q0 : Nat) (he : ws[q0]? = some (a, .inr (9, fs))) (hv : fs[12]? = some v) (hd : decode cc pc = .ok (.getfield 39, 3)) (k : xb_W κ Γ nL cells slots (pc + 3) lv (v :: st) ws) : xb_W κ Γ nL cells slots pc lv (.ref a :: st) ws := x_get C q0 he rfl 12 (by decide) kw_X9 fl_X9_39 hv hd k
theorem gf_X9_122 {a : Nat} {fs : List Value} {v : Value} (C : xb_C κ Γ nL cc RX9 rm) (q0 : Nat) (he : ws[q0]? = some (a, .inr (9, fs))) (hv : fs[13]? = some v) (hd : decode cc pc = .ok (.getfield 122, 3)) (k : xb_W κ Γ nL cells slots (pc + 3) lv (v :: st) ws) : xb_W κ Γ nL cells slots pc lv (.ref a :: st) ws := x_get C q0 he rfl 13 (by decide) kw_X9 fl_X9_122 hv hd k
theorem pf_X9_122 {a : Nat} {fs : List Value} {x : Int32} {ws2 : va_W} (C : xb_C κ Γ nL cc RX9 rm) (q0 : Nat) (he : ws[q0]? = some (a, .inr (9, fs))) (hd : decode cc pc = .ok (.putfield 122, 3)) (h2 : ws.set q0 (a, .inr (9, fs.set 13 (.int x))) = ws2) (hlen : Nat.ble 14 fs.length = true := by rfl) (k : xb_W κ Γ nL cells slots (pc + 3) lv st ws2) : xb_W κ Γ nL cells slots pc lv (.int x :: .ref a :: st) ws := x_put (ty := .int) tyX9 C q0 he rfl 13 (by decide) kw_X9 tyX9_ok nmX9 fl_X9_122 rfl (by decide +kernel) rfl rfl (Nat.le_of_ble_eq_true hlen) hd h2 k
theorem gf_X9_42 {a : Nat} {fs : List Value} {v : Value} (C : xb_C κ Γ nL cc RX9 rm) (q0 : Nat) (he : ws[q0]? = some (a, .inr (9, fs))) (hv : fs[14]? = some v) (hd : decode cc pc = .ok (.getfield 42, 3)) (k : xb_W κ Γ nL cells slots (pc + 3) lv (v :: st) ws) : xb_W κ Γ nL cells slots pc lv (.ref a :: st) ws := x_get C q0 he rfl 14 (by decide) kw_X9 fl_X9_42 hv hd k
theorem gf_X9_45 {a : Nat} {fs : List Value} {v : Value} (C : xb_C κ Γ nL cc RX9 rm) (q0 : Nat) (he : ws[q0]? = some (a, .inr (9, fs))) (hv : fs[15]? = some v) (hd : decode cc pc = .ok (.getfield 45, 3)) (k : xb_W κ Γ nL cells slots (pc + 3) lv (v :: st) ws) : xb_W κ Γ nL cells slots pc lv (.ref a :: st) ws := x_get C q0 he rfl 15 (by decide) kw_X9 fl_X9_45 hv hd k
theorem gf_X9_139 {a : Nat} {fs : List Value} {v : Value} (C : xb_C κ Γ nL cc RX9 rm) (q0 : Nat) (he : ws[q0]? = some (a, .inr (9, fs))) (hv : fs[16]? = some v) (hd : decode cc pc = .ok (.getfield 139, 3)) (k : xb_W κ Γ nL cells slots (pc + 3) lv (v :: st) ws) : xb_W κ Γ nL cells slots pc lv (.ref a :: st) ws := x_get C q0 he rfl 16 (by decide) kw_X9 fl_X9_139 hv hd k
theorem pf_X9_139 {a : Nat} {fs : List Value} {x : Int32} {ws2 : va_W} (C : xb_C κ Γ nL cc RX9 rm) (q0 : Nat) (he : ws[q0]? = some (a, .inr (9, fs))) (hd : decode cc pc = .ok (.putfield 139, 3)) (h2 : ws.set q0 (a, .inr (9, fs.set 16 (.int x))) = ws2) (hlen : Nat.ble 17 fs.length = true := by rfl) (k : xb_W κ Γ nL cells slots (pc + 3) lv st ws2) : xb_W κ Γ nL cells slots pc lv (.int x :: .ref a :: st) ws := x_put (ty := .int) tyX9 C q0 he rfl 16 (by decide) kw_X9 tyX9_ok nmX9 fl_X9_139 rfl (by decide +kernel) rfl rfl (Nat.le_of_ble_eq_true hlen) hd h2 k
theorem gf_X9_48 {a : Nat} {fs : List Value} {v : Value} (C : xb_C κ Γ nL cc RX9 rm) (q0 : Nat) (he : ws[q0]? = some (a, .inr (9, fs))) (hv : fs[17]? = some v) (hd : decode cc pc = .ok (.getfield 48, 3)) (k : xb_W κ Γ nL cells slots (pc + 3) lv (v :: st) ws) : xb_W κ Γ nL cells slots pc lv (.ref a :: st) ws := x_get C q0 he rfl 17 (by decide) kw_X9 fl_X9_48 hv hd k
theorem gf_X9_142 {a : Nat} {fs : List Value} {v : Value} (C : xb_C κ Γ nL cc RX9 rm) (q0 : Nat) (he : ws[q0]? = some (a, .inr (9, fs))) (hv : fs[18]? = some v) (hd : decode cc pc = .ok (.getfield 142, 3)) (k : xb_W κ Γ nL cells slots (pc + 3) lv (v :: st) ws) : xb_W κ Γ nL cells slots pc lv (.ref a :: st) ws := x_get C q0 he rfl 18 (by decide) kw_X9 fl_X9_142 hv hd k
theorem pf_X9_142 {a : Nat} {fs : List Value} {x : Int32} {ws2 : va_W} (C : xb_C κ Γ nL cc RX9 rm) (q0 : Nat) (he : ws[q0]? = some (a, .inr (9, fs))) (hd : decode cc pc = .ok (.putfield 142, 3)) (h2 : ws.set q0 (a, .inr (9, fs.set 18 (.int x))) = ws2) (hlen : Nat.ble 19 fs.length = true := by rfl) (k : xb_W κ Γ nL cells slots (pc + 3) lv st ws2) : xb_W κ Γ nL cells slots pc lv (.int x :: .ref a :: st) ws := x_put (ty := .int) tyX9 C q0 he rfl 18 (by decide) kw_X9 tyX9_ok nmX9 fl_X9_142 rfl (by decide +kernel) rfl rfl (Nat.le_of_ble_eq_true hlen) hd h2 k
theorem gf_X9_51 {a : Nat} {fs : List Value} {v : Value} (C : xb_C κ Γ nL cc RX9 rm) (q0 : Nat) (he : ws[q0]? = some (a, .inr (9, fs))) (hv : fs[19]? = some v) (hd : decode cc pc = .ok (.getfield 51, 3)) (k : xb_W κ Γ nL cells slots (pc + 3) lv (v :: st) ws) : xb_W κ Γ nL cells slots pc lv (.ref a :: st) ws := x_get C q0 he rfl 19 (by decide) kw_X9 fl_X9_51 hv hd k
theorem gf_X9_54 {a : Nat} {fs : List Value} {v : Value} (C : xb_C κ Γ nL cc RX9 rm) (q0 : Nat) (he : ws[q0]? = some (a, .inr (9, fs))) (hv : fs[20]? = some v) (hd : decode cc pc = .ok (.getfield 54, 3)) (k : xb_W κ Γ nL cells slots (pc + 3) lv (v :: st) ws) : xb_W κ Γ nL cells slots pc lv (.ref a :: st) ws := x_get C q0 he rfl 20 (by decide) kw_X9 fl_X9_54 hv hd k
theorem gf_X9_57 {a : Nat} {fs : List Value} {v : Value} (C : xb_C κ Γ nL cc RX9 rm) (q0 : Nat) (he : ws[q0]? = some (a, .inr (9, fs))) (hv : fs[21]? = some v) (hd : decode cc pc = .ok (.getfield 57, 3)) (k : xb_W κ Γ nL cells slots (pc + 3) lv (v :: st) ws) : xb_W κ Γ nL cells slots pc lv (.ref a :: st) ws := x_get C q0 he rfl 21 (by decide) kw_X9 fl_X9_57 hv hd k
theorem gf_X9_60 {a : Nat} {fs : List Value} {v : Value} (C : xb_C κ Γ nL cc RX9 rm) (q0 : Nat) (he : ws[q0]? = some (a, .inr (9, fs))) (hv : fs[22]? = some v) (hd : decode cc pc = .ok (.getfield 60, 3)) (k : xb_W κ Γ nL cells slots (pc + 3) lv (v :: st) ws) : xb_W κ Γ nL cells slots pc lv (.ref a :: st) ws := x_get C q0 he rfl 22 (by decide) kw_X9 fl_X9_60 hv hd k
theorem gf_X9_63 {a : Nat} {fs : List Value} {v : Value} (C : xb_C κ Γ nL cc RX9 rm) (q0 : Nat) (he : ws[q0]? = some (a, .inr (9, fs))) (hv : fs[23]? = some v) (hd : decode cc pc = .ok (.getfield 63, 3)) (k : xb_W κ Γ nL cells slots (pc + 3) lv (v :: st) ws) : xb_W κ Γ nL cells slots pc lv (.ref a :: st) ws := x_get C q0 he rfl 23 (by decide) kw_X9 fl_X9_63 hv hd k
theorem gf_X9_66 {a : Nat} {fs : List Value} {v : Value} (C : xb_C κ Γ nL cc RX9 rm) (q0 : Nat) (he : ws[q0]? = some (a, .inr (9, fs))) (hv : fs[24]? = some v) (hd : decode cc pc = .ok (.getfield 66, 3)) (k : xb_W κ Γ nL cells slots (pc + 3) lv (v :: st) ws) : xb_W κ Γ nL cells slots pc lv (.ref a :: st) ws := x_get C q0 he rfl 24 (by decide) kw_X9 fl_X9_66 hv hd k
theorem gf_X9_211 {a : Nat} {fs : List Value} {v : Value} (C : xb_C κ Γ nL cc RX9 rm) (q0 : Nat) (he : ws[q0]? = some (a, .inr (9, fs))) (hv : fs[25]? = some v) (hd : decode cc pc = .ok (.getfield 211, 3)) (k : xb_W κ Γ nL cells slots (pc + 3) lv (v :: st) ws) : xb_W κ Γ nL cells slots pc lv (.ref a :: st) ws := x_get C q0 he rfl 25 (by decide) kw_X9 fl_X9_211 hv hd k
theorem pf_X9_211 {a : Nat} {fs : List Value} {x : Int32} {ws2 : va_W} (C : xb_C κ Γ nL cc RX9 rm) (q0 : Nat) (he : ws[q0]? = some (a, .inr (9, fs))) (hd : decode cc pc = .ok (.putfield 211, 3)) (h2 : ws.set q0 (a, .inr (9, fs.set 25 (.int x))) = ws2) (hlen : Nat.ble 26 fs.length = true := by rfl) (k : xb_W κ Γ nL cells slots (pc + 3) lv st ws2) : xb_W κ Γ nL cells slots pc lv (.int x :: .ref a :: st) ws := x_put (ty := .int) tyX9 C q0 he rfl 25 (by decide) kw_X9 tyX9_ok nmX9 fl_X9_211 rfl (by decide +kernel) rfl rfl (Nat.le_of_ble_eq_true hlen) hd h2 k
theorem gf_X9_204 {a : Nat} {fs : List Value} {v : Value} (C : xb_C κ Γ nL cc RX9 rm) (q0 : Nat) (he : ws[q0]? = some (a, .inr (9, fs))) (hv : fs[26]? = some v) (hd : decode cc pc = .ok (.getfield 204, 3)) (k : xb_W κ Γ nL cells slots (pc + 3) lv (v :: st) ws) : xb_W κ Γ nL cells slots pc lv (.ref a :: st) ws := x_get C q0 he rfl 26 (by decide) kw_X9 fl_X9_204 hv hd k
theorem pf_X9_204 {a : Nat} {fs : List Value} {x : Int32} {ws2 : va_W} (C : xb_C κ Γ nL cc RX9 rm) (q0 : Nat) (he : ws[q0]? = some (a, .inr (9, fs))) (hd : decode cc pc = .ok (.putfield 204, 3)) (h2 : ws.set q0 (a, .inr (9, fs.set 26 (.int x))) = ws2) (hlen : Nat.ble 27 fs.length = true := by rfl) (k : xb_W κ Γ nL cells slots (pc + 3) lv st ws2) : xb_W κ Γ nL cells slots pc lv (.int x :: .ref a :: st) ws := x_put (ty := .int) tyX9 C q0 he rfl 26 (by decide) kw_X9 tyX9_ok nmX9 fl_X9_204 rfl (by decide +kernel) rfl rfl (Nat.le_of_ble_eq_true hlen) hd h2 k
theorem gf_X9_69 {a : Nat} {fs : List Value} {v : Value} (C : xb_C κ Γ nL cc RX9 rm) (q0 : Nat) (he : ws[q0]? = some (a, .inr (9, fs))) (hv : fs[27]? = some v) (hd : decode cc pc = .ok (.getfield 69, 3)) (k : xb_W κ Γ nL cells slots (pc + 3) lv (v :: st) ws) : xb_W κ Γ nL cells slots pc lv (.ref a :: st) ws := x_get C q0 he rfl 27 (by decide) kw_X9 fl_X9_69 hv hd k
theorem gf_X9_72 {a : Nat} {fs : List Value} {v : Value} (C : xb_C κ Γ nL cc RX9 rm) (q0 : Nat) (he : ws[q0]? = some (a, .inr (9, fs))) (hv : fs[28]? = some v) (hd : decode cc pc = .ok (.getfield 72, 3)) (k : xb_W κ Γ nL cells slots (pc + 3) lv (v :: st) ws) : xb_W κ Γ nL cells slots pc lv (.ref a :: st) ws := x_get C q0 he rfl 28 (by decide) kw_X9 fl_X9_72 hv hd k
theorem gf_X9_75 {a : Nat} {fs : List Value} {v : Value} (C : xb_C κ Γ nL cc RX9 rm) (q0 : Nat) (he : ws[q0]? = some (a, .inr (9, fs))) (hv : fs[29]? = some v) (hd : decode cc pc = .ok (.getfield 75, 3)) (k : xb_W κ Γ nL cells slots (pc + 3) lv (v :: st) ws) : xb_W κ Γ nL cells slots pc lv (.ref a :: st) ws := x_get C q0 he rfl 29 (by decide) kw_X9 fl_X9_75 hv hd k
theorem gf_X9_78 {a : Nat} {fs : List Value} {v : Value} (C : xb_C κ Γ nL cc RX9 rm) (q0 : Nat) (he : ws[q0]? = some (a, .inr (9, fs))) (hv : fs[30]? = some v) (hd : decode cc pc = .ok (.getfield 78, 3)) (k : xb_W κ Γ nL cells slots (pc + 3) lv (v :: st) ws) : xb_W κ Γ nL cells slots pc lv (.ref a :: st) ws := x_get C q0 he rfl 30 (by decide) kw_X9 fl_X9_78 hv hd k
theorem gf_X9_81 {a : Nat} {fs : List Value} {v : Value} (C : xb_C κ Γ nL cc RX9 rm) (q0 : Nat) (he : ws[q0]? = some (a, .inr (9, fs))) (hv : fs[31]? = some v) (hd : decode cc pc = .ok (.getfield 81, 3)) (k : xb_W κ Γ nL cells slots (pc + 3) lv (v :: st) ws) : xb_W κ Γ nL cells slots pc lv (.ref a :: st) ws := x_get C q0 he rfl 31 (by decide) kw_X9 fl_X9_81 hv hd k
theorem gf_X9_84 {a : Nat} {fs : List Value} {v : Value} (C : xb_C κ Γ nL cc RX9 rm) (q0 : Nat) (he : ws[q0]? = some (a, .inr (9, fs))) (hv : fs[32]? = some v) (hd : decode cc pc = .ok (.getfield 84, 3)) (k : xb_W κ Γ nL cells slots (pc + 3) lv (v :: st) ws) : xb_W κ Γ nL cells slots pc lv (.ref a :: st) ws := x_get C q0 he rfl 32 (by decide) kw_X9 fl_X9_84 hv hd k
theorem gf_X9_87 {a : Nat} {fs : List Value} {v : Value} (C : xb_C κ Γ nL cc RX9 rm) (q0 : Nat) (he : ws[q0]? = some (a, .inr (9, fs))) (hv : fs[33]? = some v) (hd : decode cc pc = .ok (.getfield 87, 3)) (k : xb_W κ Γ nL cells slots (pc + 3) lv (v :: st) ws) : xb_W κ Γ nL cells slots pc lv (.ref a :: st) ws := x_get C q0 he rfl 33 (by decide) kw_X9 fl_X9_87 hv hd k
theorem gf_X9_90 {a : Nat} {fs : List Value} {v : Value} (C : xb_C κ Γ nL cc RX9 rm) (q0 : Nat) (he : ws[q0]? = some (a, .inr (9, fs))) (hv : fs[34]? = some v) (hd : decode cc pc = .ok (.getfield 90, 3)) (k : xb_W κ Γ nL cells slots (pc + 3) lv (v :: st) ws) : xb_W κ Γ nL cells slots pc lv (.ref a :: st) ws := x_get C q0 he rfl 34 (by decide) kw_X9 fl_X9_90 hv hd k
end
def el (len : Nat) (f : Nat → Int32) (i : Int32) : Int32 := if i < 0 then 0 else if nI len ≤ i then 0 else f i.toNatClampNeg
def fl (len : Nat) (f : Nat → Int32) (v : Int32) : Nat → Int32 := fun k => if k < len then v else f k
def xb_gL : Nat → Int32 := fun j => if j = 2 then 1 else 0
def xb_gM : Nat → Int32 := fun j => if j = 0 then 7 else if j = 1 then 5 else 9
theorem el_in {len : Nat} {i : Int32} (h1 : ¬ i < 0) (h2 : ¬ nI len ≤ i) (hl : len < 2 ^ 31) : vp_in i len := by
  rw [vp_in_iff]
  rw [Int32.lt_iff_toInt_lt, Int32.toInt_zero] at h1
  rw [Int32.le_iff_toInt_le, nI_toInt hl] at h2
  omega
theorem xm_X8_init : xm_I yX8_init RX8 cX8_init 3 none 1 := ⟨ki_X8_init, kn_X8, kc_X8_init, by decide +kernel⟩
theorem xm_J9_min_7cf53 : xm_S yJ9_min_7cf53 RJ9 cJ9_min_7cf53 2 (some .int) 2 := ⟨kt_J9_min_7cf53, kn_J9, kc_J9_min_7cf53, by decide +kernel⟩
theorem xm_J9_max_7cf53 : xm_S yJ9_max_7cf53 RJ9 cJ9_max_7cf53 2 (some .int) 2 := ⟨kt_J9_max_7cf53, kn_J9, kc_J9_max_7cf53, by decide +kernel⟩
theorem xm_X4_init : xm_I yX4_init RX4 cX4_init 2 none 1 := ⟨ki_X4_init, kn_X4, kc_X4_init, by decide +kernel⟩
theorem xm_X5_init : xm_I yX5_init RX5 cX5_init 1 none 0 := ⟨ki_X5_init, kn_X5, kc_X5_init, by decide +kernel⟩
theorem xm_X6_init : xm_I yX6_init RX6 cX6_init 1 none 0 := ⟨ki_X6_init, kn_X6, kc_X6_init, by decide +kernel⟩
theorem xm_X1_init : xm_I yX1_init RX1 cX1_init 2 none 1 := ⟨ki_X1_init, kn_X1, kc_X1_init, by decide +kernel⟩
theorem xm_X0_init : xm_I yX0_init RX0 cX0_init 3 none 1 := ⟨ki_X0_init, kn_X0, kc_X0_init, by decide +kernel⟩
theorem xm_X2_init : xm_I yX2_init RX2 cX2_init 2 none 1 := ⟨ki_X2_init, kn_X2, kc_X2_init, by decide +kernel⟩
theorem xm_X3_init : xm_I yX3_init RX3 cX3_init 2 none 1 := ⟨ki_X3_init, kn_X3, kc_X3_init, by decide +kernel⟩
theorem xm_X7_init : xm_I yX7_init RX7 cX7_init 2 none 1 := ⟨ki_X7_init, kn_X7, kc_X7_init, by decide +kernel⟩
theorem xm_X8_pair : xm_V yX8_pair RX8 cX8_pair 3 (some .int) 2 := ⟨ki_X8_pair, ks_X8_pair, kn_X8, kc_X8_pair, by decide +kernel⟩
theorem xm_X8_change : xm_V yX8_change RX8 cX8_change 5 (some .int) 3 := ⟨ki_X8_change, ks_X8_change, kn_X8, kc_X8_change, by decide +kernel⟩
theorem xm_X4_isThing : xm_V yX4_isThing RX4 cX4_isThing 2 (some .boolean) 1 := ⟨ki_X4_isThing, ks_X4_isThing, kn_X4, kc_X4_isThing, by decide +kernel⟩
theorem xm_X4_joined : xm_V yX4_joined RX4 cX4_joined 3 (some .boolean) 2 := ⟨ki_X4_joined, ks_X4_joined, kn_X4, kc_X4_joined, by decide +kernel⟩
theorem xm_X4_rowOf : xm_V yX4_rowOf RX4 cX4_rowOf 2 (some .long) 1 := ⟨ki_X4_rowOf, ks_X4_rowOf, kn_X4, kc_X4_rowOf, by decide +kernel⟩
theorem xm_X8_isIn : xm_S yX8_isIn RX8 cX8_isIn 3 (some .boolean) 2 := ⟨kt_X8_isIn, kn_X8, kc_X8_isIn, by decide +kernel⟩
theorem xm_X1_isThere : xm_V yX1_isThere RX1 cX1_isThere 1 (some .boolean) 0 := ⟨ki_X1_isThere, ks_X1_isThere, kn_X1, kc_X1_isThere, by decide +kernel⟩
theorem xm_X1_isPatch : xm_V yX1_isPatch RX1 cX1_isPatch 4 (some .boolean) 3 := ⟨ki_X1_isPatch, ks_X1_isPatch, kn_X1, kc_X1_isPatch, by decide +kernel⟩
theorem xm_X1_patchesTo : xm_V yX1_patchesTo RX1 cX1_patchesTo 2 (some .int) 1 := ⟨ki_X1_patchesTo, ks_X1_patchesTo, kn_X1, kc_X1_patchesTo, by decide +kernel⟩
theorem xm_X4_countOther : xm_V yX4_countOther RX4 cX4_countOther 4 (some .int) 1 := ⟨ki_X4_countOther, ks_X4_countOther, kn_X4, kc_X4_countOther, by decide +kernel⟩
theorem xm_J13_bitCount_95d88 : xm_S yJ13_bitCount_95d88 RJ13 cJ13_bitCount_95d88 2 (some .int) 1 := ⟨kt_J13_bitCount_95d88, kn_J13, kc_J13_bitCount_95d88, by decide +kernel⟩
theorem xm_X4_flip : xm_V yX4_flip RX4 cX4_flip 3 none 2 := ⟨ki_X4_flip, ks_X4_flip, kn_X4, kc_X4_flip, by decide +kernel⟩
theorem xm_X8_drop : xm_V yX8_drop RX8 cX8_drop 3 (some .int) 2 := ⟨ki_X8_drop, ks_X8_drop, kn_X8, kc_X8_drop, by decide +kernel⟩
theorem xm_X8_has : xm_V yX8_has RX8 cX8_has 3 (some .int) 2 := ⟨ki_X8_has, ks_X8_has, kn_X8, kc_X8_has, by decide +kernel⟩
theorem xm_X8_next : xm_V yX8_next RX8 cX8_next 3 (some .int) 2 := ⟨ki_X8_next, ks_X8_next, kn_X8, kc_X8_next, by decide +kernel⟩
theorem xm_X8_firstFrom : xm_S yX8_firstFrom RX8 cX8_firstFrom 4 (some .int) 2 := ⟨kt_X8_firstFrom, kn_X8, kc_X8_firstFrom, by decide +kernel⟩
theorem xm_X8_degree : xm_V yX8_degree RX8 cX8_degree 3 (some .int) 2 := ⟨ki_X8_degree, ks_X8_degree, kn_X8, kc_X8_degree, by decide +kernel⟩
theorem xm_X8_isBelow : xm_S yX8_isBelow RX8 cX8_isBelow 2 (some .boolean) 2 := ⟨kt_X8_isBelow, kn_X8, kc_X8_isBelow, by decide +kernel⟩
theorem xm_X4_columnOf : xm_V yX4_columnOf RX4 cX4_columnOf 5 (some .long) 1 := ⟨ki_X4_columnOf, ks_X4_columnOf, kn_X4, kc_X4_columnOf, by decide +kernel⟩
theorem xm_X8_meet : xm_V yX8_meet RX8 cX8_meet 3 (some .int) 2 := ⟨ki_X8_meet, ks_X8_meet, kn_X8, kc_X8_meet, by decide +kernel⟩
theorem xm_X8_back : xm_V yX8_back RX8 cX8_back 3 (some .int) 2 := ⟨ki_X8_back, ks_X8_back, kn_X8, kc_X8_back, by decide +kernel⟩
theorem xm_X8_thingAt : xm_S yX8_thingAt RX8 cX8_thingAt 5 (some .int) 2 := ⟨kt_X8_thingAt, kn_X8, kc_X8_thingAt, by decide +kernel⟩
theorem xm_X8_form : xm_V yX8_form RX8 cX8_form 4 (some .int) 2 := ⟨ki_X8_form, ks_X8_form, kn_X8, kc_X8_form, by decide +kernel⟩
theorem xm_X5_formOf : xm_V yX5_formOf RX5 cX5_formOf 2 (some .int) 1 := ⟨ki_X5_formOf, ks_X5_formOf, kn_X5, kc_X5_formOf, by decide +kernel⟩
theorem xm_X8_element : xm_S yX8_element RX8 cX8_element 2 (some .int) 2 := ⟨kt_X8_element, kn_X8, kc_X8_element, by decide +kernel⟩
theorem xm_X5_setForm : xm_V yX5_setForm RX5 cX5_setForm 3 none 2 := ⟨ki_X5_setForm, ks_X5_setForm, kn_X5, kc_X5_setForm, by decide +kernel⟩
theorem xm_X8_setting : xm_V yX8_setting RX8 cX8_setting 4 (some .int) 2 := ⟨ki_X8_setting, ks_X8_setting, kn_X8, kc_X8_setting, by decide +kernel⟩
theorem xm_X5_allows : xm_V yX5_allows RX5 cX5_allows 3 (some .boolean) 2 := ⟨ki_X5_allows, ks_X5_allows, kn_X5, kc_X5_allows, by decide +kernel⟩
theorem xm_X5_valueOf : xm_V yX5_valueOf RX5 cX5_valueOf 2 (some .int) 1 := ⟨ki_X5_valueOf, ks_X5_valueOf, kn_X5, kc_X5_valueOf, by decide +kernel⟩
theorem xm_X5_setValue : xm_V yX5_setValue RX5 cX5_setValue 3 none 2 := ⟨ki_X5_setValue, ks_X5_setValue, kn_X5, kc_X5_setValue, by decide +kernel⟩
theorem xm_X8_length : xm_V yX8_length RX8 cX8_length 3 (some .int) 2 := ⟨ki_X8_length, ks_X8_length, kn_X8, kc_X8_length, by decide +kernel⟩
theorem xm_X8_bitsIn : xm_S yX8_bitsIn RX8 cX8_bitsIn 4 (some .int) 2 := ⟨kt_X8_bitsIn, kn_X8, kc_X8_bitsIn, by decide +kernel⟩
theorem xm_X8_digitsOf : xm_S yX8_digitsOf RX8 cX8_digitsOf 2 (some .int) 1 := ⟨kt_X8_digitsOf, kn_X8, kc_X8_digitsOf, by decide +kernel⟩
theorem xm_X8_cost : xm_V yX8_cost RX8 cX8_cost 5 (some .int) 3 := ⟨ki_X8_cost, ks_X8_cost, kn_X8, kc_X8_cost, by decide +kernel⟩
theorem xm_X8_isCopy : xm_S yX8_isCopy RX8 cX8_isCopy 1 (some .boolean) 1 := ⟨kt_X8_isCopy, kn_X8, kc_X8_isCopy, by decide +kernel⟩
theorem xm_X6_bitsToTell : xm_V yX6_bitsToTell RX6 cX6_bitsToTell 9 (some .int) 5 := ⟨ki_X6_bitsToTell, ks_X6_bitsToTell, kn_X6, kc_X6_bitsToTell, by decide +kernel⟩
theorem xm_X6_tell : xm_V yX6_tell RX6 cX6_tell 9 (some .boolean) 4 := ⟨ki_X6_tell, ks_X6_tell, kn_X6, kc_X6_tell, by decide +kernel⟩
theorem xm_X6_add : xm_V yX6_add RX6 cX6_add 3 none 2 := ⟨ki_X6_add, ks_X6_add, kn_X6, kc_X6_add, by decide +kernel⟩
theorem xm_X6_tellPlain : xm_V yX6_tellPlain RX6 cX6_tellPlain 6 none 2 := ⟨ki_X6_tellPlain, ks_X6_tellPlain, kn_X6, kc_X6_tellPlain, by decide +kernel⟩
theorem xm_X8_folded : xm_S yX8_folded RX8 cX8_folded 1 (some .int) 1 := ⟨kt_X8_folded, kn_X8, kc_X8_folded, by decide +kernel⟩
theorem xm_X6_tellSpans : xm_V yX6_tellSpans RX6 cX6_tellSpans 15 (some .long) 2 := ⟨ki_X6_tellSpans, ks_X6_tellSpans, kn_X6, kc_X6_tellSpans, by decide +kernel⟩
theorem xm_X6_tellBlocks : xm_V yX6_tellBlocks RX6 cX6_tellBlocks 10 none 2 := ⟨ki_X6_tellBlocks, ks_X6_tellBlocks, kn_X6, kc_X6_tellBlocks, by decide +kernel⟩
theorem xm_X6_tellDense : xm_V yX6_tellDense RX6 cX6_tellDense 7 none 2 := ⟨ki_X6_tellDense, ks_X6_tellDense, kn_X6, kc_X6_tellDense, by decide +kernel⟩
theorem xm_X8_lastOf : xm_S yX8_lastOf RX8 cX8_lastOf 3 (some .int) 1 := ⟨kt_X8_lastOf, kn_X8, kc_X8_lastOf, by decide +kernel⟩
theorem xm_X6_useAt : xm_V yX6_useAt RX6 cX6_useAt 2 (some .int) 1 := ⟨ki_X6_useAt, ks_X6_useAt, kn_X6, kc_X6_useAt, by decide +kernel⟩
theorem xm_X6_numberAt : xm_V yX6_numberAt RX6 cX6_numberAt 2 (some .int) 1 := ⟨ki_X6_numberAt, ks_X6_numberAt, kn_X6, kc_X6_numberAt, by decide +kernel⟩
theorem xm_X8_pack : xm_V yX8_pack RX8 cX8_pack 1 (some .int) 0 := ⟨ki_X8_pack, ks_X8_pack, kn_X8, kc_X8_pack, by decide +kernel⟩
theorem xm_X1_decideAll : xm_V yX1_decideAll RX1 cX1_decideAll 5 none 3 := ⟨ki_X1_decideAll, ks_X1_decideAll, kn_X1, kc_X1_decideAll, by decide +kernel⟩
theorem xm_X4_takeAllOf : xm_V yX4_takeAllOf RX4 cX4_takeAllOf 3 none 1 := ⟨ki_X4_takeAllOf, ks_X4_takeAllOf, kn_X4, kc_X4_takeAllOf, by decide +kernel⟩
theorem xm_J7_fill_53178 : xm_S yJ7_fill_53178 RJ7 cJ7_fill_53178 4 none 2 := ⟨kt_J7_fill_53178, kn_J7, kc_J7_fill_53178, by decide +kernel⟩
theorem xm_X1_choose : xm_V yX1_choose RX1 cX1_choose 11 none 3 := ⟨ki_X1_choose, ks_X1_choose, kn_X1, kc_X1_choose, by decide +kernel⟩
theorem xm_X1_depthOf : xm_V yX1_depthOf RX1 cX1_depthOf 2 (some .int) 1 := ⟨ki_X1_depthOf, ks_X1_depthOf, kn_X1, kc_X1_depthOf, by decide +kernel⟩
theorem xm_X1_decide : xm_V yX1_decide RX1 cX1_decide 4 none 3 := ⟨ki_X1_decide, ks_X1_decide, kn_X1, kc_X1_decide, by decide +kernel⟩
theorem xm_X1_kindOf : xm_V yX1_kindOf RX1 cX1_kindOf 2 (some .int) 1 := ⟨ki_X1_kindOf, ks_X1_kindOf, kn_X1, kc_X1_kindOf, by decide +kernel⟩
theorem xm_X1_distanceOf : xm_V yX1_distanceOf RX1 cX1_distanceOf 2 (some .int) 1 := ⟨ki_X1_distanceOf, ks_X1_distanceOf, kn_X1, kc_X1_distanceOf, by decide +kernel⟩
theorem xm_X1_tallyNumbers : xm_V yX1_tallyNumbers RX1 cX1_tallyNumbers 4 none 1 := ⟨ki_X1_tallyNumbers, ks_X1_tallyNumbers, kn_X1, kc_X1_tallyNumbers, by decide +kernel⟩
theorem xm_X6_size : xm_V yX6_size RX6 cX6_size 1 (some .int) 0 := ⟨ki_X6_size, ks_X6_size, kn_X6, kc_X6_size, by decide +kernel⟩
theorem xm_X1_writeAnew : xm_V yX1_writeAnew RX1 cX1_writeAnew 4 (some .int) 2 := ⟨ki_X1_writeAnew, ks_X1_writeAnew, kn_X1, kc_X1_writeAnew, by decide +kernel⟩
theorem xm_X0_clear : xm_V yX0_clear RX0 cX0_clear 1 none 0 := ⟨ki_X0_clear, ks_X0_clear, kn_X0, kc_X0_clear, by decide +kernel⟩
theorem xm_X0_size : xm_V yX0_size RX0 cX0_size 1 (some .int) 0 := ⟨ki_X0_size, ks_X0_size, kn_X0, kc_X0_size, by decide +kernel⟩
theorem xm_X0_write : xm_V yX0_write RX0 cX0_write 5 none 2 := ⟨ki_X0_write, ks_X0_write, kn_X0, kc_X0_write, by decide +kernel⟩
theorem xm_X0_put : xm_V yX0_put RX0 cX0_put 4 none 1 := ⟨ki_X0_put, ks_X0_put, kn_X0, kc_X0_put, by decide +kernel⟩
theorem xm_X0_putNumber : xm_V yX0_putNumber RX0 cX0_putNumber 5 none 2 := ⟨ki_X0_putNumber, ks_X0_putNumber, kn_X0, kc_X0_putNumber, by decide +kernel⟩
theorem xm_X0_putUnary : xm_V yX0_putUnary RX0 cX0_putUnary 3 none 1 := ⟨ki_X0_putUnary, ks_X0_putUnary, kn_X0, kc_X0_putUnary, by decide +kernel⟩
theorem xm_X0_putDoubled : xm_V yX0_putDoubled RX0 cX0_putDoubled 4 none 1 := ⟨ki_X0_putDoubled, ks_X0_putDoubled, kn_X0, kc_X0_putDoubled, by decide +kernel⟩
theorem xm_X0_putLowest : xm_V yX0_putLowest RX0 cX0_putLowest 4 none 2 := ⟨ki_X0_putLowest, ks_X0_putLowest, kn_X0, kc_X0_putLowest, by decide +kernel⟩
theorem xm_X8_told : xm_V yX8_told RX8 cX8_told 3 (some .int) 2 := ⟨ki_X8_told, ks_X8_told, kn_X8, kc_X8_told, by decide +kernel⟩
theorem xm_X1_startOf : xm_V yX1_startOf RX1 cX1_startOf 2 (some .int) 1 := ⟨ki_X1_startOf, ks_X1_startOf, kn_X1, kc_X1_startOf, by decide +kernel⟩
theorem xm_X8_looked : xm_V yX8_looked RX8 cX8_looked 2 (some .int) 1 := ⟨ki_X8_looked, ks_X8_looked, kn_X8, kc_X8_looked, by decide +kernel⟩
theorem xm_X1_bitsToRead : xm_V yX1_bitsToRead RX1 cX1_bitsToRead 5 (some .int) 1 := ⟨ki_X1_bitsToRead, ks_X1_bitsToRead, kn_X1, kc_X1_bitsToRead, by decide +kernel⟩
theorem xm_J9_floorMod_7cf53 : xm_S yJ9_floorMod_7cf53 RJ9 cJ9_floorMod_7cf53 3 (some .int) 2 := ⟨kt_J9_floorMod_7cf53, kn_J9, kc_J9_floorMod_7cf53, by decide +kernel⟩
theorem xm_X8_would : xm_V yX8_would RX8 cX8_would 3 (some .int) 2 := ⟨ki_X8_would, ks_X8_would, kn_X8, kc_X8_would, by decide +kernel⟩
theorem xm_X1_bitsOfUse : xm_V yX1_bitsOfUse RX1 cX1_bitsOfUse 5 (some .int) 2 := ⟨ki_X1_bitsOfUse, ks_X1_bitsOfUse, kn_X1, kc_X1_bitsOfUse, by decide +kernel⟩
theorem xm_X8_forms : xm_V yX8_forms RX8 cX8_forms 2 (some .int) 0 := ⟨ki_X8_forms, ks_X8_forms, kn_X8, kc_X8_forms, by decide +kernel⟩
theorem xm_X1_cheapestForm : xm_V yX1_cheapestForm RX1 cX1_cheapestForm 4 (some .int) 1 := ⟨ki_X1_cheapestForm, ks_X1_cheapestForm, kn_X1, kc_X1_cheapestForm, by decide +kernel⟩
theorem xm_X8_best : xm_V yX8_best RX8 cX8_best 1 (some .int) 0 := ⟨ki_X8_best, ks_X8_best, kn_X8, kc_X8_best, by decide +kernel⟩
theorem xm_X2_leastSum : xm_V yX2_leastSum RX2 cX2_leastSum 8 (some .int) 3 := ⟨ki_X2_leastSum, ks_X2_leastSum, kn_X2, kc_X2_leastSum, by decide +kernel⟩
theorem xm_X2_bitsAlone : xm_S yX2_bitsAlone RX2 cX2_bitsAlone 6 (some .int) 4 := ⟨kt_X2_bitsAlone, kn_X2, kc_X2_bitsAlone, by decide +kernel⟩
theorem xm_X2_belowOf : xm_V yX2_belowOf RX2 cX2_belowOf 3 (some .int) 2 := ⟨ki_X2_belowOf, ks_X2_belowOf, kn_X2, kc_X2_belowOf, by decide +kernel⟩
theorem xm_X2_findCopy : xm_V yX2_findCopy RX2 cX2_findCopy 9 none 4 := ⟨ki_X2_findCopy, ks_X2_findCopy, kn_X2, kc_X2_findCopy, by decide +kernel⟩
theorem xm_X2_hang : xm_V yX2_hang RX2 cX2_hang 7 none 3 := ⟨ki_X2_hang, ks_X2_hang, kn_X2, kc_X2_hang, by decide +kernel⟩
theorem xm_X8_bit : xm_V yX8_bit RX8 cX8_bit 2 (some .int) 1 := ⟨ki_X8_bit, ks_X8_bit, kn_X8, kc_X8_bit, by decide +kernel⟩
theorem xm_X1_bits : xm_V yX1_bits RX1 cX1_bits 1 (some (.object "NeighbourBook$Bits")) 0 := ⟨ki_X1_bits, ks_X1_bits, kn_X1, kc_X1_bits, by decide +kernel⟩
theorem xm_X0_bitNow : xm_V yX0_bitNow RX0 cX0_bitNow 2 (some .int) 1 := ⟨ki_X0_bitNow, ks_X0_bitNow, kn_X0, kc_X0_bitNow, by decide +kernel⟩
theorem xm_X0_bitOf : xm_S yX0_bitOf RX0 cX0_bitOf 2 (some .int) 2 := ⟨kt_X0_bitOf, kn_X0, kc_X0_bitOf, by decide +kernel⟩
theorem xm_X8_place : xm_V yX8_place RX8 cX8_place 2 (some .int) 1 := ⟨ki_X8_place, ks_X8_place, kn_X8, kc_X8_place, by decide +kernel⟩
theorem xm_X1_placeCount : xm_V yX1_placeCount RX1 cX1_placeCount 1 (some .int) 0 := ⟨ki_X1_placeCount, ks_X1_placeCount, kn_X1, kc_X1_placeCount, by decide +kernel⟩
theorem xm_X1_placeStart : xm_V yX1_placeStart RX1 cX1_placeStart 2 (some .int) 1 := ⟨ki_X1_placeStart, ks_X1_placeStart, kn_X1, kc_X1_placeStart, by decide +kernel⟩
theorem xm_X8_sum : xm_V yX8_sum RX8 cX8_sum 1 (some .long) 0 := ⟨ki_X8_sum, ks_X8_sum, kn_X8, kc_X8_sum, by decide +kernel⟩
theorem xm_X0_hash : xm_V yX0_hash RX0 cX0_hash 4 (some .long) 0 := ⟨ki_X0_hash, ks_X0_hash, kn_X0, kc_X0_hash, by decide +kernel⟩
theorem xm_X0_byteCount : xm_V yX0_byteCount RX0 cX0_byteCount 1 (some .int) 0 := ⟨ki_X0_byteCount, ks_X0_byteCount, kn_X0, kc_X0_byteCount, by decide +kernel⟩
theorem xm_X8_alter : xm_V yX8_alter RX8 cX8_alter 3 (some .int) 2 := ⟨ki_X8_alter, ks_X8_alter, kn_X8, kc_X8_alter, by decide +kernel⟩
theorem xm_X0_turn : xm_V yX0_turn RX0 cX0_turn 3 (some .int) 2 := ⟨ki_X0_turn, ks_X0_turn, kn_X0, kc_X0_turn, by decide +kernel⟩
theorem xm_X8_judge : xm_V yX8_judge RX8 cX8_judge 1 (some .int) 0 := ⟨ki_X8_judge, ks_X8_judge, kn_X8, kc_X8_judge, by decide +kernel⟩
theorem xm_X1_firstSpoiled : xm_V yX1_firstSpoiled RX1 cX1_firstSpoiled 3 (some .int) 0 := ⟨ki_X1_firstSpoiled, ks_X1_firstSpoiled, kn_X1, kc_X1_firstSpoiled, by decide +kernel⟩
theorem xm_X0_firstTurned : xm_V yX0_firstTurned RX0 cX0_firstTurned 2 (some .int) 0 := ⟨ki_X0_firstTurned, ks_X0_firstTurned, kn_X0, kc_X0_firstTurned, by decide +kernel⟩
theorem xm_X8_order : xm_V yX8_order RX8 cX8_order 3 (some .int) 2 := ⟨ki_X8_order, ks_X8_order, kn_X8, kc_X8_order, by decide +kernel⟩
theorem xm_X3_arrange : xm_V yX3_arrange RX3 cX3_arrange 6 none 2 := ⟨ki_X3_arrange, ks_X3_arrange, kn_X3, kc_X3_arrange, by decide +kernel⟩
theorem xm_X3_layLayers : xm_V yX3_layLayers RX3 cX3_layLayers 9 none 1 := ⟨ki_X3_layLayers, ks_X3_layLayers, kn_X3, kc_X3_layLayers, by decide +kernel⟩
theorem xm_X3_leastKey : xm_S yX3_leastKey RX3 cX3_leastKey 4 (some .int) 1 := ⟨kt_X3_leastKey, kn_X3, kc_X3_leastKey, by decide +kernel⟩
theorem xm_X3_layByKeys : xm_V yX3_layByKeys RX3 cX3_layByKeys 3 none 0 := ⟨ki_X3_layByKeys, ks_X3_layByKeys, kn_X3, kc_X3_layByKeys, by decide +kernel⟩
theorem xm_X3_thingAtPlace : xm_V yX3_thingAtPlace RX3 cX3_thingAtPlace 2 (some .int) 1 := ⟨ki_X3_thingAtPlace, ks_X3_thingAtPlace, kn_X3, kc_X3_thingAtPlace, by decide +kernel⟩
theorem xm_X8_renumber : xm_V yX8_renumber RX8 cX8_renumber 2 (some .int) 1 := ⟨ki_X8_renumber, ks_X8_renumber, kn_X8, kc_X8_renumber, by decide +kernel⟩
theorem xm_X4_renumberBy : xm_V yX4_renumberBy RX4 cX4_renumberBy 8 none 1 := ⟨ki_X4_renumberBy, ks_X4_renumberBy, kn_X4, kc_X4_renumberBy, by decide +kernel⟩
theorem xm_X1_forget : xm_V yX1_forget RX1 cX1_forget 1 none 0 := ⟨ki_X1_forget, ks_X1_forget, kn_X1, kc_X1_forget, by decide +kernel⟩
theorem xm_X4_countToLesser : xm_V yX4_countToLesser RX4 cX4_countToLesser 3 (some .int) 0 := ⟨ki_X4_countToLesser, ks_X4_countToLesser, kn_X4, kc_X4_countToLesser, by decide +kernel⟩
theorem xm_X8_threes : xm_V yX8_threes RX8 cX8_threes 1 (some .int) 0 := ⟨ki_X8_threes, ks_X8_threes, kn_X8, kc_X8_threes, by decide +kernel⟩
theorem xm_X7_countThrees : xm_V yX7_countThrees RX7 cX7_countThrees 7 (some .int) 1 := ⟨ki_X7_countThrees, ks_X7_countThrees, kn_X7, kc_X7_countThrees, by decide +kernel⟩
theorem xm_X7_findNear : xm_V yX7_findNear RX7 cX7_findNear 3 none 1 := ⟨ki_X7_findNear, ks_X7_findNear, kn_X7, kc_X7_findNear, by decide +kernel⟩
theorem xm_X8_parts : xm_V yX8_parts RX8 cX8_parts 2 (some .int) 1 := ⟨ki_X8_parts, ks_X8_parts, kn_X8, kc_X8_parts, by decide +kernel⟩
theorem xm_X7_countParts : xm_V yX7_countParts RX7 cX7_countParts 6 (some .int) 1 := ⟨ki_X7_countParts, ks_X7_countParts, kn_X7, kc_X7_countParts, by decide +kernel⟩
theorem xm_X7_partOf : xm_V yX7_partOf RX7 cX7_partOf 8 (some .long) 1 := ⟨ki_X7_partOf, ks_X7_partOf, kn_X7, kc_X7_partOf, by decide +kernel⟩
theorem xm_X7_sizeOfPart : xm_V yX7_sizeOfPart RX7 cX7_sizeOfPart 3 (some .int) 2 := ⟨ki_X7_sizeOfPart, ks_X7_sizeOfPart, kn_X7, kc_X7_sizeOfPart, by decide +kernel⟩
theorem xm_X8_far : xm_V yX8_far RX8 cX8_far 3 (some .int) 2 := ⟨ki_X8_far, ks_X8_far, kn_X8, kc_X8_far, by decide +kernel⟩
theorem xm_X7_stepsBetween : xm_V yX7_stepsBetween RX7 cX7_stepsBetween 10 (some .int) 3 := ⟨ki_X7_stepsBetween, ks_X7_stepsBetween, kn_X7, kc_X7_stepsBetween, by decide +kernel⟩
theorem xm_X4_things : xm_V yX4_things RX4 cX4_things 1 (some .int) 0 := ⟨ki_X4_things, ks_X4_things, kn_X4, kc_X4_things, by decide +kernel⟩
theorem xm_X8_count : xm_V yX8_count RX8 cX8_count 2 (some .int) 1 := ⟨ki_X8_count, ks_X8_count, kn_X8, kc_X8_count, by decide +kernel⟩
theorem xm_X4_countAll : xm_V yX4_countAll RX4 cX4_countAll 3 (some .int) 0 := ⟨ki_X4_countAll, ks_X4_countAll, kn_X4, kc_X4_countAll, by decide +kernel⟩
theorem xm_X1_copiedRows : xm_V yX1_copiedRows RX1 cX1_copiedRows 3 (some .int) 0 := ⟨ki_X1_copiedRows, ks_X1_copiedRows, kn_X1, kc_X1_copiedRows, by decide +kernel⟩
theorem xm_X1_greatestDepth : xm_V yX1_greatestDepth RX1 cX1_greatestDepth 3 (some .int) 0 := ⟨ki_X1_greatestDepth, ks_X1_greatestDepth, kn_X1, kc_X1_greatestDepth, by decide +kernel⟩
theorem xm_X9_init : xm_I yX9_init RX9 cX9_init 3 none 1 := ⟨ki_X9_init, kn_X9, kc_X9_init, by decide +kernel⟩
theorem xm_X9_pair : xm_V yX9_pair RX9 cX9_pair 3 (some .int) 2 := ⟨ki_X9_pair, ks_X9_pair, kn_X9, kc_X9_pair, by decide +kernel⟩
theorem xm_X9_isThing : xm_V yX9_isThing RX9 cX9_isThing 2 (some .boolean) 1 := ⟨ki_X9_isThing, ks_X9_isThing, kn_X9, kc_X9_isThing, by decide +kernel⟩
theorem xm_X9_in : xm_S yX9_in RX9 cX9_in 6 (some .boolean) 3 := ⟨kt_X9_in, kn_X9, kc_X9_in, by decide +kernel⟩
theorem xm_X9_turn : xm_V yX9_turn RX9 cX9_turn 6 (some .int) 3 := ⟨ki_X9_turn, ks_X9_turn, kn_X9, kc_X9_turn, by decide +kernel⟩
theorem xm_X9_drop : xm_V yX9_drop RX9 cX9_drop 3 (some .int) 2 := ⟨ki_X9_drop, ks_X9_drop, kn_X9, kc_X9_drop, by decide +kernel⟩
theorem xm_X9_has : xm_V yX9_has RX9 cX9_has 3 (some .int) 2 := ⟨ki_X9_has, ks_X9_has, kn_X9, kc_X9_has, by decide +kernel⟩
theorem xm_X9_next : xm_V yX9_next RX9 cX9_next 4 (some .int) 2 := ⟨ki_X9_next, ks_X9_next, kn_X9, kc_X9_next, by decide +kernel⟩
theorem xm_X9_degree : xm_V yX9_degree RX9 cX9_degree 5 (some .int) 2 := ⟨ki_X9_degree, ks_X9_degree, kn_X9, kc_X9_degree, by decide +kernel⟩
theorem xm_X9_rowSize : xm_V yX9_rowSize RX9 cX9_rowSize 4 (some .int) 1 := ⟨ki_X9_rowSize, ks_X9_rowSize, kn_X9, kc_X9_rowSize, by decide +kernel⟩
theorem xm_X9_meet : xm_V yX9_meet RX9 cX9_meet 5 (some .int) 2 := ⟨ki_X9_meet, ks_X9_meet, kn_X9, kc_X9_meet, by decide +kernel⟩
theorem xm_X9_back : xm_V yX9_back RX9 cX9_back 5 (some .int) 2 := ⟨ki_X9_back, ks_X9_back, kn_X9, kc_X9_back, by decide +kernel⟩
theorem xm_X9_form : xm_V yX9_form RX9 cX9_form 4 (some .int) 2 := ⟨ki_X9_form, ks_X9_form, kn_X9, kc_X9_form, by decide +kernel⟩
theorem xm_X9_setting : xm_V yX9_setting RX9 cX9_setting 4 (some .int) 2 := ⟨ki_X9_setting, ks_X9_setting, kn_X9, kc_X9_setting, by decide +kernel⟩
theorem xm_X9_length : xm_V yX9_length RX9 cX9_length 3 (some .int) 2 := ⟨ki_X9_length, ks_X9_length, kn_X9, kc_X9_length, by decide +kernel⟩
theorem xm_X9_lengthIn : xm_S yX9_lengthIn RX9 cX9_lengthIn 3 (some .int) 2 := ⟨kt_X9_lengthIn, kn_X9, kc_X9_lengthIn, by decide +kernel⟩
theorem xm_X9_bitsOf : xm_S yX9_bitsOf RX9 cX9_bitsOf 3 (some .int) 1 := ⟨kt_X9_bitsOf, kn_X9, kc_X9_bitsOf, by decide +kernel⟩
theorem xm_X9_cost : xm_V yX9_cost RX9 cX9_cost 5 (some .int) 3 := ⟨ki_X9_cost, ks_X9_cost, kn_X9, kc_X9_cost, by decide +kernel⟩
theorem xm_X9_isSame : xm_V yX9_isSame RX9 cX9_isSame 6 (some .boolean) 3 := ⟨ki_X9_isSame, ks_X9_isSame, kn_X9, kc_X9_isSame, by decide +kernel⟩
theorem xm_X9_bitsBy : xm_V yX9_bitsBy RX9 cX9_bitsBy 5 (some .int) 4 := ⟨ki_X9_bitsBy, ks_X9_bitsBy, kn_X9, kc_X9_bitsBy, by decide +kernel⟩
theorem xm_X9_tell : xm_V yX9_tell RX9 cX9_tell 5 none 4 := ⟨ki_X9_tell, ks_X9_tell, kn_X9, kc_X9_tell, by decide +kernel⟩
theorem xm_X9_say : xm_V yX9_say RX9 cX9_say 3 none 2 := ⟨ki_X9_say, ks_X9_say, kn_X9, kc_X9_say, by decide +kernel⟩
theorem xm_X9_take : xm_V yX9_take RX9 cX9_take 5 none 3 := ⟨ki_X9_take, ks_X9_take, kn_X9, kc_X9_take, by decide +kernel⟩
theorem xm_X9_tellPlain : xm_V yX9_tellPlain RX9 cX9_tellPlain 3 none 1 := ⟨ki_X9_tellPlain, ks_X9_tellPlain, kn_X9, kc_X9_tellPlain, by decide +kernel⟩
theorem xm_X9_folded : xm_S yX9_folded RX9 cX9_folded 1 (some .int) 1 := ⟨kt_X9_folded, kn_X9, kc_X9_folded, by decide +kernel⟩
theorem xm_X9_tellSpans : xm_V yX9_tellSpans RX9 cX9_tellSpans 9 none 1 := ⟨ki_X9_tellSpans, ks_X9_tellSpans, kn_X9, kc_X9_tellSpans, by decide +kernel⟩
theorem xm_X9_runEnd : xm_V yX9_runEnd RX9 cX9_runEnd 3 (some .int) 1 := ⟨ki_X9_runEnd, ks_X9_runEnd, kn_X9, kc_X9_runEnd, by decide +kernel⟩
theorem xm_X9_tellCopied : xm_V yX9_tellCopied RX9 cX9_tellCopied 7 none 3 := ⟨ki_X9_tellCopied, ks_X9_tellCopied, kn_X9, kc_X9_tellCopied, by decide +kernel⟩
theorem xm_X9_tellDense : xm_V yX9_tellDense RX9 cX9_tellDense 6 none 2 := ⟨ki_X9_tellDense, ks_X9_tellDense, kn_X9, kc_X9_tellDense, by decide +kernel⟩
theorem xm_X9_numbersBits : xm_V yX9_numbersBits RX9 cX9_numbersBits 3 (some .int) 0 := ⟨ki_X9_numbersBits, ks_X9_numbersBits, kn_X9, kc_X9_numbersBits, by decide +kernel⟩
theorem xm_X9_pack : xm_V yX9_pack RX9 cX9_pack 2 (some .int) 0 := ⟨ki_X9_pack, ks_X9_pack, kn_X9, kc_X9_pack, by decide +kernel⟩
theorem xm_X9_choose : xm_V yX9_choose RX9 cX9_choose 5 none 1 := ⟨ki_X9_choose, ks_X9_choose, kn_X9, kc_X9_choose, by decide +kernel⟩
theorem xm_X9_consider : xm_V yX9_consider RX9 cX9_consider 6 none 4 := ⟨ki_X9_consider, ks_X9_consider, kn_X9, kc_X9_consider, by decide +kernel⟩
theorem xm_X9_writeRow : xm_V yX9_writeRow RX9 cX9_writeRow 3 none 1 := ⟨ki_X9_writeRow, ks_X9_writeRow, kn_X9, kc_X9_writeRow, by decide +kernel⟩
theorem xm_X9_putBit : xm_V yX9_putBit RX9 cX9_putBit 2 none 1 := ⟨ki_X9_putBit, ks_X9_putBit, kn_X9, kc_X9_putBit, by decide +kernel⟩
theorem xm_X9_putNumber : xm_V yX9_putNumber RX9 cX9_putNumber 4 none 2 := ⟨ki_X9_putNumber, ks_X9_putNumber, kn_X9, kc_X9_putNumber, by decide +kernel⟩
theorem xm_X9_putUnary : xm_V yX9_putUnary RX9 cX9_putUnary 3 none 1 := ⟨ki_X9_putUnary, ks_X9_putUnary, kn_X9, kc_X9_putUnary, by decide +kernel⟩
theorem xm_X9_putDoubled : xm_V yX9_putDoubled RX9 cX9_putDoubled 4 none 1 := ⟨ki_X9_putDoubled, ks_X9_putDoubled, kn_X9, kc_X9_putDoubled, by decide +kernel⟩
theorem xm_X9_putBits : xm_V yX9_putBits RX9 cX9_putBits 4 none 2 := ⟨ki_X9_putBits, ks_X9_putBits, kn_X9, kc_X9_putBits, by decide +kernel⟩
theorem xm_X9_closeBook : xm_V yX9_closeBook RX9 cX9_closeBook 2 none 0 := ⟨ki_X9_closeBook, ks_X9_closeBook, kn_X9, kc_X9_closeBook, by decide +kernel⟩
theorem xm_X9_told : xm_V yX9_told RX9 cX9_told 3 (some .int) 2 := ⟨ki_X9_told, ks_X9_told, kn_X9, kc_X9_told, by decide +kernel⟩
theorem xm_X9_looked : xm_V yX9_looked RX9 cX9_looked 5 (some .int) 1 := ⟨ki_X9_looked, ks_X9_looked, kn_X9, kc_X9_looked, by decide +kernel⟩
theorem xm_X9_would : xm_V yX9_would RX9 cX9_would 3 (some .int) 2 := ⟨ki_X9_would, ks_X9_would, kn_X9, kc_X9_would, by decide +kernel⟩
theorem xm_X9_bitsOfUse : xm_V yX9_bitsOfUse RX9 cX9_bitsOfUse 6 (some .int) 2 := ⟨ki_X9_bitsOfUse, ks_X9_bitsOfUse, kn_X9, kc_X9_bitsOfUse, by decide +kernel⟩
theorem xm_X9_forms : xm_V yX9_forms RX9 cX9_forms 4 (some .int) 0 := ⟨ki_X9_forms, ks_X9_forms, kn_X9, kc_X9_forms, by decide +kernel⟩
theorem xm_X9_best : xm_V yX9_best RX9 cX9_best 7 (some .int) 0 := ⟨ki_X9_best, ks_X9_best, kn_X9, kc_X9_best, by decide +kernel⟩
theorem xm_X9_weigh : xm_V yX9_weigh RX9 cX9_weigh 8 none 1 := ⟨ki_X9_weigh, ks_X9_weigh, kn_X9, kc_X9_weigh, by decide +kernel⟩
theorem xm_X9_bit : xm_V yX9_bit RX9 cX9_bit 2 (some .int) 1 := ⟨ki_X9_bit, ks_X9_bit, kn_X9, kc_X9_bit, by decide +kernel⟩
theorem xm_X9_place : xm_V yX9_place RX9 cX9_place 2 (some .int) 1 := ⟨ki_X9_place, ks_X9_place, kn_X9, kc_X9_place, by decide +kernel⟩
theorem xm_X9_sum : xm_V yX9_sum RX9 cX9_sum 4 (some .long) 0 := ⟨ki_X9_sum, ks_X9_sum, kn_X9, kc_X9_sum, by decide +kernel⟩
theorem xm_X9_bytes : xm_V yX9_bytes RX9 cX9_bytes 1 (some .int) 0 := ⟨ki_X9_bytes, ks_X9_bytes, kn_X9, kc_X9_bytes, by decide +kernel⟩
theorem xm_X9_byteAt : xm_V yX9_byteAt RX9 cX9_byteAt 4 (some .int) 1 := ⟨ki_X9_byteAt, ks_X9_byteAt, kn_X9, kc_X9_byteAt, by decide +kernel⟩
theorem xm_X9_alter : xm_V yX9_alter RX9 cX9_alter 4 (some .int) 2 := ⟨ki_X9_alter, ks_X9_alter, kn_X9, kc_X9_alter, by decide +kernel⟩
theorem xm_X9_judge : xm_V yX9_judge RX9 cX9_judge 3 (some .int) 0 := ⟨ki_X9_judge, ks_X9_judge, kn_X9, kc_X9_judge, by decide +kernel⟩
theorem xm_X9_order : xm_V yX9_order RX9 cX9_order 3 (some .int) 2 := ⟨ki_X9_order, ks_X9_order, kn_X9, kc_X9_order, by decide +kernel⟩
theorem xm_X9_toOrder : xm_V yX9_toOrder RX9 cX9_toOrder 2 none 1 := ⟨ki_X9_toOrder, ks_X9_toOrder, kn_X9, kc_X9_toOrder, by decide +kernel⟩
theorem xm_X9_orderLayers : xm_V yX9_orderLayers RX9 cX9_orderLayers 4 none 0 := ⟨ki_X9_orderLayers, ks_X9_orderLayers, kn_X9, kc_X9_orderLayers, by decide +kernel⟩
theorem xm_X9_orderBy : xm_V yX9_orderBy RX9 cX9_orderBy 7 none 1 := ⟨ki_X9_orderBy, ks_X9_orderBy, kn_X9, kc_X9_orderBy, by decide +kernel⟩
theorem xm_X9_keyOf : xm_V yX9_keyOf RX9 cX9_keyOf 5 (some .int) 1 := ⟨ki_X9_keyOf, ks_X9_keyOf, kn_X9, kc_X9_keyOf, by decide +kernel⟩
theorem xm_X9_renumber : xm_V yX9_renumber RX9 cX9_renumber 5 (some .int) 1 := ⟨ki_X9_renumber, ks_X9_renumber, kn_X9, kc_X9_renumber, by decide +kernel⟩
theorem xm_X9_threes : xm_V yX9_threes RX9 cX9_threes 5 (some .int) 0 := ⟨ki_X9_threes, ks_X9_threes, kn_X9, kc_X9_threes, by decide +kernel⟩
theorem xm_X9_isJoined : xm_V yX9_isJoined RX9 cX9_isJoined 3 (some .boolean) 2 := ⟨ki_X9_isJoined, ks_X9_isJoined, kn_X9, kc_X9_isJoined, by decide +kernel⟩
theorem xm_X9_parts : xm_V yX9_parts RX9 cX9_parts 6 (some .int) 1 := ⟨ki_X9_parts, ks_X9_parts, kn_X9, kc_X9_parts, by decide +kernel⟩
theorem xm_X9_walk : xm_V yX9_walk RX9 cX9_walk 6 (some .int) 2 := ⟨ki_X9_walk, ks_X9_walk, kn_X9, kc_X9_walk, by decide +kernel⟩
theorem xm_X9_far : xm_V yX9_far RX9 cX9_far 4 (some .int) 2 := ⟨ki_X9_far, ks_X9_far, kn_X9, kc_X9_far, by decide +kernel⟩
theorem xm_X9_count : xm_V yX9_count RX9 cX9_count 4 (some .int) 1 := ⟨ki_X9_count, ks_X9_count, kn_X9, kc_X9_count, by decide +kernel⟩
set_option maxRecDepth 100000 in
theorem c_element (κ : xb_k) {ws : va_W} {a len : Nat} {f : Nat → Int32} {i : Int32} (k : Nat) (hk : ws[k]? = some (a, .inl (κ.2.1.2.1, len, .inl f))) (hl : len < 2 ^ 31) : Met κ.1 yX8_element [Cond.code yX8_element cX8_element 2 (some .int)] { frames := 0, cells := 0, slots := 0, locals := 0 } (xb_P κ [.ref a, .int i] ws) (xb_Qi κ (el len f i) ws) 0 0 κ.2.2.1 := by
  refine x_enter (own := RX8) (lv0 := [(0, .ref a), (1, .int i)]) (by decide) rfl rfl rfl (fun Γ C E => ?_)
  unfold el at E
  refine x_iload_n C dX8_element_0 1 rfl ?_
  refine x_if_lt (tgt := 16) C dX8_element_1 (by decide) (fun hc => ?_) (fun hc => ?_)
  · rw [if_pos hc] at E
    refine x_iconst (v := 0) C dX8_element_16 (by decide) ?_
    exact x_iret C E dX8_element_17
  · rw [if_neg hc] at E
    refine x_iload_n C dX8_element_4 1 rfl ?_
    refine x_aload_n C dX8_element_5 0 rfl ?_
    refine x_alen (v := nI len) C k 0 hk rfl rfl dX8_element_6 ?_
    refine x_icmp_ge (tgt := 16) C dX8_element_7 (by decide) (fun hd => ?_) (fun hd => ?_)
    · rw [if_pos hd] at E
      refine x_iconst (v := 0) C dX8_element_16 (by decide) ?_
      exact x_iret C E dX8_element_17
    · rw [if_neg hd] at E
      refine x_aload_n C dX8_element_10 0 rfl ?_
      refine x_iload_n C dX8_element_11 1 rfl ?_
      refine x_iald C k hk (bn_of (el_in hc hd hl)) dX8_element_12 ?_
      refine x_goto (tgt := 17) C dX8_element_13 (by decide) ?_
      exact x_iret C E dX8_element_17
set_option maxRecDepth 100000 in
theorem c_elementL (κ : xb_k) {ws : va_W} {i : Int32} : Met κ.1 yX8_element [Cond.code yX8_element cX8_element 2 (some .int)] { frames := 0, cells := 0, slots := 0, locals := 0 } (xb_P κ [.ref κ.2.2.2.1, .int i] ws) (xb_Qi κ (el 3 xb_gL i) ws) 0 0 κ.2.2.1 := by
  refine x_enter (own := RX8) (lv0 := [(0, .ref κ.2.2.2.1), (1, .int i)]) (by decide) rfl rfl rfl (fun Γ C E => ?_)
  unfold el at E
  refine x_iload_n C dX8_element_0 1 rfl ?_
  refine x_if_lt (tgt := 16) C dX8_element_1 (by decide) (fun hc => ?_) (fun hc => ?_)
  · rw [if_pos hc] at E
    refine x_iconst (v := 0) C dX8_element_16 (by decide) ?_
    exact x_iret C E dX8_element_17
  · rw [if_neg hc] at E
    refine x_iload_n C dX8_element_4 1 rfl ?_
    refine x_aload_n C dX8_element_5 0 rfl ?_
    intro H locs ls hP hD hS hl
    refine va_tlen (v := nI 3) C.1 C.2.1 C.2.2.2.2.1.2.2.2.1 hS rfl dX8_element_6 ?_
    revert H locs ls hP hD hS hl
    refine x_icmp_ge (κ := κ) (Γ := Γ) (ws := ws) (tgt := 16) C dX8_element_7 (by decide) (fun hd => ?_) (fun hd => ?_)
    · rw [if_pos hd] at E
      refine x_iconst (v := 0) C dX8_element_16 (by decide) ?_
      exact x_iret C E dX8_element_17
    · rw [if_neg hd] at E
      refine x_aload_n C dX8_element_10 0 rfl ?_
      refine x_iload_n C dX8_element_11 1 rfl ?_
      intro H locs ls hP hD hS hl
      refine va_ti (v := .int (xb_gL i.toNatClampNeg)) C.1 C.2.1 C.2.2.2.2.1.2.2.2.1 hS (el_in hc hd (by decide)) rfl dX8_element_12 ?_
      revert H locs ls hP hD hS hl
      refine x_goto (κ := κ) (Γ := Γ) (ws := ws) (tgt := 17) C dX8_element_13 (by decide) ?_
      exact x_iret C E dX8_element_17
set_option maxRecDepth 100000 in
theorem c_elementM (κ : xb_k) {ws : va_W} {i : Int32} : Met κ.1 yX8_element [Cond.code yX8_element cX8_element 2 (some .int)] { frames := 0, cells := 0, slots := 0, locals := 0 } (xb_P κ [.ref κ.2.2.2.2, .int i] ws) (xb_Qi κ (el 3 xb_gM i) ws) 0 0 κ.2.2.1 := by
  refine x_enter (own := RX8) (lv0 := [(0, .ref κ.2.2.2.2), (1, .int i)]) (by decide) rfl rfl rfl (fun Γ C E => ?_)
  unfold el at E
  refine x_iload_n C dX8_element_0 1 rfl ?_
  refine x_if_lt (tgt := 16) C dX8_element_1 (by decide) (fun hc => ?_) (fun hc => ?_)
  · rw [if_pos hc] at E
    refine x_iconst (v := 0) C dX8_element_16 (by decide) ?_
    exact x_iret C E dX8_element_17
  · rw [if_neg hc] at E
    refine x_iload_n C dX8_element_4 1 rfl ?_
    refine x_aload_n C dX8_element_5 0 rfl ?_
    intro H locs ls hP hD hS hl
    refine va_tlen (v := nI 3) C.1 C.2.1 C.2.2.2.2.1.2.2.2.2.2 hS rfl dX8_element_6 ?_
    revert H locs ls hP hD hS hl
    refine x_icmp_ge (κ := κ) (Γ := Γ) (ws := ws) (tgt := 16) C dX8_element_7 (by decide) (fun hd => ?_) (fun hd => ?_)
    · rw [if_pos hd] at E
      refine x_iconst (v := 0) C dX8_element_16 (by decide) ?_
      exact x_iret C E dX8_element_17
    · rw [if_neg hd] at E
      refine x_aload_n C dX8_element_10 0 rfl ?_
      refine x_iload_n C dX8_element_11 1 rfl ?_
      intro H locs ls hP hD hS hl
      refine va_ti (v := .int (xb_gM i.toNatClampNeg)) C.1 C.2.1 C.2.2.2.2.1.2.2.2.2.2 hS (el_in hc hd (by decide)) rfl dX8_element_12 ?_
      revert H locs ls hP hD hS hl
      refine x_goto (κ := κ) (Γ := Γ) (ws := ws) (tgt := 17) C dX8_element_13 (by decide) ?_
      exact x_iret C E dX8_element_17
theorem fl_step {f : Nat → Int32} {v : Int32} {j len : Nat} (hj : j < len) (hl : len < 2 ^ 31) : upd (fl j f v) (nI j).toNatClampNeg v = fl (j + 1) f v := by
  rw [nI_clamp (by omega)]
  funext k
  unfold upd fl
  by_cases h : k = j
  · subst h; simp
  · rw [if_neg h]
    by_cases h2 : k < j
    · rw [if_pos h2, if_pos (by omega)]
    · rw [if_neg h2, if_neg (by omega)]
theorem fl_zero {f : Nat → Int32} {v : Int32} : fl 0 f v = f := by
  funext k
  unfold fl
  rw [if_neg (by omega)]
theorem ws_same {ws : va_W} {k : Nat} {x : Nat × va_E} (h : ws[k]? = some x) : ws.set k x = ws := by
  apply List.ext_getElem?
  intro i
  rw [List.getElem?_set]
  by_cases hi : k = i
  · subst hi
    rw [if_pos rfl, if_pos (List.getElem?_eq_some_iff.mp h).1, h]
  · rw [if_neg hi]
set_option maxRecDepth 100000 in
theorem w_fill {κ : xb_k} {Γ : xb_X} {rm : Room} {ws : va_W} {a len k : Nat} {f : Nat → Int32} {v : Int32} (C : xb_C κ Γ 4 cJ7_fill_53178 RJ7 rm) (hk : ws[k]? = some (a, .inl (κ.2.1.2.1, len, .inl f))) (hlen : len < 2 ^ 31) (K : xb_W κ Γ 4 0 0 20 [] [] (ws.set k (a, .inl (κ.2.1.2.1, len, .inl (fl len f v))))) : ∀ (n j : Nat), j ≤ len → len ≤ j + n → xb_W κ Γ 4 0 0 5 [(0, .ref a), (1, .int v), (2, .int (nI j)), (3, .int (nI len))] [] (ws.set k (a, .inl (κ.2.1.2.1, len, .inl (fl j f v)))) := by
  have hkl : k < ws.length := (List.getElem?_eq_some_iff.mp hk).1
  have hget : ∀ x : Nat × va_E, (ws.set k x)[k]? = some x := fun x => by rw [List.getElem?_set_self hkl]
  intro n
  induction n with
  | zero =>
    intro j h1 h2
    have e : j = len := by omega
    subst e
    refine x_iload_n C dJ7_fill_53178_5 2 rfl ?_
    refine x_iload_n C dJ7_fill_53178_6 3 rfl ?_
    refine x_icmp_ge (tgt := 20) C dJ7_fill_53178_7 (by decide) (fun hc => ?_) (fun hc => ?_)
    · exact x_sub [] rfl K
    · exact absurd (nI_le (Nat.le_refl _) hlen) hc
  | succ n ih =>
    intro j h1 h2
    refine x_iload_n C dJ7_fill_53178_5 2 rfl ?_
    refine x_iload_n C dJ7_fill_53178_6 3 rfl ?_
    refine x_icmp_ge (tgt := 20) C dJ7_fill_53178_7 (by decide) (fun hc => ?_) (fun hc => ?_)
    · have e : j = len := by
        rcases Nat.lt_or_ge j len with h | h
        · exact absurd hc (nI_ge h hlen)
        · omega
      subst e
      exact x_sub [] rfl K
    · have hj : j < len := by
        rcases Nat.lt_or_ge j len with h | h
        · exact h
        · exact absurd (nI_le h (by omega)) hc
      refine x_aload_n C dJ7_fill_53178_10 0 rfl ?_
      refine x_iload_n C dJ7_fill_53178_11 2 rfl ?_
      refine x_iload_n C dJ7_fill_53178_12 1 rfl ?_
      refine x_iast (ws2 := ws.set k (a, .inl (κ.2.1.2.1, len, .inl (fl (j + 1) f v)))) C k (hget _) (bn_of (vp_in_nI hj hlen)) dJ7_fill_53178_13 (by rw [fl_step hj hlen, List.set_set]) ?_
      refine x_iinc (v := nI (j + 1)) (lv2 := [(2, .int (nI (j + 1))), (0, .ref a), (1, .int v), (3, .int (nI len))]) C dJ7_fill_53178_14 2 rfl (nI_1 j) (by decide) rfl ?_
      refine x_goto (tgt := 5) C dJ7_fill_53178_17 (by decide) ?_
      exact x_sub [1, 2, 0, 3] rfl (ih (j + 1) (by omega) (by omega))
set_option maxRecDepth 100000 in
theorem c_fill (κ : xb_k) {ws ws2 : va_W} {a len : Nat} {f : Nat → Int32} {v : Int32} (k : Nat) (hk : ws[k]? = some (a, .inl (κ.2.1.2.1, len, .inl f))) (hlen : len < 2 ^ 31) (h2 : ws.set k (a, .inl (κ.2.1.2.1, len, .inl (fl len f v))) = ws2) : Met κ.1 yJ7_fill_53178 [Cond.code yJ7_fill_53178 cJ7_fill_53178 4 none] { frames := 0, cells := 0, slots := 0, locals := 0 } (xb_P κ [.ref a, .int v] ws) (xb_Qv κ ws2) 0 0 κ.2.2.1 := by
  refine x_enter (own := RJ7) (lv0 := [(0, .ref a), (1, .int v)]) (by decide) rfl rfl rfl (fun Γ C E => ?_)
  refine x_iconst (v := 0) C dJ7_fill_53178_0 (by decide) ?_
  refine x_istore_n (lv2 := [(2, .int 0), (0, .ref a), (1, .int v)]) C dJ7_fill_53178_1 rfl (by decide) rfl ?_
  refine x_aload_n C dJ7_fill_53178_2 1 rfl ?_
  refine x_alen (v := nI len) C k 0 hk rfl rfl dJ7_fill_53178_3 ?_
  refine x_istore_n (lv2 := [(3, .int (nI len)), (2, .int 0), (0, .ref a), (1, .int v)]) C dJ7_fill_53178_4 rfl (by decide) rfl ?_
  refine x_eq (ws2 := ws.set k (a, .inl (κ.2.1.2.1, len, .inl (fl 0 f v)))) (by rw [fl_zero, ws_same hk]) ?_
  subst h2
  exact x_sub [2, 3, 1, 0] rfl (w_fill C hk hlen (x_vret C E dJ7_fill_53178_20) len 0 (Nat.zero_le _) (by omega))
end
