section
def lw_okq (q : MethodName × Nat) : Prop := (q.1.cls ≠ "java/lang/invoke/MethodHandle" ∧ q.1.cls ≠ "java/lang/invoke/VarHandle") ∧ Cond.instantiable q.1.cls q.2 ∈ tables_1 ∧ Cond.privateMethod q.1 ∈ tables_1 ∧ Cond.instanceMethod q.1 ∈ tables_1
theorem lw_p0 : lw_okq (⟨"java/lang/Throwable", "fillInStackTrace", "(I)Ljava/lang/Throwable;"⟩, 6) := ⟨⟨by decide +kernel, by decide +kernel⟩, List.mem_of_getElem? (i := 457) (by decide +kernel), List.mem_of_getElem? (i := 455) (by decide +kernel), List.mem_of_getElem? (i := 456) (by decide +kernel)⟩
theorem lw_p1 : lw_okq (⟨"BagPlanner", "tableWithColumn", "(II)LBagPlanner$Table;"⟩, 13) := ⟨⟨by decide +kernel, by decide +kernel⟩, List.mem_of_getElem? (i := 29) (by decide +kernel), List.mem_of_getElem? (i := 514) (by decide +kernel), List.mem_of_getElem? (i := 515) (by decide +kernel)⟩
theorem lw_p2 : lw_okq (⟨"BagPlanner$Table", "isTaken", "(II)Z"⟩, 4) := ⟨⟨by decide +kernel, by decide +kernel⟩, List.mem_of_getElem? (i := 44) (by decide +kernel), List.mem_of_getElem? (i := 549) (by decide +kernel), List.mem_of_getElem? (i := 550) (by decide +kernel)⟩
theorem lw_p3 : lw_okq (⟨"BagPlanner$Tokens", "addToken", "(LBagPlanner$Text;I)I"⟩, 5) := ⟨⟨by decide +kernel, by decide +kernel⟩, List.mem_of_getElem? (i := 105) (by decide +kernel), List.mem_of_getElem? (i := 587) (by decide +kernel), List.mem_of_getElem? (i := 588) (by decide +kernel)⟩
theorem lw_p4 : lw_okq (⟨"BagPlanner$Tokens", "put", "(III)V"⟩, 5) := ⟨⟨by decide +kernel, by decide +kernel⟩, List.mem_of_getElem? (i := 105) (by decide +kernel), List.mem_of_getElem? (i := 655) (by decide +kernel), List.mem_of_getElem? (i := 656) (by decide +kernel)⟩
theorem lw_p5 : lw_okq (⟨"BagPlanner$Reader", "readBlock", "(LBagPlanner$Block;LBagPlanner$Catalog;)Z"⟩, 1) := ⟨⟨by decide +kernel, by decide +kernel⟩, List.mem_of_getElem? (i := 99) (by decide +kernel), List.mem_of_getElem? (i := 727) (by decide +kernel), List.mem_of_getElem? (i := 728) (by decide +kernel)⟩
theorem lw_p6 : lw_okq (⟨"BagPlanner$Reader", "readOutputs", "(LBagPlanner$Block;)Z"⟩, 1) := ⟨⟨by decide +kernel, by decide +kernel⟩, List.mem_of_getElem? (i := 99) (by decide +kernel), List.mem_of_getElem? (i := 739) (by decide +kernel), List.mem_of_getElem? (i := 740) (by decide +kernel)⟩
theorem lw_p7 : lw_okq (⟨"BagPlanner$Reader", "readValue", "(LBagPlanner$Block;I)Z"⟩, 1) := ⟨⟨by decide +kernel, by decide +kernel⟩, List.mem_of_getElem? (i := 99) (by decide +kernel), List.mem_of_getElem? (i := 743) (by decide +kernel), List.mem_of_getElem? (i := 744) (by decide +kernel)⟩
theorem lw_p8 : lw_okq (⟨"BagPlanner$Reader", "readSources", "(LBagPlanner$Block;LBagPlanner$Catalog;)Z"⟩, 1) := ⟨⟨by decide +kernel, by decide +kernel⟩, List.mem_of_getElem? (i := 99) (by decide +kernel), List.mem_of_getElem? (i := 759) (by decide +kernel), List.mem_of_getElem? (i := 760) (by decide +kernel)⟩
theorem lw_p9 : lw_okq (⟨"BagPlanner$Reader", "readConditions", "(LBagPlanner$Block;)Z"⟩, 1) := ⟨⟨by decide +kernel, by decide +kernel⟩, List.mem_of_getElem? (i := 99) (by decide +kernel), List.mem_of_getElem? (i := 776) (by decide +kernel), List.mem_of_getElem? (i := 777) (by decide +kernel)⟩
theorem lw_p10 : lw_okq (⟨"BagPlanner$Reader", "isBehindBlock", "()Z"⟩, 1) := ⟨⟨by decide +kernel, by decide +kernel⟩, List.mem_of_getElem? (i := 99) (by decide +kernel), List.mem_of_getElem? (i := 787) (by decide +kernel), List.mem_of_getElem? (i := 788) (by decide +kernel)⟩
theorem lw_p11 : lw_okq (⟨"BagPlanner", "questionAt", "(I)LBagPlanner$Question;"⟩, 13) := ⟨⟨by decide +kernel, by decide +kernel⟩, List.mem_of_getElem? (i := 29) (by decide +kernel), List.mem_of_getElem? (i := 815) (by decide +kernel), List.mem_of_getElem? (i := 816) (by decide +kernel)⟩
theorem lw_p12 : lw_okq (⟨"BagPlanner", "answerInto", "(LBagPlanner$Question;)Z"⟩, 13) := ⟨⟨by decide +kernel, by decide +kernel⟩, List.mem_of_getElem? (i := 29) (by decide +kernel), List.mem_of_getElem? (i := 820) (by decide +kernel), List.mem_of_getElem? (i := 821) (by decide +kernel)⟩
theorem lw_p13 : lw_okq (⟨"BagPlanner$Plan", "markUsed", "(LBagPlanner$Block;)V"⟩, 4) := ⟨⟨by decide +kernel, by decide +kernel⟩, List.mem_of_getElem? (i := 211) (by decide +kernel), List.mem_of_getElem? (i := 832) (by decide +kernel), List.mem_of_getElem? (i := 833) (by decide +kernel)⟩
theorem lw_p14 : lw_okq (⟨"BagPlanner$Plan", "findLastSources", "(LBagPlanner$Block;)V"⟩, 4) := ⟨⟨by decide +kernel, by decide +kernel⟩, List.mem_of_getElem? (i := 211) (by decide +kernel), List.mem_of_getElem? (i := 837) (by decide +kernel), List.mem_of_getElem? (i := 838) (by decide +kernel)⟩
theorem lw_p15 : lw_okq (⟨"BagPlanner$Plan", "holdsAt", "(ILBagPlanner$Block;LBagPlanner$Catalog;)Z"⟩, 4) := ⟨⟨by decide +kernel, by decide +kernel⟩, List.mem_of_getElem? (i := 211) (by decide +kernel), List.mem_of_getElem? (i := 844) (by decide +kernel), List.mem_of_getElem? (i := 845) (by decide +kernel)⟩
def lw_privs_1 : List (MethodName × Nat) := [(⟨"java/lang/Throwable", "fillInStackTrace", "(I)Ljava/lang/Throwable;"⟩, 6), (⟨"BagPlanner", "tableWithColumn", "(II)LBagPlanner$Table;"⟩, 13), (⟨"BagPlanner$Table", "isTaken", "(II)Z"⟩, 4), (⟨"BagPlanner$Tokens", "addToken", "(LBagPlanner$Text;I)I"⟩, 5), (⟨"BagPlanner$Tokens", "put", "(III)V"⟩, 5), (⟨"BagPlanner$Reader", "readBlock", "(LBagPlanner$Block;LBagPlanner$Catalog;)Z"⟩, 1), (⟨"BagPlanner$Reader", "readOutputs", "(LBagPlanner$Block;)Z"⟩, 1), (⟨"BagPlanner$Reader", "readValue", "(LBagPlanner$Block;I)Z"⟩, 1), (⟨"BagPlanner$Reader", "readSources", "(LBagPlanner$Block;LBagPlanner$Catalog;)Z"⟩, 1), (⟨"BagPlanner$Reader", "readConditions", "(LBagPlanner$Block;)Z"⟩, 1), (⟨"BagPlanner$Reader", "isBehindBlock", "()Z"⟩, 1), (⟨"BagPlanner", "questionAt", "(I)LBagPlanner$Question;"⟩, 13), (⟨"BagPlanner", "answerInto", "(LBagPlanner$Question;)Z"⟩, 13), (⟨"BagPlanner$Plan", "markUsed", "(LBagPlanner$Block;)V"⟩, 4), (⟨"BagPlanner$Plan", "findLastSources", "(LBagPlanner$Block;)V"⟩, 4), (⟨"BagPlanner$Plan", "holdsAt", "(ILBagPlanner$Block;LBagPlanner$Catalog;)Z"⟩, 4)]
theorem lw_r1 : ∀ q ∈ lw_privs_1, lw_okq q := List.forall_mem_cons.mpr ⟨lw_p0, List.forall_mem_cons.mpr ⟨lw_p1, List.forall_mem_cons.mpr ⟨lw_p2, List.forall_mem_cons.mpr ⟨lw_p3, List.forall_mem_cons.mpr ⟨lw_p4, List.forall_mem_cons.mpr ⟨lw_p5, List.forall_mem_cons.mpr ⟨lw_p6, List.forall_mem_cons.mpr ⟨lw_p7, List.forall_mem_cons.mpr ⟨lw_p8, List.forall_mem_cons.mpr ⟨lw_p9, List.forall_mem_cons.mpr ⟨lw_p10, List.forall_mem_cons.mpr ⟨lw_p11, List.forall_mem_cons.mpr ⟨lw_p12, List.forall_mem_cons.mpr ⟨lw_p13, List.forall_mem_cons.mpr ⟨lw_p14, List.forall_mem_cons.mpr ⟨lw_p15, fun _ h => absurd h List.not_mem_nil⟩⟩⟩⟩⟩⟩⟩⟩⟩⟩⟩⟩⟩⟩⟩⟩
theorem lw_p16 : lw_okq (⟨"BagPlanner$Plan", "valueOf", "(ILBagPlanner$Block;LBagPlanner$Catalog;)I"⟩, 4) := ⟨⟨by decide +kernel, by decide +kernel⟩, List.mem_of_getElem? (i := 211) (by decide +kernel), List.mem_of_getElem? (i := 848) (by decide +kernel), List.mem_of_getElem? (i := 849) (by decide +kernel)⟩
theorem lw_p17 : lw_okq (⟨"BagPlanner$Plan", "choose", "(IILBagPlanner$Bag;LBagPlanner$Block;LBagPlanner$Catalog;)Z"⟩, 4) := ⟨⟨by decide +kernel, by decide +kernel⟩, List.mem_of_getElem? (i := 211) (by decide +kernel), List.mem_of_getElem? (i := 853) (by decide +kernel), List.mem_of_getElem? (i := 854) (by decide +kernel)⟩
theorem lw_p18 : lw_okq (⟨"BagPlanner$Plan", "setOutput", "(LBagPlanner$Block;LBagPlanner$Catalog;)V"⟩, 4) := ⟨⟨by decide +kernel, by decide +kernel⟩, List.mem_of_getElem? (i := 211) (by decide +kernel), List.mem_of_getElem? (i := 857) (by decide +kernel), List.mem_of_getElem? (i := 858) (by decide +kernel)⟩
theorem lw_p19 : lw_okq (⟨"BagPlanner$Bag", "firstNotBefore", "([II)I"⟩, 4) := ⟨⟨by decide +kernel, by decide +kernel⟩, List.mem_of_getElem? (i := 230) (by decide +kernel), List.mem_of_getElem? (i := 865) (by decide +kernel), List.mem_of_getElem? (i := 866) (by decide +kernel)⟩
theorem lw_p20 : lw_okq (⟨"BagPlanner$Bag", "compare", "(I[II)I"⟩, 4) := ⟨⟨by decide +kernel, by decide +kernel⟩, List.mem_of_getElem? (i := 230) (by decide +kernel), List.mem_of_getElem? (i := 869) (by decide +kernel), List.mem_of_getElem? (i := 870) (by decide +kernel)⟩
theorem lw_p21 : lw_okq (⟨"BagPlanner$Bag", "addAll", "(LBagPlanner$Bag;)Z"⟩, 4) := ⟨⟨by decide +kernel, by decide +kernel⟩, List.mem_of_getElem? (i := 230) (by decide +kernel), List.mem_of_getElem? (i := 882) (by decide +kernel), List.mem_of_getElem? (i := 883) (by decide +kernel)⟩
theorem lw_p22 : lw_okq (⟨"BagPlanner$Bag", "countOf", "([II)I"⟩, 4) := ⟨⟨by decide +kernel, by decide +kernel⟩, List.mem_of_getElem? (i := 230) (by decide +kernel), List.mem_of_getElem? (i := 887) (by decide +kernel), List.mem_of_getElem? (i := 888) (by decide +kernel)⟩
theorem lw_p23 : lw_okq (⟨"BagPlanner$NormalForm", "collectNumbers", "(LBagPlanner$Block;)V"⟩, 15) := ⟨⟨by decide +kernel, by decide +kernel⟩, List.mem_of_getElem? (i := 253) (by decide +kernel), List.mem_of_getElem? (i := 959) (by decide +kernel), List.mem_of_getElem? (i := 960) (by decide +kernel)⟩
theorem lw_p24 : lw_okq (⟨"BagPlanner$NormalForm", "indexOf", "(I)I"⟩, 15) := ⟨⟨by decide +kernel, by decide +kernel⟩, List.mem_of_getElem? (i := 253) (by decide +kernel), List.mem_of_getElem? (i := 964) (by decide +kernel), List.mem_of_getElem? (i := 965) (by decide +kernel)⟩
theorem lw_p25 : lw_okq (⟨"BagPlanner$NormalForm", "joinEqualSides", "(LBagPlanner$Block;)V"⟩, 15) := ⟨⟨by decide +kernel, by decide +kernel⟩, List.mem_of_getElem? (i := 253) (by decide +kernel), List.mem_of_getElem? (i := 968) (by decide +kernel), List.mem_of_getElem? (i := 969) (by decide +kernel)⟩
theorem lw_p26 : lw_okq (⟨"BagPlanner$NormalForm", "classOfSlot", "(LBagPlanner$Block;I)I"⟩, 15) := ⟨⟨by decide +kernel, by decide +kernel⟩, List.mem_of_getElem? (i := 253) (by decide +kernel), List.mem_of_getElem? (i := 973) (by decide +kernel), List.mem_of_getElem? (i := 974) (by decide +kernel)⟩
theorem lw_p27 : lw_okq (⟨"BagPlanner$NormalForm", "merge", "(II)Z"⟩, 15) := ⟨⟨by decide +kernel, by decide +kernel⟩, List.mem_of_getElem? (i := 253) (by decide +kernel), List.mem_of_getElem? (i := 978) (by decide +kernel), List.mem_of_getElem? (i := 979) (by decide +kernel)⟩
theorem lw_p28 : lw_okq (⟨"BagPlanner$NormalForm", "joinOnes", "(LBagPlanner$Block;LBagPlanner$Catalog;)V"⟩, 15) := ⟨⟨by decide +kernel, by decide +kernel⟩, List.mem_of_getElem? (i := 253) (by decide +kernel), List.mem_of_getElem? (i := 982) (by decide +kernel), List.mem_of_getElem? (i := 983) (by decide +kernel)⟩
theorem lw_p29 : lw_okq (⟨"BagPlanner$NormalForm", "areOne", "(IILBagPlanner$Block;LBagPlanner$Catalog;)Z"⟩, 15) := ⟨⟨by decide +kernel, by decide +kernel⟩, List.mem_of_getElem? (i := 253) (by decide +kernel), List.mem_of_getElem? (i := 986) (by decide +kernel), List.mem_of_getElem? (i := 987) (by decide +kernel)⟩
theorem lw_p30 : lw_okq (⟨"BagPlanner$NormalForm", "mergeColumns", "(II)Z"⟩, 15) := ⟨⟨by decide +kernel, by decide +kernel⟩, List.mem_of_getElem? (i := 253) (by decide +kernel), List.mem_of_getElem? (i := 990) (by decide +kernel), List.mem_of_getElem? (i := 991) (by decide +kernel)⟩
theorem lw_p31 : lw_okq (⟨"BagPlanner$NormalForm", "numberClasses", "()V"⟩, 15) := ⟨⟨by decide +kernel, by decide +kernel⟩, List.mem_of_getElem? (i := 253) (by decide +kernel), List.mem_of_getElem? (i := 994) (by decide +kernel), List.mem_of_getElem? (i := 995) (by decide +kernel)⟩
def lw_privs_2 : List (MethodName × Nat) := [(⟨"BagPlanner$Plan", "valueOf", "(ILBagPlanner$Block;LBagPlanner$Catalog;)I"⟩, 4), (⟨"BagPlanner$Plan", "choose", "(IILBagPlanner$Bag;LBagPlanner$Block;LBagPlanner$Catalog;)Z"⟩, 4), (⟨"BagPlanner$Plan", "setOutput", "(LBagPlanner$Block;LBagPlanner$Catalog;)V"⟩, 4), (⟨"BagPlanner$Bag", "firstNotBefore", "([II)I"⟩, 4), (⟨"BagPlanner$Bag", "compare", "(I[II)I"⟩, 4), (⟨"BagPlanner$Bag", "addAll", "(LBagPlanner$Bag;)Z"⟩, 4), (⟨"BagPlanner$Bag", "countOf", "([II)I"⟩, 4), (⟨"BagPlanner$NormalForm", "collectNumbers", "(LBagPlanner$Block;)V"⟩, 15), (⟨"BagPlanner$NormalForm", "indexOf", "(I)I"⟩, 15), (⟨"BagPlanner$NormalForm", "joinEqualSides", "(LBagPlanner$Block;)V"⟩, 15), (⟨"BagPlanner$NormalForm", "classOfSlot", "(LBagPlanner$Block;I)I"⟩, 15), (⟨"BagPlanner$NormalForm", "merge", "(II)Z"⟩, 15), (⟨"BagPlanner$NormalForm", "joinOnes", "(LBagPlanner$Block;LBagPlanner$Catalog;)V"⟩, 15), (⟨"BagPlanner$NormalForm", "areOne", "(IILBagPlanner$Block;LBagPlanner$Catalog;)Z"⟩, 15), (⟨"BagPlanner$NormalForm", "mergeColumns", "(II)Z"⟩, 15), (⟨"BagPlanner$NormalForm", "numberClasses", "()V"⟩, 15)]
theorem lw_r2 : ∀ q ∈ lw_privs_2, lw_okq q := List.forall_mem_cons.mpr ⟨lw_p16, List.forall_mem_cons.mpr ⟨lw_p17, List.forall_mem_cons.mpr ⟨lw_p18, List.forall_mem_cons.mpr ⟨lw_p19, List.forall_mem_cons.mpr ⟨lw_p20, List.forall_mem_cons.mpr ⟨lw_p21, List.forall_mem_cons.mpr ⟨lw_p22, List.forall_mem_cons.mpr ⟨lw_p23, List.forall_mem_cons.mpr ⟨lw_p24, List.forall_mem_cons.mpr ⟨lw_p25, List.forall_mem_cons.mpr ⟨lw_p26, List.forall_mem_cons.mpr ⟨lw_p27, List.forall_mem_cons.mpr ⟨lw_p28, List.forall_mem_cons.mpr ⟨lw_p29, List.forall_mem_cons.mpr ⟨lw_p30, List.forall_mem_cons.mpr ⟨lw_p31, fun _ h => absurd h List.not_mem_nil⟩⟩⟩⟩⟩⟩⟩⟩⟩⟩⟩⟩⟩⟩⟩⟩
theorem lw_p32 : lw_okq (⟨"BagPlanner$NormalForm", "findLess", "(LBagPlanner$Block;)V"⟩, 15) := ⟨⟨by decide +kernel, by decide +kernel⟩, List.mem_of_getElem? (i := 253) (by decide +kernel), List.mem_of_getElem? (i := 998) (by decide +kernel), List.mem_of_getElem? (i := 999) (by decide +kernel)⟩
theorem lw_p33 : lw_okq (⟨"BagPlanner$NormalForm", "addLess", "(II)V"⟩, 15) := ⟨⟨by decide +kernel, by decide +kernel⟩, List.mem_of_getElem? (i := 253) (by decide +kernel), List.mem_of_getElem? (i := 1002) (by decide +kernel), List.mem_of_getElem? (i := 1003) (by decide +kernel)⟩
theorem lw_p34 : lw_okq (⟨"BagPlanner$NormalForm", "findOutputs", "(LBagPlanner$Block;)V"⟩, 15) := ⟨⟨by decide +kernel, by decide +kernel⟩, List.mem_of_getElem? (i := 253) (by decide +kernel), List.mem_of_getElem? (i := 1006) (by decide +kernel), List.mem_of_getElem? (i := 1007) (by decide +kernel)⟩
theorem lw_p35 : lw_okq (⟨"BagPlanner$NormalForm", "findLeft", "(LBagPlanner$Block;LBagPlanner$Catalog;)V"⟩, 15) := ⟨⟨by decide +kernel, by decide +kernel⟩, List.mem_of_getElem? (i := 253) (by decide +kernel), List.mem_of_getElem? (i := 1010) (by decide +kernel), List.mem_of_getElem? (i := 1011) (by decide +kernel)⟩
theorem lw_p36 : lw_okq (⟨"BagPlanner$NormalForm", "isOneWithLeft", "(ILBagPlanner$Block;LBagPlanner$Catalog;)Z"⟩, 15) := ⟨⟨by decide +kernel, by decide +kernel⟩, List.mem_of_getElem? (i := 253) (by decide +kernel), List.mem_of_getElem? (i := 1014) (by decide +kernel), List.mem_of_getElem? (i := 1015) (by decide +kernel)⟩
theorem lw_p37 : lw_okq (⟨"BagPlanner$Pairing", "pairFrom", "(ILBagPlanner$NormalForm;LBagPlanner$NormalForm;)Z"⟩, 2) := ⟨⟨by decide +kernel, by decide +kernel⟩, List.mem_of_getElem? (i := 318) (by decide +kernel), List.mem_of_getElem? (i := 1022) (by decide +kernel), List.mem_of_getElem? (i := 1023) (by decide +kernel)⟩
theorem lw_p38 : lw_okq (⟨"BagPlanner$Pairing", "columnsFit", "(LBagPlanner$NormalForm;LBagPlanner$NormalForm;)Z"⟩, 2) := ⟨⟨by decide +kernel, by decide +kernel⟩, List.mem_of_getElem? (i := 318) (by decide +kernel), List.mem_of_getElem? (i := 1026) (by decide +kernel), List.mem_of_getElem? (i := 1027) (by decide +kernel)⟩
theorem lw_p39 : lw_okq (⟨"BagPlanner$Pairing", "columnFits", "(IILBagPlanner$NormalForm;LBagPlanner$NormalForm;)Z"⟩, 2) := ⟨⟨by decide +kernel, by decide +kernel⟩, List.mem_of_getElem? (i := 318) (by decide +kernel), List.mem_of_getElem? (i := 1030) (by decide +kernel), List.mem_of_getElem? (i := 1031) (by decide +kernel)⟩
theorem lw_p40 : lw_okq (⟨"BagPlanner$Pairing", "outputsFit", "(LBagPlanner$NormalForm;LBagPlanner$NormalForm;)Z"⟩, 2) := ⟨⟨by decide +kernel, by decide +kernel⟩, List.mem_of_getElem? (i := 318) (by decide +kernel), List.mem_of_getElem? (i := 1038) (by decide +kernel), List.mem_of_getElem? (i := 1039) (by decide +kernel)⟩
theorem lw_p41 : lw_okq (⟨"BagPlanner$Pairing", "arePaired", "(IILBagPlanner$NormalForm;LBagPlanner$NormalForm;)Z"⟩, 2) := ⟨⟨by decide +kernel, by decide +kernel⟩, List.mem_of_getElem? (i := 318) (by decide +kernel), List.mem_of_getElem? (i := 1042) (by decide +kernel), List.mem_of_getElem? (i := 1043) (by decide +kernel)⟩
theorem lw_p42 : lw_okq (⟨"BagPlanner$Pairing", "lessFits", "(LBagPlanner$NormalForm;LBagPlanner$NormalForm;)Z"⟩, 2) := ⟨⟨by decide +kernel, by decide +kernel⟩, List.mem_of_getElem? (i := 318) (by decide +kernel), List.mem_of_getElem? (i := 1046) (by decide +kernel), List.mem_of_getElem? (i := 1047) (by decide +kernel)⟩
theorem lw_p43 : lw_okq (⟨"BagPlanner$Pairing", "isSameLess", "(IILBagPlanner$NormalForm;LBagPlanner$NormalForm;)Z"⟩, 2) := ⟨⟨by decide +kernel, by decide +kernel⟩, List.mem_of_getElem? (i := 318) (by decide +kernel), List.mem_of_getElem? (i := 1050) (by decide +kernel), List.mem_of_getElem? (i := 1051) (by decide +kernel)⟩
theorem lw_p44 : lw_okq (⟨"BagPlannerModel", "isColumn", "(II)Z"⟩, 44) := ⟨⟨by decide +kernel, by decide +kernel⟩, List.mem_of_getElem? (i := 1061) (by decide +kernel), List.mem_of_getElem? (i := 1211) (by decide +kernel), List.mem_of_getElem? (i := 1212) (by decide +kernel)⟩
theorem lw_p45 : lw_okq (⟨"BagPlannerModel", "having", "(III)I"⟩, 44) := ⟨⟨by decide +kernel, by decide +kernel⟩, List.mem_of_getElem? (i := 1061) (by decide +kernel), List.mem_of_getElem? (i := 1215) (by decide +kernel), List.mem_of_getElem? (i := 1216) (by decide +kernel)⟩
theorem lw_p46 : lw_okq (⟨"BagPlannerModel", "readText", "()I"⟩, 44) := ⟨⟨by decide +kernel, by decide +kernel⟩, List.mem_of_getElem? (i := 1061) (by decide +kernel), List.mem_of_getElem? (i := 1240) (by decide +kernel), List.mem_of_getElem? (i := 1241) (by decide +kernel)⟩
theorem lw_p47 : lw_okq (⟨"BagPlannerModel", "next", "()V"⟩, 44) := ⟨⟨by decide +kernel, by decide +kernel⟩, List.mem_of_getElem? (i := 1061) (by decide +kernel), List.mem_of_getElem? (i := 1244) (by decide +kernel), List.mem_of_getElem? (i := 1245) (by decide +kernel)⟩
def lw_privs_3 : List (MethodName × Nat) := [(⟨"BagPlanner$NormalForm", "findLess", "(LBagPlanner$Block;)V"⟩, 15), (⟨"BagPlanner$NormalForm", "addLess", "(II)V"⟩, 15), (⟨"BagPlanner$NormalForm", "findOutputs", "(LBagPlanner$Block;)V"⟩, 15), (⟨"BagPlanner$NormalForm", "findLeft", "(LBagPlanner$Block;LBagPlanner$Catalog;)V"⟩, 15), (⟨"BagPlanner$NormalForm", "isOneWithLeft", "(ILBagPlanner$Block;LBagPlanner$Catalog;)Z"⟩, 15), (⟨"BagPlanner$Pairing", "pairFrom", "(ILBagPlanner$NormalForm;LBagPlanner$NormalForm;)Z"⟩, 2), (⟨"BagPlanner$Pairing", "columnsFit", "(LBagPlanner$NormalForm;LBagPlanner$NormalForm;)Z"⟩, 2), (⟨"BagPlanner$Pairing", "columnFits", "(IILBagPlanner$NormalForm;LBagPlanner$NormalForm;)Z"⟩, 2), (⟨"BagPlanner$Pairing", "outputsFit", "(LBagPlanner$NormalForm;LBagPlanner$NormalForm;)Z"⟩, 2), (⟨"BagPlanner$Pairing", "arePaired", "(IILBagPlanner$NormalForm;LBagPlanner$NormalForm;)Z"⟩, 2), (⟨"BagPlanner$Pairing", "lessFits", "(LBagPlanner$NormalForm;LBagPlanner$NormalForm;)Z"⟩, 2), (⟨"BagPlanner$Pairing", "isSameLess", "(IILBagPlanner$NormalForm;LBagPlanner$NormalForm;)Z"⟩, 2), (⟨"BagPlannerModel", "isColumn", "(II)Z"⟩, 44), (⟨"BagPlannerModel", "having", "(III)I"⟩, 44), (⟨"BagPlannerModel", "readText", "()I"⟩, 44), (⟨"BagPlannerModel", "next", "()V"⟩, 44)]
theorem lw_r3 : ∀ q ∈ lw_privs_3, lw_okq q := List.forall_mem_cons.mpr ⟨lw_p32, List.forall_mem_cons.mpr ⟨lw_p33, List.forall_mem_cons.mpr ⟨lw_p34, List.forall_mem_cons.mpr ⟨lw_p35, List.forall_mem_cons.mpr ⟨lw_p36, List.forall_mem_cons.mpr ⟨lw_p37, List.forall_mem_cons.mpr ⟨lw_p38, List.forall_mem_cons.mpr ⟨lw_p39, List.forall_mem_cons.mpr ⟨lw_p40, List.forall_mem_cons.mpr ⟨lw_p41, List.forall_mem_cons.mpr ⟨lw_p42, List.forall_mem_cons.mpr ⟨lw_p43, List.forall_mem_cons.mpr ⟨lw_p44, List.forall_mem_cons.mpr ⟨lw_p45, List.forall_mem_cons.mpr ⟨lw_p46, List.forall_mem_cons.mpr ⟨lw_p47, fun _ h => absurd h List.not_mem_nil⟩⟩⟩⟩⟩⟩⟩⟩⟩⟩⟩⟩⟩⟩⟩⟩
theorem lw_p48 : lw_okq (⟨"BagPlannerModel", "see", "(I)C"⟩, 44) := ⟨⟨by decide +kernel, by decide +kernel⟩, List.mem_of_getElem? (i := 1061) (by decide +kernel), List.mem_of_getElem? (i := 1248) (by decide +kernel), List.mem_of_getElem? (i := 1249) (by decide +kernel)⟩
theorem lw_p49 : lw_okq (⟨"BagPlannerModel", "readBlock", "(I)Z"⟩, 44) := ⟨⟨by decide +kernel, by decide +kernel⟩, List.mem_of_getElem? (i := 1061) (by decide +kernel), List.mem_of_getElem? (i := 1261) (by decide +kernel), List.mem_of_getElem? (i := 1262) (by decide +kernel)⟩
theorem lw_p50 : lw_okq (⟨"BagPlannerModel", "isWord", "(ICCC)Z"⟩, 44) := ⟨⟨by decide +kernel, by decide +kernel⟩, List.mem_of_getElem? (i := 1061) (by decide +kernel), List.mem_of_getElem? (i := 1265) (by decide +kernel), List.mem_of_getElem? (i := 1266) (by decide +kernel)⟩
theorem lw_p51 : lw_okq (⟨"BagPlannerModel", "passesWord", "(Z)Z"⟩, 44) := ⟨⟨by decide +kernel, by decide +kernel⟩, List.mem_of_getElem? (i := 1061) (by decide +kernel), List.mem_of_getElem? (i := 1269) (by decide +kernel), List.mem_of_getElem? (i := 1270) (by decide +kernel)⟩
theorem lw_p52 : lw_okq (⟨"BagPlannerModel", "readOutputs", "(I)Z"⟩, 44) := ⟨⟨by decide +kernel, by decide +kernel⟩, List.mem_of_getElem? (i := 1061) (by decide +kernel), List.mem_of_getElem? (i := 1273) (by decide +kernel), List.mem_of_getElem? (i := 1274) (by decide +kernel)⟩
theorem lw_p53 : lw_okq (⟨"BagPlannerModel", "value", "()I"⟩, 44) := ⟨⟨by decide +kernel, by decide +kernel⟩, List.mem_of_getElem? (i := 1061) (by decide +kernel), List.mem_of_getElem? (i := 1277) (by decide +kernel), List.mem_of_getElem? (i := 1278) (by decide +kernel)⟩
theorem lw_p54 : lw_okq (⟨"BagPlannerModel", "passes", "(C)Z"⟩, 44) := ⟨⟨by decide +kernel, by decide +kernel⟩, List.mem_of_getElem? (i := 1061) (by decide +kernel), List.mem_of_getElem? (i := 1281) (by decide +kernel), List.mem_of_getElem? (i := 1282) (by decide +kernel)⟩
theorem lw_p55 : lw_okq (⟨"BagPlannerModel", "isIt", "(C)Z"⟩, 44) := ⟨⟨by decide +kernel, by decide +kernel⟩, List.mem_of_getElem? (i := 1061) (by decide +kernel), List.mem_of_getElem? (i := 1285) (by decide +kernel), List.mem_of_getElem? (i := 1286) (by decide +kernel)⟩
theorem lw_p56 : lw_okq (⟨"BagPlannerModel", "readSources", "(I)Z"⟩, 44) := ⟨⟨by decide +kernel, by decide +kernel⟩, List.mem_of_getElem? (i := 1061) (by decide +kernel), List.mem_of_getElem? (i := 1289) (by decide +kernel), List.mem_of_getElem? (i := 1290) (by decide +kernel)⟩
theorem lw_p57 : lw_okq (⟨"BagPlannerModel", "readSource", "(I)Z"⟩, 44) := ⟨⟨by decide +kernel, by decide +kernel⟩, List.mem_of_getElem? (i := 1061) (by decide +kernel), List.mem_of_getElem? (i := 1293) (by decide +kernel), List.mem_of_getElem? (i := 1294) (by decide +kernel)⟩
theorem lw_p58 : lw_okq (⟨"BagPlannerModel", "isWhere", "()Z"⟩, 44) := ⟨⟨by decide +kernel, by decide +kernel⟩, List.mem_of_getElem? (i := 1061) (by decide +kernel), List.mem_of_getElem? (i := 1297) (by decide +kernel), List.mem_of_getElem? (i := 1298) (by decide +kernel)⟩
theorem lw_p59 : lw_okq (⟨"BagPlannerModel", "readConditions", "(I)Z"⟩, 44) := ⟨⟨by decide +kernel, by decide +kernel⟩, List.mem_of_getElem? (i := 1061) (by decide +kernel), List.mem_of_getElem? (i := 1301) (by decide +kernel), List.mem_of_getElem? (i := 1302) (by decide +kernel)⟩
theorem lw_p60 : lw_okq (⟨"BagPlannerModel", "resolve", "(I)Z"⟩, 44) := ⟨⟨by decide +kernel, by decide +kernel⟩, List.mem_of_getElem? (i := 1061) (by decide +kernel), List.mem_of_getElem? (i := 1305) (by decide +kernel), List.mem_of_getElem? (i := 1306) (by decide +kernel)⟩
theorem lw_p61 : lw_okq (⟨"BagPlannerModel", "resolved", "(II)I"⟩, 44) := ⟨⟨by decide +kernel, by decide +kernel⟩, List.mem_of_getElem? (i := 1061) (by decide +kernel), List.mem_of_getElem? (i := 1309) (by decide +kernel), List.mem_of_getElem? (i := 1310) (by decide +kernel)⟩
theorem lw_p62 : lw_okq (⟨"BagPlannerModel", "copyBlock", "(II)V"⟩, 44) := ⟨⟨by decide +kernel, by decide +kernel⟩, List.mem_of_getElem? (i := 1061) (by decide +kernel), List.mem_of_getElem? (i := 1313) (by decide +kernel), List.mem_of_getElem? (i := 1314) (by decide +kernel)⟩
theorem lw_p63 : lw_okq (⟨"BagPlannerModel", "take", "(I)Z"⟩, 44) := ⟨⟨by decide +kernel, by decide +kernel⟩, List.mem_of_getElem? (i := 1061) (by decide +kernel), List.mem_of_getElem? (i := 1329) (by decide +kernel), List.mem_of_getElem? (i := 1330) (by decide +kernel)⟩
def lw_privs_4 : List (MethodName × Nat) := [(⟨"BagPlannerModel", "see", "(I)C"⟩, 44), (⟨"BagPlannerModel", "readBlock", "(I)Z"⟩, 44), (⟨"BagPlannerModel", "isWord", "(ICCC)Z"⟩, 44), (⟨"BagPlannerModel", "passesWord", "(Z)Z"⟩, 44), (⟨"BagPlannerModel", "readOutputs", "(I)Z"⟩, 44), (⟨"BagPlannerModel", "value", "()I"⟩, 44), (⟨"BagPlannerModel", "passes", "(C)Z"⟩, 44), (⟨"BagPlannerModel", "isIt", "(C)Z"⟩, 44), (⟨"BagPlannerModel", "readSources", "(I)Z"⟩, 44), (⟨"BagPlannerModel", "readSource", "(I)Z"⟩, 44), (⟨"BagPlannerModel", "isWhere", "()Z"⟩, 44), (⟨"BagPlannerModel", "readConditions", "(I)Z"⟩, 44), (⟨"BagPlannerModel", "resolve", "(I)Z"⟩, 44), (⟨"BagPlannerModel", "resolved", "(II)I"⟩, 44), (⟨"BagPlannerModel", "copyBlock", "(II)V"⟩, 44), (⟨"BagPlannerModel", "take", "(I)Z"⟩, 44)]
theorem lw_r4 : ∀ q ∈ lw_privs_4, lw_okq q := List.forall_mem_cons.mpr ⟨lw_p48, List.forall_mem_cons.mpr ⟨lw_p49, List.forall_mem_cons.mpr ⟨lw_p50, List.forall_mem_cons.mpr ⟨lw_p51, List.forall_mem_cons.mpr ⟨lw_p52, List.forall_mem_cons.mpr ⟨lw_p53, List.forall_mem_cons.mpr ⟨lw_p54, List.forall_mem_cons.mpr ⟨lw_p55, List.forall_mem_cons.mpr ⟨lw_p56, List.forall_mem_cons.mpr ⟨lw_p57, List.forall_mem_cons.mpr ⟨lw_p58, List.forall_mem_cons.mpr ⟨lw_p59, List.forall_mem_cons.mpr ⟨lw_p60, List.forall_mem_cons.mpr ⟨lw_p61, List.forall_mem_cons.mpr ⟨lw_p62, List.forall_mem_cons.mpr ⟨lw_p63, fun _ h => absurd h List.not_mem_nil⟩⟩⟩⟩⟩⟩⟩⟩⟩⟩⟩⟩⟩⟩⟩⟩
theorem lw_p64 : lw_okq (⟨"BagPlannerModel", "allTrue", "(I)Z"⟩, 44) := ⟨⟨by decide +kernel, by decide +kernel⟩, List.mem_of_getElem? (i := 1061) (by decide +kernel), List.mem_of_getElem? (i := 1333) (by decide +kernel), List.mem_of_getElem? (i := 1334) (by decide +kernel)⟩
theorem lw_p65 : lw_okq (⟨"BagPlannerModel", "valueOf", "(II)I"⟩, 44) := ⟨⟨by decide +kernel, by decide +kernel⟩, List.mem_of_getElem? (i := 1061) (by decide +kernel), List.mem_of_getElem? (i := 1337) (by decide +kernel), List.mem_of_getElem? (i := 1338) (by decide +kernel)⟩
theorem lw_p66 : lw_okq (⟨"BagPlannerModel", "count", "(I)Z"⟩, 44) := ⟨⟨by decide +kernel, by decide +kernel⟩, List.mem_of_getElem? (i := 1061) (by decide +kernel), List.mem_of_getElem? (i := 1341) (by decide +kernel), List.mem_of_getElem? (i := 1342) (by decide +kernel)⟩
theorem lw_p67 : lw_okq (⟨"BagPlannerModel", "merge", "(I)Z"⟩, 44) := ⟨⟨by decide +kernel, by decide +kernel⟩, List.mem_of_getElem? (i := 1061) (by decide +kernel), List.mem_of_getElem? (i := 1345) (by decide +kernel), List.mem_of_getElem? (i := 1346) (by decide +kernel)⟩
theorem lw_p68 : lw_okq (⟨"BagPlannerModel", "inBlock", "(I)I"⟩, 44) := ⟨⟨by decide +kernel, by decide +kernel⟩, List.mem_of_getElem? (i := 1061) (by decide +kernel), List.mem_of_getElem? (i := 1349) (by decide +kernel), List.mem_of_getElem? (i := 1350) (by decide +kernel)⟩
theorem lw_p69 : lw_okq (⟨"BagPlannerModel", "addNew", "()Z"⟩, 44) := ⟨⟨by decide +kernel, by decide +kernel⟩, List.mem_of_getElem? (i := 1061) (by decide +kernel), List.mem_of_getElem? (i := 1353) (by decide +kernel), List.mem_of_getElem? (i := 1354) (by decide +kernel)⟩
theorem lw_p70 : lw_okq (⟨"BagPlannerModel", "settle", "(I)V"⟩, 44) := ⟨⟨by decide +kernel, by decide +kernel⟩, List.mem_of_getElem? (i := 1061) (by decide +kernel), List.mem_of_getElem? (i := 1357) (by decide +kernel), List.mem_of_getElem? (i := 1358) (by decide +kernel)⟩
theorem lw_p71 : lw_okq (⟨"BagPlannerModel", "isBefore", "(II)Z"⟩, 44) := ⟨⟨by decide +kernel, by decide +kernel⟩, List.mem_of_getElem? (i := 1061) (by decide +kernel), List.mem_of_getElem? (i := 1361) (by decide +kernel), List.mem_of_getElem? (i := 1362) (by decide +kernel)⟩
theorem lw_p72 : lw_okq (⟨"BagPlannerModel", "form", "(II)V"⟩, 44) := ⟨⟨by decide +kernel, by decide +kernel⟩, List.mem_of_getElem? (i := 1061) (by decide +kernel), List.mem_of_getElem? (i := 1381) (by decide +kernel), List.mem_of_getElem? (i := 1382) (by decide +kernel)⟩
theorem lw_p73 : lw_okq (⟨"BagPlannerModel", "node", "(II)I"⟩, 44) := ⟨⟨by decide +kernel, by decide +kernel⟩, List.mem_of_getElem? (i := 1061) (by decide +kernel), List.mem_of_getElem? (i := 1385) (by decide +kernel), List.mem_of_getElem? (i := 1386) (by decide +kernel)⟩
theorem lw_p74 : lw_okq (⟨"BagPlannerModel", "unite", "(III)V"⟩, 44) := ⟨⟨by decide +kernel, by decide +kernel⟩, List.mem_of_getElem? (i := 1061) (by decide +kernel), List.mem_of_getElem? (i := 1389) (by decide +kernel), List.mem_of_getElem? (i := 1390) (by decide +kernel)⟩
theorem lw_p75 : lw_okq (⟨"BagPlannerModel", "areOne", "(IIII)Z"⟩, 44) := ⟨⟨by decide +kernel, by decide +kernel⟩, List.mem_of_getElem? (i := 1061) (by decide +kernel), List.mem_of_getElem? (i := 1393) (by decide +kernel), List.mem_of_getElem? (i := 1394) (by decide +kernel)⟩
theorem lw_p76 : lw_okq (⟨"BagPlannerModel", "join", "(IIII)V"⟩, 44) := ⟨⟨by decide +kernel, by decide +kernel⟩, List.mem_of_getElem? (i := 1061) (by decide +kernel), List.mem_of_getElem? (i := 1397) (by decide +kernel), List.mem_of_getElem? (i := 1398) (by decide +kernel)⟩
theorem lw_p77 : lw_okq (⟨"BagPlannerModel", "isEmpty", "(II)Z"⟩, 44) := ⟨⟨by decide +kernel, by decide +kernel⟩, List.mem_of_getElem? (i := 1061) (by decide +kernel), List.mem_of_getElem? (i := 1401) (by decide +kernel), List.mem_of_getElem? (i := 1402) (by decide +kernel)⟩
theorem lw_p78 : lw_okq (⟨"BagPlannerModel", "numberOf", "(II)I"⟩, 44) := ⟨⟨by decide +kernel, by decide +kernel⟩, List.mem_of_getElem? (i := 1061) (by decide +kernel), List.mem_of_getElem? (i := 1405) (by decide +kernel), List.mem_of_getElem? (i := 1406) (by decide +kernel)⟩
theorem lw_p79 : lw_okq (⟨"BagPlannerModel", "leftOver", "(II)I"⟩, 44) := ⟨⟨by decide +kernel, by decide +kernel⟩, List.mem_of_getElem? (i := 1061) (by decide +kernel), List.mem_of_getElem? (i := 1409) (by decide +kernel), List.mem_of_getElem? (i := 1410) (by decide +kernel)⟩
def lw_privs_5 : List (MethodName × Nat) := [(⟨"BagPlannerModel", "allTrue", "(I)Z"⟩, 44), (⟨"BagPlannerModel", "valueOf", "(II)I"⟩, 44), (⟨"BagPlannerModel", "count", "(I)Z"⟩, 44), (⟨"BagPlannerModel", "merge", "(I)Z"⟩, 44), (⟨"BagPlannerModel", "inBlock", "(I)I"⟩, 44), (⟨"BagPlannerModel", "addNew", "()Z"⟩, 44), (⟨"BagPlannerModel", "settle", "(I)V"⟩, 44), (⟨"BagPlannerModel", "isBefore", "(II)Z"⟩, 44), (⟨"BagPlannerModel", "form", "(II)V"⟩, 44), (⟨"BagPlannerModel", "node", "(II)I"⟩, 44), (⟨"BagPlannerModel", "unite", "(III)V"⟩, 44), (⟨"BagPlannerModel", "areOne", "(IIII)Z"⟩, 44), (⟨"BagPlannerModel", "join", "(IIII)V"⟩, 44), (⟨"BagPlannerModel", "isEmpty", "(II)Z"⟩, 44), (⟨"BagPlannerModel", "numberOf", "(II)I"⟩, 44), (⟨"BagPlannerModel", "leftOver", "(II)I"⟩, 44)]
theorem lw_r5 : ∀ q ∈ lw_privs_5, lw_okq q := List.forall_mem_cons.mpr ⟨lw_p64, List.forall_mem_cons.mpr ⟨lw_p65, List.forall_mem_cons.mpr ⟨lw_p66, List.forall_mem_cons.mpr ⟨lw_p67, List.forall_mem_cons.mpr ⟨lw_p68, List.forall_mem_cons.mpr ⟨lw_p69, List.forall_mem_cons.mpr ⟨lw_p70, List.forall_mem_cons.mpr ⟨lw_p71, List.forall_mem_cons.mpr ⟨lw_p72, List.forall_mem_cons.mpr ⟨lw_p73, List.forall_mem_cons.mpr ⟨lw_p74, List.forall_mem_cons.mpr ⟨lw_p75, List.forall_mem_cons.mpr ⟨lw_p76, List.forall_mem_cons.mpr ⟨lw_p77, List.forall_mem_cons.mpr ⟨lw_p78, List.forall_mem_cons.mpr ⟨lw_p79, fun _ h => absurd h List.not_mem_nil⟩⟩⟩⟩⟩⟩⟩⟩⟩⟩⟩⟩⟩⟩⟩⟩
theorem lw_p80 : lw_okq (⟨"BagPlannerModel", "isPairing", "(III)Z"⟩, 44) := ⟨⟨by decide +kernel, by decide +kernel⟩, List.mem_of_getElem? (i := 1061) (by decide +kernel), List.mem_of_getElem? (i := 1413) (by decide +kernel), List.mem_of_getElem? (i := 1414) (by decide +kernel)⟩
theorem lw_p81 : lw_okq (⟨"BagPlannerModel", "fits", "(II)Z"⟩, 44) := ⟨⟨by decide +kernel, by decide +kernel⟩, List.mem_of_getElem? (i := 1061) (by decide +kernel), List.mem_of_getElem? (i := 1417) (by decide +kernel), List.mem_of_getElem? (i := 1418) (by decide +kernel)⟩
theorem lw_p82 : lw_okq (⟨"BagPlannerModel", "classesGo", "(I)Z"⟩, 44) := ⟨⟨by decide +kernel, by decide +kernel⟩, List.mem_of_getElem? (i := 1061) (by decide +kernel), List.mem_of_getElem? (i := 1421) (by decide +kernel), List.mem_of_getElem? (i := 1422) (by decide +kernel)⟩
theorem lw_p83 : lw_okq (⟨"BagPlannerModel", "goWith", "(III)Z"⟩, 44) := ⟨⟨by decide +kernel, by decide +kernel⟩, List.mem_of_getElem? (i := 1061) (by decide +kernel), List.mem_of_getElem? (i := 1425) (by decide +kernel), List.mem_of_getElem? (i := 1426) (by decide +kernel)⟩
theorem lw_p84 : lw_okq (⟨"BagPlannerModel", "paired", "(II)I"⟩, 44) := ⟨⟨by decide +kernel, by decide +kernel⟩, List.mem_of_getElem? (i := 1061) (by decide +kernel), List.mem_of_getElem? (i := 1429) (by decide +kernel), List.mem_of_getElem? (i := 1430) (by decide +kernel)⟩
theorem lw_p85 : lw_okq (⟨"BagPlannerModel", "isOpen", "(II)Z"⟩, 44) := ⟨⟨by decide +kernel, by decide +kernel⟩, List.mem_of_getElem? (i := 1061) (by decide +kernel), List.mem_of_getElem? (i := 1433) (by decide +kernel), List.mem_of_getElem? (i := 1434) (by decide +kernel)⟩
theorem lw_p86 : lw_okq (⟨"BagPlannerModel", "sameLess", "(III)Z"⟩, 44) := ⟨⟨by decide +kernel, by decide +kernel⟩, List.mem_of_getElem? (i := 1061) (by decide +kernel), List.mem_of_getElem? (i := 1437) (by decide +kernel), List.mem_of_getElem? (i := 1438) (by decide +kernel)⟩
def lw_privs_6 : List (MethodName × Nat) := [(⟨"BagPlannerModel", "isPairing", "(III)Z"⟩, 44), (⟨"BagPlannerModel", "fits", "(II)Z"⟩, 44), (⟨"BagPlannerModel", "classesGo", "(I)Z"⟩, 44), (⟨"BagPlannerModel", "goWith", "(III)Z"⟩, 44), (⟨"BagPlannerModel", "paired", "(II)I"⟩, 44), (⟨"BagPlannerModel", "isOpen", "(II)Z"⟩, 44), (⟨"BagPlannerModel", "sameLess", "(III)Z"⟩, 44)]
theorem lw_r6 : ∀ q ∈ lw_privs_6, lw_okq q := List.forall_mem_cons.mpr ⟨lw_p80, List.forall_mem_cons.mpr ⟨lw_p81, List.forall_mem_cons.mpr ⟨lw_p82, List.forall_mem_cons.mpr ⟨lw_p83, List.forall_mem_cons.mpr ⟨lw_p84, List.forall_mem_cons.mpr ⟨lw_p85, List.forall_mem_cons.mpr ⟨lw_p86, fun _ h => absurd h List.not_mem_nil⟩⟩⟩⟩⟩⟩⟩
def lw_privs : List (MethodName × Nat) := lw_privs_1 ++ (lw_privs_2 ++ (lw_privs_3 ++ (lw_privs_4 ++ (lw_privs_5 ++ (lw_privs_6)))))
def lw_tbl : List Cond := k2_sels lw_privs ++ tables_1
theorem lw_privs_ok : ∀ q ∈ lw_privs, lw_okq q := by
  show ∀ q ∈ lw_privs_1 ++ (lw_privs_2 ++ (lw_privs_3 ++ (lw_privs_4 ++ (lw_privs_5 ++ (lw_privs_6))))), lw_okq q
  exact List.forall_mem_append.mpr ⟨lw_r1, List.forall_mem_append.mpr ⟨lw_r2, List.forall_mem_append.mpr ⟨lw_r3, List.forall_mem_append.mpr ⟨lw_r4, List.forall_mem_append.mpr ⟨lw_r5, lw_r6⟩⟩⟩⟩⟩
end
section
abbrev qM : Type := MethodName × ByteArray × Nat × Option FieldType × List (Nat × Nat × Nat × Nat)
def zRBp : String := "BagPlanner"
def zFBp : u_T := fun k => match k with
  | 0 => ("BagPlanner", "catalog", "LBagPlanner$Catalog;", true)
  | 1 => ("BagPlanner", "text", "LBagPlanner$Text;", true)
  | 2 => ("BagPlanner", "reader", "LBagPlanner$Reader;", true)
  | 3 => ("BagPlanner", "questions", "[LBagPlanner$Question;", true)
  | 4 => ("BagPlanner", "questionCount", "I", false)
  | 5 => ("BagPlanner", "wrongPlace", "I", false)
  | 6 => ("BagPlanner", "plan", "LBagPlanner$Plan;", true)
  | 7 => ("BagPlanner", "answer", "LBagPlanner$Bag;", false)
  | 8 => ("BagPlanner", "result", "LBagPlanner$Bag;", false)
  | 9 => ("BagPlanner", "side", "LBagPlanner$Bag;", true)
  | 10 => ("BagPlanner", "firstForm", "LBagPlanner$NormalForm;", true)
  | 11 => ("BagPlanner", "secondForm", "LBagPlanner$NormalForm;", true)
  | _ => ("BagPlanner", "pairing", "LBagPlanner$Pairing;", true)
def zTBp : Nat → FieldType := fun k => match k with
  | 0 => .object "BagPlanner$Catalog"
  | 1 => .object "BagPlanner$Text"
  | 2 => .object "BagPlanner$Reader"
  | 3 => .array (.object "BagPlanner$Question")
  | 4 => .int
  | 5 => .int
  | 6 => .object "BagPlanner$Plan"
  | 7 => .object "BagPlanner$Bag"
  | 8 => .object "BagPlanner$Bag"
  | 9 => .object "BagPlanner$Bag"
  | 10 => .object "BagPlanner$NormalForm"
  | 11 => .object "BagPlanner$NormalForm"
  | _ => .object "BagPlanner$Pairing"
def zRBag : String := "BagPlanner$Bag"
def zFBag : u_T := fun k => match k with
  | 0 => ("BagPlanner$Bag", "width", "I", false)
  | 1 => ("BagPlanner$Bag", "size", "I", false)
  | 2 => ("BagPlanner$Bag", "values", "[I", true)
  | _ => ("BagPlanner$Bag", "counts", "[I", true)
def zTBag : Nat → FieldType := fun k => match k with
  | 0 => .int
  | 1 => .int
  | 2 => .array .int
  | _ => .array .int
def zRBl : String := "BagPlanner$Block"
def zFBl : u_T := fun k => match k with
  | 0 => ("BagPlanner$Block", "set", "Z", false)
  | 1 => ("BagPlanner$Block", "outputCount", "I", false)
  | 2 => ("BagPlanner$Block", "sourceCount", "I", false)
  | 3 => ("BagPlanner$Block", "conditionCount", "I", false)
  | 4 => ("BagPlanner$Block", "sourceTables", "[I", true)
  | 5 => ("BagPlanner$Block", "sourceNames", "[I", true)
  | 6 => ("BagPlanner$Block", "less", "[Z", true)
  | 7 => ("BagPlanner$Block", "slotNames", "[I", true)
  | 8 => ("BagPlanner$Block", "slotSources", "[I", true)
  | _ => ("BagPlanner$Block", "slotNumbers", "[I", true)
def zTBl : Nat → FieldType := fun k => match k with
  | 0 => .boolean
  | 1 => .int
  | 2 => .int
  | 3 => .int
  | 4 => .array .int
  | 5 => .array .int
  | 6 => .array .boolean
  | 7 => .array .int
  | 8 => .array .int
  | _ => .array .int
def zRCat : String := "BagPlanner$Catalog"
def zFCat : u_T := fun k => match k with
  | 0 => ("BagPlanner$Catalog", "tables", "[LBagPlanner$Table;", true)
  | _ => ("BagPlanner$Catalog", "count", "I", false)
def zTCat : Nat → FieldType := fun k => match k with
  | 0 => .array (.object "BagPlanner$Table")
  | _ => .int
def zRNf : String := "BagPlanner$NormalForm"
def zFNf : u_T := fun k => match k with
  | 0 => ("BagPlanner$NormalForm", "empty", "Z", false)
  | 1 => ("BagPlanner$NormalForm", "set", "Z", false)
  | 2 => ("BagPlanner$NormalForm", "outputCount", "I", false)
  | 3 => ("BagPlanner$NormalForm", "outputs", "[I", true)
  | 4 => ("BagPlanner$NormalForm", "lessCount", "I", false)
  | 5 => ("BagPlanner$NormalForm", "lows", "[I", true)
  | 6 => ("BagPlanner$NormalForm", "highs", "[I", true)
  | 7 => ("BagPlanner$NormalForm", "leftCount", "I", false)
  | 8 => ("BagPlanner$NormalForm", "leftSources", "[I", true)
  | 9 => ("BagPlanner$NormalForm", "leftTables", "[I", true)
  | 10 => ("BagPlanner$NormalForm", "leftColumns", "[I", true)
  | 11 => ("BagPlanner$NormalForm", "numberCount", "I", false)
  | 12 => ("BagPlanner$NormalForm", "numbers", "[I", true)
  | 13 => ("BagPlanner$NormalForm", "classes", "[I", true)
  | _ => ("BagPlanner$NormalForm", "classNumbers", "[I", true)
def zTNf : Nat → FieldType := fun k => match k with
  | 0 => .boolean
  | 1 => .boolean
  | 2 => .int
  | 3 => .array .int
  | 4 => .int
  | 5 => .array .int
  | 6 => .array .int
  | 7 => .int
  | 8 => .array .int
  | 9 => .array .int
  | 10 => .array .int
  | 11 => .int
  | 12 => .array .int
  | 13 => .array .int
  | _ => .array .int
def zRPg : String := "BagPlanner$Pairing"
def zFPg : u_T := fun k => match k with
  | 0 => ("BagPlanner$Pairing", "partners", "[I", true)
  | _ => ("BagPlanner$Pairing", "taken", "[Z", true)
def zTPg : Nat → FieldType := fun k => match k with
  | 0 => .array .int
  | _ => .array .boolean
def zRPlan : String := "BagPlanner$Plan"
def zFPlan : u_T := fun k => match k with
  | 0 => ("BagPlanner$Plan", "chosen", "[I", true)
  | 1 => ("BagPlanner$Plan", "used", "[Z", true)
  | 2 => ("BagPlanner$Plan", "lastSources", "[I", true)
  | _ => ("BagPlanner$Plan", "output", "[I", true)
def zTPlan : Nat → FieldType := fun k => match k with
  | 0 => .array .int
  | 1 => .array .boolean
  | 2 => .array .int
  | _ => .array .int
def zRQu : String := "BagPlanner$Question"
def zFQu : u_T := fun k => match k with
  | 0 => ("BagPlanner$Question", "blockCount", "I", false)
  | 1 => ("BagPlanner$Question", "blocks", "[LBagPlanner$Block;", true)
  | _ => ("BagPlanner$Question", "signs", "[I", true)
def zTQu : Nat → FieldType := fun k => match k with
  | 0 => .int
  | 1 => .array (.object "BagPlanner$Block")
  | _ => .array .int
def zRRd : String := "BagPlanner$Reader"
def zFRd : u_T := fun k => match k with
  | _ => ("BagPlanner$Reader", "tokens", "LBagPlanner$Tokens;", true)
def zTRd : Nat → FieldType := fun k => match k with
  | _ => .object "BagPlanner$Tokens"
def zRTab : String := "BagPlanner$Table"
def zFTab : u_T := fun k => match k with
  | 0 => ("BagPlanner$Table", "columns", "I", false)
  | 1 => ("BagPlanner$Table", "rows", "I", false)
  | 2 => ("BagPlanner$Table", "keys", "[Z", true)
  | _ => ("BagPlanner$Table", "cells", "[I", true)
def zTTab : Nat → FieldType := fun k => match k with
  | 0 => .int
  | 1 => .int
  | 2 => .array .boolean
  | _ => .array .int
def zRTxt : String := "BagPlanner$Text"
def zFTxt : u_T := fun k => match k with
  | 0 => ("BagPlanner$Text", "characters", "[C", true)
  | _ => ("BagPlanner$Text", "length", "I", false)
def zTTxt : Nat → FieldType := fun k => match k with
  | 0 => .array .char
  | _ => .int
def zRTok : String := "BagPlanner$Tokens"
def zFTok : u_T := fun k => match k with
  | 0 => ("BagPlanner$Tokens", "kinds", "[I", true)
  | 1 => ("BagPlanner$Tokens", "starts", "[I", true)
  | 2 => ("BagPlanner$Tokens", "values", "[I", true)
  | 3 => ("BagPlanner$Tokens", "count", "I", false)
  | _ => ("BagPlanner$Tokens", "at", "I", false)
def zTTok : Nat → FieldType := fun k => match k with
  | 0 => .array .int
  | 1 => .array .int
  | 2 => .array .int
  | 3 => .int
  | _ => .int
def zRMo : String := "BagPlannerModel"
def zFMo : u_T := fun k => match k with
  | 0 => ("BagPlannerModel", "code", "I", false)
  | 1 => ("BagPlannerModel", "tables", "I", false)
  | 2 => ("BagPlannerModel", "columns", "[I", true)
  | 3 => ("BagPlannerModel", "rows", "[I", true)
  | 4 => ("BagPlannerModel", "cells", "[I", true)
  | 5 => ("BagPlannerModel", "keys", "[Z", true)
  | 6 => ("BagPlannerModel", "typed", "I", false)
  | 7 => ("BagPlannerModel", "text", "[C", true)
  | 8 => ("BagPlannerModel", "place", "I", false)
  | 9 => ("BagPlannerModel", "kind", "I", false)
  | 10 => ("BagPlannerModel", "begin", "I", false)
  | 11 => ("BagPlannerModel", "end", "I", false)
  | 12 => ("BagPlannerModel", "amount", "I", false)
  | 13 => ("BagPlannerModel", "questions", "I", false)
  | 14 => ("BagPlannerModel", "blocks", "[I", true)
  | 15 => ("BagPlannerModel", "signs", "[I", true)
  | 16 => ("BagPlannerModel", "once", "[Z", true)
  | 17 => ("BagPlannerModel", "outs", "[I", true)
  | 18 => ("BagPlannerModel", "out", "[I", true)
  | 19 => ("BagPlannerModel", "froms", "[I", true)
  | 20 => ("BagPlannerModel", "table", "[I", true)
  | 21 => ("BagPlannerModel", "name", "[I", true)
  | 22 => ("BagPlannerModel", "wheres", "[I", true)
  | 23 => ("BagPlannerModel", "left", "[I", true)
  | 24 => ("BagPlannerModel", "right", "[I", true)
  | 25 => ("BagPlannerModel", "lesser", "[Z", true)
  | 26 => ("BagPlannerModel", "many", "I", false)
  | 27 => ("BagPlannerModel", "found", "[I", true)
  | 28 => ("BagPlannerModel", "often", "[I", true)
  | 29 => ("BagPlannerModel", "sofar", "I", false)
  | 30 => ("BagPlannerModel", "sum", "[I", true)
  | 31 => ("BagPlannerModel", "sums", "[I", true)
  | 32 => ("BagPlannerModel", "width", "I", false)
  | 33 => ("BagPlannerModel", "answers", "I", false)
  | 34 => ("BagPlannerModel", "answerWidth", "I", false)
  | 35 => ("BagPlannerModel", "answer", "[I", true)
  | 36 => ("BagPlannerModel", "counts", "[I", true)
  | 37 => ("BagPlannerModel", "at", "[I", true)
  | 38 => ("BagPlannerModel", "tuple", "[I", true)
  | 39 => ("BagPlannerModel", "group", "[I", true)
  | 40 => ("BagPlannerModel", "known", "[I", true)
  | 41 => ("BagPlannerModel", "numbers", "[I", true)
  | 42 => ("BagPlannerModel", "stands", "[I", true)
  | _ => ("BagPlannerModel", "pairs", "[I", true)
def zTMo : Nat → FieldType := fun k => match k with
  | 0 => .int
  | 1 => .int
  | 2 => .array .int
  | 3 => .array .int
  | 4 => .array .int
  | 5 => .array .boolean
  | 6 => .int
  | 7 => .array .char
  | 8 => .int
  | 9 => .int
  | 10 => .int
  | 11 => .int
  | 12 => .int
  | 13 => .int
  | 14 => .array .int
  | 15 => .array .int
  | 16 => .array .boolean
  | 17 => .array .int
  | 18 => .array .int
  | 19 => .array .int
  | 20 => .array .int
  | 21 => .array .int
  | 22 => .array .int
  | 23 => .array .int
  | 24 => .array .int
  | 25 => .array .boolean
  | 26 => .int
  | 27 => .array .int
  | 28 => .array .int
  | 29 => .int
  | 30 => .array .int
  | 31 => .array .int
  | 32 => .int
  | 33 => .int
  | 34 => .int
  | 35 => .array .int
  | 36 => .array .int
  | 37 => .array .int
  | 38 => .array .int
  | 39 => .array .int
  | 40 => .array .int
  | 41 => .array .int
  | 42 => .array .int
  | _ => .array .int
def zF0 : u_T := fun _ => ("", "", "", false)
abbrev classes : List vw_C := [(zRBp, zFBp, 13), (zRBag, zFBag, 4), (zRBl, zFBl, 10), (zRCat, zFCat, 2), (zRNf, zFNf, 15), (zRPg, zFPg, 2), (zRPlan, zFPlan, 4), (zRQu, zFQu, 3), (zRRd, zFRd, 1), (zRTab, zFTab, 4), (zRTxt, zFTxt, 2), (zRTok, zFTok, 5), (zRMo, zFMo, 44), ("BagPlanner", zF0, 0), ("BagPlanner", zF0, 0), ("BagPlanner", zF0, 0), ("BagPlanner", zF0, 0), ("BagPlanner", zF0, 0), ("BagPlanner", zF0, 0), ("BagPlanner", zF0, 0), ("java/lang/IllegalArgumentException", zF0, 0), ("java/lang/IllegalStateException", zF0, 0), ("java/lang/UnsupportedOperationException", zF0, 0), ("java/lang/IndexOutOfBoundsException", zF0, 0)]
abbrev mBp_init : qM := (⟨"BagPlanner", "<init>", "()V"⟩, prog_1_method_1_code, 2, (none : Option FieldType), [])
abbrev mJObject_init : qM := (⟨"java/lang/Object", "<init>", "()V"⟩, object_method_1_code, 1, (none : Option FieldType), [])
abbrev mCat_init : qM := (⟨"BagPlanner$Catalog", "<init>", "()V"⟩, prog_4_method_1_code, 2, (none : Option FieldType), [])
abbrev mTab_init : qM := (⟨"BagPlanner$Table", "<init>", "()V"⟩, prog_10_method_1_code, 1, (none : Option FieldType), [])
abbrev mTxt_init : qM := (⟨"BagPlanner$Text", "<init>", "()V"⟩, prog_11_method_1_code, 1, (none : Option FieldType), [])
abbrev mRd_init : qM := (⟨"BagPlanner$Reader", "<init>", "()V"⟩, prog_9_method_1_code, 1, (none : Option FieldType), [])
abbrev mTok_init : qM := (⟨"BagPlanner$Tokens", "<init>", "()V"⟩, prog_12_method_1_code, 1, (none : Option FieldType), [])
abbrev mQu_init : qM := (⟨"BagPlanner$Question", "<init>", "()V"⟩, prog_8_method_1_code, 2, (none : Option FieldType), [])
abbrev mBl_init : qM := (⟨"BagPlanner$Block", "<init>", "()V"⟩, prog_3_method_1_code, 1, (none : Option FieldType), [])
abbrev mPlan_init : qM := (⟨"BagPlanner$Plan", "<init>", "()V"⟩, prog_7_method_1_code, 1, (none : Option FieldType), [])
abbrev mBag_init : qM := (⟨"BagPlanner$Bag", "<init>", "()V"⟩, prog_2_method_1_code, 1, (none : Option FieldType), [])
abbrev mNf_init : qM := (⟨"BagPlanner$NormalForm", "<init>", "()V"⟩, prog_5_method_1_code, 1, (none : Option FieldType), [])
abbrev mPg_init : qM := (⟨"BagPlanner$Pairing", "<init>", "()V"⟩, prog_6_method_1_code, 1, (none : Option FieldType), [])
abbrev mBp_write : qM := (⟨"BagPlanner", "write", "(J)Z"⟩, prog_1_method_6_code, 3, (some FieldType.boolean), [])
abbrev mTxt_append : qM := (⟨"BagPlanner$Text", "append", "(J)Z"⟩, prog_11_method_2_code, 6, (some FieldType.boolean), [])
abbrev mTxt_countOf : qM := (⟨"BagPlanner$Text", "countOf", "(J)I"⟩, prog_11_method_3_code, 5, (some FieldType.int), [])
abbrev mTxt_byteOf : qM := (⟨"BagPlanner$Text", "byteOf", "(JI)I"⟩, prog_11_method_4_code, 3, (some FieldType.int), [])
abbrev mBp_wipe : qM := (⟨"BagPlanner", "wipe", "()I"⟩, prog_1_method_7_code, 1, (some FieldType.int), [])
abbrev mTxt_clear : qM := (⟨"BagPlanner$Text", "clear", "()I"⟩, prog_11_method_5_code, 2, (some FieldType.int), [])
abbrev mBp_place : qM := (⟨"BagPlanner", "place", "()I"⟩, prog_1_method_9_code, 1, (some FieldType.int), [])
abbrev mBp_forget : qM := (⟨"BagPlanner", "forget", "()I"⟩, prog_1_method_10_code, 2, (some FieldType.int), [])
abbrev mBp_total : qM := (⟨"BagPlanner", "total", "()I"⟩, prog_1_method_14_code, 1, (some FieldType.int), [])
abbrev mBag_sum : qM := (⟨"BagPlanner$Bag", "sum", "()I"⟩, prog_2_method_4_code, 3, (some FieldType.int), [])
abbrev mLa_table : qM := (⟨"BagPlannerLaw", "table", "(LBagPlanner;I[J)I"⟩, method_3_code, 4, (some FieldType.int), [((0 : Nat), (9 : Nat), (12 : Nat), (13 : Nat)), ((0 : Nat), (9 : Nat), (15 : Nat), (15 : Nat))])
abbrev mBp_table : qM := (⟨"BagPlanner", "table", "(I)I"⟩, prog_1_method_2_code, 2, (some FieldType.int), [])
abbrev mJThrowable_init : qM := (⟨"java/lang/Throwable", "<init>", "()V"⟩, prog_26_method_1_code, 1, (none : Option FieldType), [])
abbrev mJIllegalArgumentException_init : qM := (⟨"java/lang/IllegalArgumentException", "<init>", "(Ljava/lang/String;)V"⟩, prog_17_method_2_code, 2, (none : Option FieldType), [])
abbrev mJRuntimeException_init : qM := (⟨"java/lang/RuntimeException", "<init>", "(Ljava/lang/String;)V"⟩, prog_21_method_2_code, 2, (none : Option FieldType), [])
abbrev mJException_init : qM := (⟨"java/lang/Exception", "<init>", "(Ljava/lang/String;)V"⟩, prog_16_method_2_code, 2, (none : Option FieldType), [])
abbrev mJThrowable_init2 : qM := (⟨"java/lang/Throwable", "<init>", "(Ljava/lang/String;)V"⟩, prog_26_method_2_code, 2, (none : Option FieldType), [])
abbrev mJIllegalStateException_init : qM := (⟨"java/lang/IllegalStateException", "<init>", "(Ljava/lang/String;)V"⟩, prog_18_method_2_code, 2, (none : Option FieldType), [])
abbrev mCat_make : qM := (⟨"BagPlanner$Catalog", "make", "(I)I"⟩, prog_4_method_3_code, 2, (some FieldType.int), [])
abbrev mLa_key : qM := (⟨"BagPlannerLaw", "key", "(LBagPlanner;II)I"⟩, method_4_code, 4, (some FieldType.int), [((0 : Nat), (6 : Nat), (9 : Nat), (13 : Nat)), ((0 : Nat), (6 : Nat), (12 : Nat), (15 : Nat))])
abbrev mBp_key : qM := (⟨"BagPlanner", "key", "(II)V"⟩, prog_1_method_3_code, 4, (none : Option FieldType), [])
abbrev mBp_tableWithColumn : qM := (⟨"BagPlanner", "tableWithColumn", "(II)LBagPlanner$Table;"⟩, prog_1_method_17_code, 3, (some (FieldType.object "BagPlanner$Table")), [])
abbrev mCat_has : qM := (⟨"BagPlanner$Catalog", "has", "(I)Z"⟩, prog_4_method_2_code, 2, (some FieldType.boolean), [])
abbrev mTab_hasColumn : qM := (⟨"BagPlanner$Table", "hasColumn", "(I)Z"⟩, prog_10_method_2_code, 2, (some FieldType.boolean), [])
abbrev mTab_hasTwins : qM := (⟨"BagPlanner$Table", "hasTwins", "(I)Z"⟩, prog_10_method_4_code, 4, (some FieldType.boolean), [])
abbrev mTab_cell : qM := (⟨"BagPlanner$Table", "cell", "(II)I"⟩, prog_10_method_3_code, 3, (some FieldType.int), [])
abbrev mLa_insert : qM := (⟨"BagPlannerLaw", "insert", "(LBagPlanner;IIII[J)I"⟩, method_5_code, 7, (some FieldType.int), [((0 : Nat), (14 : Nat), (17 : Nat), (13 : Nat)), ((0 : Nat), (14 : Nat), (21 : Nat), (15 : Nat))])
abbrev mBp_insert : qM := (⟨"BagPlanner", "insert", "(IIII)I"⟩, prog_1_method_4_code, 6, (some FieldType.int), [])
abbrev mTab_breaksKey : qM := (⟨"BagPlanner$Table", "breaksKey", "(III)Z"⟩, prog_10_method_5_code, 4, (some FieldType.boolean), [])
abbrev mTab_isTaken : qM := (⟨"BagPlanner$Table", "isTaken", "(II)Z"⟩, prog_10_method_6_code, 4, (some FieldType.boolean), [])
abbrev mTab_append : qM := (⟨"BagPlanner$Table", "append", "(III)I"⟩, prog_10_method_7_code, 5, (some FieldType.int), [])
abbrev mLa_delete : qM := (⟨"BagPlannerLaw", "delete", "(LBagPlanner;III[J)I"⟩, method_6_code, 6, (some FieldType.int), [((0 : Nat), (12 : Nat), (15 : Nat), (13 : Nat))])
abbrev mBp_delete : qM := (⟨"BagPlanner", "delete", "(III)I"⟩, prog_1_method_5_code, 4, (some FieldType.int), [])
abbrev mTab_takeOut : qM := (⟨"BagPlanner$Table", "takeOut", "(II)I"⟩, prog_10_method_8_code, 5, (some FieldType.int), [])
abbrev mLa_question : qM := (⟨"BagPlannerLaw", "question", "(LBagPlanner;[J)I"⟩, method_7_code, 3, (some FieldType.int), [((0 : Nat), (8 : Nat), (11 : Nat), (13 : Nat)), ((0 : Nat), (8 : Nat), (14 : Nat), (15 : Nat))])
abbrev mBp_question : qM := (⟨"BagPlanner", "question", "()I"⟩, prog_1_method_8_code, 1, (some FieldType.int), [])
abbrev mRd_read : qM := (⟨"BagPlanner$Reader", "read", "(LBagPlanner$Text;LBagPlanner$Catalog;LBagPlanner$Question;)I"⟩, prog_9_method_2_code, 7, (some FieldType.int), [])
abbrev mTok_split : qM := (⟨"BagPlanner$Tokens", "split", "(LBagPlanner$Text;)V"⟩, prog_12_method_2_code, 4, (none : Option FieldType), [])
abbrev mTok_addToken : qM := (⟨"BagPlanner$Tokens", "addToken", "(LBagPlanner$Text;I)I"⟩, prog_12_method_3_code, 6, (some FieldType.int), [])
abbrev mTxt_endOfRun : qM := (⟨"BagPlanner$Text", "endOfRun", "(ICC)I"⟩, prog_11_method_6_code, 5, (some FieldType.int), [])
abbrev mTok_wordKind : qM := (⟨"BagPlanner$Tokens", "wordKind", "(LBagPlanner$Text;II)I"⟩, prog_12_method_4_code, 3, (some FieldType.int), [])
abbrev mTxt_isWord : qM := (⟨"BagPlanner$Text", "isWord", "(IILjava/lang/String;)Z"⟩, prog_11_method_7_code, 5, (some FieldType.boolean), [])
abbrev mJString_length : qM := (⟨"java/lang/String", "length", "()I"⟩, prog_22_method_54_code, 1, (some FieldType.int), [])
abbrev mJString_coder : qM := (⟨"java/lang/String", "coder", "()B"⟩, prog_22_method_152_code, 1, (some FieldType.byte), [])
abbrev mJString_charAt : qM := (⟨"java/lang/String", "charAt", "(I)C"⟩, prog_22_method_56_code, 2, (some FieldType.char), [])
abbrev mJString_isLatin1 : qM := (⟨"java/lang/String", "isLatin1", "()Z"⟩, prog_22_method_154_code, 1, (some FieldType.boolean), [])
abbrev mJStringLatin1_charAt : qM := (⟨"java/lang/StringLatin1", "charAt", "([BI)C"⟩, prog_23_method_2_code, 2, (some FieldType.char), [])
abbrev mJString_checkIndex : qM := (⟨"java/lang/String", "checkIndex", "(II)V"⟩, prog_22_method_155_code, 2, (none : Option FieldType), [])
abbrev mjdk_internal_util_Preconditions_checkIndex : qM := (⟨"jdk/internal/util/Preconditions", "checkIndex", "(IILjava/util/function/BiFunction;)I"⟩, prog_28_method_11_code, 3, (some FieldType.int), [])
abbrev mJStringUTF16_charAt : qM := (⟨"java/lang/StringUTF16", "charAt", "([BI)C"⟩, prog_24_method_83_code, 2, (some FieldType.char), [])
abbrev mJStringUTF16_checkIndex : qM := (⟨"java/lang/StringUTF16", "checkIndex", "(I[B)V"⟩, prog_24_method_91_code, 2, (none : Option FieldType), [])
abbrev mJStringUTF16_length : qM := (⟨"java/lang/StringUTF16", "length", "([B)I"⟩, prog_24_method_6_code, 1, (some FieldType.int), [])
abbrev mJStringUTF16_getChar : qM := (⟨"java/lang/StringUTF16", "getChar", "([BI)C"⟩, prog_24_method_5_code, 2, (some FieldType.char), [])
abbrev mTok_put : qM := (⟨"BagPlanner$Tokens", "put", "(III)V"⟩, prog_12_method_5_code, 4, (none : Option FieldType), [])
abbrev mTxt_number : qM := (⟨"BagPlanner$Text", "number", "(II)I"⟩, prog_11_method_8_code, 5, (some FieldType.int), [])
abbrev mJString_indexOf : qM := (⟨"java/lang/String", "indexOf", "(I)I"⟩, prog_22_method_79_code, 2, (some FieldType.int), [])
abbrev mJString_indexOf2 : qM := (⟨"java/lang/String", "indexOf", "(II)I"⟩, prog_22_method_80_code, 3, (some FieldType.int), [])
abbrev mJStringLatin1_indexOf : qM := (⟨"java/lang/StringLatin1", "indexOf", "([BIII)I"⟩, prog_23_method_22_code, 4, (some FieldType.int), [])
abbrev mJStringLatin1_canEncode : qM := (⟨"java/lang/StringLatin1", "canEncode", "(I)Z"⟩, prog_23_method_4_code, 1, (some FieldType.boolean), [])
abbrev mJMath_max : qM := (⟨"java/lang/Math", "max", "(II)I"⟩, prog_20_method_65_code, 2, (some FieldType.int), [])
abbrev mJMath_min : qM := (⟨"java/lang/Math", "min", "(II)I"⟩, prog_20_method_69_code, 2, (some FieldType.int), [])
abbrev mJStringLatin1_indexOfChar : qM := (⟨"java/lang/StringLatin1", "indexOfChar", "([BIII)I"⟩, prog_23_method_23_code, 6, (some FieldType.int), [])
abbrev mJStringUTF16_indexOf : qM := (⟨"java/lang/StringUTF16", "indexOf", "([BIII)I"⟩, prog_24_method_40_code, 4, (some FieldType.int), [])
abbrev mJStringUTF16_indexOfChar : qM := (⟨"java/lang/StringUTF16", "indexOfChar", "([BIII)I"⟩, prog_24_method_47_code, 4, (some FieldType.int), [])
abbrev mJStringUTF16_checkBoundsBeginEnd : qM := (⟨"java/lang/StringUTF16", "checkBoundsBeginEnd", "(II[B)V"⟩, prog_24_method_93_code, 3, (none : Option FieldType), [])
abbrev mJString_checkBoundsBeginEnd : qM := (⟨"java/lang/String", "checkBoundsBeginEnd", "(III)V"⟩, prog_22_method_158_code, 3, (none : Option FieldType), [])
abbrev mjdk_internal_util_Preconditions_checkFromToIndex : qM := (⟨"jdk/internal/util/Preconditions", "checkFromToIndex", "(IIILjava/util/function/BiFunction;)I"⟩, prog_28_method_12_code, 4, (some FieldType.int), [])
abbrev mJStringUTF16_indexOfCharUnsafe : qM := (⟨"java/lang/StringUTF16", "indexOfCharUnsafe", "([BIII)I"⟩, prog_24_method_48_code, 5, (some FieldType.int), [])
abbrev mJStringUTF16_indexOfSupplementary : qM := (⟨"java/lang/StringUTF16", "indexOfSupplementary", "([BIII)I"⟩, prog_24_method_49_code, 7, (some FieldType.int), [])
abbrev mJCharacter_isValidCodePoint : qM := (⟨"java/lang/Character", "isValidCodePoint", "(I)Z"⟩, prog_15_method_11_code, 2, (some FieldType.boolean), [])
abbrev mJCharacter_highSurrogate : qM := (⟨"java/lang/Character", "highSurrogate", "(I)C"⟩, prog_15_method_28_code, 1, (some FieldType.char), [])
abbrev mJCharacter_lowSurrogate : qM := (⟨"java/lang/Character", "lowSurrogate", "(I)C"⟩, prog_15_method_29_code, 1, (some FieldType.char), [])
abbrev mTok_start : qM := (⟨"BagPlanner$Tokens", "start", "()I"⟩, prog_12_method_8_code, 1, (some FieldType.int), [])
abbrev mRd_readBlock : qM := (⟨"BagPlanner$Reader", "readBlock", "(LBagPlanner$Block;LBagPlanner$Catalog;)Z"⟩, prog_9_method_4_code, 3, (some FieldType.boolean), [])
abbrev mBl_clear : qM := (⟨"BagPlanner$Block", "clear", "()V"⟩, prog_3_method_4_code, 1, (none : Option FieldType), [])
abbrev mTok_take : qM := (⟨"BagPlanner$Tokens", "take", "(I)Z"⟩, prog_12_method_10_code, 2, (some FieldType.boolean), [])
abbrev mRd_readOutputs : qM := (⟨"BagPlanner$Reader", "readOutputs", "(LBagPlanner$Block;)Z"⟩, prog_9_method_5_code, 4, (some FieldType.boolean), [])
abbrev mRd_readValue : qM := (⟨"BagPlanner$Reader", "readValue", "(LBagPlanner$Block;I)Z"⟩, prog_9_method_8_code, 5, (some FieldType.boolean), [])
abbrev mTok_value : qM := (⟨"BagPlanner$Tokens", "value", "()I"⟩, prog_12_method_9_code, 1, (some FieldType.int), [])
abbrev mBl_putNumber : qM := (⟨"BagPlanner$Block", "putNumber", "(II)V"⟩, prog_3_method_8_code, 3, (none : Option FieldType), [])
abbrev mBl_putColumn : qM := (⟨"BagPlanner$Block", "putColumn", "(III)V"⟩, prog_3_method_9_code, 4, (none : Option FieldType), [])
abbrev mRd_readSources : qM := (⟨"BagPlanner$Reader", "readSources", "(LBagPlanner$Block;LBagPlanner$Catalog;)Z"⟩, prog_9_method_6_code, 7, (some FieldType.boolean), [])
abbrev mTok_is : qM := (⟨"BagPlanner$Tokens", "is", "(I)Z"⟩, prog_12_method_6_code, 2, (some FieldType.boolean), [])
abbrev mBl_sourceNamed : qM := (⟨"BagPlanner$Block", "sourceNamed", "(I)I"⟩, prog_3_method_6_code, 3, (some FieldType.int), [])
abbrev mBl_addSource : qM := (⟨"BagPlanner$Block", "addSource", "(II)V"⟩, prog_3_method_7_code, 3, (none : Option FieldType), [])
abbrev mRd_readConditions : qM := (⟨"BagPlanner$Reader", "readConditions", "(LBagPlanner$Block;)Z"⟩, prog_9_method_7_code, 4, (some FieldType.boolean), [])
abbrev mBl_lowSlot : qM := (⟨"BagPlanner$Block", "lowSlot", "(I)I"⟩, prog_3_method_2_code, 1, (some FieldType.int), [])
abbrev mBl_highSlot : qM := (⟨"BagPlanner$Block", "highSlot", "(I)I"⟩, prog_3_method_3_code, 1, (some FieldType.int), [])
abbrev mRd_isBehindBlock : qM := (⟨"BagPlanner$Reader", "isBehindBlock", "()Z"⟩, prog_9_method_3_code, 1, (some FieldType.boolean), [])
abbrev mBl_bind : qM := (⟨"BagPlanner$Block", "bind", "(LBagPlanner$Catalog;)Z"⟩, prog_3_method_10_code, 4, (some FieldType.boolean), [])
abbrev mBl_isUsed : qM := (⟨"BagPlanner$Block", "isUsed", "(I)Z"⟩, prog_3_method_5_code, 2, (some FieldType.boolean), [])
abbrev mTok_kind : qM := (⟨"BagPlanner$Tokens", "kind", "()I"⟩, prog_12_method_7_code, 1, (some FieldType.int), [])
abbrev mLa_run : qM := (⟨"BagPlannerLaw", "run", "(LBagPlanner;I[J)I"⟩, method_8_code, 4, (some FieldType.int), [((0 : Nat), (9 : Nat), (12 : Nat), (13 : Nat)), ((0 : Nat), (9 : Nat), (15 : Nat), (36 : Nat))])
abbrev mBp_run : qM := (⟨"BagPlanner", "run", "(I)I"⟩, prog_1_method_11_code, 3, (some FieldType.int), [])
abbrev mBp_questionAt : qM := (⟨"BagPlanner", "questionAt", "(I)LBagPlanner$Question;"⟩, prog_1_method_18_code, 2, (some (FieldType.object "BagPlanner$Question")), [])
abbrev mBp_answerInto : qM := (⟨"BagPlanner", "answerInto", "(LBagPlanner$Question;)Z"⟩, prog_1_method_20_code, 3, (some FieldType.boolean), [])
abbrev mPlan_fill : qM := (⟨"BagPlanner$Plan", "fill", "(LBagPlanner$Bag;LBagPlanner$Block;LBagPlanner$Catalog;)Z"⟩, prog_7_method_2_code, 4, (some FieldType.boolean), [])
abbrev mBag_clear : qM := (⟨"BagPlanner$Bag", "clear", "(I)V"⟩, prog_2_method_2_code, 2, (none : Option FieldType), [])
abbrev mPlan_markUsed : qM := (⟨"BagPlanner$Plan", "markUsed", "(LBagPlanner$Block;)V"⟩, prog_7_method_3_code, 3, (none : Option FieldType), [])
abbrev mPlan_findLastSources : qM := (⟨"BagPlanner$Plan", "findLastSources", "(LBagPlanner$Block;)V"⟩, prog_7_method_4_code, 3, (none : Option FieldType), [])
abbrev mPlan_holdsAt : qM := (⟨"BagPlanner$Plan", "holdsAt", "(ILBagPlanner$Block;LBagPlanner$Catalog;)Z"⟩, prog_7_method_7_code, 7, (some FieldType.boolean), [])
abbrev mPlan_valueOf : qM := (⟨"BagPlanner$Plan", "valueOf", "(ILBagPlanner$Block;LBagPlanner$Catalog;)I"⟩, prog_7_method_8_code, 6, (some FieldType.int), [])
abbrev mPlan_choose : qM := (⟨"BagPlanner$Plan", "choose", "(IILBagPlanner$Bag;LBagPlanner$Block;LBagPlanner$Catalog;)Z"⟩, prog_7_method_5_code, 8, (some FieldType.boolean), [])
abbrev mPlan_setOutput : qM := (⟨"BagPlanner$Plan", "setOutput", "(LBagPlanner$Block;LBagPlanner$Catalog;)V"⟩, prog_7_method_6_code, 4, (none : Option FieldType), [])
abbrev mBag_add : qM := (⟨"BagPlanner$Bag", "add", "([III)Z"⟩, prog_2_method_6_code, 5, (some FieldType.boolean), [])
abbrev mBag_firstNotBefore : qM := (⟨"BagPlanner$Bag", "firstNotBefore", "([II)I"⟩, prog_2_method_10_code, 7, (some FieldType.int), [])
abbrev mBag_compare : qM := (⟨"BagPlanner$Bag", "compare", "(I[II)I"⟩, prog_2_method_11_code, 6, (some FieldType.int), [])
abbrev mBag_countEachOnce : qM := (⟨"BagPlanner$Bag", "countEachOnce", "()V"⟩, prog_2_method_5_code, 2, (none : Option FieldType), [])
abbrev mBag_join : qM := (⟨"BagPlanner$Bag", "join", "(ILBagPlanner$Bag;)Z"⟩, prog_2_method_7_code, 7, (some FieldType.boolean), [])
abbrev mBag_addAll : qM := (⟨"BagPlanner$Bag", "addAll", "(LBagPlanner$Bag;)Z"⟩, prog_2_method_8_code, 3, (some FieldType.boolean), [])
abbrev mBag_countOf : qM := (⟨"BagPlanner$Bag", "countOf", "([II)I"⟩, prog_2_method_9_code, 4, (some FieldType.int), [])
abbrev mJUnsupportedOperationException_init : qM := (⟨"java/lang/UnsupportedOperationException", "<init>", "(Ljava/lang/String;)V"⟩, prog_27_method_2_code, 2, (none : Option FieldType), [])
abbrev mLa_row : qM := (⟨"BagPlannerLaw", "row", "(LBagPlanner;II[J)I"⟩, method_9_code, 5, (some FieldType.int), [((0 : Nat), (10 : Nat), (13 : Nat), (42 : Nat))])
abbrev mBp_row : qM := (⟨"BagPlanner", "row", "(II)I"⟩, prog_1_method_12_code, 3, (some FieldType.int), [])
abbrev mBag_has : qM := (⟨"BagPlanner$Bag", "has", "(I)Z"⟩, prog_2_method_3_code, 2, (some FieldType.boolean), [])
abbrev mJIndexOutOfBoundsException_init : qM := (⟨"java/lang/IndexOutOfBoundsException", "<init>", "(Ljava/lang/String;)V"⟩, prog_19_method_2_code, 2, (none : Option FieldType), [])
abbrev mLa_times : qM := (⟨"BagPlannerLaw", "times", "(LBagPlanner;I[J)I"⟩, method_10_code, 4, (some FieldType.int), [((0 : Nat), (9 : Nat), (12 : Nat), (42 : Nat))])
abbrev mBp_times : qM := (⟨"BagPlanner", "times", "(I)I"⟩, prog_1_method_13_code, 2, (some FieldType.int), [])
abbrev mLa_alike : qM := (⟨"BagPlannerLaw", "alike", "(LBagPlanner;II[J)I"⟩, method_11_code, 5, (some FieldType.int), [((0 : Nat), (17 : Nat), (20 : Nat), (13 : Nat)), ((0 : Nat), (17 : Nat), (24 : Nat), (36 : Nat))])
abbrev mBp_alike : qM := (⟨"BagPlanner", "alike", "(II)Z"⟩, prog_1_method_15_code, 5, (some FieldType.boolean), [])
abbrev mBp_onlyBlock : qM := (⟨"BagPlanner", "onlyBlock", "(LBagPlanner$Question;)LBagPlanner$Block;"⟩, prog_1_method_19_code, 1, (some (FieldType.object "BagPlanner$Block")), [])
abbrev mNf_build : qM := (⟨"BagPlanner$NormalForm", "build", "(LBagPlanner$Block;LBagPlanner$Catalog;)V"⟩, prog_5_method_2_code, 4, (none : Option FieldType), [])
abbrev mNf_collectNumbers : qM := (⟨"BagPlanner$NormalForm", "collectNumbers", "(LBagPlanner$Block;)V"⟩, prog_5_method_4_code, 3, (none : Option FieldType), [])
abbrev mNf_indexOf : qM := (⟨"BagPlanner$NormalForm", "indexOf", "(I)I"⟩, prog_5_method_5_code, 3, (some FieldType.int), [])
abbrev mNf_joinEqualSides : qM := (⟨"BagPlanner$NormalForm", "joinEqualSides", "(LBagPlanner$Block;)V"⟩, prog_5_method_8_code, 3, (none : Option FieldType), [])
abbrev mNf_classOfSlot : qM := (⟨"BagPlanner$NormalForm", "classOfSlot", "(LBagPlanner$Block;I)I"⟩, prog_5_method_6_code, 5, (some FieldType.int), [])
abbrev mNf_merge : qM := (⟨"BagPlanner$NormalForm", "merge", "(II)Z"⟩, prog_5_method_7_code, 4, (some FieldType.boolean), [])
abbrev mNf_joinOnes : qM := (⟨"BagPlanner$NormalForm", "joinOnes", "(LBagPlanner$Block;LBagPlanner$Catalog;)V"⟩, prog_5_method_9_code, 7, (none : Option FieldType), [])
abbrev mNf_areOne : qM := (⟨"BagPlanner$NormalForm", "areOne", "(IILBagPlanner$Block;LBagPlanner$Catalog;)Z"⟩, prog_5_method_10_code, 7, (some FieldType.boolean), [])
abbrev mNf_mergeColumns : qM := (⟨"BagPlanner$NormalForm", "mergeColumns", "(II)Z"⟩, prog_5_method_11_code, 5, (some FieldType.boolean), [])
abbrev mNf_numberClasses : qM := (⟨"BagPlanner$NormalForm", "numberClasses", "()V"⟩, prog_5_method_12_code, 3, (none : Option FieldType), [])
abbrev mNf_findLess : qM := (⟨"BagPlanner$NormalForm", "findLess", "(LBagPlanner$Block;)V"⟩, prog_5_method_13_code, 3, (none : Option FieldType), [])
abbrev mNf_addLess : qM := (⟨"BagPlanner$NormalForm", "addLess", "(II)V"⟩, prog_5_method_14_code, 3, (none : Option FieldType), [])
abbrev mNf_findOutputs : qM := (⟨"BagPlanner$NormalForm", "findOutputs", "(LBagPlanner$Block;)V"⟩, prog_5_method_15_code, 3, (none : Option FieldType), [])
abbrev mNf_findLeft : qM := (⟨"BagPlanner$NormalForm", "findLeft", "(LBagPlanner$Block;LBagPlanner$Catalog;)V"⟩, prog_5_method_16_code, 4, (none : Option FieldType), [])
abbrev mNf_isOneWithLeft : qM := (⟨"BagPlanner$NormalForm", "isOneWithLeft", "(ILBagPlanner$Block;LBagPlanner$Catalog;)Z"⟩, prog_5_method_17_code, 5, (some FieldType.boolean), [])
abbrev mPg_exists : qM := (⟨"BagPlanner$Pairing", "exists", "(LBagPlanner$NormalForm;LBagPlanner$NormalForm;)Z"⟩, prog_6_method_2_code, 3, (some FieldType.boolean), [])
abbrev mPg_pairFrom : qM := (⟨"BagPlanner$Pairing", "pairFrom", "(ILBagPlanner$NormalForm;LBagPlanner$NormalForm;)Z"⟩, prog_6_method_3_code, 6, (some FieldType.boolean), [])
abbrev mPg_columnsFit : qM := (⟨"BagPlanner$Pairing", "columnsFit", "(LBagPlanner$NormalForm;LBagPlanner$NormalForm;)Z"⟩, prog_6_method_4_code, 5, (some FieldType.boolean), [])
abbrev mPg_columnFits : qM := (⟨"BagPlanner$Pairing", "columnFits", "(IILBagPlanner$NormalForm;LBagPlanner$NormalForm;)Z"⟩, prog_6_method_5_code, 9, (some FieldType.boolean), [])
abbrev mNf_classOf : qM := (⟨"BagPlanner$NormalForm", "classOf", "(II)I"⟩, prog_5_method_3_code, 3, (some FieldType.int), [])
abbrev mPg_outputsFit : qM := (⟨"BagPlanner$Pairing", "outputsFit", "(LBagPlanner$NormalForm;LBagPlanner$NormalForm;)Z"⟩, prog_6_method_6_code, 4, (some FieldType.boolean), [])
abbrev mPg_arePaired : qM := (⟨"BagPlanner$Pairing", "arePaired", "(IILBagPlanner$NormalForm;LBagPlanner$NormalForm;)Z"⟩, prog_6_method_9_code, 7, (some FieldType.boolean), [])
abbrev mPg_lessFits : qM := (⟨"BagPlanner$Pairing", "lessFits", "(LBagPlanner$NormalForm;LBagPlanner$NormalForm;)Z"⟩, prog_6_method_7_code, 6, (some FieldType.boolean), [])
abbrev mPg_isSameLess : qM := (⟨"BagPlanner$Pairing", "isSameLess", "(IILBagPlanner$NormalForm;LBagPlanner$NormalForm;)Z"⟩, prog_6_method_8_code, 5, (some FieldType.boolean), [])
abbrev mLa_sources : qM := (⟨"BagPlannerLaw", "sources", "(LBagPlanner;I[J)I"⟩, method_12_code, 4, (some FieldType.int), [((0 : Nat), (9 : Nat), (12 : Nat), (13 : Nat)), ((0 : Nat), (9 : Nat), (15 : Nat), (36 : Nat))])
abbrev mBp_sources : qM := (⟨"BagPlanner", "sources", "(I)I"⟩, prog_1_method_16_code, 2, (some FieldType.int), [])
abbrev mMo_init : qM := (⟨"BagPlannerModel", "<init>", "()V"⟩, prog_14_method_1_code, 1, (none : Option FieldType), [])
abbrev mMo_thrown : qM := (⟨"BagPlannerModel", "thrown", "()I"⟩, prog_14_method_2_code, 1, (some FieldType.int), [])
abbrev mMo_table : qM := (⟨"BagPlannerModel", "table", "(I)I"⟩, prog_14_method_4_code, 2, (some FieldType.int), [])
abbrev mMo_key : qM := (⟨"BagPlannerModel", "key", "(II)V"⟩, prog_14_method_6_code, 4, (none : Option FieldType), [])
abbrev mMo_isColumn : qM := (⟨"BagPlannerModel", "isColumn", "(II)Z"⟩, prog_14_method_3_code, 3, (some FieldType.boolean), [])
abbrev mMo_having : qM := (⟨"BagPlannerModel", "having", "(III)I"⟩, prog_14_method_5_code, 6, (some FieldType.int), [])
abbrev mMo_insert : qM := (⟨"BagPlannerModel", "insert", "(IIII)I"⟩, prog_14_method_7_code, 7, (some FieldType.int), [])
abbrev mMo_delete : qM := (⟨"BagPlannerModel", "delete", "(III)I"⟩, prog_14_method_8_code, 8, (some FieldType.int), [])
abbrev mMo_write : qM := (⟨"BagPlannerModel", "write", "(J)Z"⟩, prog_14_method_9_code, 6, (some FieldType.boolean), [])
abbrev mMo_wipe : qM := (⟨"BagPlannerModel", "wipe", "()I"⟩, prog_14_method_10_code, 2, (some FieldType.int), [])
abbrev mMo_question : qM := (⟨"BagPlannerModel", "question", "()I"⟩, prog_14_method_31_code, 3, (some FieldType.int), [])
abbrev mMo_readText : qM := (⟨"BagPlannerModel", "readText", "()I"⟩, prog_14_method_29_code, 3, (some FieldType.int), [])
abbrev mMo_next : qM := (⟨"BagPlannerModel", "next", "()V"⟩, prog_14_method_15_code, 2, (none : Option FieldType), [])
abbrev mMo_see : qM := (⟨"BagPlannerModel", "see", "(I)C"⟩, prog_14_method_11_code, 2, (some FieldType.char), [])
abbrev mMo_isSmall : qM := (⟨"BagPlannerModel", "isSmall", "(C)Z"⟩, prog_14_method_12_code, 1, (some FieldType.boolean), [])
abbrev mMo_isDigit : qM := (⟨"BagPlannerModel", "isDigit", "(C)Z"⟩, prog_14_method_13_code, 1, (some FieldType.boolean), [])
abbrev mMo_isSign : qM := (⟨"BagPlannerModel", "isSign", "(C)Z"⟩, prog_14_method_14_code, 1, (some FieldType.boolean), [])
abbrev mMo_readBlock : qM := (⟨"BagPlannerModel", "readBlock", "(I)Z"⟩, prog_14_method_26_code, 2, (some FieldType.boolean), [])
abbrev mMo_isWord : qM := (⟨"BagPlannerModel", "isWord", "(ICCC)Z"⟩, prog_14_method_18_code, 5, (some FieldType.boolean), [])
abbrev mMo_passesWord : qM := (⟨"BagPlannerModel", "passesWord", "(Z)Z"⟩, prog_14_method_20_code, 2, (some FieldType.boolean), [])
abbrev mMo_readOutputs : qM := (⟨"BagPlannerModel", "readOutputs", "(I)Z"⟩, prog_14_method_22_code, 4, (some FieldType.boolean), [])
abbrev mMo_value : qM := (⟨"BagPlannerModel", "value", "()I"⟩, prog_14_method_21_code, 3, (some FieldType.int), [])
abbrev mMo_passes : qM := (⟨"BagPlannerModel", "passes", "(C)Z"⟩, prog_14_method_17_code, 3, (some FieldType.boolean), [])
abbrev mMo_isIt : qM := (⟨"BagPlannerModel", "isIt", "(C)Z"⟩, prog_14_method_16_code, 2, (some FieldType.boolean), [])
abbrev mMo_readSources : qM := (⟨"BagPlannerModel", "readSources", "(I)Z"⟩, prog_14_method_24_code, 3, (some FieldType.boolean), [])
abbrev mMo_readSource : qM := (⟨"BagPlannerModel", "readSource", "(I)Z"⟩, prog_14_method_23_code, 5, (some FieldType.boolean), [])
abbrev mMo_isWhere : qM := (⟨"BagPlannerModel", "isWhere", "()Z"⟩, prog_14_method_19_code, 1, (some FieldType.boolean), [])
abbrev mMo_readConditions : qM := (⟨"BagPlannerModel", "readConditions", "(I)Z"⟩, prog_14_method_25_code, 4, (some FieldType.boolean), [])
abbrev mMo_resolve : qM := (⟨"BagPlannerModel", "resolve", "(I)Z"⟩, prog_14_method_28_code, 4, (some FieldType.boolean), [])
abbrev mMo_resolved : qM := (⟨"BagPlannerModel", "resolved", "(II)I"⟩, prog_14_method_27_code, 4, (some FieldType.int), [])
abbrev mMo_copyBlock : qM := (⟨"BagPlannerModel", "copyBlock", "(II)V"⟩, prog_14_method_30_code, 4, (none : Option FieldType), [])
abbrev mMo_place : qM := (⟨"BagPlannerModel", "place", "()I"⟩, prog_14_method_32_code, 1, (some FieldType.int), [])
abbrev mMo_forget : qM := (⟨"BagPlannerModel", "forget", "()I"⟩, prog_14_method_33_code, 2, (some FieldType.int), [])
abbrev mMo_run : qM := (⟨"BagPlannerModel", "run", "(I)I"⟩, prog_14_method_43_code, 3, (some FieldType.int), [])
abbrev mMo_take : qM := (⟨"BagPlannerModel", "take", "(I)Z"⟩, prog_14_method_37_code, 6, (some FieldType.boolean), [])
abbrev mMo_allTrue : qM := (⟨"BagPlannerModel", "allTrue", "(I)Z"⟩, prog_14_method_35_code, 6, (some FieldType.boolean), [])
abbrev mMo_valueOf : qM := (⟨"BagPlannerModel", "valueOf", "(II)I"⟩, prog_14_method_34_code, 3, (some FieldType.int), [])
abbrev mMo_count : qM := (⟨"BagPlannerModel", "count", "(I)Z"⟩, prog_14_method_36_code, 3, (some FieldType.boolean), [])
abbrev mMo_merge : qM := (⟨"BagPlannerModel", "merge", "(I)Z"⟩, prog_14_method_40_code, 8, (some FieldType.boolean), [])
abbrev mMo_inBlock : qM := (⟨"BagPlannerModel", "inBlock", "(I)I"⟩, prog_14_method_38_code, 4, (some FieldType.int), [])
abbrev mMo_addNew : qM := (⟨"BagPlannerModel", "addNew", "()Z"⟩, prog_14_method_39_code, 5, (some FieldType.boolean), [])
abbrev mMo_settle : qM := (⟨"BagPlannerModel", "settle", "(I)V"⟩, prog_14_method_42_code, 5, (none : Option FieldType), [])
abbrev mMo_isBefore : qM := (⟨"BagPlannerModel", "isBefore", "(II)Z"⟩, prog_14_method_41_code, 4, (some FieldType.boolean), [])
abbrev mMo_row : qM := (⟨"BagPlannerModel", "row", "(II)I"⟩, prog_14_method_44_code, 3, (some FieldType.int), [])
abbrev mMo_times : qM := (⟨"BagPlannerModel", "times", "(I)I"⟩, prog_14_method_45_code, 2, (some FieldType.int), [])
abbrev mMo_total : qM := (⟨"BagPlannerModel", "total", "()I"⟩, prog_14_method_46_code, 3, (some FieldType.int), [])
abbrev mMo_alike : qM := (⟨"BagPlannerModel", "alike", "(II)Z"⟩, prog_14_method_62_code, 8, (some FieldType.boolean), [])
abbrev mMo_form : qM := (⟨"BagPlannerModel", "form", "(II)V"⟩, prog_14_method_50_code, 6, (none : Option FieldType), [])
abbrev mMo_node : qM := (⟨"BagPlannerModel", "node", "(II)I"⟩, prog_14_method_47_code, 4, (some FieldType.int), [])
abbrev mMo_unite : qM := (⟨"BagPlannerModel", "unite", "(III)V"⟩, prog_14_method_48_code, 7, (none : Option FieldType), [])
abbrev mMo_areOne : qM := (⟨"BagPlannerModel", "areOne", "(IIII)Z"⟩, prog_14_method_49_code, 8, (some FieldType.boolean), [])
abbrev mMo_join : qM := (⟨"BagPlannerModel", "join", "(IIII)V"⟩, prog_14_method_51_code, 8, (none : Option FieldType), [])
abbrev mMo_isEmpty : qM := (⟨"BagPlannerModel", "isEmpty", "(II)Z"⟩, prog_14_method_53_code, 9, (some FieldType.boolean), [])
abbrev mMo_numberOf : qM := (⟨"BagPlannerModel", "numberOf", "(II)I"⟩, prog_14_method_52_code, 5, (some FieldType.int), [])
abbrev mMo_leftOver : qM := (⟨"BagPlannerModel", "leftOver", "(II)I"⟩, prog_14_method_54_code, 5, (some FieldType.int), [])
abbrev mMo_isPairing : qM := (⟨"BagPlannerModel", "isPairing", "(III)Z"⟩, prog_14_method_61_code, 8, (some FieldType.boolean), [])
abbrev mMo_fits : qM := (⟨"BagPlannerModel", "fits", "(II)Z"⟩, prog_14_method_60_code, 6, (some FieldType.boolean), [])
abbrev mMo_classesGo : qM := (⟨"BagPlannerModel", "classesGo", "(I)Z"⟩, prog_14_method_57_code, 7, (some FieldType.boolean), [])
abbrev mMo_goWith : qM := (⟨"BagPlannerModel", "goWith", "(III)Z"⟩, prog_14_method_56_code, 5, (some FieldType.boolean), [])
abbrev mMo_paired : qM := (⟨"BagPlannerModel", "paired", "(II)I"⟩, prog_14_method_55_code, 5, (some FieldType.int), [])
abbrev mMo_isOpen : qM := (⟨"BagPlannerModel", "isOpen", "(II)Z"⟩, prog_14_method_58_code, 3, (some FieldType.boolean), [])
abbrev mMo_sameLess : qM := (⟨"BagPlannerModel", "sameLess", "(III)Z"⟩, prog_14_method_59_code, 4, (some FieldType.boolean), [])
abbrev mMo_sources : qM := (⟨"BagPlannerModel", "sources", "(I)I"⟩, prog_14_method_63_code, 2, (some FieldType.int), [])
end
section
def qv (ad : Nat → Nat) : Value → Value
  | .ref a => .ref (ad a)
  | v => v
def qown (t : Nat) : Bool := decide (t < 60) || (decide (64 ≤ t) && decide (t < 80))

def qcok (C : String) (T : u_T) (N : Nat) (ty : Nat → FieldType) : Prop :=
  (∀ k, k < N → parseFieldDescriptor (T k).2.2.1 = some (ty k)) ∧ (∀ a, a < N → ∀ b, b < N → a ≠ b → (T a).2.1 ≠ (T b).2.1) ∧ ∀ w ∈ u_ws C T N, w ∈ lw_tbl

def qfl (own : String) (idx ct k N : Nat) (t : FieldType) (fin : Bool) : Prop := ∃ (C : String) (T : u_T) (ty : Nat → FieldType), classes[ct]? = some (C, T, N) ∧ qown ct = true ∧ ct < 64 ∧ k < N ∧ (T k).1 = C ∧ qcok C T N ty ∧ ty k = t ∧ (T k).2.2.2 = fin ∧
  (Cond.fieldLink own idx C (T k).2.1 (T k).2.2.1 ∈ lw_tbl ∨ ∃ host, Cond.fieldLinkNest own idx C (T k).2.1 (T k).2.2.1 host ∈ lw_tbl)

def qfF (own : String) (idx ct k N : Nat) (t : FieldType) : Prop := ∃ (C : String) (T : u_T) (ty : Nat → FieldType), classes[ct]? = some (C, T, N) ∧ qown ct = true ∧ ct < 64 ∧ k < N ∧ (T k).1 = C ∧ C = own ∧ qcok C T N ty ∧ ty k = t ∧ (T k).2.2.2 = true ∧
  Cond.fieldLink own idx C (T k).2.1 (T k).2.2.1 ∈ lw_tbl

def qnw (own : String) (idx ct : Nat) (fs : List Value) : Prop := ∃ (C : String) (T : u_T) (ty : Nat → FieldType), classes[ct]? = some (C, T, fs.length) ∧ ct < 64 ∧ fs.length ≤ 256 ∧ qcok C T fs.length ty ∧ (∀ k, k < fs.length → fs[k]? = some (defaultValue (ty k))) ∧ (∀ v ∈ fs, ∀ ad, qv ad v = v) ∧
  Cond.classLink own idx C ∈ lw_tbl ∧ Cond.instantiable C fs.length ∈ lw_tbl ∧ Cond.initialized C ∈ lw_tbl

def qme (M : qM) : Prop := plainName M.1.cls = true ∧ M.2.2.1 ≤ 30 ∧ (M.1.cls ≠ "java/lang/invoke/MethodHandle" ∧ M.1.cls ≠ "java/lang/invoke/VarHandle") ∧
  ((Cond.code M.1 M.2.1 M.2.2.1 M.2.2.2.1 ∈ lw_tbl ∧ M.2.2.2.2 = []) ∨ Cond.codeWith M.1 M.2.1 M.2.2.1 M.2.2.2.1 M.2.2.2.2 ∈ lw_tbl) ∧ Cond.initialized M.1.cls ∈ lw_tbl
def qlk (own : String) (idx : Nat) (M : qM) : Prop := Cond.methodLink own idx M.1 ∈ lw_tbl ∨ ∃ host, Cond.methodLinkNest own idx M.1 host ∈ lw_tbl
end
section
theorem q_tw {w : Cond} (i : Nat) (h : tables_1[i]? = some w) : w ∈ lw_tbl := List.mem_append_right _ (List.mem_of_getElem? h)
theorem q_tp {w : Cond} (i : Nat) (h : (k2_sels lw_privs)[i]? = some w) : w ∈ lw_tbl := List.mem_append_left _ (List.mem_of_getElem? h)
theorem q_tws {ws : List Cond} (ps : List Nat) (h : ws = ps.filterMap (fun i => tables_1[i]?)) : ∀ w ∈ ws, w ∈ lw_tbl := by
  intro w hw
  rw [h] at hw
  obtain ⟨i, -, hi⟩ := List.mem_filterMap.mp hw
  exact q_tw i hi
theorem zcBp : qcok zRBp zFBp 13 zTBp := ⟨by decide +kernel, by decide +kernel, q_tws [343, 345, 347, 349, 351, 353, 355, 357, 359, 361, 363, 365, 367] (by decide +kernel)⟩
theorem zcBag : qcok zRBag zFBag 4 zTBag := ⟨by decide +kernel, by decide +kernel, q_tws [243, 245, 247, 249] (by decide +kernel)⟩
theorem zcBl : qcok zRBl zFBl 10 zTBl := ⟨by decide +kernel, by decide +kernel, q_tws [174, 176, 178, 180, 182, 184, 186, 188, 190, 192] (by decide +kernel)⟩
theorem zcCat : qcok zRCat zFCat 2 zTCat := ⟨by decide +kernel, by decide +kernel, q_tws [77, 79] (by decide +kernel)⟩
theorem zcNf : qcok zRNf zFNf 15 zTNf := ⟨by decide +kernel, by decide +kernel, q_tws [286, 288, 290, 292, 294, 296, 298, 300, 302, 304, 306, 308, 310, 312, 314] (by decide +kernel)⟩
theorem zcPg : qcok zRPg zFPg 2 zTPg := ⟨by decide +kernel, by decide +kernel, q_tws [325, 327] (by decide +kernel)⟩
theorem zcPlan : qcok zRPlan zFPlan 4 zTPlan := ⟨by decide +kernel, by decide +kernel, q_tws [220, 222, 224, 226] (by decide +kernel)⟩
theorem zcQu : qcok zRQu zFQu 3 zTQu := ⟨by decide +kernel, by decide +kernel, q_tws [203, 205, 207] (by decide +kernel)⟩
theorem zcRd : qcok zRRd zFRd 1 zTRd := ⟨by decide +kernel, by decide +kernel, q_tws [127] (by decide +kernel)⟩
theorem zcTab : qcok zRTab zFTab 4 zTTab := ⟨by decide +kernel, by decide +kernel, q_tws [59, 61, 63, 65] (by decide +kernel)⟩
theorem zcTxt : qcok zRTxt zFTxt 2 zTTxt := ⟨by decide +kernel, by decide +kernel, q_tws [92, 94] (by decide +kernel)⟩
theorem zcTok : qcok zRTok zFTok 5 zTTok := ⟨by decide +kernel, by decide +kernel, q_tws [115, 117, 119, 121, 123] (by decide +kernel)⟩
theorem zcMo : qcok zRMo zFMo 44 zTMo := ⟨by decide +kernel, by decide +kernel, q_tws [1109, 1111, 1113, 1115, 1117, 1119, 1121, 1123, 1125, 1127, 1129, 1131, 1133, 1135, 1137, 1139, 1141, 1143, 1145, 1147, 1149, 1151, 1153, 1155, 1157, 1159, 1161, 1163, 1165, 1167, 1169, 1171, 1173, 1175, 1177, 1179, 1181, 1183, 1185, 1187, 1189, 1191, 1193, 1195] (by decide +kernel)⟩
theorem fTab_19 : qfl "BagPlanner$Table" 19 9 0 4 .int false := ⟨zRTab, zFTab, zTTab, rfl, rfl, by decide, by decide, rfl, zcTab, rfl, rfl, Or.inl (q_tw 49 (by decide +kernel))⟩
theorem fCat_22 : qfl "BagPlanner$Catalog" 22 9 0 4 .int false := ⟨zRTab, zFTab, zTTab, rfl, rfl, by decide, by decide, rfl, zcTab, rfl, rfl, Or.inr ⟨"BagPlanner", q_tw 50 (by decide +kernel)⟩⟩
theorem fNf_130 : qfl "BagPlanner$NormalForm" 130 9 0 4 .int false := ⟨zRTab, zFTab, zTTab, rfl, rfl, by decide, by decide, rfl, zcTab, rfl, rfl, Or.inr ⟨"BagPlanner", q_tw 51 (by decide +kernel)⟩⟩
theorem fTab_23 : qfl "BagPlanner$Table" 23 9 1 4 .int false := ⟨zRTab, zFTab, zTTab, rfl, rfl, by decide, by decide, rfl, zcTab, rfl, rfl, Or.inl (q_tw 52 (by decide +kernel))⟩
theorem fBp_125 : qfl "BagPlanner" 125 9 1 4 .int false := ⟨zRTab, zFTab, zTTab, rfl, rfl, by decide, by decide, rfl, zcTab, rfl, rfl, Or.inr ⟨"BagPlanner", q_tw 53 (by decide +kernel)⟩⟩
theorem fPlan_102 : qfl "BagPlanner$Plan" 102 9 1 4 .int false := ⟨zRTab, zFTab, zTTab, rfl, rfl, by decide, by decide, rfl, zcTab, rfl, rfl, Or.inr ⟨"BagPlanner", q_tw 54 (by decide +kernel)⟩⟩
theorem fTab_9 : qfl "BagPlanner$Table" 9 9 2 4 (.array .boolean) true := ⟨zRTab, zFTab, zTTab, rfl, rfl, by decide, by decide, rfl, zcTab, rfl, rfl, Or.inl (q_tw 55 (by decide +kernel))⟩
theorem gTab_9 : qfF "BagPlanner$Table" 9 9 2 4 (.array .boolean) := ⟨zRTab, zFTab, zTTab, rfl, rfl, by decide, by decide, rfl, rfl, zcTab, rfl, rfl, q_tw 55 (by decide +kernel)⟩
theorem fBp_112 : qfl "BagPlanner" 112 9 2 4 (.array .boolean) true := ⟨zRTab, zFTab, zTTab, rfl, rfl, by decide, by decide, rfl, zcTab, rfl, rfl, Or.inr ⟨"BagPlanner", q_tw 56 (by decide +kernel)⟩⟩
theorem fNf_135 : qfl "BagPlanner$NormalForm" 135 9 2 4 (.array .boolean) true := ⟨zRTab, zFTab, zTTab, rfl, rfl, by decide, by decide, rfl, zcTab, rfl, rfl, Or.inr ⟨"BagPlanner", q_tw 57 (by decide +kernel)⟩⟩
theorem fTab_15 : qfl "BagPlanner$Table" 15 9 3 4 (.array .int) true := ⟨zRTab, zFTab, zTTab, rfl, rfl, by decide, by decide, rfl, zcTab, rfl, rfl, Or.inl (q_tw 58 (by decide +kernel))⟩
theorem gTab_15 : qfF "BagPlanner$Table" 15 9 3 4 (.array .int) := ⟨zRTab, zFTab, zTTab, rfl, rfl, by decide, by decide, rfl, rfl, zcTab, rfl, rfl, q_tw 58 (by decide +kernel)⟩
theorem fCat_11 : qfl "BagPlanner$Catalog" 11 3 0 2 (.array (.object "BagPlanner$Table")) true := ⟨zRCat, zFCat, zTCat, rfl, rfl, by decide, by decide, rfl, zcCat, rfl, rfl, Or.inl (q_tw 70 (by decide +kernel))⟩
theorem gCat_11 : qfF "BagPlanner$Catalog" 11 3 0 2 (.array (.object "BagPlanner$Table")) := ⟨zRCat, zFCat, zTCat, rfl, rfl, by decide, by decide, rfl, rfl, zcCat, rfl, rfl, q_tw 70 (by decide +kernel)⟩
theorem fBp_121 : qfl "BagPlanner" 121 3 0 2 (.array (.object "BagPlanner$Table")) true := ⟨zRCat, zFCat, zTCat, rfl, rfl, by decide, by decide, rfl, zcCat, rfl, rfl, Or.inr ⟨"BagPlanner", q_tw 71 (by decide +kernel)⟩⟩
theorem fPlan_93 : qfl "BagPlanner$Plan" 93 3 0 2 (.array (.object "BagPlanner$Table")) true := ⟨zRCat, zFCat, zTCat, rfl, rfl, by decide, by decide, rfl, zcCat, rfl, rfl, Or.inr ⟨"BagPlanner", q_tw 72 (by decide +kernel)⟩⟩
theorem fNf_124 : qfl "BagPlanner$NormalForm" 124 3 0 2 (.array (.object "BagPlanner$Table")) true := ⟨zRCat, zFCat, zTCat, rfl, rfl, by decide, by decide, rfl, zcCat, rfl, rfl, Or.inr ⟨"BagPlanner", q_tw 73 (by decide +kernel)⟩⟩
theorem fBl_56 : qfl "BagPlanner$Block" 56 3 0 2 (.array (.object "BagPlanner$Table")) true := ⟨zRCat, zFCat, zTCat, rfl, rfl, by decide, by decide, rfl, zcCat, rfl, rfl, Or.inr ⟨"BagPlanner", q_tw 74 (by decide +kernel)⟩⟩
theorem fCat_18 : qfl "BagPlanner$Catalog" 18 3 1 2 .int false := ⟨zRCat, zFCat, zTCat, rfl, rfl, by decide, by decide, rfl, zcCat, rfl, rfl, Or.inl (q_tw 75 (by decide +kernel))⟩
theorem fBp_88 : qfl "BagPlanner" 88 3 1 2 .int false := ⟨zRCat, zFCat, zTCat, rfl, rfl, by decide, by decide, rfl, zcCat, rfl, rfl, Or.inr ⟨"BagPlanner", q_tw 76 (by decide +kernel)⟩⟩
theorem fTxt_9 : qfl "BagPlanner$Text" 9 10 0 2 (.array .char) true := ⟨zRTxt, zFTxt, zTTxt, rfl, rfl, by decide, by decide, rfl, zcTxt, rfl, rfl, Or.inl (q_tw 88 (by decide +kernel))⟩
theorem gTxt_9 : qfF "BagPlanner$Text" 9 10 0 2 (.array .char) := ⟨zRTxt, zFTxt, zTTxt, rfl, rfl, by decide, by decide, rfl, rfl, zcTxt, rfl, rfl, q_tw 88 (by decide +kernel)⟩
theorem fTok_33 : qfl "BagPlanner$Tokens" 33 10 0 2 (.array .char) true := ⟨zRTxt, zFTxt, zTTxt, rfl, rfl, by decide, by decide, rfl, zcTxt, rfl, rfl, Or.inr ⟨"BagPlanner", q_tw 89 (by decide +kernel)⟩⟩
theorem fTxt_19 : qfl "BagPlanner$Text" 19 10 1 2 .int false := ⟨zRTxt, zFTxt, zTTxt, rfl, rfl, by decide, by decide, rfl, zcTxt, rfl, rfl, Or.inl (q_tw 90 (by decide +kernel))⟩
theorem fTok_28 : qfl "BagPlanner$Tokens" 28 10 1 2 .int false := ⟨zRTxt, zFTxt, zTTxt, rfl, rfl, by decide, by decide, rfl, zcTxt, rfl, rfl, Or.inr ⟨"BagPlanner", q_tw 91 (by decide +kernel)⟩⟩
theorem fTok_9 : qfl "BagPlanner$Tokens" 9 11 0 5 (.array .int) true := ⟨zRTok, zFTok, zTTok, rfl, rfl, by decide, by decide, rfl, zcTok, rfl, rfl, Or.inl (q_tw 110 (by decide +kernel))⟩
theorem gTok_9 : qfF "BagPlanner$Tokens" 9 11 0 5 (.array .int) := ⟨zRTok, zFTok, zTTok, rfl, rfl, by decide, by decide, rfl, rfl, zcTok, rfl, rfl, q_tw 110 (by decide +kernel)⟩
theorem fTok_15 : qfl "BagPlanner$Tokens" 15 11 1 5 (.array .int) true := ⟨zRTok, zFTok, zTTok, rfl, rfl, by decide, by decide, rfl, zcTok, rfl, rfl, Or.inl (q_tw 111 (by decide +kernel))⟩
theorem gTok_15 : qfF "BagPlanner$Tokens" 15 11 1 5 (.array .int) := ⟨zRTok, zFTok, zTTok, rfl, rfl, by decide, by decide, rfl, rfl, zcTok, rfl, rfl, q_tw 111 (by decide +kernel)⟩
theorem fTok_18 : qfl "BagPlanner$Tokens" 18 11 2 5 (.array .int) true := ⟨zRTok, zFTok, zTTok, rfl, rfl, by decide, by decide, rfl, zcTok, rfl, rfl, Or.inl (q_tw 112 (by decide +kernel))⟩
theorem gTok_18 : qfF "BagPlanner$Tokens" 18 11 2 5 (.array .int) := ⟨zRTok, zFTok, zTTok, rfl, rfl, by decide, by decide, rfl, rfl, zcTok, rfl, rfl, q_tw 112 (by decide +kernel)⟩
theorem fTok_21 : qfl "BagPlanner$Tokens" 21 11 3 5 .int false := ⟨zRTok, zFTok, zTTok, rfl, rfl, by decide, by decide, rfl, zcTok, rfl, rfl, Or.inl (q_tw 113 (by decide +kernel))⟩
theorem fTok_25 : qfl "BagPlanner$Tokens" 25 11 4 5 .int false := ⟨zRTok, zFTok, zTTok, rfl, rfl, by decide, by decide, rfl, zcTok, rfl, rfl, Or.inl (q_tw 114 (by decide +kernel))⟩
theorem fRd_12 : qfl "BagPlanner$Reader" 12 8 0 1 (.object "BagPlanner$Tokens") true := ⟨zRRd, zFRd, zTRd, rfl, rfl, by decide, by decide, rfl, zcRd, rfl, rfl, Or.inl (q_tw 126 (by decide +kernel))⟩
theorem gRd_12 : qfF "BagPlanner$Reader" 12 8 0 1 (.object "BagPlanner$Tokens") := ⟨zRRd, zFRd, zTRd, rfl, rfl, by decide, by decide, rfl, rfl, zcRd, rfl, rfl, q_tw 126 (by decide +kernel)⟩
theorem fNf_43 : qfl "BagPlanner$NormalForm" 43 2 0 10 .boolean false := ⟨zRBl, zFBl, zTBl, rfl, rfl, by decide, by decide, rfl, zcBl, rfl, rfl, Or.inr ⟨"BagPlanner", q_tw 144 (by decide +kernel)⟩⟩
theorem fPlan_52 : qfl "BagPlanner$Plan" 52 2 0 10 .boolean false := ⟨zRBl, zFBl, zTBl, rfl, rfl, by decide, by decide, rfl, zcBl, rfl, rfl, Or.inr ⟨"BagPlanner", q_tw 145 (by decide +kernel)⟩⟩
theorem fBl_35 : qfl "BagPlanner$Block" 35 2 0 10 .boolean false := ⟨zRBl, zFBl, zTBl, rfl, rfl, by decide, by decide, rfl, zcBl, rfl, rfl, Or.inl (q_tw 146 (by decide +kernel))⟩
theorem fRd_70 : qfl "BagPlanner$Reader" 70 2 0 10 .boolean false := ⟨zRBl, zFBl, zTBl, rfl, rfl, by decide, by decide, rfl, zcBl, rfl, rfl, Or.inr ⟨"BagPlanner", q_tw 147 (by decide +kernel)⟩⟩
theorem fPlan_25 : qfl "BagPlanner$Plan" 25 2 1 10 .int false := ⟨zRBl, zFBl, zTBl, rfl, rfl, by decide, by decide, rfl, zcBl, rfl, rfl, Or.inr ⟨"BagPlanner", q_tw 148 (by decide +kernel)⟩⟩
theorem fRd_50 : qfl "BagPlanner$Reader" 50 2 1 10 .int false := ⟨zRBl, zFBl, zTBl, rfl, rfl, by decide, by decide, rfl, zcBl, rfl, rfl, Or.inr ⟨"BagPlanner", q_tw 149 (by decide +kernel)⟩⟩
theorem fBl_39 : qfl "BagPlanner$Block" 39 2 1 10 .int false := ⟨zRBl, zFBl, zTBl, rfl, rfl, by decide, by decide, rfl, zcBl, rfl, rfl, Or.inl (q_tw 150 (by decide +kernel))⟩
theorem fNf_145 : qfl "BagPlanner$NormalForm" 145 2 1 10 .int false := ⟨zRBl, zFBl, zTBl, rfl, rfl, by decide, by decide, rfl, zcBl, rfl, rfl, Or.inr ⟨"BagPlanner", q_tw 151 (by decide +kernel)⟩⟩
theorem fBl_43 : qfl "BagPlanner$Block" 43 2 2 10 .int false := ⟨zRBl, zFBl, zTBl, rfl, rfl, by decide, by decide, rfl, zcBl, rfl, rfl, Or.inl (q_tw 152 (by decide +kernel))⟩
theorem fPlan_82 : qfl "BagPlanner$Plan" 82 2 2 10 .int false := ⟨zRBl, zFBl, zTBl, rfl, rfl, by decide, by decide, rfl, zcBl, rfl, rfl, Or.inr ⟨"BagPlanner", q_tw 153 (by decide +kernel)⟩⟩
theorem fNf_111 : qfl "BagPlanner$NormalForm" 111 2 2 10 .int false := ⟨zRBl, zFBl, zTBl, rfl, rfl, by decide, by decide, rfl, zcBl, rfl, rfl, Or.inr ⟨"BagPlanner", q_tw 154 (by decide +kernel)⟩⟩
theorem fPlan_66 : qfl "BagPlanner$Plan" 66 2 3 10 .int false := ⟨zRBl, zFBl, zTBl, rfl, rfl, by decide, by decide, rfl, zcBl, rfl, rfl, Or.inr ⟨"BagPlanner", q_tw 155 (by decide +kernel)⟩⟩
theorem fBl_46 : qfl "BagPlanner$Block" 46 2 3 10 .int false := ⟨zRBl, zFBl, zTBl, rfl, rfl, by decide, by decide, rfl, zcBl, rfl, rfl, Or.inl (q_tw 156 (by decide +kernel))⟩
theorem fRd_114 : qfl "BagPlanner$Reader" 114 2 3 10 .int false := ⟨zRBl, zFBl, zTBl, rfl, rfl, by decide, by decide, rfl, zcBl, rfl, rfl, Or.inr ⟨"BagPlanner", q_tw 157 (by decide +kernel)⟩⟩
theorem fNf_90 : qfl "BagPlanner$NormalForm" 90 2 3 10 .int false := ⟨zRBl, zFBl, zTBl, rfl, rfl, by decide, by decide, rfl, zcBl, rfl, rfl, Or.inr ⟨"BagPlanner", q_tw 158 (by decide +kernel)⟩⟩
theorem fBl_9 : qfl "BagPlanner$Block" 9 2 4 10 (.array .int) true := ⟨zRBl, zFBl, zTBl, rfl, rfl, by decide, by decide, rfl, zcBl, rfl, rfl, Or.inl (q_tw 159 (by decide +kernel))⟩
theorem gBl_9 : qfF "BagPlanner$Block" 9 2 4 10 (.array .int) := ⟨zRBl, zFBl, zTBl, rfl, rfl, by decide, by decide, rfl, rfl, zcBl, rfl, rfl, q_tw 159 (by decide +kernel)⟩
theorem fPlan_99 : qfl "BagPlanner$Plan" 99 2 4 10 (.array .int) true := ⟨zRBl, zFBl, zTBl, rfl, rfl, by decide, by decide, rfl, zcBl, rfl, rfl, Or.inr ⟨"BagPlanner", q_tw 160 (by decide +kernel)⟩⟩
theorem fNf_121 : qfl "BagPlanner$NormalForm" 121 2 4 10 (.array .int) true := ⟨zRBl, zFBl, zTBl, rfl, rfl, by decide, by decide, rfl, zcBl, rfl, rfl, Or.inr ⟨"BagPlanner", q_tw 161 (by decide +kernel)⟩⟩
theorem fBl_15 : qfl "BagPlanner$Block" 15 2 5 10 (.array .int) true := ⟨zRBl, zFBl, zTBl, rfl, rfl, by decide, by decide, rfl, zcBl, rfl, rfl, Or.inl (q_tw 162 (by decide +kernel))⟩
theorem gBl_15 : qfF "BagPlanner$Block" 15 2 5 10 (.array .int) := ⟨zRBl, zFBl, zTBl, rfl, rfl, by decide, by decide, rfl, rfl, zcBl, rfl, rfl, q_tw 162 (by decide +kernel)⟩
theorem fBl_18 : qfl "BagPlanner$Block" 18 2 6 10 (.array .boolean) true := ⟨zRBl, zFBl, zTBl, rfl, rfl, by decide, by decide, rfl, zcBl, rfl, rfl, Or.inl (q_tw 163 (by decide +kernel))⟩
theorem gBl_18 : qfF "BagPlanner$Block" 18 2 6 10 (.array .boolean) := ⟨zRBl, zFBl, zTBl, rfl, rfl, by decide, by decide, rfl, rfl, zcBl, rfl, rfl, q_tw 163 (by decide +kernel)⟩
theorem fRd_107 : qfl "BagPlanner$Reader" 107 2 6 10 (.array .boolean) true := ⟨zRBl, zFBl, zTBl, rfl, rfl, by decide, by decide, rfl, zcBl, rfl, rfl, Or.inr ⟨"BagPlanner", q_tw 164 (by decide +kernel)⟩⟩
theorem fPlan_111 : qfl "BagPlanner$Plan" 111 2 6 10 (.array .boolean) true := ⟨zRBl, zFBl, zTBl, rfl, rfl, by decide, by decide, rfl, zcBl, rfl, rfl, Or.inr ⟨"BagPlanner", q_tw 165 (by decide +kernel)⟩⟩
theorem fNf_93 : qfl "BagPlanner$NormalForm" 93 2 6 10 (.array .boolean) true := ⟨zRBl, zFBl, zTBl, rfl, rfl, by decide, by decide, rfl, zcBl, rfl, rfl, Or.inr ⟨"BagPlanner", q_tw 166 (by decide +kernel)⟩⟩
theorem fBl_22 : qfl "BagPlanner$Block" 22 2 7 10 (.array .int) true := ⟨zRBl, zFBl, zTBl, rfl, rfl, by decide, by decide, rfl, zcBl, rfl, rfl, Or.inl (q_tw 167 (by decide +kernel))⟩
theorem gBl_22 : qfF "BagPlanner$Block" 22 2 7 10 (.array .int) := ⟨zRBl, zFBl, zTBl, rfl, rfl, by decide, by decide, rfl, rfl, zcBl, rfl, rfl, q_tw 167 (by decide +kernel)⟩
theorem fBl_25 : qfl "BagPlanner$Block" 25 2 8 10 (.array .int) true := ⟨zRBl, zFBl, zTBl, rfl, rfl, by decide, by decide, rfl, zcBl, rfl, rfl, Or.inl (q_tw 168 (by decide +kernel))⟩
theorem gBl_25 : qfF "BagPlanner$Block" 25 2 8 10 (.array .int) := ⟨zRBl, zFBl, zTBl, rfl, rfl, by decide, by decide, rfl, rfl, zcBl, rfl, rfl, q_tw 168 (by decide +kernel)⟩
theorem fPlan_63 : qfl "BagPlanner$Plan" 63 2 8 10 (.array .int) true := ⟨zRBl, zFBl, zTBl, rfl, rfl, by decide, by decide, rfl, zcBl, rfl, rfl, Or.inr ⟨"BagPlanner", q_tw 169 (by decide +kernel)⟩⟩
theorem fNf_80 : qfl "BagPlanner$NormalForm" 80 2 8 10 (.array .int) true := ⟨zRBl, zFBl, zTBl, rfl, rfl, by decide, by decide, rfl, zcBl, rfl, rfl, Or.inr ⟨"BagPlanner", q_tw 170 (by decide +kernel)⟩⟩
theorem fBl_28 : qfl "BagPlanner$Block" 28 2 9 10 (.array .int) true := ⟨zRBl, zFBl, zTBl, rfl, rfl, by decide, by decide, rfl, zcBl, rfl, rfl, Or.inl (q_tw 171 (by decide +kernel))⟩
theorem gBl_28 : qfF "BagPlanner$Block" 28 2 9 10 (.array .int) := ⟨zRBl, zFBl, zTBl, rfl, rfl, by decide, by decide, rfl, rfl, zcBl, rfl, rfl, q_tw 171 (by decide +kernel)⟩
theorem fNf_83 : qfl "BagPlanner$NormalForm" 83 2 9 10 (.array .int) true := ⟨zRBl, zFBl, zTBl, rfl, rfl, by decide, by decide, rfl, zcBl, rfl, rfl, Or.inr ⟨"BagPlanner", q_tw 172 (by decide +kernel)⟩⟩
theorem fPlan_114 : qfl "BagPlanner$Plan" 114 2 9 10 (.array .int) true := ⟨zRBl, zFBl, zTBl, rfl, rfl, by decide, by decide, rfl, zcBl, rfl, rfl, Or.inr ⟨"BagPlanner", q_tw 173 (by decide +kernel)⟩⟩
theorem fRd_22 : qfl "BagPlanner$Reader" 22 7 0 3 .int false := ⟨zRQu, zFQu, zTQu, rfl, rfl, by decide, by decide, rfl, zcQu, rfl, rfl, Or.inr ⟨"BagPlanner", q_tw 195 (by decide +kernel)⟩⟩
theorem fBp_222 : qfl "BagPlanner" 222 7 0 3 .int false := ⟨zRQu, zFQu, zTQu, rfl, rfl, by decide, by decide, rfl, zcQu, rfl, rfl, Or.inr ⟨"BagPlanner", q_tw 196 (by decide +kernel)⟩⟩
theorem fQu_11 : qfl "BagPlanner$Question" 11 7 1 3 (.array (.object "BagPlanner$Block")) true := ⟨zRQu, zFQu, zTQu, rfl, rfl, by decide, by decide, rfl, zcQu, rfl, rfl, Or.inl (q_tw 197 (by decide +kernel))⟩
theorem gQu_11 : qfF "BagPlanner$Question" 11 7 1 3 (.array (.object "BagPlanner$Block")) := ⟨zRQu, zFQu, zTQu, rfl, rfl, by decide, by decide, rfl, rfl, zcQu, rfl, rfl, q_tw 197 (by decide +kernel)⟩
theorem fRd_32 : qfl "BagPlanner$Reader" 32 7 1 3 (.array (.object "BagPlanner$Block")) true := ⟨zRQu, zFQu, zTQu, rfl, rfl, by decide, by decide, rfl, zcQu, rfl, rfl, Or.inr ⟨"BagPlanner", q_tw 198 (by decide +kernel)⟩⟩
theorem fBp_227 : qfl "BagPlanner" 227 7 1 3 (.array (.object "BagPlanner$Block")) true := ⟨zRQu, zFQu, zTQu, rfl, rfl, by decide, by decide, rfl, zcQu, rfl, rfl, Or.inr ⟨"BagPlanner", q_tw 199 (by decide +kernel)⟩⟩
theorem fQu_17 : qfl "BagPlanner$Question" 17 7 2 3 (.array .int) true := ⟨zRQu, zFQu, zTQu, rfl, rfl, by decide, by decide, rfl, zcQu, rfl, rfl, Or.inl (q_tw 200 (by decide +kernel))⟩
theorem gQu_17 : qfF "BagPlanner$Question" 17 7 2 3 (.array .int) := ⟨zRQu, zFQu, zTQu, rfl, rfl, by decide, by decide, rfl, rfl, zcQu, rfl, rfl, q_tw 200 (by decide +kernel)⟩
theorem fRd_57 : qfl "BagPlanner$Reader" 57 7 2 3 (.array .int) true := ⟨zRQu, zFQu, zTQu, rfl, rfl, by decide, by decide, rfl, zcQu, rfl, rfl, Or.inr ⟨"BagPlanner", q_tw 201 (by decide +kernel)⟩⟩
theorem fBp_235 : qfl "BagPlanner" 235 7 2 3 (.array .int) true := ⟨zRQu, zFQu, zTQu, rfl, rfl, by decide, by decide, rfl, zcQu, rfl, rfl, Or.inr ⟨"BagPlanner", q_tw 202 (by decide +kernel)⟩⟩
theorem fPlan_9 : qfl "BagPlanner$Plan" 9 6 0 4 (.array .int) true := ⟨zRPlan, zFPlan, zTPlan, rfl, rfl, by decide, by decide, rfl, zcPlan, rfl, rfl, Or.inl (q_tw 216 (by decide +kernel))⟩
theorem gPlan_9 : qfF "BagPlanner$Plan" 9 6 0 4 (.array .int) := ⟨zRPlan, zFPlan, zTPlan, rfl, rfl, by decide, by decide, rfl, rfl, zcPlan, rfl, rfl, q_tw 216 (by decide +kernel)⟩
theorem fPlan_15 : qfl "BagPlanner$Plan" 15 6 1 4 (.array .boolean) true := ⟨zRPlan, zFPlan, zTPlan, rfl, rfl, by decide, by decide, rfl, zcPlan, rfl, rfl, Or.inl (q_tw 217 (by decide +kernel))⟩
theorem gPlan_15 : qfF "BagPlanner$Plan" 15 6 1 4 (.array .boolean) := ⟨zRPlan, zFPlan, zTPlan, rfl, rfl, by decide, by decide, rfl, rfl, zcPlan, rfl, rfl, q_tw 217 (by decide +kernel)⟩
theorem fPlan_19 : qfl "BagPlanner$Plan" 19 6 2 4 (.array .int) true := ⟨zRPlan, zFPlan, zTPlan, rfl, rfl, by decide, by decide, rfl, zcPlan, rfl, rfl, Or.inl (q_tw 218 (by decide +kernel))⟩
theorem gPlan_19 : qfF "BagPlanner$Plan" 19 6 2 4 (.array .int) := ⟨zRPlan, zFPlan, zTPlan, rfl, rfl, by decide, by decide, rfl, rfl, zcPlan, rfl, rfl, q_tw 218 (by decide +kernel)⟩
theorem fPlan_22 : qfl "BagPlanner$Plan" 22 6 3 4 (.array .int) true := ⟨zRPlan, zFPlan, zTPlan, rfl, rfl, by decide, by decide, rfl, zcPlan, rfl, rfl, Or.inl (q_tw 219 (by decide +kernel))⟩
theorem gPlan_22 : qfF "BagPlanner$Plan" 22 6 3 4 (.array .int) := ⟨zRPlan, zFPlan, zTPlan, rfl, rfl, by decide, by decide, rfl, rfl, zcPlan, rfl, rfl, q_tw 219 (by decide +kernel)⟩
theorem fBag_18 : qfl "BagPlanner$Bag" 18 1 0 4 .int false := ⟨zRBag, zFBag, zTBag, rfl, rfl, by decide, by decide, rfl, zcBag, rfl, rfl, Or.inl (q_tw 235 (by decide +kernel))⟩
theorem fBp_176 : qfl "BagPlanner" 176 1 0 4 .int false := ⟨zRBag, zFBag, zTBag, rfl, rfl, by decide, by decide, rfl, zcBag, rfl, rfl, Or.inr ⟨"BagPlanner", q_tw 236 (by decide +kernel)⟩⟩
theorem fBag_22 : qfl "BagPlanner$Bag" 22 1 1 4 .int false := ⟨zRBag, zFBag, zTBag, rfl, rfl, by decide, by decide, rfl, zcBag, rfl, rfl, Or.inl (q_tw 237 (by decide +kernel))⟩
theorem fBp_172 : qfl "BagPlanner" 172 1 1 4 .int false := ⟨zRBag, zFBag, zTBag, rfl, rfl, by decide, by decide, rfl, zcBag, rfl, rfl, Or.inr ⟨"BagPlanner", q_tw 238 (by decide +kernel)⟩⟩
theorem fBag_9 : qfl "BagPlanner$Bag" 9 1 2 4 (.array .int) true := ⟨zRBag, zFBag, zTBag, rfl, rfl, by decide, by decide, rfl, zcBag, rfl, rfl, Or.inl (q_tw 239 (by decide +kernel))⟩
theorem gBag_9 : qfF "BagPlanner$Bag" 9 1 2 4 (.array .int) := ⟨zRBag, zFBag, zTBag, rfl, rfl, by decide, by decide, rfl, rfl, zcBag, rfl, rfl, q_tw 239 (by decide +kernel)⟩
theorem fBp_184 : qfl "BagPlanner" 184 1 2 4 (.array .int) true := ⟨zRBag, zFBag, zTBag, rfl, rfl, by decide, by decide, rfl, zcBag, rfl, rfl, Or.inr ⟨"BagPlanner", q_tw 240 (by decide +kernel)⟩⟩
theorem fBag_15 : qfl "BagPlanner$Bag" 15 1 3 4 (.array .int) true := ⟨zRBag, zFBag, zTBag, rfl, rfl, by decide, by decide, rfl, zcBag, rfl, rfl, Or.inl (q_tw 241 (by decide +kernel))⟩
theorem gBag_15 : qfF "BagPlanner$Bag" 15 1 3 4 (.array .int) := ⟨zRBag, zFBag, zTBag, rfl, rfl, by decide, by decide, rfl, rfl, zcBag, rfl, rfl, q_tw 241 (by decide +kernel)⟩
theorem fBp_190 : qfl "BagPlanner" 190 1 3 4 (.array .int) true := ⟨zRBag, zFBag, zTBag, rfl, rfl, by decide, by decide, rfl, zcBag, rfl, rfl, Or.inr ⟨"BagPlanner", q_tw 242 (by decide +kernel)⟩⟩
theorem fNf_39 : qfl "BagPlanner$NormalForm" 39 4 0 15 .boolean false := ⟨zRNf, zFNf, zTNf, rfl, rfl, by decide, by decide, rfl, zcNf, rfl, rfl, Or.inl (q_tw 258 (by decide +kernel))⟩
theorem fPg_29 : qfl "BagPlanner$Pairing" 29 4 0 15 .boolean false := ⟨zRNf, zFNf, zTNf, rfl, rfl, by decide, by decide, rfl, zcNf, rfl, rfl, Or.inr ⟨"BagPlanner", q_tw 259 (by decide +kernel)⟩⟩
theorem fBp_208 : qfl "BagPlanner" 208 4 0 15 .boolean false := ⟨zRNf, zFNf, zTNf, rfl, rfl, by decide, by decide, rfl, zcNf, rfl, rfl, Or.inr ⟨"BagPlanner", q_tw 260 (by decide +kernel)⟩⟩
theorem fPg_19 : qfl "BagPlanner$Pairing" 19 4 1 15 .boolean false := ⟨zRNf, zFNf, zTNf, rfl, rfl, by decide, by decide, rfl, zcNf, rfl, rfl, Or.inr ⟨"BagPlanner", q_tw 261 (by decide +kernel)⟩⟩
theorem fNf_48 : qfl "BagPlanner$NormalForm" 48 4 1 15 .boolean false := ⟨zRNf, zFNf, zTNf, rfl, rfl, by decide, by decide, rfl, zcNf, rfl, rfl, Or.inl (q_tw 262 (by decide +kernel))⟩
theorem fPg_25 : qfl "BagPlanner$Pairing" 25 4 2 15 .int false := ⟨zRNf, zFNf, zTNf, rfl, rfl, by decide, by decide, rfl, zcNf, rfl, rfl, Or.inr ⟨"BagPlanner", q_tw 263 (by decide +kernel)⟩⟩
theorem fNf_148 : qfl "BagPlanner$NormalForm" 148 4 2 15 .int false := ⟨zRNf, zFNf, zTNf, rfl, rfl, by decide, by decide, rfl, zcNf, rfl, rfl, Or.inl (q_tw 264 (by decide +kernel))⟩
theorem fNf_9 : qfl "BagPlanner$NormalForm" 9 4 3 15 (.array .int) true := ⟨zRNf, zFNf, zTNf, rfl, rfl, by decide, by decide, rfl, zcNf, rfl, rfl, Or.inl (q_tw 265 (by decide +kernel))⟩
theorem gNf_9 : qfF "BagPlanner$NormalForm" 9 4 3 15 (.array .int) := ⟨zRNf, zFNf, zTNf, rfl, rfl, by decide, by decide, rfl, rfl, zcNf, rfl, rfl, q_tw 265 (by decide +kernel)⟩
theorem fPg_66 : qfl "BagPlanner$Pairing" 66 4 3 15 (.array .int) true := ⟨zRNf, zFNf, zTNf, rfl, rfl, by decide, by decide, rfl, zcNf, rfl, rfl, Or.inr ⟨"BagPlanner", q_tw 266 (by decide +kernel)⟩⟩
theorem fPg_72 : qfl "BagPlanner$Pairing" 72 4 4 15 .int false := ⟨zRNf, zFNf, zTNf, rfl, rfl, by decide, by decide, rfl, zcNf, rfl, rfl, Or.inr ⟨"BagPlanner", q_tw 267 (by decide +kernel)⟩⟩
theorem fNf_138 : qfl "BagPlanner$NormalForm" 138 4 4 15 .int false := ⟨zRNf, zFNf, zTNf, rfl, rfl, by decide, by decide, rfl, zcNf, rfl, rfl, Or.inl (q_tw 268 (by decide +kernel))⟩
theorem fNf_15 : qfl "BagPlanner$NormalForm" 15 4 5 15 (.array .int) true := ⟨zRNf, zFNf, zTNf, rfl, rfl, by decide, by decide, rfl, zcNf, rfl, rfl, Or.inl (q_tw 269 (by decide +kernel))⟩
theorem gNf_15 : qfF "BagPlanner$NormalForm" 15 4 5 15 (.array .int) := ⟨zRNf, zFNf, zTNf, rfl, rfl, by decide, by decide, rfl, rfl, zcNf, rfl, rfl, q_tw 269 (by decide +kernel)⟩
theorem fPg_78 : qfl "BagPlanner$Pairing" 78 4 5 15 (.array .int) true := ⟨zRNf, zFNf, zTNf, rfl, rfl, by decide, by decide, rfl, zcNf, rfl, rfl, Or.inr ⟨"BagPlanner", q_tw 270 (by decide +kernel)⟩⟩
theorem fNf_18 : qfl "BagPlanner$NormalForm" 18 4 6 15 (.array .int) true := ⟨zRNf, zFNf, zTNf, rfl, rfl, by decide, by decide, rfl, zcNf, rfl, rfl, Or.inl (q_tw 271 (by decide +kernel))⟩
theorem gNf_18 : qfF "BagPlanner$NormalForm" 18 4 6 15 (.array .int) := ⟨zRNf, zFNf, zTNf, rfl, rfl, by decide, by decide, rfl, rfl, zcNf, rfl, rfl, q_tw 271 (by decide +kernel)⟩
theorem fPg_81 : qfl "BagPlanner$Pairing" 81 4 6 15 (.array .int) true := ⟨zRNf, zFNf, zTNf, rfl, rfl, by decide, by decide, rfl, zcNf, rfl, rfl, Or.inr ⟨"BagPlanner", q_tw 272 (by decide +kernel)⟩⟩
theorem fPg_32 : qfl "BagPlanner$Pairing" 32 4 7 15 .int false := ⟨zRNf, zFNf, zTNf, rfl, rfl, by decide, by decide, rfl, zcNf, rfl, rfl, Or.inr ⟨"BagPlanner", q_tw 273 (by decide +kernel)⟩⟩
theorem fNf_149 : qfl "BagPlanner$NormalForm" 149 4 7 15 .int false := ⟨zRNf, zFNf, zTNf, rfl, rfl, by decide, by decide, rfl, zcNf, rfl, rfl, Or.inl (q_tw 274 (by decide +kernel))⟩
theorem fBp_212 : qfl "BagPlanner" 212 4 7 15 .int false := ⟨zRNf, zFNf, zTNf, rfl, rfl, by decide, by decide, rfl, zcNf, rfl, rfl, Or.inr ⟨"BagPlanner", q_tw 275 (by decide +kernel)⟩⟩
theorem fNf_21 : qfl "BagPlanner$NormalForm" 21 4 8 15 (.array .int) true := ⟨zRNf, zFNf, zTNf, rfl, rfl, by decide, by decide, rfl, zcNf, rfl, rfl, Or.inl (q_tw 276 (by decide +kernel))⟩
theorem gNf_21 : qfF "BagPlanner$NormalForm" 21 4 8 15 (.array .int) := ⟨zRNf, zFNf, zTNf, rfl, rfl, by decide, by decide, rfl, rfl, zcNf, rfl, rfl, q_tw 276 (by decide +kernel)⟩
theorem fNf_24 : qfl "BagPlanner$NormalForm" 24 4 9 15 (.array .int) true := ⟨zRNf, zFNf, zTNf, rfl, rfl, by decide, by decide, rfl, zcNf, rfl, rfl, Or.inl (q_tw 277 (by decide +kernel))⟩
theorem gNf_24 : qfF "BagPlanner$NormalForm" 24 4 9 15 (.array .int) := ⟨zRNf, zFNf, zTNf, rfl, rfl, by decide, by decide, rfl, rfl, zcNf, rfl, rfl, q_tw 277 (by decide +kernel)⟩
theorem fPg_49 : qfl "BagPlanner$Pairing" 49 4 9 15 (.array .int) true := ⟨zRNf, zFNf, zTNf, rfl, rfl, by decide, by decide, rfl, zcNf, rfl, rfl, Or.inr ⟨"BagPlanner", q_tw 278 (by decide +kernel)⟩⟩
theorem fNf_27 : qfl "BagPlanner$NormalForm" 27 4 10 15 (.array .int) true := ⟨zRNf, zFNf, zTNf, rfl, rfl, by decide, by decide, rfl, zcNf, rfl, rfl, Or.inl (q_tw 279 (by decide +kernel))⟩
theorem gNf_27 : qfF "BagPlanner$NormalForm" 27 4 10 15 (.array .int) := ⟨zRNf, zFNf, zTNf, rfl, rfl, by decide, by decide, rfl, rfl, zcNf, rfl, rfl, q_tw 279 (by decide +kernel)⟩
theorem fPg_52 : qfl "BagPlanner$Pairing" 52 4 10 15 (.array .int) true := ⟨zRNf, zFNf, zTNf, rfl, rfl, by decide, by decide, rfl, zcNf, rfl, rfl, Or.inr ⟨"BagPlanner", q_tw 280 (by decide +kernel)⟩⟩
theorem fNf_72 : qfl "BagPlanner$NormalForm" 72 4 11 15 .int false := ⟨zRNf, zFNf, zTNf, rfl, rfl, by decide, by decide, rfl, zcNf, rfl, rfl, Or.inl (q_tw 281 (by decide +kernel))⟩
theorem fNf_30 : qfl "BagPlanner$NormalForm" 30 4 12 15 (.array .int) true := ⟨zRNf, zFNf, zTNf, rfl, rfl, by decide, by decide, rfl, zcNf, rfl, rfl, Or.inl (q_tw 282 (by decide +kernel))⟩
theorem gNf_30 : qfF "BagPlanner$NormalForm" 30 4 12 15 (.array .int) := ⟨zRNf, zFNf, zTNf, rfl, rfl, by decide, by decide, rfl, rfl, zcNf, rfl, rfl, q_tw 282 (by decide +kernel)⟩
theorem fNf_33 : qfl "BagPlanner$NormalForm" 33 4 13 15 (.array .int) true := ⟨zRNf, zFNf, zTNf, rfl, rfl, by decide, by decide, rfl, zcNf, rfl, rfl, Or.inl (q_tw 283 (by decide +kernel))⟩
theorem gNf_33 : qfF "BagPlanner$NormalForm" 33 4 13 15 (.array .int) := ⟨zRNf, zFNf, zTNf, rfl, rfl, by decide, by decide, rfl, rfl, zcNf, rfl, rfl, q_tw 283 (by decide +kernel)⟩
theorem fNf_36 : qfl "BagPlanner$NormalForm" 36 4 14 15 (.array .int) true := ⟨zRNf, zFNf, zTNf, rfl, rfl, by decide, by decide, rfl, zcNf, rfl, rfl, Or.inl (q_tw 284 (by decide +kernel))⟩
theorem gNf_36 : qfF "BagPlanner$NormalForm" 36 4 14 15 (.array .int) := ⟨zRNf, zFNf, zTNf, rfl, rfl, by decide, by decide, rfl, rfl, zcNf, rfl, rfl, q_tw 284 (by decide +kernel)⟩
theorem fPg_63 : qfl "BagPlanner$Pairing" 63 4 14 15 (.array .int) true := ⟨zRNf, zFNf, zTNf, rfl, rfl, by decide, by decide, rfl, zcNf, rfl, rfl, Or.inr ⟨"BagPlanner", q_tw 285 (by decide +kernel)⟩⟩
theorem fPg_9 : qfl "BagPlanner$Pairing" 9 5 0 2 (.array .int) true := ⟨zRPg, zFPg, zTPg, rfl, rfl, by decide, by decide, rfl, zcPg, rfl, rfl, Or.inl (q_tw 323 (by decide +kernel))⟩
theorem gPg_9 : qfF "BagPlanner$Pairing" 9 5 0 2 (.array .int) := ⟨zRPg, zFPg, zTPg, rfl, rfl, by decide, by decide, rfl, rfl, zcPg, rfl, rfl, q_tw 323 (by decide +kernel)⟩
theorem fPg_15 : qfl "BagPlanner$Pairing" 15 5 1 2 (.array .boolean) true := ⟨zRPg, zFPg, zTPg, rfl, rfl, by decide, by decide, rfl, zcPg, rfl, rfl, Or.inl (q_tw 324 (by decide +kernel))⟩
theorem gPg_15 : qfF "BagPlanner$Pairing" 15 5 1 2 (.array .boolean) := ⟨zRPg, zFPg, zTPg, rfl, rfl, by decide, by decide, rfl, rfl, zcPg, rfl, rfl, q_tw 324 (by decide +kernel)⟩
theorem fBp_12 : qfl "BagPlanner" 12 0 0 13 (.object "BagPlanner$Catalog") true := ⟨zRBp, zFBp, zTBp, rfl, rfl, by decide, by decide, rfl, zcBp, rfl, rfl, Or.inl (q_tw 330 (by decide +kernel))⟩
theorem gBp_12 : qfF "BagPlanner" 12 0 0 13 (.object "BagPlanner$Catalog") := ⟨zRBp, zFBp, zTBp, rfl, rfl, by decide, by decide, rfl, rfl, zcBp, rfl, rfl, q_tw 330 (by decide +kernel)⟩
theorem fBp_19 : qfl "BagPlanner" 19 0 1 13 (.object "BagPlanner$Text") true := ⟨zRBp, zFBp, zTBp, rfl, rfl, by decide, by decide, rfl, zcBp, rfl, rfl, Or.inl (q_tw 331 (by decide +kernel))⟩
theorem gBp_19 : qfF "BagPlanner" 19 0 1 13 (.object "BagPlanner$Text") := ⟨zRBp, zFBp, zTBp, rfl, rfl, by decide, by decide, rfl, rfl, zcBp, rfl, rfl, q_tw 331 (by decide +kernel)⟩
theorem fBp_26 : qfl "BagPlanner" 26 0 2 13 (.object "BagPlanner$Reader") true := ⟨zRBp, zFBp, zTBp, rfl, rfl, by decide, by decide, rfl, zcBp, rfl, rfl, Or.inl (q_tw 332 (by decide +kernel))⟩
theorem gBp_26 : qfF "BagPlanner" 26 0 2 13 (.object "BagPlanner$Reader") := ⟨zRBp, zFBp, zTBp, rfl, rfl, by decide, by decide, rfl, rfl, zcBp, rfl, rfl, q_tw 332 (by decide +kernel)⟩
theorem fBp_32 : qfl "BagPlanner" 32 0 3 13 (.array (.object "BagPlanner$Question")) true := ⟨zRBp, zFBp, zTBp, rfl, rfl, by decide, by decide, rfl, zcBp, rfl, rfl, Or.inl (q_tw 333 (by decide +kernel))⟩
theorem gBp_32 : qfF "BagPlanner" 32 0 3 13 (.array (.object "BagPlanner$Question")) := ⟨zRBp, zFBp, zTBp, rfl, rfl, by decide, by decide, rfl, rfl, zcBp, rfl, rfl, q_tw 333 (by decide +kernel)⟩
theorem fBp_37 : qfl "BagPlanner" 37 0 4 13 .int false := ⟨zRBp, zFBp, zTBp, rfl, rfl, by decide, by decide, rfl, zcBp, rfl, rfl, Or.inl (q_tw 334 (by decide +kernel))⟩
theorem fBp_41 : qfl "BagPlanner" 41 0 5 13 .int false := ⟨zRBp, zFBp, zTBp, rfl, rfl, by decide, by decide, rfl, zcBp, rfl, rfl, Or.inl (q_tw 335 (by decide +kernel))⟩
theorem fBp_47 : qfl "BagPlanner" 47 0 6 13 (.object "BagPlanner$Plan") true := ⟨zRBp, zFBp, zTBp, rfl, rfl, by decide, by decide, rfl, zcBp, rfl, rfl, Or.inl (q_tw 336 (by decide +kernel))⟩
theorem gBp_47 : qfF "BagPlanner" 47 0 6 13 (.object "BagPlanner$Plan") := ⟨zRBp, zFBp, zTBp, rfl, rfl, by decide, by decide, rfl, rfl, zcBp, rfl, rfl, q_tw 336 (by decide +kernel)⟩
theorem fBp_54 : qfl "BagPlanner" 54 0 7 13 (.object "BagPlanner$Bag") false := ⟨zRBp, zFBp, zTBp, rfl, rfl, by decide, by decide, rfl, zcBp, rfl, rfl, Or.inl (q_tw 337 (by decide +kernel))⟩
theorem fBp_58 : qfl "BagPlanner" 58 0 8 13 (.object "BagPlanner$Bag") false := ⟨zRBp, zFBp, zTBp, rfl, rfl, by decide, by decide, rfl, zcBp, rfl, rfl, Or.inl (q_tw 338 (by decide +kernel))⟩
theorem fBp_61 : qfl "BagPlanner" 61 0 9 13 (.object "BagPlanner$Bag") true := ⟨zRBp, zFBp, zTBp, rfl, rfl, by decide, by decide, rfl, zcBp, rfl, rfl, Or.inl (q_tw 339 (by decide +kernel))⟩
theorem gBp_61 : qfF "BagPlanner" 61 0 9 13 (.object "BagPlanner$Bag") := ⟨zRBp, zFBp, zTBp, rfl, rfl, by decide, by decide, rfl, rfl, zcBp, rfl, rfl, q_tw 339 (by decide +kernel)⟩
theorem fBp_67 : qfl "BagPlanner" 67 0 10 13 (.object "BagPlanner$NormalForm") true := ⟨zRBp, zFBp, zTBp, rfl, rfl, by decide, by decide, rfl, zcBp, rfl, rfl, Or.inl (q_tw 340 (by decide +kernel))⟩
theorem gBp_67 : qfF "BagPlanner" 67 0 10 13 (.object "BagPlanner$NormalForm") := ⟨zRBp, zFBp, zTBp, rfl, rfl, by decide, by decide, rfl, rfl, zcBp, rfl, rfl, q_tw 340 (by decide +kernel)⟩
theorem fBp_71 : qfl "BagPlanner" 71 0 11 13 (.object "BagPlanner$NormalForm") true := ⟨zRBp, zFBp, zTBp, rfl, rfl, by decide, by decide, rfl, zcBp, rfl, rfl, Or.inl (q_tw 341 (by decide +kernel))⟩
theorem gBp_71 : qfF "BagPlanner" 71 0 11 13 (.object "BagPlanner$NormalForm") := ⟨zRBp, zFBp, zTBp, rfl, rfl, by decide, by decide, rfl, rfl, zcBp, rfl, rfl, q_tw 341 (by decide +kernel)⟩
theorem fBp_77 : qfl "BagPlanner" 77 0 12 13 (.object "BagPlanner$Pairing") true := ⟨zRBp, zFBp, zTBp, rfl, rfl, by decide, by decide, rfl, zcBp, rfl, rfl, Or.inl (q_tw 342 (by decide +kernel))⟩
theorem gBp_77 : qfF "BagPlanner" 77 0 12 13 (.object "BagPlanner$Pairing") := ⟨zRBp, zFBp, zTBp, rfl, rfl, by decide, by decide, rfl, rfl, zcBp, rfl, rfl, q_tw 342 (by decide +kernel)⟩
theorem fMo_106 : qfl "BagPlannerModel" 106 12 0 44 .int false := ⟨zRMo, zFMo, zTMo, rfl, rfl, by decide, by decide, rfl, zcMo, rfl, rfl, Or.inl (q_tw 1066 (by decide +kernel))⟩
theorem fMo_109 : qfl "BagPlannerModel" 109 12 1 44 .int false := ⟨zRMo, zFMo, zTMo, rfl, rfl, by decide, by decide, rfl, zcMo, rfl, rfl, Or.inl (q_tw 1067 (by decide +kernel))⟩
theorem fMo_7 : qfl "BagPlannerModel" 7 12 2 44 (.array .int) true := ⟨zRMo, zFMo, zTMo, rfl, rfl, by decide, by decide, rfl, zcMo, rfl, rfl, Or.inl (q_tw 1068 (by decide +kernel))⟩
theorem gMo_7 : qfF "BagPlannerModel" 7 12 2 44 (.array .int) := ⟨zRMo, zFMo, zTMo, rfl, rfl, by decide, by decide, rfl, rfl, zcMo, rfl, rfl, q_tw 1068 (by decide +kernel)⟩
theorem fMo_13 : qfl "BagPlannerModel" 13 12 3 44 (.array .int) true := ⟨zRMo, zFMo, zTMo, rfl, rfl, by decide, by decide, rfl, zcMo, rfl, rfl, Or.inl (q_tw 1069 (by decide +kernel))⟩
theorem gMo_13 : qfF "BagPlannerModel" 13 12 3 44 (.array .int) := ⟨zRMo, zFMo, zTMo, rfl, rfl, by decide, by decide, rfl, rfl, zcMo, rfl, rfl, q_tw 1069 (by decide +kernel)⟩
theorem fMo_16 : qfl "BagPlannerModel" 16 12 4 44 (.array .int) true := ⟨zRMo, zFMo, zTMo, rfl, rfl, by decide, by decide, rfl, zcMo, rfl, rfl, Or.inl (q_tw 1070 (by decide +kernel))⟩
theorem gMo_16 : qfF "BagPlannerModel" 16 12 4 44 (.array .int) := ⟨zRMo, zFMo, zTMo, rfl, rfl, by decide, by decide, rfl, rfl, zcMo, rfl, rfl, q_tw 1070 (by decide +kernel)⟩
theorem fMo_19 : qfl "BagPlannerModel" 19 12 5 44 (.array .boolean) true := ⟨zRMo, zFMo, zTMo, rfl, rfl, by decide, by decide, rfl, zcMo, rfl, rfl, Or.inl (q_tw 1071 (by decide +kernel))⟩
theorem gMo_19 : qfF "BagPlannerModel" 19 12 5 44 (.array .boolean) := ⟨zRMo, zFMo, zTMo, rfl, rfl, by decide, by decide, rfl, rfl, zcMo, rfl, rfl, q_tw 1071 (by decide +kernel)⟩
theorem fMo_122 : qfl "BagPlannerModel" 122 12 6 44 .int false := ⟨zRMo, zFMo, zTMo, rfl, rfl, by decide, by decide, rfl, zcMo, rfl, rfl, Or.inl (q_tw 1072 (by decide +kernel))⟩
theorem fMo_23 : qfl "BagPlannerModel" 23 12 7 44 (.array .char) true := ⟨zRMo, zFMo, zTMo, rfl, rfl, by decide, by decide, rfl, zcMo, rfl, rfl, Or.inl (q_tw 1073 (by decide +kernel))⟩
theorem gMo_23 : qfF "BagPlannerModel" 23 12 7 44 (.array .char) := ⟨zRMo, zFMo, zTMo, rfl, rfl, by decide, by decide, rfl, rfl, zcMo, rfl, rfl, q_tw 1073 (by decide +kernel)⟩
theorem fMo_27 : qfl "BagPlannerModel" 27 12 8 44 .int false := ⟨zRMo, zFMo, zTMo, rfl, rfl, by decide, by decide, rfl, zcMo, rfl, rfl, Or.inl (q_tw 1074 (by decide +kernel))⟩
theorem fMo_135 : qfl "BagPlannerModel" 135 12 9 44 .int false := ⟨zRMo, zFMo, zTMo, rfl, rfl, by decide, by decide, rfl, zcMo, rfl, rfl, Or.inl (q_tw 1075 (by decide +kernel))⟩
theorem fMo_128 : qfl "BagPlannerModel" 128 12 10 44 .int false := ⟨zRMo, zFMo, zTMo, rfl, rfl, by decide, by decide, rfl, zcMo, rfl, rfl, Or.inl (q_tw 1076 (by decide +kernel))⟩
theorem fMo_125 : qfl "BagPlannerModel" 125 12 11 44 .int false := ⟨zRMo, zFMo, zTMo, rfl, rfl, by decide, by decide, rfl, zcMo, rfl, rfl, Or.inl (q_tw 1077 (by decide +kernel))⟩
theorem fMo_145 : qfl "BagPlannerModel" 145 12 12 44 .int false := ⟨zRMo, zFMo, zTMo, rfl, rfl, by decide, by decide, rfl, zcMo, rfl, rfl, Or.inl (q_tw 1078 (by decide +kernel))⟩
theorem fMo_202 : qfl "BagPlannerModel" 202 12 13 44 .int false := ⟨zRMo, zFMo, zTMo, rfl, rfl, by decide, by decide, rfl, zcMo, rfl, rfl, Or.inl (q_tw 1079 (by decide +kernel))⟩
theorem fMo_31 : qfl "BagPlannerModel" 31 12 14 44 (.array .int) true := ⟨zRMo, zFMo, zTMo, rfl, rfl, by decide, by decide, rfl, zcMo, rfl, rfl, Or.inl (q_tw 1080 (by decide +kernel))⟩
theorem gMo_31 : qfF "BagPlannerModel" 31 12 14 44 (.array .int) := ⟨zRMo, zFMo, zTMo, rfl, rfl, by decide, by decide, rfl, rfl, zcMo, rfl, rfl, q_tw 1080 (by decide +kernel)⟩
theorem fMo_34 : qfl "BagPlannerModel" 34 12 15 44 (.array .int) true := ⟨zRMo, zFMo, zTMo, rfl, rfl, by decide, by decide, rfl, zcMo, rfl, rfl, Or.inl (q_tw 1081 (by decide +kernel))⟩
theorem gMo_34 : qfF "BagPlannerModel" 34 12 15 44 (.array .int) := ⟨zRMo, zFMo, zTMo, rfl, rfl, by decide, by decide, rfl, rfl, zcMo, rfl, rfl, q_tw 1081 (by decide +kernel)⟩
theorem fMo_37 : qfl "BagPlannerModel" 37 12 16 44 (.array .boolean) true := ⟨zRMo, zFMo, zTMo, rfl, rfl, by decide, by decide, rfl, zcMo, rfl, rfl, Or.inl (q_tw 1082 (by decide +kernel))⟩
theorem gMo_37 : qfF "BagPlannerModel" 37 12 16 44 (.array .boolean) := ⟨zRMo, zFMo, zTMo, rfl, rfl, by decide, by decide, rfl, rfl, zcMo, rfl, rfl, q_tw 1082 (by decide +kernel)⟩
theorem fMo_40 : qfl "BagPlannerModel" 40 12 17 44 (.array .int) true := ⟨zRMo, zFMo, zTMo, rfl, rfl, by decide, by decide, rfl, zcMo, rfl, rfl, Or.inl (q_tw 1083 (by decide +kernel))⟩
theorem gMo_40 : qfF "BagPlannerModel" 40 12 17 44 (.array .int) := ⟨zRMo, zFMo, zTMo, rfl, rfl, by decide, by decide, rfl, rfl, zcMo, rfl, rfl, q_tw 1083 (by decide +kernel)⟩
theorem fMo_43 : qfl "BagPlannerModel" 43 12 18 44 (.array .int) true := ⟨zRMo, zFMo, zTMo, rfl, rfl, by decide, by decide, rfl, zcMo, rfl, rfl, Or.inl (q_tw 1084 (by decide +kernel))⟩
theorem gMo_43 : qfF "BagPlannerModel" 43 12 18 44 (.array .int) := ⟨zRMo, zFMo, zTMo, rfl, rfl, by decide, by decide, rfl, rfl, zcMo, rfl, rfl, q_tw 1084 (by decide +kernel)⟩
theorem fMo_46 : qfl "BagPlannerModel" 46 12 19 44 (.array .int) true := ⟨zRMo, zFMo, zTMo, rfl, rfl, by decide, by decide, rfl, zcMo, rfl, rfl, Or.inl (q_tw 1085 (by decide +kernel))⟩
theorem gMo_46 : qfF "BagPlannerModel" 46 12 19 44 (.array .int) := ⟨zRMo, zFMo, zTMo, rfl, rfl, by decide, by decide, rfl, rfl, zcMo, rfl, rfl, q_tw 1085 (by decide +kernel)⟩
theorem fMo_49 : qfl "BagPlannerModel" 49 12 20 44 (.array .int) true := ⟨zRMo, zFMo, zTMo, rfl, rfl, by decide, by decide, rfl, zcMo, rfl, rfl, Or.inl (q_tw 1086 (by decide +kernel))⟩
theorem gMo_49 : qfF "BagPlannerModel" 49 12 20 44 (.array .int) := ⟨zRMo, zFMo, zTMo, rfl, rfl, by decide, by decide, rfl, rfl, zcMo, rfl, rfl, q_tw 1086 (by decide +kernel)⟩
theorem fMo_52 : qfl "BagPlannerModel" 52 12 21 44 (.array .int) true := ⟨zRMo, zFMo, zTMo, rfl, rfl, by decide, by decide, rfl, zcMo, rfl, rfl, Or.inl (q_tw 1087 (by decide +kernel))⟩
theorem gMo_52 : qfF "BagPlannerModel" 52 12 21 44 (.array .int) := ⟨zRMo, zFMo, zTMo, rfl, rfl, by decide, by decide, rfl, rfl, zcMo, rfl, rfl, q_tw 1087 (by decide +kernel)⟩
theorem fMo_55 : qfl "BagPlannerModel" 55 12 22 44 (.array .int) true := ⟨zRMo, zFMo, zTMo, rfl, rfl, by decide, by decide, rfl, zcMo, rfl, rfl, Or.inl (q_tw 1088 (by decide +kernel))⟩
theorem gMo_55 : qfF "BagPlannerModel" 55 12 22 44 (.array .int) := ⟨zRMo, zFMo, zTMo, rfl, rfl, by decide, by decide, rfl, rfl, zcMo, rfl, rfl, q_tw 1088 (by decide +kernel)⟩
theorem fMo_58 : qfl "BagPlannerModel" 58 12 23 44 (.array .int) true := ⟨zRMo, zFMo, zTMo, rfl, rfl, by decide, by decide, rfl, zcMo, rfl, rfl, Or.inl (q_tw 1089 (by decide +kernel))⟩
theorem gMo_58 : qfF "BagPlannerModel" 58 12 23 44 (.array .int) := ⟨zRMo, zFMo, zTMo, rfl, rfl, by decide, by decide, rfl, rfl, zcMo, rfl, rfl, q_tw 1089 (by decide +kernel)⟩
theorem fMo_61 : qfl "BagPlannerModel" 61 12 24 44 (.array .int) true := ⟨zRMo, zFMo, zTMo, rfl, rfl, by decide, by decide, rfl, zcMo, rfl, rfl, Or.inl (q_tw 1090 (by decide +kernel))⟩
theorem gMo_61 : qfF "BagPlannerModel" 61 12 24 44 (.array .int) := ⟨zRMo, zFMo, zTMo, rfl, rfl, by decide, by decide, rfl, rfl, zcMo, rfl, rfl, q_tw 1090 (by decide +kernel)⟩
theorem fMo_64 : qfl "BagPlannerModel" 64 12 25 44 (.array .boolean) true := ⟨zRMo, zFMo, zTMo, rfl, rfl, by decide, by decide, rfl, zcMo, rfl, rfl, Or.inl (q_tw 1091 (by decide +kernel))⟩
theorem gMo_64 : qfF "BagPlannerModel" 64 12 25 44 (.array .boolean) := ⟨zRMo, zFMo, zTMo, rfl, rfl, by decide, by decide, rfl, rfl, zcMo, rfl, rfl, q_tw 1091 (by decide +kernel)⟩
theorem fMo_212 : qfl "BagPlannerModel" 212 12 26 44 .int false := ⟨zRMo, zFMo, zTMo, rfl, rfl, by decide, by decide, rfl, zcMo, rfl, rfl, Or.inl (q_tw 1092 (by decide +kernel))⟩
theorem fMo_67 : qfl "BagPlannerModel" 67 12 27 44 (.array .int) true := ⟨zRMo, zFMo, zTMo, rfl, rfl, by decide, by decide, rfl, zcMo, rfl, rfl, Or.inl (q_tw 1093 (by decide +kernel))⟩
theorem gMo_67 : qfF "BagPlannerModel" 67 12 27 44 (.array .int) := ⟨zRMo, zFMo, zTMo, rfl, rfl, by decide, by decide, rfl, rfl, zcMo, rfl, rfl, q_tw 1093 (by decide +kernel)⟩
theorem fMo_70 : qfl "BagPlannerModel" 70 12 28 44 (.array .int) true := ⟨zRMo, zFMo, zTMo, rfl, rfl, by decide, by decide, rfl, zcMo, rfl, rfl, Or.inl (q_tw 1094 (by decide +kernel))⟩
theorem gMo_70 : qfF "BagPlannerModel" 70 12 28 44 (.array .int) := ⟨zRMo, zFMo, zTMo, rfl, rfl, by decide, by decide, rfl, rfl, zcMo, rfl, rfl, q_tw 1094 (by decide +kernel)⟩
theorem fMo_221 : qfl "BagPlannerModel" 221 12 29 44 .int false := ⟨zRMo, zFMo, zTMo, rfl, rfl, by decide, by decide, rfl, zcMo, rfl, rfl, Or.inl (q_tw 1095 (by decide +kernel))⟩
theorem fMo_73 : qfl "BagPlannerModel" 73 12 30 44 (.array .int) true := ⟨zRMo, zFMo, zTMo, rfl, rfl, by decide, by decide, rfl, zcMo, rfl, rfl, Or.inl (q_tw 1096 (by decide +kernel))⟩
theorem gMo_73 : qfF "BagPlannerModel" 73 12 30 44 (.array .int) := ⟨zRMo, zFMo, zTMo, rfl, rfl, by decide, by decide, rfl, rfl, zcMo, rfl, rfl, q_tw 1096 (by decide +kernel)⟩
theorem fMo_76 : qfl "BagPlannerModel" 76 12 31 44 (.array .int) true := ⟨zRMo, zFMo, zTMo, rfl, rfl, by decide, by decide, rfl, zcMo, rfl, rfl, Or.inl (q_tw 1097 (by decide +kernel))⟩
theorem gMo_76 : qfF "BagPlannerModel" 76 12 31 44 (.array .int) := ⟨zRMo, zFMo, zTMo, rfl, rfl, by decide, by decide, rfl, rfl, zcMo, rfl, rfl, q_tw 1097 (by decide +kernel)⟩
theorem fMo_234 : qfl "BagPlannerModel" 234 12 33 44 .int false := ⟨zRMo, zFMo, zTMo, rfl, rfl, by decide, by decide, rfl, zcMo, rfl, rfl, Or.inl (q_tw 1098 (by decide +kernel))⟩
theorem fMo_237 : qfl "BagPlannerModel" 237 12 34 44 .int false := ⟨zRMo, zFMo, zTMo, rfl, rfl, by decide, by decide, rfl, zcMo, rfl, rfl, Or.inl (q_tw 1099 (by decide +kernel))⟩
theorem fMo_79 : qfl "BagPlannerModel" 79 12 35 44 (.array .int) true := ⟨zRMo, zFMo, zTMo, rfl, rfl, by decide, by decide, rfl, zcMo, rfl, rfl, Or.inl (q_tw 1100 (by decide +kernel))⟩
theorem gMo_79 : qfF "BagPlannerModel" 79 12 35 44 (.array .int) := ⟨zRMo, zFMo, zTMo, rfl, rfl, by decide, by decide, rfl, rfl, zcMo, rfl, rfl, q_tw 1100 (by decide +kernel)⟩
theorem fMo_82 : qfl "BagPlannerModel" 82 12 36 44 (.array .int) true := ⟨zRMo, zFMo, zTMo, rfl, rfl, by decide, by decide, rfl, zcMo, rfl, rfl, Or.inl (q_tw 1101 (by decide +kernel))⟩
theorem gMo_82 : qfF "BagPlannerModel" 82 12 36 44 (.array .int) := ⟨zRMo, zFMo, zTMo, rfl, rfl, by decide, by decide, rfl, rfl, zcMo, rfl, rfl, q_tw 1101 (by decide +kernel)⟩
theorem fMo_85 : qfl "BagPlannerModel" 85 12 37 44 (.array .int) true := ⟨zRMo, zFMo, zTMo, rfl, rfl, by decide, by decide, rfl, zcMo, rfl, rfl, Or.inl (q_tw 1102 (by decide +kernel))⟩
theorem gMo_85 : qfF "BagPlannerModel" 85 12 37 44 (.array .int) := ⟨zRMo, zFMo, zTMo, rfl, rfl, by decide, by decide, rfl, rfl, zcMo, rfl, rfl, q_tw 1102 (by decide +kernel)⟩
theorem fMo_88 : qfl "BagPlannerModel" 88 12 38 44 (.array .int) true := ⟨zRMo, zFMo, zTMo, rfl, rfl, by decide, by decide, rfl, zcMo, rfl, rfl, Or.inl (q_tw 1103 (by decide +kernel))⟩
theorem gMo_88 : qfF "BagPlannerModel" 88 12 38 44 (.array .int) := ⟨zRMo, zFMo, zTMo, rfl, rfl, by decide, by decide, rfl, rfl, zcMo, rfl, rfl, q_tw 1103 (by decide +kernel)⟩
theorem fMo_91 : qfl "BagPlannerModel" 91 12 39 44 (.array .int) true := ⟨zRMo, zFMo, zTMo, rfl, rfl, by decide, by decide, rfl, zcMo, rfl, rfl, Or.inl (q_tw 1104 (by decide +kernel))⟩
theorem gMo_91 : qfF "BagPlannerModel" 91 12 39 44 (.array .int) := ⟨zRMo, zFMo, zTMo, rfl, rfl, by decide, by decide, rfl, rfl, zcMo, rfl, rfl, q_tw 1104 (by decide +kernel)⟩
theorem fMo_94 : qfl "BagPlannerModel" 94 12 40 44 (.array .int) true := ⟨zRMo, zFMo, zTMo, rfl, rfl, by decide, by decide, rfl, zcMo, rfl, rfl, Or.inl (q_tw 1105 (by decide +kernel))⟩
theorem gMo_94 : qfF "BagPlannerModel" 94 12 40 44 (.array .int) := ⟨zRMo, zFMo, zTMo, rfl, rfl, by decide, by decide, rfl, rfl, zcMo, rfl, rfl, q_tw 1105 (by decide +kernel)⟩
theorem fMo_97 : qfl "BagPlannerModel" 97 12 41 44 (.array .int) true := ⟨zRMo, zFMo, zTMo, rfl, rfl, by decide, by decide, rfl, zcMo, rfl, rfl, Or.inl (q_tw 1106 (by decide +kernel))⟩
theorem gMo_97 : qfF "BagPlannerModel" 97 12 41 44 (.array .int) := ⟨zRMo, zFMo, zTMo, rfl, rfl, by decide, by decide, rfl, rfl, zcMo, rfl, rfl, q_tw 1106 (by decide +kernel)⟩
theorem fMo_100 : qfl "BagPlannerModel" 100 12 42 44 (.array .int) true := ⟨zRMo, zFMo, zTMo, rfl, rfl, by decide, by decide, rfl, zcMo, rfl, rfl, Or.inl (q_tw 1107 (by decide +kernel))⟩
theorem gMo_100 : qfF "BagPlannerModel" 100 12 42 44 (.array .int) := ⟨zRMo, zFMo, zTMo, rfl, rfl, by decide, by decide, rfl, rfl, zcMo, rfl, rfl, q_tw 1107 (by decide +kernel)⟩
theorem fMo_103 : qfl "BagPlannerModel" 103 12 43 44 (.array .int) true := ⟨zRMo, zFMo, zTMo, rfl, rfl, by decide, by decide, rfl, zcMo, rfl, rfl, Or.inl (q_tw 1108 (by decide +kernel))⟩
theorem gMo_103 : qfF "BagPlannerModel" 103 12 43 44 (.array .int) := ⟨zRMo, zFMo, zTMo, rfl, rfl, by decide, by decide, rfl, rfl, zcMo, rfl, rfl, q_tw 1108 (by decide +kernel)⟩
theorem nLa_8 : qnw "BagPlannerLaw" 8 0 [.null, .null, .null, .null, .int 0, .int 0, .null, .null, .null, .null, .null, .null, .null] := ⟨zRBp, zFBp, zTBp, rfl, by decide, by decide, zcBp, by decide +kernel, by intro v hv ad; simp only [List.mem_cons, List.not_mem_nil, or_false] at hv; rcases hv with rfl | rfl | rfl | rfl | rfl | rfl | rfl | rfl | rfl | rfl | rfl | rfl | rfl <;> rfl, q_tw 28 (by decide +kernel), q_tw 29 (by decide +kernel), q_tw 1 (by decide +kernel)⟩
theorem nBp_9 : qnw "BagPlanner" 9 3 [.null, .int 0] := ⟨zRCat, zFCat, zTCat, rfl, by decide, by decide, zcCat, by decide +kernel, by intro v hv ad; simp only [List.mem_cons, List.not_mem_nil, or_false] at hv; rcases hv with rfl | rfl <;> rfl, q_tw 36 (by decide +kernel), q_tw 37 (by decide +kernel), q_tw 2 (by decide +kernel)⟩
theorem nCat_9 : qnw "BagPlanner$Catalog" 9 9 [.int 0, .int 0, .null, .null] := ⟨zRTab, zFTab, zTTab, rfl, by decide, by decide, zcTab, by decide +kernel, by intro v hv ad; simp only [List.mem_cons, List.not_mem_nil, or_false] at hv; rcases hv with rfl | rfl | rfl | rfl <;> rfl, q_tw 42 (by decide +kernel), q_tw 44 (by decide +kernel), q_tw 3 (by decide +kernel)⟩
theorem nBp_16 : qnw "BagPlanner" 16 10 [.null, .int 0] := ⟨zRTxt, zFTxt, zTTxt, rfl, by decide, by decide, zcTxt, by decide +kernel, by intro v hv ad; simp only [List.mem_cons, List.not_mem_nil, or_false] at hv; rcases hv with rfl | rfl <;> rfl, q_tw 82 (by decide +kernel), q_tw 83 (by decide +kernel), q_tw 4 (by decide +kernel)⟩
theorem nBp_23 : qnw "BagPlanner" 23 8 [.null] := ⟨zRRd, zFRd, zTRd, rfl, by decide, by decide, zcRd, by decide +kernel, by intro v hv ad; simp only [List.mem_cons, List.not_mem_nil, or_false] at hv; rcases hv with rfl <;> rfl, q_tw 98 (by decide +kernel), q_tw 99 (by decide +kernel), q_tw 5 (by decide +kernel)⟩
theorem nRd_9 : qnw "BagPlanner$Reader" 9 11 [.null, .null, .null, .int 0, .int 0] := ⟨zRTok, zFTok, zTTok, rfl, by decide, by decide, zcTok, by decide +kernel, by intro v hv ad; simp only [List.mem_cons, List.not_mem_nil, or_false] at hv; rcases hv with rfl | rfl | rfl | rfl | rfl <;> rfl, q_tw 104 (by decide +kernel), q_tw 105 (by decide +kernel), q_tw 6 (by decide +kernel)⟩
theorem nBp_30 : qnw "BagPlanner" 30 7 [.int 0, .null, .null] := ⟨zRQu, zFQu, zTQu, rfl, by decide, by decide, zcQu, by decide +kernel, by intro v hv ad; simp only [List.mem_cons, List.not_mem_nil, or_false] at hv; rcases hv with rfl | rfl | rfl <;> rfl, q_tw 130 (by decide +kernel), q_tw 132 (by decide +kernel), q_tw 7 (by decide +kernel)⟩
theorem nQu_9 : qnw "BagPlanner$Question" 9 2 [.int 0, .int 0, .int 0, .int 0, .null, .null, .null, .null, .null, .null] := ⟨zRBl, zFBl, zTBl, rfl, by decide, by decide, zcBl, by decide +kernel, by intro v hv ad; simp only [List.mem_cons, List.not_mem_nil, or_false] at hv; rcases hv with rfl | rfl | rfl | rfl | rfl | rfl | rfl | rfl | rfl | rfl <;> rfl, q_tw 137 (by decide +kernel), q_tw 139 (by decide +kernel), q_tw 8 (by decide +kernel)⟩
theorem nBp_44 : qnw "BagPlanner" 44 6 [.null, .null, .null, .null] := ⟨zRPlan, zFPlan, zTPlan, rfl, by decide, by decide, zcPlan, by decide +kernel, by intro v hv ad; simp only [List.mem_cons, List.not_mem_nil, or_false] at hv; rcases hv with rfl | rfl | rfl | rfl <;> rfl, q_tw 210 (by decide +kernel), q_tw 211 (by decide +kernel), q_tw 9 (by decide +kernel)⟩
theorem nBp_51 : qnw "BagPlanner" 51 1 [.int 0, .int 0, .null, .null] := ⟨zRBag, zFBag, zTBag, rfl, by decide, by decide, zcBag, by decide +kernel, by intro v hv ad; simp only [List.mem_cons, List.not_mem_nil, or_false] at hv; rcases hv with rfl | rfl | rfl | rfl <;> rfl, q_tw 229 (by decide +kernel), q_tw 230 (by decide +kernel), q_tw 10 (by decide +kernel)⟩
theorem nBp_64 : qnw "BagPlanner" 64 4 [.int 0, .int 0, .int 0, .null, .int 0, .null, .null, .int 0, .null, .null, .null, .int 0, .null, .null, .null] := ⟨zRNf, zFNf, zTNf, rfl, by decide, by decide, zcNf, by decide +kernel, by intro v hv ad; simp only [List.mem_cons, List.not_mem_nil, or_false] at hv; rcases hv with rfl | rfl | rfl | rfl | rfl | rfl | rfl | rfl | rfl | rfl | rfl | rfl | rfl | rfl | rfl <;> rfl, q_tw 252 (by decide +kernel), q_tw 253 (by decide +kernel), q_tw 11 (by decide +kernel)⟩
theorem nBp_74 : qnw "BagPlanner" 74 5 [.null, .null] := ⟨zRPg, zFPg, zTPg, rfl, by decide, by decide, zcPg, by decide +kernel, by intro v hv ad; simp only [List.mem_cons, List.not_mem_nil, or_false] at hv; rcases hv with rfl | rfl <;> rfl, q_tw 317 (by decide +kernel), q_tw 318 (by decide +kernel), q_tw 12 (by decide +kernel)⟩
theorem nLa_55 : qnw "BagPlannerLaw" 55 12 [.int 0, .int 0, .null, .null, .null, .null, .int 0, .null, .int 0, .int 0, .int 0, .int 0, .int 0, .int 0, .null, .null, .null, .null, .null, .null, .null, .null, .null, .null, .null, .null, .int 0, .null, .null, .int 0, .null, .null, .int 0, .int 0, .int 0, .null, .null, .null, .null, .null, .null, .null, .null, .null] := ⟨zRMo, zFMo, zTMo, rfl, by decide, by decide, zcMo, by decide +kernel, by intro v hv ad; simp only [List.mem_cons, List.not_mem_nil, or_false] at hv; rcases hv with rfl | rfl | rfl | rfl | rfl | rfl | rfl | rfl | rfl | rfl | rfl | rfl | rfl | rfl | rfl | rfl | rfl | rfl | rfl | rfl | rfl | rfl | rfl | rfl | rfl | rfl | rfl | rfl | rfl | rfl | rfl | rfl | rfl | rfl | rfl | rfl | rfl | rfl | rfl | rfl | rfl | rfl | rfl | rfl <;> rfl, q_tw 1060 (by decide +kernel), q_tw 1061 (by decide +kernel), q_tw 13 (by decide +kernel)⟩
theorem eBp_init : qme mBp_init := ⟨by decide +kernel, by decide, ⟨by decide, by decide⟩, Or.inl ⟨q_tw 32 (by decide +kernel), rfl⟩, q_tw 1 (by decide +kernel)⟩
theorem iBp_init : Cond.instanceMethod mBp_init.1 ∈ lw_tbl := q_tw 31 (by decide +kernel)
theorem kBp_init : Cond.code mBp_init.1 mBp_init.2.1 mBp_init.2.2.1 none ∈ lw_tbl := q_tw 32 (by decide +kernel)
theorem eCat_init : qme mCat_init := ⟨by decide +kernel, by decide, ⟨by decide, by decide⟩, Or.inl ⟨q_tw 40 (by decide +kernel), rfl⟩, q_tw 2 (by decide +kernel)⟩
theorem iCat_init : Cond.instanceMethod mCat_init.1 ∈ lw_tbl := q_tw 39 (by decide +kernel)
theorem kCat_init : Cond.code mCat_init.1 mCat_init.2.1 mCat_init.2.2.1 none ∈ lw_tbl := q_tw 40 (by decide +kernel)
theorem eTab_init : qme mTab_init := ⟨by decide +kernel, by decide, ⟨by decide, by decide⟩, Or.inl ⟨q_tw 47 (by decide +kernel), rfl⟩, q_tw 3 (by decide +kernel)⟩
theorem iTab_init : Cond.instanceMethod mTab_init.1 ∈ lw_tbl := q_tw 46 (by decide +kernel)
theorem kTab_init : Cond.code mTab_init.1 mTab_init.2.1 mTab_init.2.2.1 none ∈ lw_tbl := q_tw 47 (by decide +kernel)
theorem eTxt_init : qme mTxt_init := ⟨by decide +kernel, by decide, ⟨by decide, by decide⟩, Or.inl ⟨q_tw 86 (by decide +kernel), rfl⟩, q_tw 4 (by decide +kernel)⟩
theorem iTxt_init : Cond.instanceMethod mTxt_init.1 ∈ lw_tbl := q_tw 85 (by decide +kernel)
theorem kTxt_init : Cond.code mTxt_init.1 mTxt_init.2.1 mTxt_init.2.2.1 none ∈ lw_tbl := q_tw 86 (by decide +kernel)
theorem eRd_init : qme mRd_init := ⟨by decide +kernel, by decide, ⟨by decide, by decide⟩, Or.inl ⟨q_tw 102 (by decide +kernel), rfl⟩, q_tw 5 (by decide +kernel)⟩
theorem iRd_init : Cond.instanceMethod mRd_init.1 ∈ lw_tbl := q_tw 101 (by decide +kernel)
theorem kRd_init : Cond.code mRd_init.1 mRd_init.2.1 mRd_init.2.2.1 none ∈ lw_tbl := q_tw 102 (by decide +kernel)
theorem eTok_init : qme mTok_init := ⟨by decide +kernel, by decide, ⟨by decide, by decide⟩, Or.inl ⟨q_tw 108 (by decide +kernel), rfl⟩, q_tw 6 (by decide +kernel)⟩
theorem iTok_init : Cond.instanceMethod mTok_init.1 ∈ lw_tbl := q_tw 107 (by decide +kernel)
theorem kTok_init : Cond.code mTok_init.1 mTok_init.2.1 mTok_init.2.2.1 none ∈ lw_tbl := q_tw 108 (by decide +kernel)
theorem eQu_init : qme mQu_init := ⟨by decide +kernel, by decide, ⟨by decide, by decide⟩, Or.inl ⟨q_tw 135 (by decide +kernel), rfl⟩, q_tw 7 (by decide +kernel)⟩
theorem iQu_init : Cond.instanceMethod mQu_init.1 ∈ lw_tbl := q_tw 134 (by decide +kernel)
theorem kQu_init : Cond.code mQu_init.1 mQu_init.2.1 mQu_init.2.2.1 none ∈ lw_tbl := q_tw 135 (by decide +kernel)
theorem eBl_init : qme mBl_init := ⟨by decide +kernel, by decide, ⟨by decide, by decide⟩, Or.inl ⟨q_tw 142 (by decide +kernel), rfl⟩, q_tw 8 (by decide +kernel)⟩
theorem iBl_init : Cond.instanceMethod mBl_init.1 ∈ lw_tbl := q_tw 141 (by decide +kernel)
theorem kBl_init : Cond.code mBl_init.1 mBl_init.2.1 mBl_init.2.2.1 none ∈ lw_tbl := q_tw 142 (by decide +kernel)
theorem ePlan_init : qme mPlan_init := ⟨by decide +kernel, by decide, ⟨by decide, by decide⟩, Or.inl ⟨q_tw 214 (by decide +kernel), rfl⟩, q_tw 9 (by decide +kernel)⟩
theorem iPlan_init : Cond.instanceMethod mPlan_init.1 ∈ lw_tbl := q_tw 213 (by decide +kernel)
theorem kPlan_init : Cond.code mPlan_init.1 mPlan_init.2.1 mPlan_init.2.2.1 none ∈ lw_tbl := q_tw 214 (by decide +kernel)
theorem eBag_init : qme mBag_init := ⟨by decide +kernel, by decide, ⟨by decide, by decide⟩, Or.inl ⟨q_tw 233 (by decide +kernel), rfl⟩, q_tw 10 (by decide +kernel)⟩
theorem iBag_init : Cond.instanceMethod mBag_init.1 ∈ lw_tbl := q_tw 232 (by decide +kernel)
theorem kBag_init : Cond.code mBag_init.1 mBag_init.2.1 mBag_init.2.2.1 none ∈ lw_tbl := q_tw 233 (by decide +kernel)
theorem eNf_init : qme mNf_init := ⟨by decide +kernel, by decide, ⟨by decide, by decide⟩, Or.inl ⟨q_tw 256 (by decide +kernel), rfl⟩, q_tw 11 (by decide +kernel)⟩
theorem iNf_init : Cond.instanceMethod mNf_init.1 ∈ lw_tbl := q_tw 255 (by decide +kernel)
theorem kNf_init : Cond.code mNf_init.1 mNf_init.2.1 mNf_init.2.2.1 none ∈ lw_tbl := q_tw 256 (by decide +kernel)
theorem ePg_init : qme mPg_init := ⟨by decide +kernel, by decide, ⟨by decide, by decide⟩, Or.inl ⟨q_tw 321 (by decide +kernel), rfl⟩, q_tw 12 (by decide +kernel)⟩
theorem iPg_init : Cond.instanceMethod mPg_init.1 ∈ lw_tbl := q_tw 320 (by decide +kernel)
theorem kPg_init : Cond.code mPg_init.1 mPg_init.2.1 mPg_init.2.2.1 none ∈ lw_tbl := q_tw 321 (by decide +kernel)
theorem eBp_write : qme mBp_write := ⟨by decide +kernel, by decide, ⟨by decide, by decide⟩, Or.inl ⟨q_tw 373 (by decide +kernel), rfl⟩, q_tw 1 (by decide +kernel)⟩
theorem iBp_write : Cond.instanceMethod mBp_write.1 ∈ lw_tbl := q_tw 371 (by decide +kernel)
theorem vBp_write : Cond.selects mBp_write.1.cls mBp_write.1 mBp_write.1 ∈ lw_tbl := q_tw 372 (by decide +kernel)
theorem eTxt_append : qme mTxt_append := ⟨by decide +kernel, by decide, ⟨by decide, by decide⟩, Or.inl ⟨q_tw 377 (by decide +kernel), rfl⟩, q_tw 4 (by decide +kernel)⟩
theorem iTxt_append : Cond.instanceMethod mTxt_append.1 ∈ lw_tbl := q_tw 375 (by decide +kernel)
theorem vTxt_append : Cond.selects mTxt_append.1.cls mTxt_append.1 mTxt_append.1 ∈ lw_tbl := q_tw 376 (by decide +kernel)
theorem eTxt_countOf : qme mTxt_countOf := ⟨by decide +kernel, by decide, ⟨by decide, by decide⟩, Or.inl ⟨q_tw 380 (by decide +kernel), rfl⟩, q_tw 4 (by decide +kernel)⟩
theorem sTxt_countOf : Cond.static mTxt_countOf.1 ∈ lw_tbl := q_tw 379 (by decide +kernel)
theorem eTxt_byteOf : qme mTxt_byteOf := ⟨by decide +kernel, by decide, ⟨by decide, by decide⟩, Or.inl ⟨q_tw 383 (by decide +kernel), rfl⟩, q_tw 4 (by decide +kernel)⟩
theorem sTxt_byteOf : Cond.static mTxt_byteOf.1 ∈ lw_tbl := q_tw 382 (by decide +kernel)
theorem eBp_wipe : qme mBp_wipe := ⟨by decide +kernel, by decide, ⟨by decide, by decide⟩, Or.inl ⟨q_tw 387 (by decide +kernel), rfl⟩, q_tw 1 (by decide +kernel)⟩
theorem iBp_wipe : Cond.instanceMethod mBp_wipe.1 ∈ lw_tbl := q_tw 385 (by decide +kernel)
theorem vBp_wipe : Cond.selects mBp_wipe.1.cls mBp_wipe.1 mBp_wipe.1 ∈ lw_tbl := q_tw 386 (by decide +kernel)
theorem eTxt_clear : qme mTxt_clear := ⟨by decide +kernel, by decide, ⟨by decide, by decide⟩, Or.inl ⟨q_tw 391 (by decide +kernel), rfl⟩, q_tw 4 (by decide +kernel)⟩
theorem iTxt_clear : Cond.instanceMethod mTxt_clear.1 ∈ lw_tbl := q_tw 389 (by decide +kernel)
theorem vTxt_clear : Cond.selects mTxt_clear.1.cls mTxt_clear.1 mTxt_clear.1 ∈ lw_tbl := q_tw 390 (by decide +kernel)
theorem eBp_place : qme mBp_place := ⟨by decide +kernel, by decide, ⟨by decide, by decide⟩, Or.inl ⟨q_tw 395 (by decide +kernel), rfl⟩, q_tw 1 (by decide +kernel)⟩
theorem iBp_place : Cond.instanceMethod mBp_place.1 ∈ lw_tbl := q_tw 393 (by decide +kernel)
theorem vBp_place : Cond.selects mBp_place.1.cls mBp_place.1 mBp_place.1 ∈ lw_tbl := q_tw 394 (by decide +kernel)
theorem eBp_forget : qme mBp_forget := ⟨by decide +kernel, by decide, ⟨by decide, by decide⟩, Or.inl ⟨q_tw 399 (by decide +kernel), rfl⟩, q_tw 1 (by decide +kernel)⟩
theorem iBp_forget : Cond.instanceMethod mBp_forget.1 ∈ lw_tbl := q_tw 397 (by decide +kernel)
theorem vBp_forget : Cond.selects mBp_forget.1.cls mBp_forget.1 mBp_forget.1 ∈ lw_tbl := q_tw 398 (by decide +kernel)
theorem eBp_total : qme mBp_total := ⟨by decide +kernel, by decide, ⟨by decide, by decide⟩, Or.inl ⟨q_tw 403 (by decide +kernel), rfl⟩, q_tw 1 (by decide +kernel)⟩
theorem iBp_total : Cond.instanceMethod mBp_total.1 ∈ lw_tbl := q_tw 401 (by decide +kernel)
theorem vBp_total : Cond.selects mBp_total.1.cls mBp_total.1 mBp_total.1 ∈ lw_tbl := q_tw 402 (by decide +kernel)
theorem eBag_sum : qme mBag_sum := ⟨by decide +kernel, by decide, ⟨by decide, by decide⟩, Or.inl ⟨q_tw 407 (by decide +kernel), rfl⟩, q_tw 10 (by decide +kernel)⟩
theorem iBag_sum : Cond.instanceMethod mBag_sum.1 ∈ lw_tbl := q_tw 405 (by decide +kernel)
theorem vBag_sum : Cond.selects mBag_sum.1.cls mBag_sum.1 mBag_sum.1 ∈ lw_tbl := q_tw 406 (by decide +kernel)
theorem eLa_table : qme mLa_table := ⟨by decide +kernel, by decide, ⟨by decide, by decide⟩, Or.inr (q_tw 410 (by decide +kernel)), q_tw 0 (by decide +kernel)⟩
theorem sLa_table : Cond.static mLa_table.1 ∈ lw_tbl := q_tw 409 (by decide +kernel)
theorem eBp_table : qme mBp_table := ⟨by decide +kernel, by decide, ⟨by decide, by decide⟩, Or.inl ⟨q_tw 416 (by decide +kernel), rfl⟩, q_tw 1 (by decide +kernel)⟩
theorem iBp_table : Cond.instanceMethod mBp_table.1 ∈ lw_tbl := q_tw 414 (by decide +kernel)
theorem vBp_table : Cond.selects mBp_table.1.cls mBp_table.1 mBp_table.1 ∈ lw_tbl := q_tw 415 (by decide +kernel)
theorem eCat_make : qme mCat_make := ⟨by decide +kernel, by decide, ⟨by decide, by decide⟩, Or.inl ⟨q_tw 505 (by decide +kernel), rfl⟩, q_tw 2 (by decide +kernel)⟩
theorem iCat_make : Cond.instanceMethod mCat_make.1 ∈ lw_tbl := q_tw 503 (by decide +kernel)
theorem vCat_make : Cond.selects mCat_make.1.cls mCat_make.1 mCat_make.1 ∈ lw_tbl := q_tw 504 (by decide +kernel)
theorem eLa_key : qme mLa_key := ⟨by decide +kernel, by decide, ⟨by decide, by decide⟩, Or.inr (q_tw 508 (by decide +kernel)), q_tw 0 (by decide +kernel)⟩
theorem sLa_key : Cond.static mLa_key.1 ∈ lw_tbl := q_tw 507 (by decide +kernel)
theorem eBp_key : qme mBp_key := ⟨by decide +kernel, by decide, ⟨by decide, by decide⟩, Or.inl ⟨q_tw 512 (by decide +kernel), rfl⟩, q_tw 1 (by decide +kernel)⟩
theorem iBp_key : Cond.instanceMethod mBp_key.1 ∈ lw_tbl := q_tw 510 (by decide +kernel)
theorem vBp_key : Cond.selects mBp_key.1.cls mBp_key.1 mBp_key.1 ∈ lw_tbl := q_tw 511 (by decide +kernel)
theorem eBp_tableWithColumn : qme mBp_tableWithColumn := ⟨by decide +kernel, by decide, ⟨by decide, by decide⟩, Or.inl ⟨q_tw 516 (by decide +kernel), rfl⟩, q_tw 1 (by decide +kernel)⟩
theorem iBp_tableWithColumn : Cond.instanceMethod mBp_tableWithColumn.1 ∈ lw_tbl := q_tw 515 (by decide +kernel)
theorem eCat_has : qme mCat_has := ⟨by decide +kernel, by decide, ⟨by decide, by decide⟩, Or.inl ⟨q_tw 520 (by decide +kernel), rfl⟩, q_tw 2 (by decide +kernel)⟩
theorem iCat_has : Cond.instanceMethod mCat_has.1 ∈ lw_tbl := q_tw 518 (by decide +kernel)
theorem vCat_has : Cond.selects mCat_has.1.cls mCat_has.1 mCat_has.1 ∈ lw_tbl := q_tw 519 (by decide +kernel)
theorem eTab_hasColumn : qme mTab_hasColumn := ⟨by decide +kernel, by decide, ⟨by decide, by decide⟩, Or.inl ⟨q_tw 524 (by decide +kernel), rfl⟩, q_tw 3 (by decide +kernel)⟩
theorem iTab_hasColumn : Cond.instanceMethod mTab_hasColumn.1 ∈ lw_tbl := q_tw 522 (by decide +kernel)
theorem vTab_hasColumn : Cond.selects mTab_hasColumn.1.cls mTab_hasColumn.1 mTab_hasColumn.1 ∈ lw_tbl := q_tw 523 (by decide +kernel)
theorem eTab_hasTwins : qme mTab_hasTwins := ⟨by decide +kernel, by decide, ⟨by decide, by decide⟩, Or.inl ⟨q_tw 529 (by decide +kernel), rfl⟩, q_tw 3 (by decide +kernel)⟩
theorem iTab_hasTwins : Cond.instanceMethod mTab_hasTwins.1 ∈ lw_tbl := q_tw 527 (by decide +kernel)
theorem vTab_hasTwins : Cond.selects mTab_hasTwins.1.cls mTab_hasTwins.1 mTab_hasTwins.1 ∈ lw_tbl := q_tw 528 (by decide +kernel)
theorem eTab_cell : qme mTab_cell := ⟨by decide +kernel, by decide, ⟨by decide, by decide⟩, Or.inl ⟨q_tw 533 (by decide +kernel), rfl⟩, q_tw 3 (by decide +kernel)⟩
theorem iTab_cell : Cond.instanceMethod mTab_cell.1 ∈ lw_tbl := q_tw 531 (by decide +kernel)
theorem vTab_cell : Cond.selects mTab_cell.1.cls mTab_cell.1 mTab_cell.1 ∈ lw_tbl := q_tw 532 (by decide +kernel)
theorem eLa_insert : qme mLa_insert := ⟨by decide +kernel, by decide, ⟨by decide, by decide⟩, Or.inr (q_tw 537 (by decide +kernel)), q_tw 0 (by decide +kernel)⟩
theorem sLa_insert : Cond.static mLa_insert.1 ∈ lw_tbl := q_tw 536 (by decide +kernel)
theorem eBp_insert : qme mBp_insert := ⟨by decide +kernel, by decide, ⟨by decide, by decide⟩, Or.inl ⟨q_tw 541 (by decide +kernel), rfl⟩, q_tw 1 (by decide +kernel)⟩
theorem iBp_insert : Cond.instanceMethod mBp_insert.1 ∈ lw_tbl := q_tw 539 (by decide +kernel)
theorem vBp_insert : Cond.selects mBp_insert.1.cls mBp_insert.1 mBp_insert.1 ∈ lw_tbl := q_tw 540 (by decide +kernel)
theorem eTab_breaksKey : qme mTab_breaksKey := ⟨by decide +kernel, by decide, ⟨by decide, by decide⟩, Or.inl ⟨q_tw 547 (by decide +kernel), rfl⟩, q_tw 3 (by decide +kernel)⟩
theorem iTab_breaksKey : Cond.instanceMethod mTab_breaksKey.1 ∈ lw_tbl := q_tw 545 (by decide +kernel)
theorem vTab_breaksKey : Cond.selects mTab_breaksKey.1.cls mTab_breaksKey.1 mTab_breaksKey.1 ∈ lw_tbl := q_tw 546 (by decide +kernel)
theorem eTab_isTaken : qme mTab_isTaken := ⟨by decide +kernel, by decide, ⟨by decide, by decide⟩, Or.inl ⟨q_tw 551 (by decide +kernel), rfl⟩, q_tw 3 (by decide +kernel)⟩
theorem iTab_isTaken : Cond.instanceMethod mTab_isTaken.1 ∈ lw_tbl := q_tw 550 (by decide +kernel)
theorem eTab_append : qme mTab_append := ⟨by decide +kernel, by decide, ⟨by decide, by decide⟩, Or.inl ⟨q_tw 556 (by decide +kernel), rfl⟩, q_tw 3 (by decide +kernel)⟩
theorem iTab_append : Cond.instanceMethod mTab_append.1 ∈ lw_tbl := q_tw 554 (by decide +kernel)
theorem vTab_append : Cond.selects mTab_append.1.cls mTab_append.1 mTab_append.1 ∈ lw_tbl := q_tw 555 (by decide +kernel)
theorem eLa_delete : qme mLa_delete := ⟨by decide +kernel, by decide, ⟨by decide, by decide⟩, Or.inr (q_tw 559 (by decide +kernel)), q_tw 0 (by decide +kernel)⟩
theorem sLa_delete : Cond.static mLa_delete.1 ∈ lw_tbl := q_tw 558 (by decide +kernel)
theorem eBp_delete : qme mBp_delete := ⟨by decide +kernel, by decide, ⟨by decide, by decide⟩, Or.inl ⟨q_tw 563 (by decide +kernel), rfl⟩, q_tw 1 (by decide +kernel)⟩
theorem iBp_delete : Cond.instanceMethod mBp_delete.1 ∈ lw_tbl := q_tw 561 (by decide +kernel)
theorem vBp_delete : Cond.selects mBp_delete.1.cls mBp_delete.1 mBp_delete.1 ∈ lw_tbl := q_tw 562 (by decide +kernel)
theorem eTab_takeOut : qme mTab_takeOut := ⟨by decide +kernel, by decide, ⟨by decide, by decide⟩, Or.inl ⟨q_tw 567 (by decide +kernel), rfl⟩, q_tw 3 (by decide +kernel)⟩
theorem iTab_takeOut : Cond.instanceMethod mTab_takeOut.1 ∈ lw_tbl := q_tw 565 (by decide +kernel)
theorem vTab_takeOut : Cond.selects mTab_takeOut.1.cls mTab_takeOut.1 mTab_takeOut.1 ∈ lw_tbl := q_tw 566 (by decide +kernel)
theorem eLa_question : qme mLa_question := ⟨by decide +kernel, by decide, ⟨by decide, by decide⟩, Or.inr (q_tw 573 (by decide +kernel)), q_tw 0 (by decide +kernel)⟩
theorem sLa_question : Cond.static mLa_question.1 ∈ lw_tbl := q_tw 572 (by decide +kernel)
theorem eBp_question : qme mBp_question := ⟨by decide +kernel, by decide, ⟨by decide, by decide⟩, Or.inl ⟨q_tw 577 (by decide +kernel), rfl⟩, q_tw 1 (by decide +kernel)⟩
theorem iBp_question : Cond.instanceMethod mBp_question.1 ∈ lw_tbl := q_tw 575 (by decide +kernel)
theorem vBp_question : Cond.selects mBp_question.1.cls mBp_question.1 mBp_question.1 ∈ lw_tbl := q_tw 576 (by decide +kernel)
theorem eRd_read : qme mRd_read := ⟨by decide +kernel, by decide, ⟨by decide, by decide⟩, Or.inl ⟨q_tw 581 (by decide +kernel), rfl⟩, q_tw 5 (by decide +kernel)⟩
theorem iRd_read : Cond.instanceMethod mRd_read.1 ∈ lw_tbl := q_tw 579 (by decide +kernel)
theorem vRd_read : Cond.selects mRd_read.1.cls mRd_read.1 mRd_read.1 ∈ lw_tbl := q_tw 580 (by decide +kernel)
theorem eTok_split : qme mTok_split := ⟨by decide +kernel, by decide, ⟨by decide, by decide⟩, Or.inl ⟨q_tw 585 (by decide +kernel), rfl⟩, q_tw 6 (by decide +kernel)⟩
theorem iTok_split : Cond.instanceMethod mTok_split.1 ∈ lw_tbl := q_tw 583 (by decide +kernel)
theorem vTok_split : Cond.selects mTok_split.1.cls mTok_split.1 mTok_split.1 ∈ lw_tbl := q_tw 584 (by decide +kernel)
theorem eTok_addToken : qme mTok_addToken := ⟨by decide +kernel, by decide, ⟨by decide, by decide⟩, Or.inl ⟨q_tw 589 (by decide +kernel), rfl⟩, q_tw 6 (by decide +kernel)⟩
theorem iTok_addToken : Cond.instanceMethod mTok_addToken.1 ∈ lw_tbl := q_tw 588 (by decide +kernel)
theorem eTxt_endOfRun : qme mTxt_endOfRun := ⟨by decide +kernel, by decide, ⟨by decide, by decide⟩, Or.inl ⟨q_tw 593 (by decide +kernel), rfl⟩, q_tw 4 (by decide +kernel)⟩
theorem iTxt_endOfRun : Cond.instanceMethod mTxt_endOfRun.1 ∈ lw_tbl := q_tw 591 (by decide +kernel)
theorem vTxt_endOfRun : Cond.selects mTxt_endOfRun.1.cls mTxt_endOfRun.1 mTxt_endOfRun.1 ∈ lw_tbl := q_tw 592 (by decide +kernel)
theorem eTok_wordKind : qme mTok_wordKind := ⟨by decide +kernel, by decide, ⟨by decide, by decide⟩, Or.inl ⟨q_tw 596 (by decide +kernel), rfl⟩, q_tw 6 (by decide +kernel)⟩
theorem sTok_wordKind : Cond.static mTok_wordKind.1 ∈ lw_tbl := q_tw 595 (by decide +kernel)
theorem eTxt_isWord : qme mTxt_isWord := ⟨by decide +kernel, by decide, ⟨by decide, by decide⟩, Or.inl ⟨q_tw 601 (by decide +kernel), rfl⟩, q_tw 4 (by decide +kernel)⟩
theorem iTxt_isWord : Cond.instanceMethod mTxt_isWord.1 ∈ lw_tbl := q_tw 599 (by decide +kernel)
theorem vTxt_isWord : Cond.selects mTxt_isWord.1.cls mTxt_isWord.1 mTxt_isWord.1 ∈ lw_tbl := q_tw 600 (by decide +kernel)
theorem eTok_put : qme mTok_put := ⟨by decide +kernel, by decide, ⟨by decide, by decide⟩, Or.inl ⟨q_tw 657 (by decide +kernel), rfl⟩, q_tw 6 (by decide +kernel)⟩
theorem iTok_put : Cond.instanceMethod mTok_put.1 ∈ lw_tbl := q_tw 656 (by decide +kernel)
theorem eTxt_number : qme mTxt_number := ⟨by decide +kernel, by decide, ⟨by decide, by decide⟩, Or.inl ⟨q_tw 661 (by decide +kernel), rfl⟩, q_tw 4 (by decide +kernel)⟩
theorem iTxt_number : Cond.instanceMethod mTxt_number.1 ∈ lw_tbl := q_tw 659 (by decide +kernel)
theorem vTxt_number : Cond.selects mTxt_number.1.cls mTxt_number.1 mTxt_number.1 ∈ lw_tbl := q_tw 660 (by decide +kernel)
theorem eTok_start : qme mTok_start := ⟨by decide +kernel, by decide, ⟨by decide, by decide⟩, Or.inl ⟨q_tw 725 (by decide +kernel), rfl⟩, q_tw 6 (by decide +kernel)⟩
theorem iTok_start : Cond.instanceMethod mTok_start.1 ∈ lw_tbl := q_tw 723 (by decide +kernel)
theorem vTok_start : Cond.selects mTok_start.1.cls mTok_start.1 mTok_start.1 ∈ lw_tbl := q_tw 724 (by decide +kernel)
theorem eRd_readBlock : qme mRd_readBlock := ⟨by decide +kernel, by decide, ⟨by decide, by decide⟩, Or.inl ⟨q_tw 729 (by decide +kernel), rfl⟩, q_tw 5 (by decide +kernel)⟩
theorem iRd_readBlock : Cond.instanceMethod mRd_readBlock.1 ∈ lw_tbl := q_tw 728 (by decide +kernel)
theorem eBl_clear : qme mBl_clear := ⟨by decide +kernel, by decide, ⟨by decide, by decide⟩, Or.inl ⟨q_tw 733 (by decide +kernel), rfl⟩, q_tw 8 (by decide +kernel)⟩
theorem iBl_clear : Cond.instanceMethod mBl_clear.1 ∈ lw_tbl := q_tw 731 (by decide +kernel)
theorem vBl_clear : Cond.selects mBl_clear.1.cls mBl_clear.1 mBl_clear.1 ∈ lw_tbl := q_tw 732 (by decide +kernel)
theorem eTok_take : qme mTok_take := ⟨by decide +kernel, by decide, ⟨by decide, by decide⟩, Or.inl ⟨q_tw 737 (by decide +kernel), rfl⟩, q_tw 6 (by decide +kernel)⟩
theorem iTok_take : Cond.instanceMethod mTok_take.1 ∈ lw_tbl := q_tw 735 (by decide +kernel)
theorem vTok_take : Cond.selects mTok_take.1.cls mTok_take.1 mTok_take.1 ∈ lw_tbl := q_tw 736 (by decide +kernel)
theorem eRd_readOutputs : qme mRd_readOutputs := ⟨by decide +kernel, by decide, ⟨by decide, by decide⟩, Or.inl ⟨q_tw 741 (by decide +kernel), rfl⟩, q_tw 5 (by decide +kernel)⟩
theorem iRd_readOutputs : Cond.instanceMethod mRd_readOutputs.1 ∈ lw_tbl := q_tw 740 (by decide +kernel)
theorem eRd_readValue : qme mRd_readValue := ⟨by decide +kernel, by decide, ⟨by decide, by decide⟩, Or.inl ⟨q_tw 745 (by decide +kernel), rfl⟩, q_tw 5 (by decide +kernel)⟩
theorem iRd_readValue : Cond.instanceMethod mRd_readValue.1 ∈ lw_tbl := q_tw 744 (by decide +kernel)
theorem eTok_value : qme mTok_value := ⟨by decide +kernel, by decide, ⟨by decide, by decide⟩, Or.inl ⟨q_tw 749 (by decide +kernel), rfl⟩, q_tw 6 (by decide +kernel)⟩
theorem iTok_value : Cond.instanceMethod mTok_value.1 ∈ lw_tbl := q_tw 747 (by decide +kernel)
theorem vTok_value : Cond.selects mTok_value.1.cls mTok_value.1 mTok_value.1 ∈ lw_tbl := q_tw 748 (by decide +kernel)
theorem eBl_putNumber : qme mBl_putNumber := ⟨by decide +kernel, by decide, ⟨by decide, by decide⟩, Or.inl ⟨q_tw 753 (by decide +kernel), rfl⟩, q_tw 8 (by decide +kernel)⟩
theorem iBl_putNumber : Cond.instanceMethod mBl_putNumber.1 ∈ lw_tbl := q_tw 751 (by decide +kernel)
theorem vBl_putNumber : Cond.selects mBl_putNumber.1.cls mBl_putNumber.1 mBl_putNumber.1 ∈ lw_tbl := q_tw 752 (by decide +kernel)
theorem eBl_putColumn : qme mBl_putColumn := ⟨by decide +kernel, by decide, ⟨by decide, by decide⟩, Or.inl ⟨q_tw 757 (by decide +kernel), rfl⟩, q_tw 8 (by decide +kernel)⟩
theorem iBl_putColumn : Cond.instanceMethod mBl_putColumn.1 ∈ lw_tbl := q_tw 755 (by decide +kernel)
theorem vBl_putColumn : Cond.selects mBl_putColumn.1.cls mBl_putColumn.1 mBl_putColumn.1 ∈ lw_tbl := q_tw 756 (by decide +kernel)
theorem eRd_readSources : qme mRd_readSources := ⟨by decide +kernel, by decide, ⟨by decide, by decide⟩, Or.inl ⟨q_tw 761 (by decide +kernel), rfl⟩, q_tw 5 (by decide +kernel)⟩
theorem iRd_readSources : Cond.instanceMethod mRd_readSources.1 ∈ lw_tbl := q_tw 760 (by decide +kernel)
theorem eTok_is : qme mTok_is := ⟨by decide +kernel, by decide, ⟨by decide, by decide⟩, Or.inl ⟨q_tw 765 (by decide +kernel), rfl⟩, q_tw 6 (by decide +kernel)⟩
theorem iTok_is : Cond.instanceMethod mTok_is.1 ∈ lw_tbl := q_tw 763 (by decide +kernel)
theorem vTok_is : Cond.selects mTok_is.1.cls mTok_is.1 mTok_is.1 ∈ lw_tbl := q_tw 764 (by decide +kernel)
theorem eBl_sourceNamed : qme mBl_sourceNamed := ⟨by decide +kernel, by decide, ⟨by decide, by decide⟩, Or.inl ⟨q_tw 770 (by decide +kernel), rfl⟩, q_tw 8 (by decide +kernel)⟩
theorem iBl_sourceNamed : Cond.instanceMethod mBl_sourceNamed.1 ∈ lw_tbl := q_tw 768 (by decide +kernel)
theorem vBl_sourceNamed : Cond.selects mBl_sourceNamed.1.cls mBl_sourceNamed.1 mBl_sourceNamed.1 ∈ lw_tbl := q_tw 769 (by decide +kernel)
theorem eBl_addSource : qme mBl_addSource := ⟨by decide +kernel, by decide, ⟨by decide, by decide⟩, Or.inl ⟨q_tw 774 (by decide +kernel), rfl⟩, q_tw 8 (by decide +kernel)⟩
theorem iBl_addSource : Cond.instanceMethod mBl_addSource.1 ∈ lw_tbl := q_tw 772 (by decide +kernel)
theorem vBl_addSource : Cond.selects mBl_addSource.1.cls mBl_addSource.1 mBl_addSource.1 ∈ lw_tbl := q_tw 773 (by decide +kernel)
theorem eRd_readConditions : qme mRd_readConditions := ⟨by decide +kernel, by decide, ⟨by decide, by decide⟩, Or.inl ⟨q_tw 778 (by decide +kernel), rfl⟩, q_tw 5 (by decide +kernel)⟩
theorem iRd_readConditions : Cond.instanceMethod mRd_readConditions.1 ∈ lw_tbl := q_tw 777 (by decide +kernel)
theorem eBl_lowSlot : qme mBl_lowSlot := ⟨by decide +kernel, by decide, ⟨by decide, by decide⟩, Or.inl ⟨q_tw 781 (by decide +kernel), rfl⟩, q_tw 8 (by decide +kernel)⟩
theorem sBl_lowSlot : Cond.static mBl_lowSlot.1 ∈ lw_tbl := q_tw 780 (by decide +kernel)
theorem eBl_highSlot : qme mBl_highSlot := ⟨by decide +kernel, by decide, ⟨by decide, by decide⟩, Or.inl ⟨q_tw 784 (by decide +kernel), rfl⟩, q_tw 8 (by decide +kernel)⟩
theorem sBl_highSlot : Cond.static mBl_highSlot.1 ∈ lw_tbl := q_tw 783 (by decide +kernel)
theorem eRd_isBehindBlock : qme mRd_isBehindBlock := ⟨by decide +kernel, by decide, ⟨by decide, by decide⟩, Or.inl ⟨q_tw 789 (by decide +kernel), rfl⟩, q_tw 5 (by decide +kernel)⟩
theorem iRd_isBehindBlock : Cond.instanceMethod mRd_isBehindBlock.1 ∈ lw_tbl := q_tw 788 (by decide +kernel)
theorem eBl_bind : qme mBl_bind := ⟨by decide +kernel, by decide, ⟨by decide, by decide⟩, Or.inl ⟨q_tw 793 (by decide +kernel), rfl⟩, q_tw 8 (by decide +kernel)⟩
theorem iBl_bind : Cond.instanceMethod mBl_bind.1 ∈ lw_tbl := q_tw 791 (by decide +kernel)
theorem vBl_bind : Cond.selects mBl_bind.1.cls mBl_bind.1 mBl_bind.1 ∈ lw_tbl := q_tw 792 (by decide +kernel)
theorem eBl_isUsed : qme mBl_isUsed := ⟨by decide +kernel, by decide, ⟨by decide, by decide⟩, Or.inl ⟨q_tw 797 (by decide +kernel), rfl⟩, q_tw 8 (by decide +kernel)⟩
theorem iBl_isUsed : Cond.instanceMethod mBl_isUsed.1 ∈ lw_tbl := q_tw 795 (by decide +kernel)
theorem vBl_isUsed : Cond.selects mBl_isUsed.1.cls mBl_isUsed.1 mBl_isUsed.1 ∈ lw_tbl := q_tw 796 (by decide +kernel)
theorem eTok_kind : qme mTok_kind := ⟨by decide +kernel, by decide, ⟨by decide, by decide⟩, Or.inl ⟨q_tw 803 (by decide +kernel), rfl⟩, q_tw 6 (by decide +kernel)⟩
theorem iTok_kind : Cond.instanceMethod mTok_kind.1 ∈ lw_tbl := q_tw 801 (by decide +kernel)
theorem vTok_kind : Cond.selects mTok_kind.1.cls mTok_kind.1 mTok_kind.1 ∈ lw_tbl := q_tw 802 (by decide +kernel)
theorem eLa_run : qme mLa_run := ⟨by decide +kernel, by decide, ⟨by decide, by decide⟩, Or.inr (q_tw 808 (by decide +kernel)), q_tw 0 (by decide +kernel)⟩
theorem sLa_run : Cond.static mLa_run.1 ∈ lw_tbl := q_tw 807 (by decide +kernel)
theorem eBp_run : qme mBp_run := ⟨by decide +kernel, by decide, ⟨by decide, by decide⟩, Or.inl ⟨q_tw 813 (by decide +kernel), rfl⟩, q_tw 1 (by decide +kernel)⟩
theorem iBp_run : Cond.instanceMethod mBp_run.1 ∈ lw_tbl := q_tw 811 (by decide +kernel)
theorem vBp_run : Cond.selects mBp_run.1.cls mBp_run.1 mBp_run.1 ∈ lw_tbl := q_tw 812 (by decide +kernel)
theorem eBp_questionAt : qme mBp_questionAt := ⟨by decide +kernel, by decide, ⟨by decide, by decide⟩, Or.inl ⟨q_tw 817 (by decide +kernel), rfl⟩, q_tw 1 (by decide +kernel)⟩
theorem iBp_questionAt : Cond.instanceMethod mBp_questionAt.1 ∈ lw_tbl := q_tw 816 (by decide +kernel)
theorem eBp_answerInto : qme mBp_answerInto := ⟨by decide +kernel, by decide, ⟨by decide, by decide⟩, Or.inl ⟨q_tw 822 (by decide +kernel), rfl⟩, q_tw 1 (by decide +kernel)⟩
theorem iBp_answerInto : Cond.instanceMethod mBp_answerInto.1 ∈ lw_tbl := q_tw 821 (by decide +kernel)
theorem ePlan_fill : qme mPlan_fill := ⟨by decide +kernel, by decide, ⟨by decide, by decide⟩, Or.inl ⟨q_tw 826 (by decide +kernel), rfl⟩, q_tw 9 (by decide +kernel)⟩
theorem iPlan_fill : Cond.instanceMethod mPlan_fill.1 ∈ lw_tbl := q_tw 824 (by decide +kernel)
theorem vPlan_fill : Cond.selects mPlan_fill.1.cls mPlan_fill.1 mPlan_fill.1 ∈ lw_tbl := q_tw 825 (by decide +kernel)
theorem eBag_clear : qme mBag_clear := ⟨by decide +kernel, by decide, ⟨by decide, by decide⟩, Or.inl ⟨q_tw 830 (by decide +kernel), rfl⟩, q_tw 10 (by decide +kernel)⟩
theorem iBag_clear : Cond.instanceMethod mBag_clear.1 ∈ lw_tbl := q_tw 828 (by decide +kernel)
theorem vBag_clear : Cond.selects mBag_clear.1.cls mBag_clear.1 mBag_clear.1 ∈ lw_tbl := q_tw 829 (by decide +kernel)
theorem ePlan_markUsed : qme mPlan_markUsed := ⟨by decide +kernel, by decide, ⟨by decide, by decide⟩, Or.inl ⟨q_tw 834 (by decide +kernel), rfl⟩, q_tw 9 (by decide +kernel)⟩
theorem iPlan_markUsed : Cond.instanceMethod mPlan_markUsed.1 ∈ lw_tbl := q_tw 833 (by decide +kernel)
theorem ePlan_findLastSources : qme mPlan_findLastSources := ⟨by decide +kernel, by decide, ⟨by decide, by decide⟩, Or.inl ⟨q_tw 839 (by decide +kernel), rfl⟩, q_tw 9 (by decide +kernel)⟩
theorem iPlan_findLastSources : Cond.instanceMethod mPlan_findLastSources.1 ∈ lw_tbl := q_tw 838 (by decide +kernel)
theorem ePlan_holdsAt : qme mPlan_holdsAt := ⟨by decide +kernel, by decide, ⟨by decide, by decide⟩, Or.inl ⟨q_tw 846 (by decide +kernel), rfl⟩, q_tw 9 (by decide +kernel)⟩
theorem iPlan_holdsAt : Cond.instanceMethod mPlan_holdsAt.1 ∈ lw_tbl := q_tw 845 (by decide +kernel)
theorem ePlan_valueOf : qme mPlan_valueOf := ⟨by decide +kernel, by decide, ⟨by decide, by decide⟩, Or.inl ⟨q_tw 850 (by decide +kernel), rfl⟩, q_tw 9 (by decide +kernel)⟩
theorem iPlan_valueOf : Cond.instanceMethod mPlan_valueOf.1 ∈ lw_tbl := q_tw 849 (by decide +kernel)
theorem ePlan_choose : qme mPlan_choose := ⟨by decide +kernel, by decide, ⟨by decide, by decide⟩, Or.inl ⟨q_tw 855 (by decide +kernel), rfl⟩, q_tw 9 (by decide +kernel)⟩
theorem iPlan_choose : Cond.instanceMethod mPlan_choose.1 ∈ lw_tbl := q_tw 854 (by decide +kernel)
theorem ePlan_setOutput : qme mPlan_setOutput := ⟨by decide +kernel, by decide, ⟨by decide, by decide⟩, Or.inl ⟨q_tw 859 (by decide +kernel), rfl⟩, q_tw 9 (by decide +kernel)⟩
theorem iPlan_setOutput : Cond.instanceMethod mPlan_setOutput.1 ∈ lw_tbl := q_tw 858 (by decide +kernel)
theorem eBag_add : qme mBag_add := ⟨by decide +kernel, by decide, ⟨by decide, by decide⟩, Or.inl ⟨q_tw 863 (by decide +kernel), rfl⟩, q_tw 10 (by decide +kernel)⟩
theorem iBag_add : Cond.instanceMethod mBag_add.1 ∈ lw_tbl := q_tw 861 (by decide +kernel)
theorem vBag_add : Cond.selects mBag_add.1.cls mBag_add.1 mBag_add.1 ∈ lw_tbl := q_tw 862 (by decide +kernel)
theorem eBag_firstNotBefore : qme mBag_firstNotBefore := ⟨by decide +kernel, by decide, ⟨by decide, by decide⟩, Or.inl ⟨q_tw 867 (by decide +kernel), rfl⟩, q_tw 10 (by decide +kernel)⟩
theorem iBag_firstNotBefore : Cond.instanceMethod mBag_firstNotBefore.1 ∈ lw_tbl := q_tw 866 (by decide +kernel)
theorem eBag_compare : qme mBag_compare := ⟨by decide +kernel, by decide, ⟨by decide, by decide⟩, Or.inl ⟨q_tw 871 (by decide +kernel), rfl⟩, q_tw 10 (by decide +kernel)⟩
theorem iBag_compare : Cond.instanceMethod mBag_compare.1 ∈ lw_tbl := q_tw 870 (by decide +kernel)
theorem eBag_countEachOnce : qme mBag_countEachOnce := ⟨by decide +kernel, by decide, ⟨by decide, by decide⟩, Or.inl ⟨q_tw 876 (by decide +kernel), rfl⟩, q_tw 10 (by decide +kernel)⟩
theorem iBag_countEachOnce : Cond.instanceMethod mBag_countEachOnce.1 ∈ lw_tbl := q_tw 874 (by decide +kernel)
theorem vBag_countEachOnce : Cond.selects mBag_countEachOnce.1.cls mBag_countEachOnce.1 mBag_countEachOnce.1 ∈ lw_tbl := q_tw 875 (by decide +kernel)
theorem eBag_join : qme mBag_join := ⟨by decide +kernel, by decide, ⟨by decide, by decide⟩, Or.inl ⟨q_tw 880 (by decide +kernel), rfl⟩, q_tw 10 (by decide +kernel)⟩
theorem iBag_join : Cond.instanceMethod mBag_join.1 ∈ lw_tbl := q_tw 878 (by decide +kernel)
theorem vBag_join : Cond.selects mBag_join.1.cls mBag_join.1 mBag_join.1 ∈ lw_tbl := q_tw 879 (by decide +kernel)
theorem eBag_addAll : qme mBag_addAll := ⟨by decide +kernel, by decide, ⟨by decide, by decide⟩, Or.inl ⟨q_tw 884 (by decide +kernel), rfl⟩, q_tw 10 (by decide +kernel)⟩
theorem iBag_addAll : Cond.instanceMethod mBag_addAll.1 ∈ lw_tbl := q_tw 883 (by decide +kernel)
theorem eBag_countOf : qme mBag_countOf := ⟨by decide +kernel, by decide, ⟨by decide, by decide⟩, Or.inl ⟨q_tw 889 (by decide +kernel), rfl⟩, q_tw 10 (by decide +kernel)⟩
theorem iBag_countOf : Cond.instanceMethod mBag_countOf.1 ∈ lw_tbl := q_tw 888 (by decide +kernel)
theorem eLa_row : qme mLa_row := ⟨by decide +kernel, by decide, ⟨by decide, by decide⟩, Or.inr (q_tw 909 (by decide +kernel)), q_tw 0 (by decide +kernel)⟩
theorem sLa_row : Cond.static mLa_row.1 ∈ lw_tbl := q_tw 908 (by decide +kernel)
theorem eBp_row : qme mBp_row := ⟨by decide +kernel, by decide, ⟨by decide, by decide⟩, Or.inl ⟨q_tw 914 (by decide +kernel), rfl⟩, q_tw 1 (by decide +kernel)⟩
theorem iBp_row : Cond.instanceMethod mBp_row.1 ∈ lw_tbl := q_tw 912 (by decide +kernel)
theorem vBp_row : Cond.selects mBp_row.1.cls mBp_row.1 mBp_row.1 ∈ lw_tbl := q_tw 913 (by decide +kernel)
theorem eBag_has : qme mBag_has := ⟨by decide +kernel, by decide, ⟨by decide, by decide⟩, Or.inl ⟨q_tw 918 (by decide +kernel), rfl⟩, q_tw 10 (by decide +kernel)⟩
theorem iBag_has : Cond.instanceMethod mBag_has.1 ∈ lw_tbl := q_tw 916 (by decide +kernel)
theorem vBag_has : Cond.selects mBag_has.1.cls mBag_has.1 mBag_has.1 ∈ lw_tbl := q_tw 917 (by decide +kernel)
theorem eLa_times : qme mLa_times := ⟨by decide +kernel, by decide, ⟨by decide, by decide⟩, Or.inr (q_tw 937 (by decide +kernel)), q_tw 0 (by decide +kernel)⟩
theorem sLa_times : Cond.static mLa_times.1 ∈ lw_tbl := q_tw 936 (by decide +kernel)
theorem eBp_times : qme mBp_times := ⟨by decide +kernel, by decide, ⟨by decide, by decide⟩, Or.inl ⟨q_tw 941 (by decide +kernel), rfl⟩, q_tw 1 (by decide +kernel)⟩
theorem iBp_times : Cond.instanceMethod mBp_times.1 ∈ lw_tbl := q_tw 939 (by decide +kernel)
theorem vBp_times : Cond.selects mBp_times.1.cls mBp_times.1 mBp_times.1 ∈ lw_tbl := q_tw 940 (by decide +kernel)
theorem eLa_alike : qme mLa_alike := ⟨by decide +kernel, by decide, ⟨by decide, by decide⟩, Or.inr (q_tw 945 (by decide +kernel)), q_tw 0 (by decide +kernel)⟩
theorem sLa_alike : Cond.static mLa_alike.1 ∈ lw_tbl := q_tw 944 (by decide +kernel)
theorem eBp_alike : qme mBp_alike := ⟨by decide +kernel, by decide, ⟨by decide, by decide⟩, Or.inl ⟨q_tw 949 (by decide +kernel), rfl⟩, q_tw 1 (by decide +kernel)⟩
theorem iBp_alike : Cond.instanceMethod mBp_alike.1 ∈ lw_tbl := q_tw 947 (by decide +kernel)
theorem vBp_alike : Cond.selects mBp_alike.1.cls mBp_alike.1 mBp_alike.1 ∈ lw_tbl := q_tw 948 (by decide +kernel)
theorem eBp_onlyBlock : qme mBp_onlyBlock := ⟨by decide +kernel, by decide, ⟨by decide, by decide⟩, Or.inl ⟨q_tw 952 (by decide +kernel), rfl⟩, q_tw 1 (by decide +kernel)⟩
theorem sBp_onlyBlock : Cond.static mBp_onlyBlock.1 ∈ lw_tbl := q_tw 951 (by decide +kernel)
theorem eNf_build : qme mNf_build := ⟨by decide +kernel, by decide, ⟨by decide, by decide⟩, Or.inl ⟨q_tw 957 (by decide +kernel), rfl⟩, q_tw 11 (by decide +kernel)⟩
theorem iNf_build : Cond.instanceMethod mNf_build.1 ∈ lw_tbl := q_tw 955 (by decide +kernel)
theorem vNf_build : Cond.selects mNf_build.1.cls mNf_build.1 mNf_build.1 ∈ lw_tbl := q_tw 956 (by decide +kernel)
theorem eNf_collectNumbers : qme mNf_collectNumbers := ⟨by decide +kernel, by decide, ⟨by decide, by decide⟩, Or.inl ⟨q_tw 961 (by decide +kernel), rfl⟩, q_tw 11 (by decide +kernel)⟩
theorem iNf_collectNumbers : Cond.instanceMethod mNf_collectNumbers.1 ∈ lw_tbl := q_tw 960 (by decide +kernel)
theorem eNf_indexOf : qme mNf_indexOf := ⟨by decide +kernel, by decide, ⟨by decide, by decide⟩, Or.inl ⟨q_tw 966 (by decide +kernel), rfl⟩, q_tw 11 (by decide +kernel)⟩
theorem iNf_indexOf : Cond.instanceMethod mNf_indexOf.1 ∈ lw_tbl := q_tw 965 (by decide +kernel)
theorem eNf_joinEqualSides : qme mNf_joinEqualSides := ⟨by decide +kernel, by decide, ⟨by decide, by decide⟩, Or.inl ⟨q_tw 970 (by decide +kernel), rfl⟩, q_tw 11 (by decide +kernel)⟩
theorem iNf_joinEqualSides : Cond.instanceMethod mNf_joinEqualSides.1 ∈ lw_tbl := q_tw 969 (by decide +kernel)
theorem eNf_classOfSlot : qme mNf_classOfSlot := ⟨by decide +kernel, by decide, ⟨by decide, by decide⟩, Or.inl ⟨q_tw 975 (by decide +kernel), rfl⟩, q_tw 11 (by decide +kernel)⟩
theorem iNf_classOfSlot : Cond.instanceMethod mNf_classOfSlot.1 ∈ lw_tbl := q_tw 974 (by decide +kernel)
theorem eNf_merge : qme mNf_merge := ⟨by decide +kernel, by decide, ⟨by decide, by decide⟩, Or.inl ⟨q_tw 980 (by decide +kernel), rfl⟩, q_tw 11 (by decide +kernel)⟩
theorem iNf_merge : Cond.instanceMethod mNf_merge.1 ∈ lw_tbl := q_tw 979 (by decide +kernel)
theorem eNf_joinOnes : qme mNf_joinOnes := ⟨by decide +kernel, by decide, ⟨by decide, by decide⟩, Or.inl ⟨q_tw 984 (by decide +kernel), rfl⟩, q_tw 11 (by decide +kernel)⟩
theorem iNf_joinOnes : Cond.instanceMethod mNf_joinOnes.1 ∈ lw_tbl := q_tw 983 (by decide +kernel)
theorem eNf_areOne : qme mNf_areOne := ⟨by decide +kernel, by decide, ⟨by decide, by decide⟩, Or.inl ⟨q_tw 988 (by decide +kernel), rfl⟩, q_tw 11 (by decide +kernel)⟩
theorem iNf_areOne : Cond.instanceMethod mNf_areOne.1 ∈ lw_tbl := q_tw 987 (by decide +kernel)
theorem eNf_mergeColumns : qme mNf_mergeColumns := ⟨by decide +kernel, by decide, ⟨by decide, by decide⟩, Or.inl ⟨q_tw 992 (by decide +kernel), rfl⟩, q_tw 11 (by decide +kernel)⟩
theorem iNf_mergeColumns : Cond.instanceMethod mNf_mergeColumns.1 ∈ lw_tbl := q_tw 991 (by decide +kernel)
theorem eNf_numberClasses : qme mNf_numberClasses := ⟨by decide +kernel, by decide, ⟨by decide, by decide⟩, Or.inl ⟨q_tw 996 (by decide +kernel), rfl⟩, q_tw 11 (by decide +kernel)⟩
theorem iNf_numberClasses : Cond.instanceMethod mNf_numberClasses.1 ∈ lw_tbl := q_tw 995 (by decide +kernel)
theorem eNf_findLess : qme mNf_findLess := ⟨by decide +kernel, by decide, ⟨by decide, by decide⟩, Or.inl ⟨q_tw 1000 (by decide +kernel), rfl⟩, q_tw 11 (by decide +kernel)⟩
theorem iNf_findLess : Cond.instanceMethod mNf_findLess.1 ∈ lw_tbl := q_tw 999 (by decide +kernel)
theorem eNf_addLess : qme mNf_addLess := ⟨by decide +kernel, by decide, ⟨by decide, by decide⟩, Or.inl ⟨q_tw 1004 (by decide +kernel), rfl⟩, q_tw 11 (by decide +kernel)⟩
theorem iNf_addLess : Cond.instanceMethod mNf_addLess.1 ∈ lw_tbl := q_tw 1003 (by decide +kernel)
theorem eNf_findOutputs : qme mNf_findOutputs := ⟨by decide +kernel, by decide, ⟨by decide, by decide⟩, Or.inl ⟨q_tw 1008 (by decide +kernel), rfl⟩, q_tw 11 (by decide +kernel)⟩
theorem iNf_findOutputs : Cond.instanceMethod mNf_findOutputs.1 ∈ lw_tbl := q_tw 1007 (by decide +kernel)
theorem eNf_findLeft : qme mNf_findLeft := ⟨by decide +kernel, by decide, ⟨by decide, by decide⟩, Or.inl ⟨q_tw 1012 (by decide +kernel), rfl⟩, q_tw 11 (by decide +kernel)⟩
theorem iNf_findLeft : Cond.instanceMethod mNf_findLeft.1 ∈ lw_tbl := q_tw 1011 (by decide +kernel)
theorem eNf_isOneWithLeft : qme mNf_isOneWithLeft := ⟨by decide +kernel, by decide, ⟨by decide, by decide⟩, Or.inl ⟨q_tw 1016 (by decide +kernel), rfl⟩, q_tw 11 (by decide +kernel)⟩
theorem iNf_isOneWithLeft : Cond.instanceMethod mNf_isOneWithLeft.1 ∈ lw_tbl := q_tw 1015 (by decide +kernel)
theorem ePg_exists : qme mPg_exists := ⟨by decide +kernel, by decide, ⟨by decide, by decide⟩, Or.inl ⟨q_tw 1020 (by decide +kernel), rfl⟩, q_tw 12 (by decide +kernel)⟩
theorem iPg_exists : Cond.instanceMethod mPg_exists.1 ∈ lw_tbl := q_tw 1018 (by decide +kernel)
theorem vPg_exists : Cond.selects mPg_exists.1.cls mPg_exists.1 mPg_exists.1 ∈ lw_tbl := q_tw 1019 (by decide +kernel)
theorem ePg_pairFrom : qme mPg_pairFrom := ⟨by decide +kernel, by decide, ⟨by decide, by decide⟩, Or.inl ⟨q_tw 1024 (by decide +kernel), rfl⟩, q_tw 12 (by decide +kernel)⟩
theorem iPg_pairFrom : Cond.instanceMethod mPg_pairFrom.1 ∈ lw_tbl := q_tw 1023 (by decide +kernel)
theorem ePg_columnsFit : qme mPg_columnsFit := ⟨by decide +kernel, by decide, ⟨by decide, by decide⟩, Or.inl ⟨q_tw 1028 (by decide +kernel), rfl⟩, q_tw 12 (by decide +kernel)⟩
theorem iPg_columnsFit : Cond.instanceMethod mPg_columnsFit.1 ∈ lw_tbl := q_tw 1027 (by decide +kernel)
theorem ePg_columnFits : qme mPg_columnFits := ⟨by decide +kernel, by decide, ⟨by decide, by decide⟩, Or.inl ⟨q_tw 1032 (by decide +kernel), rfl⟩, q_tw 12 (by decide +kernel)⟩
theorem iPg_columnFits : Cond.instanceMethod mPg_columnFits.1 ∈ lw_tbl := q_tw 1031 (by decide +kernel)
theorem eNf_classOf : qme mNf_classOf := ⟨by decide +kernel, by decide, ⟨by decide, by decide⟩, Or.inl ⟨q_tw 1036 (by decide +kernel), rfl⟩, q_tw 11 (by decide +kernel)⟩
theorem iNf_classOf : Cond.instanceMethod mNf_classOf.1 ∈ lw_tbl := q_tw 1034 (by decide +kernel)
theorem vNf_classOf : Cond.selects mNf_classOf.1.cls mNf_classOf.1 mNf_classOf.1 ∈ lw_tbl := q_tw 1035 (by decide +kernel)
theorem ePg_outputsFit : qme mPg_outputsFit := ⟨by decide +kernel, by decide, ⟨by decide, by decide⟩, Or.inl ⟨q_tw 1040 (by decide +kernel), rfl⟩, q_tw 12 (by decide +kernel)⟩
theorem iPg_outputsFit : Cond.instanceMethod mPg_outputsFit.1 ∈ lw_tbl := q_tw 1039 (by decide +kernel)
theorem ePg_arePaired : qme mPg_arePaired := ⟨by decide +kernel, by decide, ⟨by decide, by decide⟩, Or.inl ⟨q_tw 1044 (by decide +kernel), rfl⟩, q_tw 12 (by decide +kernel)⟩
theorem iPg_arePaired : Cond.instanceMethod mPg_arePaired.1 ∈ lw_tbl := q_tw 1043 (by decide +kernel)
theorem ePg_lessFits : qme mPg_lessFits := ⟨by decide +kernel, by decide, ⟨by decide, by decide⟩, Or.inl ⟨q_tw 1048 (by decide +kernel), rfl⟩, q_tw 12 (by decide +kernel)⟩
theorem iPg_lessFits : Cond.instanceMethod mPg_lessFits.1 ∈ lw_tbl := q_tw 1047 (by decide +kernel)
theorem ePg_isSameLess : qme mPg_isSameLess := ⟨by decide +kernel, by decide, ⟨by decide, by decide⟩, Or.inl ⟨q_tw 1052 (by decide +kernel), rfl⟩, q_tw 12 (by decide +kernel)⟩
theorem iPg_isSameLess : Cond.instanceMethod mPg_isSameLess.1 ∈ lw_tbl := q_tw 1051 (by decide +kernel)
theorem eLa_sources : qme mLa_sources := ⟨by decide +kernel, by decide, ⟨by decide, by decide⟩, Or.inr (q_tw 1055 (by decide +kernel)), q_tw 0 (by decide +kernel)⟩
theorem sLa_sources : Cond.static mLa_sources.1 ∈ lw_tbl := q_tw 1054 (by decide +kernel)
theorem eBp_sources : qme mBp_sources := ⟨by decide +kernel, by decide, ⟨by decide, by decide⟩, Or.inl ⟨q_tw 1059 (by decide +kernel), rfl⟩, q_tw 1 (by decide +kernel)⟩
theorem iBp_sources : Cond.instanceMethod mBp_sources.1 ∈ lw_tbl := q_tw 1057 (by decide +kernel)
theorem vBp_sources : Cond.selects mBp_sources.1.cls mBp_sources.1 mBp_sources.1 ∈ lw_tbl := q_tw 1058 (by decide +kernel)
theorem eMo_init : qme mMo_init := ⟨by decide +kernel, by decide, ⟨by decide, by decide⟩, Or.inl ⟨q_tw 1064 (by decide +kernel), rfl⟩, q_tw 13 (by decide +kernel)⟩
theorem iMo_init : Cond.instanceMethod mMo_init.1 ∈ lw_tbl := q_tw 1063 (by decide +kernel)
theorem kMo_init : Cond.code mMo_init.1 mMo_init.2.1 mMo_init.2.2.1 none ∈ lw_tbl := q_tw 1064 (by decide +kernel)
theorem eMo_thrown : qme mMo_thrown := ⟨by decide +kernel, by decide, ⟨by decide, by decide⟩, Or.inl ⟨q_tw 1201 (by decide +kernel), rfl⟩, q_tw 13 (by decide +kernel)⟩
theorem iMo_thrown : Cond.instanceMethod mMo_thrown.1 ∈ lw_tbl := q_tw 1199 (by decide +kernel)
theorem vMo_thrown : Cond.selects mMo_thrown.1.cls mMo_thrown.1 mMo_thrown.1 ∈ lw_tbl := q_tw 1200 (by decide +kernel)
theorem eMo_table : qme mMo_table := ⟨by decide +kernel, by decide, ⟨by decide, by decide⟩, Or.inl ⟨q_tw 1205 (by decide +kernel), rfl⟩, q_tw 13 (by decide +kernel)⟩
theorem iMo_table : Cond.instanceMethod mMo_table.1 ∈ lw_tbl := q_tw 1203 (by decide +kernel)
theorem vMo_table : Cond.selects mMo_table.1.cls mMo_table.1 mMo_table.1 ∈ lw_tbl := q_tw 1204 (by decide +kernel)
theorem eMo_key : qme mMo_key := ⟨by decide +kernel, by decide, ⟨by decide, by decide⟩, Or.inl ⟨q_tw 1209 (by decide +kernel), rfl⟩, q_tw 13 (by decide +kernel)⟩
theorem iMo_key : Cond.instanceMethod mMo_key.1 ∈ lw_tbl := q_tw 1207 (by decide +kernel)
theorem vMo_key : Cond.selects mMo_key.1.cls mMo_key.1 mMo_key.1 ∈ lw_tbl := q_tw 1208 (by decide +kernel)
theorem eMo_isColumn : qme mMo_isColumn := ⟨by decide +kernel, by decide, ⟨by decide, by decide⟩, Or.inl ⟨q_tw 1213 (by decide +kernel), rfl⟩, q_tw 13 (by decide +kernel)⟩
theorem iMo_isColumn : Cond.instanceMethod mMo_isColumn.1 ∈ lw_tbl := q_tw 1212 (by decide +kernel)
theorem eMo_having : qme mMo_having := ⟨by decide +kernel, by decide, ⟨by decide, by decide⟩, Or.inl ⟨q_tw 1217 (by decide +kernel), rfl⟩, q_tw 13 (by decide +kernel)⟩
theorem iMo_having : Cond.instanceMethod mMo_having.1 ∈ lw_tbl := q_tw 1216 (by decide +kernel)
theorem eMo_insert : qme mMo_insert := ⟨by decide +kernel, by decide, ⟨by decide, by decide⟩, Or.inl ⟨q_tw 1221 (by decide +kernel), rfl⟩, q_tw 13 (by decide +kernel)⟩
theorem iMo_insert : Cond.instanceMethod mMo_insert.1 ∈ lw_tbl := q_tw 1219 (by decide +kernel)
theorem vMo_insert : Cond.selects mMo_insert.1.cls mMo_insert.1 mMo_insert.1 ∈ lw_tbl := q_tw 1220 (by decide +kernel)
theorem eMo_delete : qme mMo_delete := ⟨by decide +kernel, by decide, ⟨by decide, by decide⟩, Or.inl ⟨q_tw 1225 (by decide +kernel), rfl⟩, q_tw 13 (by decide +kernel)⟩
theorem iMo_delete : Cond.instanceMethod mMo_delete.1 ∈ lw_tbl := q_tw 1223 (by decide +kernel)
theorem vMo_delete : Cond.selects mMo_delete.1.cls mMo_delete.1 mMo_delete.1 ∈ lw_tbl := q_tw 1224 (by decide +kernel)
theorem eMo_write : qme mMo_write := ⟨by decide +kernel, by decide, ⟨by decide, by decide⟩, Or.inl ⟨q_tw 1229 (by decide +kernel), rfl⟩, q_tw 13 (by decide +kernel)⟩
theorem iMo_write : Cond.instanceMethod mMo_write.1 ∈ lw_tbl := q_tw 1227 (by decide +kernel)
theorem vMo_write : Cond.selects mMo_write.1.cls mMo_write.1 mMo_write.1 ∈ lw_tbl := q_tw 1228 (by decide +kernel)
theorem eMo_wipe : qme mMo_wipe := ⟨by decide +kernel, by decide, ⟨by decide, by decide⟩, Or.inl ⟨q_tw 1234 (by decide +kernel), rfl⟩, q_tw 13 (by decide +kernel)⟩
theorem iMo_wipe : Cond.instanceMethod mMo_wipe.1 ∈ lw_tbl := q_tw 1232 (by decide +kernel)
theorem vMo_wipe : Cond.selects mMo_wipe.1.cls mMo_wipe.1 mMo_wipe.1 ∈ lw_tbl := q_tw 1233 (by decide +kernel)
theorem eMo_question : qme mMo_question := ⟨by decide +kernel, by decide, ⟨by decide, by decide⟩, Or.inl ⟨q_tw 1238 (by decide +kernel), rfl⟩, q_tw 13 (by decide +kernel)⟩
theorem iMo_question : Cond.instanceMethod mMo_question.1 ∈ lw_tbl := q_tw 1236 (by decide +kernel)
theorem vMo_question : Cond.selects mMo_question.1.cls mMo_question.1 mMo_question.1 ∈ lw_tbl := q_tw 1237 (by decide +kernel)
theorem eMo_readText : qme mMo_readText := ⟨by decide +kernel, by decide, ⟨by decide, by decide⟩, Or.inl ⟨q_tw 1242 (by decide +kernel), rfl⟩, q_tw 13 (by decide +kernel)⟩
theorem iMo_readText : Cond.instanceMethod mMo_readText.1 ∈ lw_tbl := q_tw 1241 (by decide +kernel)
theorem eMo_next : qme mMo_next := ⟨by decide +kernel, by decide, ⟨by decide, by decide⟩, Or.inl ⟨q_tw 1246 (by decide +kernel), rfl⟩, q_tw 13 (by decide +kernel)⟩
theorem iMo_next : Cond.instanceMethod mMo_next.1 ∈ lw_tbl := q_tw 1245 (by decide +kernel)
theorem eMo_see : qme mMo_see := ⟨by decide +kernel, by decide, ⟨by decide, by decide⟩, Or.inl ⟨q_tw 1250 (by decide +kernel), rfl⟩, q_tw 13 (by decide +kernel)⟩
theorem iMo_see : Cond.instanceMethod mMo_see.1 ∈ lw_tbl := q_tw 1249 (by decide +kernel)
theorem eMo_isSmall : qme mMo_isSmall := ⟨by decide +kernel, by decide, ⟨by decide, by decide⟩, Or.inl ⟨q_tw 1253 (by decide +kernel), rfl⟩, q_tw 13 (by decide +kernel)⟩
theorem sMo_isSmall : Cond.static mMo_isSmall.1 ∈ lw_tbl := q_tw 1252 (by decide +kernel)
theorem eMo_isDigit : qme mMo_isDigit := ⟨by decide +kernel, by decide, ⟨by decide, by decide⟩, Or.inl ⟨q_tw 1256 (by decide +kernel), rfl⟩, q_tw 13 (by decide +kernel)⟩
theorem sMo_isDigit : Cond.static mMo_isDigit.1 ∈ lw_tbl := q_tw 1255 (by decide +kernel)
theorem eMo_isSign : qme mMo_isSign := ⟨by decide +kernel, by decide, ⟨by decide, by decide⟩, Or.inl ⟨q_tw 1259 (by decide +kernel), rfl⟩, q_tw 13 (by decide +kernel)⟩
theorem sMo_isSign : Cond.static mMo_isSign.1 ∈ lw_tbl := q_tw 1258 (by decide +kernel)
theorem eMo_readBlock : qme mMo_readBlock := ⟨by decide +kernel, by decide, ⟨by decide, by decide⟩, Or.inl ⟨q_tw 1263 (by decide +kernel), rfl⟩, q_tw 13 (by decide +kernel)⟩
theorem iMo_readBlock : Cond.instanceMethod mMo_readBlock.1 ∈ lw_tbl := q_tw 1262 (by decide +kernel)
theorem eMo_isWord : qme mMo_isWord := ⟨by decide +kernel, by decide, ⟨by decide, by decide⟩, Or.inl ⟨q_tw 1267 (by decide +kernel), rfl⟩, q_tw 13 (by decide +kernel)⟩
theorem iMo_isWord : Cond.instanceMethod mMo_isWord.1 ∈ lw_tbl := q_tw 1266 (by decide +kernel)
theorem eMo_passesWord : qme mMo_passesWord := ⟨by decide +kernel, by decide, ⟨by decide, by decide⟩, Or.inl ⟨q_tw 1271 (by decide +kernel), rfl⟩, q_tw 13 (by decide +kernel)⟩
theorem iMo_passesWord : Cond.instanceMethod mMo_passesWord.1 ∈ lw_tbl := q_tw 1270 (by decide +kernel)
theorem eMo_readOutputs : qme mMo_readOutputs := ⟨by decide +kernel, by decide, ⟨by decide, by decide⟩, Or.inl ⟨q_tw 1275 (by decide +kernel), rfl⟩, q_tw 13 (by decide +kernel)⟩
theorem iMo_readOutputs : Cond.instanceMethod mMo_readOutputs.1 ∈ lw_tbl := q_tw 1274 (by decide +kernel)
theorem eMo_value : qme mMo_value := ⟨by decide +kernel, by decide, ⟨by decide, by decide⟩, Or.inl ⟨q_tw 1279 (by decide +kernel), rfl⟩, q_tw 13 (by decide +kernel)⟩
theorem iMo_value : Cond.instanceMethod mMo_value.1 ∈ lw_tbl := q_tw 1278 (by decide +kernel)
theorem eMo_passes : qme mMo_passes := ⟨by decide +kernel, by decide, ⟨by decide, by decide⟩, Or.inl ⟨q_tw 1283 (by decide +kernel), rfl⟩, q_tw 13 (by decide +kernel)⟩
theorem iMo_passes : Cond.instanceMethod mMo_passes.1 ∈ lw_tbl := q_tw 1282 (by decide +kernel)
theorem eMo_isIt : qme mMo_isIt := ⟨by decide +kernel, by decide, ⟨by decide, by decide⟩, Or.inl ⟨q_tw 1287 (by decide +kernel), rfl⟩, q_tw 13 (by decide +kernel)⟩
theorem iMo_isIt : Cond.instanceMethod mMo_isIt.1 ∈ lw_tbl := q_tw 1286 (by decide +kernel)
theorem eMo_readSources : qme mMo_readSources := ⟨by decide +kernel, by decide, ⟨by decide, by decide⟩, Or.inl ⟨q_tw 1291 (by decide +kernel), rfl⟩, q_tw 13 (by decide +kernel)⟩
theorem iMo_readSources : Cond.instanceMethod mMo_readSources.1 ∈ lw_tbl := q_tw 1290 (by decide +kernel)
theorem eMo_readSource : qme mMo_readSource := ⟨by decide +kernel, by decide, ⟨by decide, by decide⟩, Or.inl ⟨q_tw 1295 (by decide +kernel), rfl⟩, q_tw 13 (by decide +kernel)⟩
theorem iMo_readSource : Cond.instanceMethod mMo_readSource.1 ∈ lw_tbl := q_tw 1294 (by decide +kernel)
theorem eMo_isWhere : qme mMo_isWhere := ⟨by decide +kernel, by decide, ⟨by decide, by decide⟩, Or.inl ⟨q_tw 1299 (by decide +kernel), rfl⟩, q_tw 13 (by decide +kernel)⟩
theorem iMo_isWhere : Cond.instanceMethod mMo_isWhere.1 ∈ lw_tbl := q_tw 1298 (by decide +kernel)
theorem eMo_readConditions : qme mMo_readConditions := ⟨by decide +kernel, by decide, ⟨by decide, by decide⟩, Or.inl ⟨q_tw 1303 (by decide +kernel), rfl⟩, q_tw 13 (by decide +kernel)⟩
theorem iMo_readConditions : Cond.instanceMethod mMo_readConditions.1 ∈ lw_tbl := q_tw 1302 (by decide +kernel)
theorem eMo_resolve : qme mMo_resolve := ⟨by decide +kernel, by decide, ⟨by decide, by decide⟩, Or.inl ⟨q_tw 1307 (by decide +kernel), rfl⟩, q_tw 13 (by decide +kernel)⟩
theorem iMo_resolve : Cond.instanceMethod mMo_resolve.1 ∈ lw_tbl := q_tw 1306 (by decide +kernel)
theorem eMo_resolved : qme mMo_resolved := ⟨by decide +kernel, by decide, ⟨by decide, by decide⟩, Or.inl ⟨q_tw 1311 (by decide +kernel), rfl⟩, q_tw 13 (by decide +kernel)⟩
theorem iMo_resolved : Cond.instanceMethod mMo_resolved.1 ∈ lw_tbl := q_tw 1310 (by decide +kernel)
theorem eMo_copyBlock : qme mMo_copyBlock := ⟨by decide +kernel, by decide, ⟨by decide, by decide⟩, Or.inl ⟨q_tw 1315 (by decide +kernel), rfl⟩, q_tw 13 (by decide +kernel)⟩
theorem iMo_copyBlock : Cond.instanceMethod mMo_copyBlock.1 ∈ lw_tbl := q_tw 1314 (by decide +kernel)
theorem eMo_place : qme mMo_place := ⟨by decide +kernel, by decide, ⟨by decide, by decide⟩, Or.inl ⟨q_tw 1319 (by decide +kernel), rfl⟩, q_tw 13 (by decide +kernel)⟩
theorem iMo_place : Cond.instanceMethod mMo_place.1 ∈ lw_tbl := q_tw 1317 (by decide +kernel)
theorem vMo_place : Cond.selects mMo_place.1.cls mMo_place.1 mMo_place.1 ∈ lw_tbl := q_tw 1318 (by decide +kernel)
theorem eMo_forget : qme mMo_forget := ⟨by decide +kernel, by decide, ⟨by decide, by decide⟩, Or.inl ⟨q_tw 1323 (by decide +kernel), rfl⟩, q_tw 13 (by decide +kernel)⟩
theorem iMo_forget : Cond.instanceMethod mMo_forget.1 ∈ lw_tbl := q_tw 1321 (by decide +kernel)
theorem vMo_forget : Cond.selects mMo_forget.1.cls mMo_forget.1 mMo_forget.1 ∈ lw_tbl := q_tw 1322 (by decide +kernel)
theorem eMo_run : qme mMo_run := ⟨by decide +kernel, by decide, ⟨by decide, by decide⟩, Or.inl ⟨q_tw 1327 (by decide +kernel), rfl⟩, q_tw 13 (by decide +kernel)⟩
theorem iMo_run : Cond.instanceMethod mMo_run.1 ∈ lw_tbl := q_tw 1325 (by decide +kernel)
theorem vMo_run : Cond.selects mMo_run.1.cls mMo_run.1 mMo_run.1 ∈ lw_tbl := q_tw 1326 (by decide +kernel)
theorem eMo_take : qme mMo_take := ⟨by decide +kernel, by decide, ⟨by decide, by decide⟩, Or.inl ⟨q_tw 1331 (by decide +kernel), rfl⟩, q_tw 13 (by decide +kernel)⟩
theorem iMo_take : Cond.instanceMethod mMo_take.1 ∈ lw_tbl := q_tw 1330 (by decide +kernel)
theorem eMo_allTrue : qme mMo_allTrue := ⟨by decide +kernel, by decide, ⟨by decide, by decide⟩, Or.inl ⟨q_tw 1335 (by decide +kernel), rfl⟩, q_tw 13 (by decide +kernel)⟩
theorem iMo_allTrue : Cond.instanceMethod mMo_allTrue.1 ∈ lw_tbl := q_tw 1334 (by decide +kernel)
theorem eMo_valueOf : qme mMo_valueOf := ⟨by decide +kernel, by decide, ⟨by decide, by decide⟩, Or.inl ⟨q_tw 1339 (by decide +kernel), rfl⟩, q_tw 13 (by decide +kernel)⟩
theorem iMo_valueOf : Cond.instanceMethod mMo_valueOf.1 ∈ lw_tbl := q_tw 1338 (by decide +kernel)
theorem eMo_count : qme mMo_count := ⟨by decide +kernel, by decide, ⟨by decide, by decide⟩, Or.inl ⟨q_tw 1343 (by decide +kernel), rfl⟩, q_tw 13 (by decide +kernel)⟩
theorem iMo_count : Cond.instanceMethod mMo_count.1 ∈ lw_tbl := q_tw 1342 (by decide +kernel)
theorem eMo_merge : qme mMo_merge := ⟨by decide +kernel, by decide, ⟨by decide, by decide⟩, Or.inl ⟨q_tw 1347 (by decide +kernel), rfl⟩, q_tw 13 (by decide +kernel)⟩
theorem iMo_merge : Cond.instanceMethod mMo_merge.1 ∈ lw_tbl := q_tw 1346 (by decide +kernel)
theorem eMo_inBlock : qme mMo_inBlock := ⟨by decide +kernel, by decide, ⟨by decide, by decide⟩, Or.inl ⟨q_tw 1351 (by decide +kernel), rfl⟩, q_tw 13 (by decide +kernel)⟩
theorem iMo_inBlock : Cond.instanceMethod mMo_inBlock.1 ∈ lw_tbl := q_tw 1350 (by decide +kernel)
theorem eMo_addNew : qme mMo_addNew := ⟨by decide +kernel, by decide, ⟨by decide, by decide⟩, Or.inl ⟨q_tw 1355 (by decide +kernel), rfl⟩, q_tw 13 (by decide +kernel)⟩
theorem iMo_addNew : Cond.instanceMethod mMo_addNew.1 ∈ lw_tbl := q_tw 1354 (by decide +kernel)
theorem eMo_settle : qme mMo_settle := ⟨by decide +kernel, by decide, ⟨by decide, by decide⟩, Or.inl ⟨q_tw 1359 (by decide +kernel), rfl⟩, q_tw 13 (by decide +kernel)⟩
theorem iMo_settle : Cond.instanceMethod mMo_settle.1 ∈ lw_tbl := q_tw 1358 (by decide +kernel)
theorem eMo_isBefore : qme mMo_isBefore := ⟨by decide +kernel, by decide, ⟨by decide, by decide⟩, Or.inl ⟨q_tw 1363 (by decide +kernel), rfl⟩, q_tw 13 (by decide +kernel)⟩
theorem iMo_isBefore : Cond.instanceMethod mMo_isBefore.1 ∈ lw_tbl := q_tw 1362 (by decide +kernel)
theorem eMo_row : qme mMo_row := ⟨by decide +kernel, by decide, ⟨by decide, by decide⟩, Or.inl ⟨q_tw 1367 (by decide +kernel), rfl⟩, q_tw 13 (by decide +kernel)⟩
theorem iMo_row : Cond.instanceMethod mMo_row.1 ∈ lw_tbl := q_tw 1365 (by decide +kernel)
theorem vMo_row : Cond.selects mMo_row.1.cls mMo_row.1 mMo_row.1 ∈ lw_tbl := q_tw 1366 (by decide +kernel)
theorem eMo_times : qme mMo_times := ⟨by decide +kernel, by decide, ⟨by decide, by decide⟩, Or.inl ⟨q_tw 1371 (by decide +kernel), rfl⟩, q_tw 13 (by decide +kernel)⟩
theorem iMo_times : Cond.instanceMethod mMo_times.1 ∈ lw_tbl := q_tw 1369 (by decide +kernel)
theorem vMo_times : Cond.selects mMo_times.1.cls mMo_times.1 mMo_times.1 ∈ lw_tbl := q_tw 1370 (by decide +kernel)
theorem eMo_total : qme mMo_total := ⟨by decide +kernel, by decide, ⟨by decide, by decide⟩, Or.inl ⟨q_tw 1375 (by decide +kernel), rfl⟩, q_tw 13 (by decide +kernel)⟩
theorem iMo_total : Cond.instanceMethod mMo_total.1 ∈ lw_tbl := q_tw 1373 (by decide +kernel)
theorem vMo_total : Cond.selects mMo_total.1.cls mMo_total.1 mMo_total.1 ∈ lw_tbl := q_tw 1374 (by decide +kernel)
theorem eMo_alike : qme mMo_alike := ⟨by decide +kernel, by decide, ⟨by decide, by decide⟩, Or.inl ⟨q_tw 1379 (by decide +kernel), rfl⟩, q_tw 13 (by decide +kernel)⟩
theorem iMo_alike : Cond.instanceMethod mMo_alike.1 ∈ lw_tbl := q_tw 1377 (by decide +kernel)
theorem vMo_alike : Cond.selects mMo_alike.1.cls mMo_alike.1 mMo_alike.1 ∈ lw_tbl := q_tw 1378 (by decide +kernel)
theorem eMo_form : qme mMo_form := ⟨by decide +kernel, by decide, ⟨by decide, by decide⟩, Or.inl ⟨q_tw 1383 (by decide +kernel), rfl⟩, q_tw 13 (by decide +kernel)⟩
theorem iMo_form : Cond.instanceMethod mMo_form.1 ∈ lw_tbl := q_tw 1382 (by decide +kernel)
theorem eMo_node : qme mMo_node := ⟨by decide +kernel, by decide, ⟨by decide, by decide⟩, Or.inl ⟨q_tw 1387 (by decide +kernel), rfl⟩, q_tw 13 (by decide +kernel)⟩
theorem iMo_node : Cond.instanceMethod mMo_node.1 ∈ lw_tbl := q_tw 1386 (by decide +kernel)
theorem eMo_unite : qme mMo_unite := ⟨by decide +kernel, by decide, ⟨by decide, by decide⟩, Or.inl ⟨q_tw 1391 (by decide +kernel), rfl⟩, q_tw 13 (by decide +kernel)⟩
theorem iMo_unite : Cond.instanceMethod mMo_unite.1 ∈ lw_tbl := q_tw 1390 (by decide +kernel)
theorem eMo_areOne : qme mMo_areOne := ⟨by decide +kernel, by decide, ⟨by decide, by decide⟩, Or.inl ⟨q_tw 1395 (by decide +kernel), rfl⟩, q_tw 13 (by decide +kernel)⟩
theorem iMo_areOne : Cond.instanceMethod mMo_areOne.1 ∈ lw_tbl := q_tw 1394 (by decide +kernel)
theorem eMo_join : qme mMo_join := ⟨by decide +kernel, by decide, ⟨by decide, by decide⟩, Or.inl ⟨q_tw 1399 (by decide +kernel), rfl⟩, q_tw 13 (by decide +kernel)⟩
theorem iMo_join : Cond.instanceMethod mMo_join.1 ∈ lw_tbl := q_tw 1398 (by decide +kernel)
theorem eMo_isEmpty : qme mMo_isEmpty := ⟨by decide +kernel, by decide, ⟨by decide, by decide⟩, Or.inl ⟨q_tw 1403 (by decide +kernel), rfl⟩, q_tw 13 (by decide +kernel)⟩
theorem iMo_isEmpty : Cond.instanceMethod mMo_isEmpty.1 ∈ lw_tbl := q_tw 1402 (by decide +kernel)
theorem eMo_numberOf : qme mMo_numberOf := ⟨by decide +kernel, by decide, ⟨by decide, by decide⟩, Or.inl ⟨q_tw 1407 (by decide +kernel), rfl⟩, q_tw 13 (by decide +kernel)⟩
theorem iMo_numberOf : Cond.instanceMethod mMo_numberOf.1 ∈ lw_tbl := q_tw 1406 (by decide +kernel)
theorem eMo_leftOver : qme mMo_leftOver := ⟨by decide +kernel, by decide, ⟨by decide, by decide⟩, Or.inl ⟨q_tw 1411 (by decide +kernel), rfl⟩, q_tw 13 (by decide +kernel)⟩
theorem iMo_leftOver : Cond.instanceMethod mMo_leftOver.1 ∈ lw_tbl := q_tw 1410 (by decide +kernel)
theorem eMo_isPairing : qme mMo_isPairing := ⟨by decide +kernel, by decide, ⟨by decide, by decide⟩, Or.inl ⟨q_tw 1415 (by decide +kernel), rfl⟩, q_tw 13 (by decide +kernel)⟩
theorem iMo_isPairing : Cond.instanceMethod mMo_isPairing.1 ∈ lw_tbl := q_tw 1414 (by decide +kernel)
theorem eMo_fits : qme mMo_fits := ⟨by decide +kernel, by decide, ⟨by decide, by decide⟩, Or.inl ⟨q_tw 1419 (by decide +kernel), rfl⟩, q_tw 13 (by decide +kernel)⟩
theorem iMo_fits : Cond.instanceMethod mMo_fits.1 ∈ lw_tbl := q_tw 1418 (by decide +kernel)
theorem eMo_classesGo : qme mMo_classesGo := ⟨by decide +kernel, by decide, ⟨by decide, by decide⟩, Or.inl ⟨q_tw 1423 (by decide +kernel), rfl⟩, q_tw 13 (by decide +kernel)⟩
theorem iMo_classesGo : Cond.instanceMethod mMo_classesGo.1 ∈ lw_tbl := q_tw 1422 (by decide +kernel)
theorem eMo_goWith : qme mMo_goWith := ⟨by decide +kernel, by decide, ⟨by decide, by decide⟩, Or.inl ⟨q_tw 1427 (by decide +kernel), rfl⟩, q_tw 13 (by decide +kernel)⟩
theorem iMo_goWith : Cond.instanceMethod mMo_goWith.1 ∈ lw_tbl := q_tw 1426 (by decide +kernel)
theorem eMo_paired : qme mMo_paired := ⟨by decide +kernel, by decide, ⟨by decide, by decide⟩, Or.inl ⟨q_tw 1431 (by decide +kernel), rfl⟩, q_tw 13 (by decide +kernel)⟩
theorem iMo_paired : Cond.instanceMethod mMo_paired.1 ∈ lw_tbl := q_tw 1430 (by decide +kernel)
theorem eMo_isOpen : qme mMo_isOpen := ⟨by decide +kernel, by decide, ⟨by decide, by decide⟩, Or.inl ⟨q_tw 1435 (by decide +kernel), rfl⟩, q_tw 13 (by decide +kernel)⟩
theorem iMo_isOpen : Cond.instanceMethod mMo_isOpen.1 ∈ lw_tbl := q_tw 1434 (by decide +kernel)
theorem eMo_sameLess : qme mMo_sameLess := ⟨by decide +kernel, by decide, ⟨by decide, by decide⟩, Or.inl ⟨q_tw 1439 (by decide +kernel), rfl⟩, q_tw 13 (by decide +kernel)⟩
theorem iMo_sameLess : Cond.instanceMethod mMo_sameLess.1 ∈ lw_tbl := q_tw 1438 (by decide +kernel)
theorem eMo_sources : qme mMo_sources := ⟨by decide +kernel, by decide, ⟨by decide, by decide⟩, Or.inl ⟨q_tw 1443 (by decide +kernel), rfl⟩, q_tw 13 (by decide +kernel)⟩
theorem iMo_sources : Cond.instanceMethod mMo_sources.1 ∈ lw_tbl := q_tw 1441 (by decide +kernel)
theorem vMo_sources : Cond.selects mMo_sources.1.cls mMo_sources.1 mMo_sources.1 ∈ lw_tbl := q_tw 1442 (by decide +kernel)
theorem vBp_tableWithColumn : Cond.selects mBp_tableWithColumn.1.cls mBp_tableWithColumn.1 mBp_tableWithColumn.1 ∈ lw_tbl := q_tp 1 (by decide +kernel)
theorem vTab_isTaken : Cond.selects mTab_isTaken.1.cls mTab_isTaken.1 mTab_isTaken.1 ∈ lw_tbl := q_tp 2 (by decide +kernel)
theorem vTok_addToken : Cond.selects mTok_addToken.1.cls mTok_addToken.1 mTok_addToken.1 ∈ lw_tbl := q_tp 3 (by decide +kernel)
theorem vTok_put : Cond.selects mTok_put.1.cls mTok_put.1 mTok_put.1 ∈ lw_tbl := q_tp 4 (by decide +kernel)
theorem vRd_readBlock : Cond.selects mRd_readBlock.1.cls mRd_readBlock.1 mRd_readBlock.1 ∈ lw_tbl := q_tp 5 (by decide +kernel)
theorem vRd_readOutputs : Cond.selects mRd_readOutputs.1.cls mRd_readOutputs.1 mRd_readOutputs.1 ∈ lw_tbl := q_tp 6 (by decide +kernel)
theorem vRd_readValue : Cond.selects mRd_readValue.1.cls mRd_readValue.1 mRd_readValue.1 ∈ lw_tbl := q_tp 7 (by decide +kernel)
theorem vRd_readSources : Cond.selects mRd_readSources.1.cls mRd_readSources.1 mRd_readSources.1 ∈ lw_tbl := q_tp 8 (by decide +kernel)
theorem vRd_readConditions : Cond.selects mRd_readConditions.1.cls mRd_readConditions.1 mRd_readConditions.1 ∈ lw_tbl := q_tp 9 (by decide +kernel)
theorem vRd_isBehindBlock : Cond.selects mRd_isBehindBlock.1.cls mRd_isBehindBlock.1 mRd_isBehindBlock.1 ∈ lw_tbl := q_tp 10 (by decide +kernel)
theorem vBp_questionAt : Cond.selects mBp_questionAt.1.cls mBp_questionAt.1 mBp_questionAt.1 ∈ lw_tbl := q_tp 11 (by decide +kernel)
theorem vBp_answerInto : Cond.selects mBp_answerInto.1.cls mBp_answerInto.1 mBp_answerInto.1 ∈ lw_tbl := q_tp 12 (by decide +kernel)
theorem vPlan_markUsed : Cond.selects mPlan_markUsed.1.cls mPlan_markUsed.1 mPlan_markUsed.1 ∈ lw_tbl := q_tp 13 (by decide +kernel)
theorem vPlan_findLastSources : Cond.selects mPlan_findLastSources.1.cls mPlan_findLastSources.1 mPlan_findLastSources.1 ∈ lw_tbl := q_tp 14 (by decide +kernel)
theorem vPlan_holdsAt : Cond.selects mPlan_holdsAt.1.cls mPlan_holdsAt.1 mPlan_holdsAt.1 ∈ lw_tbl := q_tp 15 (by decide +kernel)
theorem vPlan_valueOf : Cond.selects mPlan_valueOf.1.cls mPlan_valueOf.1 mPlan_valueOf.1 ∈ lw_tbl := q_tp 16 (by decide +kernel)
theorem vPlan_choose : Cond.selects mPlan_choose.1.cls mPlan_choose.1 mPlan_choose.1 ∈ lw_tbl := q_tp 17 (by decide +kernel)
theorem vPlan_setOutput : Cond.selects mPlan_setOutput.1.cls mPlan_setOutput.1 mPlan_setOutput.1 ∈ lw_tbl := q_tp 18 (by decide +kernel)
theorem vBag_firstNotBefore : Cond.selects mBag_firstNotBefore.1.cls mBag_firstNotBefore.1 mBag_firstNotBefore.1 ∈ lw_tbl := q_tp 19 (by decide +kernel)
theorem vBag_compare : Cond.selects mBag_compare.1.cls mBag_compare.1 mBag_compare.1 ∈ lw_tbl := q_tp 20 (by decide +kernel)
theorem vBag_addAll : Cond.selects mBag_addAll.1.cls mBag_addAll.1 mBag_addAll.1 ∈ lw_tbl := q_tp 21 (by decide +kernel)
theorem vBag_countOf : Cond.selects mBag_countOf.1.cls mBag_countOf.1 mBag_countOf.1 ∈ lw_tbl := q_tp 22 (by decide +kernel)
theorem vNf_collectNumbers : Cond.selects mNf_collectNumbers.1.cls mNf_collectNumbers.1 mNf_collectNumbers.1 ∈ lw_tbl := q_tp 23 (by decide +kernel)
theorem vNf_indexOf : Cond.selects mNf_indexOf.1.cls mNf_indexOf.1 mNf_indexOf.1 ∈ lw_tbl := q_tp 24 (by decide +kernel)
theorem vNf_joinEqualSides : Cond.selects mNf_joinEqualSides.1.cls mNf_joinEqualSides.1 mNf_joinEqualSides.1 ∈ lw_tbl := q_tp 25 (by decide +kernel)
theorem vNf_classOfSlot : Cond.selects mNf_classOfSlot.1.cls mNf_classOfSlot.1 mNf_classOfSlot.1 ∈ lw_tbl := q_tp 26 (by decide +kernel)
theorem vNf_merge : Cond.selects mNf_merge.1.cls mNf_merge.1 mNf_merge.1 ∈ lw_tbl := q_tp 27 (by decide +kernel)
theorem vNf_joinOnes : Cond.selects mNf_joinOnes.1.cls mNf_joinOnes.1 mNf_joinOnes.1 ∈ lw_tbl := q_tp 28 (by decide +kernel)
theorem vNf_areOne : Cond.selects mNf_areOne.1.cls mNf_areOne.1 mNf_areOne.1 ∈ lw_tbl := q_tp 29 (by decide +kernel)
theorem vNf_mergeColumns : Cond.selects mNf_mergeColumns.1.cls mNf_mergeColumns.1 mNf_mergeColumns.1 ∈ lw_tbl := q_tp 30 (by decide +kernel)
theorem vNf_numberClasses : Cond.selects mNf_numberClasses.1.cls mNf_numberClasses.1 mNf_numberClasses.1 ∈ lw_tbl := q_tp 31 (by decide +kernel)
theorem vNf_findLess : Cond.selects mNf_findLess.1.cls mNf_findLess.1 mNf_findLess.1 ∈ lw_tbl := q_tp 32 (by decide +kernel)
theorem vNf_addLess : Cond.selects mNf_addLess.1.cls mNf_addLess.1 mNf_addLess.1 ∈ lw_tbl := q_tp 33 (by decide +kernel)
theorem vNf_findOutputs : Cond.selects mNf_findOutputs.1.cls mNf_findOutputs.1 mNf_findOutputs.1 ∈ lw_tbl := q_tp 34 (by decide +kernel)
theorem vNf_findLeft : Cond.selects mNf_findLeft.1.cls mNf_findLeft.1 mNf_findLeft.1 ∈ lw_tbl := q_tp 35 (by decide +kernel)
theorem vNf_isOneWithLeft : Cond.selects mNf_isOneWithLeft.1.cls mNf_isOneWithLeft.1 mNf_isOneWithLeft.1 ∈ lw_tbl := q_tp 36 (by decide +kernel)
theorem vPg_pairFrom : Cond.selects mPg_pairFrom.1.cls mPg_pairFrom.1 mPg_pairFrom.1 ∈ lw_tbl := q_tp 37 (by decide +kernel)
theorem vPg_columnsFit : Cond.selects mPg_columnsFit.1.cls mPg_columnsFit.1 mPg_columnsFit.1 ∈ lw_tbl := q_tp 38 (by decide +kernel)
theorem vPg_columnFits : Cond.selects mPg_columnFits.1.cls mPg_columnFits.1 mPg_columnFits.1 ∈ lw_tbl := q_tp 39 (by decide +kernel)
theorem vPg_outputsFit : Cond.selects mPg_outputsFit.1.cls mPg_outputsFit.1 mPg_outputsFit.1 ∈ lw_tbl := q_tp 40 (by decide +kernel)
theorem vPg_arePaired : Cond.selects mPg_arePaired.1.cls mPg_arePaired.1 mPg_arePaired.1 ∈ lw_tbl := q_tp 41 (by decide +kernel)
theorem vPg_lessFits : Cond.selects mPg_lessFits.1.cls mPg_lessFits.1 mPg_lessFits.1 ∈ lw_tbl := q_tp 42 (by decide +kernel)
theorem vPg_isSameLess : Cond.selects mPg_isSameLess.1.cls mPg_isSameLess.1 mPg_isSameLess.1 ∈ lw_tbl := q_tp 43 (by decide +kernel)
theorem vMo_isColumn : Cond.selects mMo_isColumn.1.cls mMo_isColumn.1 mMo_isColumn.1 ∈ lw_tbl := q_tp 44 (by decide +kernel)
theorem vMo_having : Cond.selects mMo_having.1.cls mMo_having.1 mMo_having.1 ∈ lw_tbl := q_tp 45 (by decide +kernel)
theorem vMo_readText : Cond.selects mMo_readText.1.cls mMo_readText.1 mMo_readText.1 ∈ lw_tbl := q_tp 46 (by decide +kernel)
theorem vMo_next : Cond.selects mMo_next.1.cls mMo_next.1 mMo_next.1 ∈ lw_tbl := q_tp 47 (by decide +kernel)
theorem vMo_see : Cond.selects mMo_see.1.cls mMo_see.1 mMo_see.1 ∈ lw_tbl := q_tp 48 (by decide +kernel)
theorem vMo_readBlock : Cond.selects mMo_readBlock.1.cls mMo_readBlock.1 mMo_readBlock.1 ∈ lw_tbl := q_tp 49 (by decide +kernel)
theorem vMo_isWord : Cond.selects mMo_isWord.1.cls mMo_isWord.1 mMo_isWord.1 ∈ lw_tbl := q_tp 50 (by decide +kernel)
theorem vMo_passesWord : Cond.selects mMo_passesWord.1.cls mMo_passesWord.1 mMo_passesWord.1 ∈ lw_tbl := q_tp 51 (by decide +kernel)
theorem vMo_readOutputs : Cond.selects mMo_readOutputs.1.cls mMo_readOutputs.1 mMo_readOutputs.1 ∈ lw_tbl := q_tp 52 (by decide +kernel)
theorem vMo_value : Cond.selects mMo_value.1.cls mMo_value.1 mMo_value.1 ∈ lw_tbl := q_tp 53 (by decide +kernel)
theorem vMo_passes : Cond.selects mMo_passes.1.cls mMo_passes.1 mMo_passes.1 ∈ lw_tbl := q_tp 54 (by decide +kernel)
theorem vMo_isIt : Cond.selects mMo_isIt.1.cls mMo_isIt.1 mMo_isIt.1 ∈ lw_tbl := q_tp 55 (by decide +kernel)
theorem vMo_readSources : Cond.selects mMo_readSources.1.cls mMo_readSources.1 mMo_readSources.1 ∈ lw_tbl := q_tp 56 (by decide +kernel)
theorem vMo_readSource : Cond.selects mMo_readSource.1.cls mMo_readSource.1 mMo_readSource.1 ∈ lw_tbl := q_tp 57 (by decide +kernel)
theorem vMo_isWhere : Cond.selects mMo_isWhere.1.cls mMo_isWhere.1 mMo_isWhere.1 ∈ lw_tbl := q_tp 58 (by decide +kernel)
theorem vMo_readConditions : Cond.selects mMo_readConditions.1.cls mMo_readConditions.1 mMo_readConditions.1 ∈ lw_tbl := q_tp 59 (by decide +kernel)
theorem vMo_resolve : Cond.selects mMo_resolve.1.cls mMo_resolve.1 mMo_resolve.1 ∈ lw_tbl := q_tp 60 (by decide +kernel)
theorem vMo_resolved : Cond.selects mMo_resolved.1.cls mMo_resolved.1 mMo_resolved.1 ∈ lw_tbl := q_tp 61 (by decide +kernel)
theorem vMo_copyBlock : Cond.selects mMo_copyBlock.1.cls mMo_copyBlock.1 mMo_copyBlock.1 ∈ lw_tbl := q_tp 62 (by decide +kernel)
theorem vMo_take : Cond.selects mMo_take.1.cls mMo_take.1 mMo_take.1 ∈ lw_tbl := q_tp 63 (by decide +kernel)
theorem vMo_allTrue : Cond.selects mMo_allTrue.1.cls mMo_allTrue.1 mMo_allTrue.1 ∈ lw_tbl := q_tp 64 (by decide +kernel)
theorem vMo_valueOf : Cond.selects mMo_valueOf.1.cls mMo_valueOf.1 mMo_valueOf.1 ∈ lw_tbl := q_tp 65 (by decide +kernel)
theorem vMo_count : Cond.selects mMo_count.1.cls mMo_count.1 mMo_count.1 ∈ lw_tbl := q_tp 66 (by decide +kernel)
theorem vMo_merge : Cond.selects mMo_merge.1.cls mMo_merge.1 mMo_merge.1 ∈ lw_tbl := q_tp 67 (by decide +kernel)
theorem vMo_inBlock : Cond.selects mMo_inBlock.1.cls mMo_inBlock.1 mMo_inBlock.1 ∈ lw_tbl := q_tp 68 (by decide +kernel)
theorem vMo_addNew : Cond.selects mMo_addNew.1.cls mMo_addNew.1 mMo_addNew.1 ∈ lw_tbl := q_tp 69 (by decide +kernel)
theorem vMo_settle : Cond.selects mMo_settle.1.cls mMo_settle.1 mMo_settle.1 ∈ lw_tbl := q_tp 70 (by decide +kernel)
theorem vMo_isBefore : Cond.selects mMo_isBefore.1.cls mMo_isBefore.1 mMo_isBefore.1 ∈ lw_tbl := q_tp 71 (by decide +kernel)
theorem vMo_form : Cond.selects mMo_form.1.cls mMo_form.1 mMo_form.1 ∈ lw_tbl := q_tp 72 (by decide +kernel)
theorem vMo_node : Cond.selects mMo_node.1.cls mMo_node.1 mMo_node.1 ∈ lw_tbl := q_tp 73 (by decide +kernel)
theorem vMo_unite : Cond.selects mMo_unite.1.cls mMo_unite.1 mMo_unite.1 ∈ lw_tbl := q_tp 74 (by decide +kernel)
theorem vMo_areOne : Cond.selects mMo_areOne.1.cls mMo_areOne.1 mMo_areOne.1 ∈ lw_tbl := q_tp 75 (by decide +kernel)
theorem vMo_join : Cond.selects mMo_join.1.cls mMo_join.1 mMo_join.1 ∈ lw_tbl := q_tp 76 (by decide +kernel)
theorem vMo_isEmpty : Cond.selects mMo_isEmpty.1.cls mMo_isEmpty.1 mMo_isEmpty.1 ∈ lw_tbl := q_tp 77 (by decide +kernel)
theorem vMo_numberOf : Cond.selects mMo_numberOf.1.cls mMo_numberOf.1 mMo_numberOf.1 ∈ lw_tbl := q_tp 78 (by decide +kernel)
theorem vMo_leftOver : Cond.selects mMo_leftOver.1.cls mMo_leftOver.1 mMo_leftOver.1 ∈ lw_tbl := q_tp 79 (by decide +kernel)
theorem vMo_isPairing : Cond.selects mMo_isPairing.1.cls mMo_isPairing.1 mMo_isPairing.1 ∈ lw_tbl := q_tp 80 (by decide +kernel)
theorem vMo_fits : Cond.selects mMo_fits.1.cls mMo_fits.1 mMo_fits.1 ∈ lw_tbl := q_tp 81 (by decide +kernel)
theorem vMo_classesGo : Cond.selects mMo_classesGo.1.cls mMo_classesGo.1 mMo_classesGo.1 ∈ lw_tbl := q_tp 82 (by decide +kernel)
theorem vMo_goWith : Cond.selects mMo_goWith.1.cls mMo_goWith.1 mMo_goWith.1 ∈ lw_tbl := q_tp 83 (by decide +kernel)
theorem vMo_paired : Cond.selects mMo_paired.1.cls mMo_paired.1 mMo_paired.1 ∈ lw_tbl := q_tp 84 (by decide +kernel)
theorem vMo_isOpen : Cond.selects mMo_isOpen.1.cls mMo_isOpen.1 mMo_isOpen.1 ∈ lw_tbl := q_tp 85 (by decide +kernel)
theorem vMo_sameLess : Cond.selects mMo_sameLess.1.cls mMo_sameLess.1 mMo_sameLess.1 ∈ lw_tbl := q_tp 86 (by decide +kernel)
theorem lLa_54 : qlk "BagPlannerLaw" 54 mBp_init := Or.inl (q_tw 30 (by decide +kernel))
theorem oBp_3 : Cond.methodLink "BagPlanner" 3 objectInit ∈ lw_tbl := q_tw 33 (by decide +kernel)
theorem lBp_11 : qlk "BagPlanner" 11 mCat_init := Or.inl (q_tw 38 (by decide +kernel))
theorem oCat_3 : Cond.methodLink "BagPlanner$Catalog" 3 objectInit ∈ lw_tbl := q_tw 41 (by decide +kernel)
theorem lCat_17 : qlk "BagPlanner$Catalog" 17 mTab_init := Or.inr ⟨"BagPlanner", q_tw 45 (by decide +kernel)⟩
theorem oTab_3 : Cond.methodLink "BagPlanner$Table" 3 objectInit ∈ lw_tbl := q_tw 48 (by decide +kernel)
theorem lBp_18 : qlk "BagPlanner" 18 mTxt_init := Or.inr ⟨"BagPlanner", q_tw 84 (by decide +kernel)⟩
theorem oTxt_3 : Cond.methodLink "BagPlanner$Text" 3 objectInit ∈ lw_tbl := q_tw 87 (by decide +kernel)
theorem lBp_25 : qlk "BagPlanner" 25 mRd_init := Or.inr ⟨"BagPlanner", q_tw 100 (by decide +kernel)⟩
theorem oRd_3 : Cond.methodLink "BagPlanner$Reader" 3 objectInit ∈ lw_tbl := q_tw 103 (by decide +kernel)
theorem lRd_11 : qlk "BagPlanner$Reader" 11 mTok_init := Or.inr ⟨"BagPlanner", q_tw 106 (by decide +kernel)⟩
theorem oTok_3 : Cond.methodLink "BagPlanner$Tokens" 3 objectInit ∈ lw_tbl := q_tw 109 (by decide +kernel)
theorem lBp_36 : qlk "BagPlanner" 36 mQu_init := Or.inl (q_tw 133 (by decide +kernel))
theorem oQu_3 : Cond.methodLink "BagPlanner$Question" 3 objectInit ∈ lw_tbl := q_tw 136 (by decide +kernel)
theorem lQu_21 : qlk "BagPlanner$Question" 21 mBl_init := Or.inr ⟨"BagPlanner", q_tw 140 (by decide +kernel)⟩
theorem oBl_3 : Cond.methodLink "BagPlanner$Block" 3 objectInit ∈ lw_tbl := q_tw 143 (by decide +kernel)
theorem lBp_46 : qlk "BagPlanner" 46 mPlan_init := Or.inr ⟨"BagPlanner", q_tw 212 (by decide +kernel)⟩
theorem oPlan_3 : Cond.methodLink "BagPlanner$Plan" 3 objectInit ∈ lw_tbl := q_tw 215 (by decide +kernel)
theorem lBp_53 : qlk "BagPlanner" 53 mBag_init := Or.inr ⟨"BagPlanner", q_tw 231 (by decide +kernel)⟩
theorem oBag_3 : Cond.methodLink "BagPlanner$Bag" 3 objectInit ∈ lw_tbl := q_tw 234 (by decide +kernel)
theorem lBp_66 : qlk "BagPlanner" 66 mNf_init := Or.inr ⟨"BagPlanner", q_tw 254 (by decide +kernel)⟩
theorem oNf_3 : Cond.methodLink "BagPlanner$NormalForm" 3 objectInit ∈ lw_tbl := q_tw 257 (by decide +kernel)
theorem lBp_76 : qlk "BagPlanner" 76 mPg_init := Or.inr ⟨"BagPlanner", q_tw 319 (by decide +kernel)⟩
theorem oPg_3 : Cond.methodLink "BagPlanner$Pairing" 3 objectInit ∈ lw_tbl := q_tw 322 (by decide +kernel)
theorem lLa_81 : qlk "BagPlannerLaw" 81 mBp_write := Or.inl (q_tw 370 (by decide +kernel))
theorem lBp_144 : qlk "BagPlanner" 144 mTxt_append := Or.inl (q_tw 374 (by decide +kernel))
theorem lTxt_15 : qlk "BagPlanner$Text" 15 mTxt_countOf := Or.inl (q_tw 378 (by decide +kernel))
theorem lTxt_23 : qlk "BagPlanner$Text" 23 mTxt_byteOf := Or.inl (q_tw 381 (by decide +kernel))
theorem lLa_86 : qlk "BagPlannerLaw" 86 mBp_wipe := Or.inl (q_tw 384 (by decide +kernel))
theorem lBp_147 : qlk "BagPlanner" 147 mTxt_clear := Or.inl (q_tw 388 (by decide +kernel))
theorem lLa_94 : qlk "BagPlannerLaw" 94 mBp_place := Or.inl (q_tw 392 (by decide +kernel))
theorem lLa_98 : qlk "BagPlannerLaw" 98 mBp_forget := Or.inl (q_tw 396 (by decide +kernel))
theorem lLa_112 : qlk "BagPlannerLaw" 112 mBp_total := Or.inl (q_tw 400 (by decide +kernel))
theorem lBp_193 : qlk "BagPlanner" 193 mBag_sum := Or.inl (q_tw 404 (by decide +kernel))
theorem lLa_58 : qlk "BagPlannerLaw" 58 mLa_table := Or.inl (q_tw 408 (by decide +kernel))
theorem lLa_7 : qlk "BagPlannerLaw" 7 mBp_table := Or.inl (q_tw 413 (by decide +kernel))
theorem lBp_96 : qlk "BagPlanner" 96 mCat_make := Or.inl (q_tw 502 (by decide +kernel))
theorem lLa_67 : qlk "BagPlannerLaw" 67 mLa_key := Or.inl (q_tw 506 (by decide +kernel))
theorem lLa_17 : qlk "BagPlannerLaw" 17 mBp_key := Or.inl (q_tw 509 (by decide +kernel))
theorem lBp_100 : qlk "BagPlanner" 100 mBp_tableWithColumn := Or.inl (q_tw 513 (by decide +kernel))
theorem lBp_116 : qlk "BagPlanner" 116 mCat_has := Or.inl (q_tw 517 (by decide +kernel))
theorem lBp_215 : qlk "BagPlanner" 215 mTab_hasColumn := Or.inl (q_tw 521 (by decide +kernel))
theorem lBp_104 : qlk "BagPlanner" 104 mTab_hasTwins := Or.inl (q_tw 526 (by decide +kernel))
theorem lTab_26 : qlk "BagPlanner$Table" 26 mTab_cell := Or.inl (q_tw 530 (by decide +kernel))
theorem lLa_71 : qlk "BagPlannerLaw" 71 mLa_insert := Or.inl (q_tw 535 (by decide +kernel))
theorem lLa_21 : qlk "BagPlannerLaw" 21 mBp_insert := Or.inl (q_tw 538 (by decide +kernel))
theorem lBp_130 : qlk "BagPlanner" 130 mTab_breaksKey := Or.inl (q_tw 544 (by decide +kernel))
theorem lTab_30 : qlk "BagPlanner$Table" 30 mTab_isTaken := Or.inl (q_tw 548 (by decide +kernel))
theorem lBp_136 : qlk "BagPlanner" 136 mTab_append := Or.inl (q_tw 553 (by decide +kernel))
theorem lLa_75 : qlk "BagPlannerLaw" 75 mLa_delete := Or.inl (q_tw 557 (by decide +kernel))
theorem lLa_25 : qlk "BagPlannerLaw" 25 mBp_delete := Or.inl (q_tw 560 (by decide +kernel))
theorem lBp_140 : qlk "BagPlanner" 140 mTab_takeOut := Or.inl (q_tw 564 (by decide +kernel))
theorem lLa_90 : qlk "BagPlannerLaw" 90 mLa_question := Or.inl (q_tw 571 (by decide +kernel))
theorem lLa_29 : qlk "BagPlannerLaw" 29 mBp_question := Or.inl (q_tw 574 (by decide +kernel))
theorem lBp_151 : qlk "BagPlanner" 151 mRd_read := Or.inl (q_tw 578 (by decide +kernel))
theorem lRd_18 : qlk "BagPlanner$Reader" 18 mTok_split := Or.inl (q_tw 582 (by decide +kernel))
theorem lTok_37 : qlk "BagPlanner$Tokens" 37 mTok_addToken := Or.inl (q_tw 586 (by decide +kernel))
theorem lTok_45 : qlk "BagPlanner$Tokens" 45 mTxt_endOfRun := Or.inl (q_tw 590 (by decide +kernel))
theorem lTok_49 : qlk "BagPlanner$Tokens" 49 mTok_wordKind := Or.inl (q_tw 594 (by decide +kernel))
theorem lTok_67 : qlk "BagPlanner$Tokens" 67 mTxt_isWord := Or.inl (q_tw 598 (by decide +kernel))
theorem lTok_41 : qlk "BagPlanner$Tokens" 41 mTok_put := Or.inl (q_tw 654 (by decide +kernel))
theorem lTok_53 : qlk "BagPlanner$Tokens" 53 mTxt_number := Or.inl (q_tw 658 (by decide +kernel))
theorem lRd_28 : qlk "BagPlanner$Reader" 28 mTok_start := Or.inl (q_tw 722 (by decide +kernel))
theorem lRd_36 : qlk "BagPlanner$Reader" 36 mRd_readBlock := Or.inl (q_tw 726 (by decide +kernel))
theorem lRd_67 : qlk "BagPlanner$Reader" 67 mBl_clear := Or.inl (q_tw 730 (by decide +kernel))
theorem lRd_64 : qlk "BagPlanner$Reader" 64 mTok_take := Or.inl (q_tw 734 (by decide +kernel))
theorem lRd_74 : qlk "BagPlanner$Reader" 74 mRd_readOutputs := Or.inl (q_tw 738 (by decide +kernel))
theorem lRd_84 : qlk "BagPlanner$Reader" 84 mRd_readValue := Or.inl (q_tw 742 (by decide +kernel))
theorem lRd_88 : qlk "BagPlanner$Reader" 88 mTok_value := Or.inl (q_tw 746 (by decide +kernel))
theorem lRd_117 : qlk "BagPlanner$Reader" 117 mBl_putNumber := Or.inl (q_tw 750 (by decide +kernel))
theorem lRd_120 : qlk "BagPlanner$Reader" 120 mBl_putColumn := Or.inl (q_tw 754 (by decide +kernel))
theorem lRd_78 : qlk "BagPlanner$Reader" 78 mRd_readSources := Or.inl (q_tw 758 (by decide +kernel))
theorem lRd_53 : qlk "BagPlanner$Reader" 53 mTok_is := Or.inl (q_tw 762 (by decide +kernel))
theorem lRd_91 : qlk "BagPlanner$Reader" 91 mCat_has := Or.inl (q_tw 766 (by decide +kernel))
theorem lRd_96 : qlk "BagPlanner$Reader" 96 mBl_sourceNamed := Or.inl (q_tw 767 (by decide +kernel))
theorem lRd_100 : qlk "BagPlanner$Reader" 100 mBl_addSource := Or.inl (q_tw 771 (by decide +kernel))
theorem lRd_81 : qlk "BagPlanner$Reader" 81 mRd_readConditions := Or.inl (q_tw 775 (by decide +kernel))
theorem lRd_104 : qlk "BagPlanner$Reader" 104 mBl_lowSlot := Or.inl (q_tw 779 (by decide +kernel))
theorem lRd_111 : qlk "BagPlanner$Reader" 111 mBl_highSlot := Or.inl (q_tw 782 (by decide +kernel))
theorem lBl_31 : qlk "BagPlanner$Block" 31 mBl_lowSlot := Or.inl (q_tw 785 (by decide +kernel))
theorem lRd_40 : qlk "BagPlanner$Reader" 40 mRd_isBehindBlock := Or.inl (q_tw 786 (by decide +kernel))
theorem lRd_44 : qlk "BagPlanner$Reader" 44 mBl_bind := Or.inl (q_tw 790 (by decide +kernel))
theorem lBl_49 : qlk "BagPlanner$Block" 49 mBl_isUsed := Or.inl (q_tw 794 (by decide +kernel))
theorem lBl_53 : qlk "BagPlanner$Block" 53 mBl_sourceNamed := Or.inl (q_tw 798 (by decide +kernel))
theorem lBl_62 : qlk "BagPlanner$Block" 62 mTab_hasColumn := Or.inl (q_tw 799 (by decide +kernel))
theorem lRd_61 : qlk "BagPlanner$Reader" 61 mTok_kind := Or.inl (q_tw 800 (by decide +kernel))
theorem lLa_102 : qlk "BagPlannerLaw" 102 mLa_run := Or.inl (q_tw 806 (by decide +kernel))
theorem lLa_33 : qlk "BagPlannerLaw" 33 mBp_run := Or.inl (q_tw 810 (by decide +kernel))
theorem lBp_159 : qlk "BagPlanner" 159 mBp_questionAt := Or.inl (q_tw 814 (by decide +kernel))
theorem lBp_163 : qlk "BagPlanner" 163 mBp_answerInto := Or.inl (q_tw 819 (by decide +kernel))
theorem lBp_231 : qlk "BagPlanner" 231 mPlan_fill := Or.inl (q_tw 823 (by decide +kernel))
theorem lPlan_31 : qlk "BagPlanner$Plan" 31 mBag_clear := Or.inl (q_tw 827 (by decide +kernel))
theorem lPlan_37 : qlk "BagPlanner$Plan" 37 mPlan_markUsed := Or.inl (q_tw 831 (by decide +kernel))
theorem lPlan_59 : qlk "BagPlanner$Plan" 59 mBl_isUsed := Or.inl (q_tw 835 (by decide +kernel))
theorem lPlan_41 : qlk "BagPlanner$Plan" 41 mPlan_findLastSources := Or.inl (q_tw 836 (by decide +kernel))
theorem lPlan_69 : qlk "BagPlanner$Plan" 69 mBl_lowSlot := Or.inl (q_tw 840 (by decide +kernel))
theorem lPlan_73 : qlk "BagPlanner$Plan" 73 mBl_highSlot := Or.inl (q_tw 841 (by decide +kernel))
theorem lPlan_44 : qlk "BagPlanner$Plan" 44 mPlan_holdsAt := Or.inl (q_tw 843 (by decide +kernel))
theorem lPlan_107 : qlk "BagPlanner$Plan" 107 mPlan_valueOf := Or.inl (q_tw 847 (by decide +kernel))
theorem lPlan_117 : qlk "BagPlanner$Plan" 117 mTab_cell := Or.inl (q_tw 851 (by decide +kernel))
theorem lPlan_48 : qlk "BagPlanner$Plan" 48 mPlan_choose := Or.inl (q_tw 852 (by decide +kernel))
theorem lPlan_85 : qlk "BagPlanner$Plan" 85 mPlan_setOutput := Or.inl (q_tw 856 (by decide +kernel))
theorem lPlan_89 : qlk "BagPlanner$Plan" 89 mBag_add := Or.inl (q_tw 860 (by decide +kernel))
theorem lBag_25 : qlk "BagPlanner$Bag" 25 mBag_firstNotBefore := Or.inl (q_tw 864 (by decide +kernel))
theorem lBag_29 : qlk "BagPlanner$Bag" 29 mBag_compare := Or.inl (q_tw 868 (by decide +kernel))
theorem lPlan_56 : qlk "BagPlanner$Plan" 56 mBag_countEachOnce := Or.inl (q_tw 873 (by decide +kernel))
theorem lBp_238 : qlk "BagPlanner" 238 mBag_join := Or.inl (q_tw 877 (by decide +kernel))
theorem lBag_39 : qlk "BagPlanner$Bag" 39 mBag_addAll := Or.inl (q_tw 881 (by decide +kernel))
theorem lBag_52 : qlk "BagPlanner$Bag" 52 mBag_add := Or.inl (q_tw 885 (by decide +kernel))
theorem lBag_43 : qlk "BagPlanner$Bag" 43 mBag_countOf := Or.inl (q_tw 886 (by decide +kernel))
theorem lLa_105 : qlk "BagPlannerLaw" 105 mLa_row := Or.inl (q_tw 907 (by decide +kernel))
theorem lLa_38 : qlk "BagPlannerLaw" 38 mBp_row := Or.inl (q_tw 911 (by decide +kernel))
theorem lBp_175 : qlk "BagPlanner" 175 mBag_has := Or.inl (q_tw 915 (by decide +kernel))
theorem lLa_109 : qlk "BagPlannerLaw" 109 mLa_times := Or.inl (q_tw 935 (by decide +kernel))
theorem lLa_44 : qlk "BagPlannerLaw" 44 mBp_times := Or.inl (q_tw 938 (by decide +kernel))
theorem lLa_116 : qlk "BagPlannerLaw" 116 mLa_alike := Or.inl (q_tw 943 (by decide +kernel))
theorem lLa_47 : qlk "BagPlannerLaw" 47 mBp_alike := Or.inl (q_tw 946 (by decide +kernel))
theorem lBp_196 : qlk "BagPlanner" 196 mBp_onlyBlock := Or.inl (q_tw 950 (by decide +kernel))
theorem lBp_200 : qlk "BagPlanner" 200 mNf_build := Or.inl (q_tw 954 (by decide +kernel))
theorem lNf_49 : qlk "BagPlanner$NormalForm" 49 mNf_collectNumbers := Or.inl (q_tw 958 (by decide +kernel))
theorem lNf_76 : qlk "BagPlanner$NormalForm" 76 mBl_isUsed := Or.inl (q_tw 962 (by decide +kernel))
theorem lNf_86 : qlk "BagPlanner$NormalForm" 86 mNf_indexOf := Or.inl (q_tw 963 (by decide +kernel))
theorem lNf_53 : qlk "BagPlanner$NormalForm" 53 mNf_joinEqualSides := Or.inl (q_tw 967 (by decide +kernel))
theorem lNf_97 : qlk "BagPlanner$NormalForm" 97 mBl_lowSlot := Or.inl (q_tw 971 (by decide +kernel))
theorem lNf_100 : qlk "BagPlanner$NormalForm" 100 mNf_classOfSlot := Or.inl (q_tw 972 (by decide +kernel))
theorem lNf_104 : qlk "BagPlanner$NormalForm" 104 mBl_highSlot := Or.inl (q_tw 976 (by decide +kernel))
theorem lNf_107 : qlk "BagPlanner$NormalForm" 107 mNf_merge := Or.inl (q_tw 977 (by decide +kernel))
theorem lNf_56 : qlk "BagPlanner$NormalForm" 56 mNf_joinOnes := Or.inl (q_tw 981 (by decide +kernel))
theorem lNf_114 : qlk "BagPlanner$NormalForm" 114 mNf_areOne := Or.inl (q_tw 985 (by decide +kernel))
theorem lNf_118 : qlk "BagPlanner$NormalForm" 118 mNf_mergeColumns := Or.inl (q_tw 989 (by decide +kernel))
theorem lNf_60 : qlk "BagPlanner$NormalForm" 60 mNf_numberClasses := Or.inl (q_tw 993 (by decide +kernel))
theorem lNf_63 : qlk "BagPlanner$NormalForm" 63 mNf_findLess := Or.inl (q_tw 997 (by decide +kernel))
theorem lNf_141 : qlk "BagPlanner$NormalForm" 141 mNf_addLess := Or.inl (q_tw 1001 (by decide +kernel))
theorem lNf_66 : qlk "BagPlanner$NormalForm" 66 mNf_findOutputs := Or.inl (q_tw 1005 (by decide +kernel))
theorem lNf_69 : qlk "BagPlanner$NormalForm" 69 mNf_findLeft := Or.inl (q_tw 1009 (by decide +kernel))
theorem lNf_152 : qlk "BagPlanner$NormalForm" 152 mNf_isOneWithLeft := Or.inl (q_tw 1013 (by decide +kernel))
theorem lBp_204 : qlk "BagPlanner" 204 mPg_exists := Or.inl (q_tw 1017 (by decide +kernel))
theorem lPg_35 : qlk "BagPlanner$Pairing" 35 mPg_pairFrom := Or.inl (q_tw 1021 (by decide +kernel))
theorem lPg_39 : qlk "BagPlanner$Pairing" 39 mPg_columnsFit := Or.inl (q_tw 1025 (by decide +kernel))
theorem lPg_55 : qlk "BagPlanner$Pairing" 55 mPg_columnFits := Or.inl (q_tw 1029 (by decide +kernel))
theorem lPg_59 : qlk "BagPlanner$Pairing" 59 mNf_classOf := Or.inl (q_tw 1033 (by decide +kernel))
theorem lPg_43 : qlk "BagPlanner$Pairing" 43 mPg_outputsFit := Or.inl (q_tw 1037 (by decide +kernel))
theorem lPg_69 : qlk "BagPlanner$Pairing" 69 mPg_arePaired := Or.inl (q_tw 1041 (by decide +kernel))
theorem lPg_46 : qlk "BagPlanner$Pairing" 46 mPg_lessFits := Or.inl (q_tw 1045 (by decide +kernel))
theorem lPg_75 : qlk "BagPlanner$Pairing" 75 mPg_isSameLess := Or.inl (q_tw 1049 (by decide +kernel))
theorem lLa_119 : qlk "BagPlannerLaw" 119 mLa_sources := Or.inl (q_tw 1053 (by decide +kernel))
theorem lLa_51 : qlk "BagPlannerLaw" 51 mBp_sources := Or.inl (q_tw 1056 (by decide +kernel))
theorem lLa_57 : qlk "BagPlannerLaw" 57 mMo_init := Or.inl (q_tw 1062 (by decide +kernel))
theorem oMo_1 : Cond.methodLink "BagPlannerModel" 1 objectInit ∈ lw_tbl := q_tw 1065 (by decide +kernel)
theorem lLa_64 : qlk "BagPlannerLaw" 64 mMo_thrown := Or.inl (q_tw 1198 (by decide +kernel))
theorem lLa_63 : qlk "BagPlannerLaw" 63 mMo_table := Or.inl (q_tw 1202 (by decide +kernel))
theorem lLa_70 : qlk "BagPlannerLaw" 70 mMo_key := Or.inl (q_tw 1206 (by decide +kernel))
theorem lMo_112 : qlk "BagPlannerModel" 112 mMo_isColumn := Or.inl (q_tw 1210 (by decide +kernel))
theorem lMo_116 : qlk "BagPlannerModel" 116 mMo_having := Or.inl (q_tw 1214 (by decide +kernel))
theorem lLa_74 : qlk "BagPlannerLaw" 74 mMo_insert := Or.inl (q_tw 1218 (by decide +kernel))
theorem lLa_78 : qlk "BagPlannerLaw" 78 mMo_delete := Or.inl (q_tw 1222 (by decide +kernel))
theorem lLa_85 : qlk "BagPlannerLaw" 85 mMo_write := Or.inl (q_tw 1226 (by decide +kernel))
theorem lLa_89 : qlk "BagPlannerLaw" 89 mMo_wipe := Or.inl (q_tw 1231 (by decide +kernel))
theorem lLa_93 : qlk "BagPlannerLaw" 93 mMo_question := Or.inl (q_tw 1235 (by decide +kernel))
theorem lMo_199 : qlk "BagPlannerModel" 199 mMo_readText := Or.inl (q_tw 1239 (by decide +kernel))
theorem lMo_154 : qlk "BagPlannerModel" 154 mMo_next := Or.inl (q_tw 1243 (by decide +kernel))
theorem lMo_131 : qlk "BagPlannerModel" 131 mMo_see := Or.inl (q_tw 1247 (by decide +kernel))
theorem lMo_138 : qlk "BagPlannerModel" 138 mMo_isSmall := Or.inl (q_tw 1251 (by decide +kernel))
theorem lMo_142 : qlk "BagPlannerModel" 142 mMo_isDigit := Or.inl (q_tw 1254 (by decide +kernel))
theorem lMo_148 : qlk "BagPlannerModel" 148 mMo_isSign := Or.inl (q_tw 1257 (by decide +kernel))
theorem lMo_193 : qlk "BagPlannerModel" 193 mMo_readBlock := Or.inl (q_tw 1260 (by decide +kernel))
theorem lMo_168 : qlk "BagPlannerModel" 168 mMo_isWord := Or.inl (q_tw 1264 (by decide +kernel))
theorem lMo_172 : qlk "BagPlannerModel" 172 mMo_passesWord := Or.inl (q_tw 1268 (by decide +kernel))
theorem lMo_176 : qlk "BagPlannerModel" 176 mMo_readOutputs := Or.inl (q_tw 1272 (by decide +kernel))
theorem lMo_160 : qlk "BagPlannerModel" 160 mMo_value := Or.inl (q_tw 1276 (by decide +kernel))
theorem lMo_157 : qlk "BagPlannerModel" 157 mMo_passes := Or.inl (q_tw 1280 (by decide +kernel))
theorem lMo_151 : qlk "BagPlannerModel" 151 mMo_isIt := Or.inl (q_tw 1284 (by decide +kernel))
theorem lMo_179 : qlk "BagPlannerModel" 179 mMo_readSources := Or.inl (q_tw 1288 (by decide +kernel))
theorem lMo_164 : qlk "BagPlannerModel" 164 mMo_readSource := Or.inl (q_tw 1292 (by decide +kernel))
theorem lMo_182 : qlk "BagPlannerModel" 182 mMo_isWhere := Or.inl (q_tw 1296 (by decide +kernel))
theorem lMo_186 : qlk "BagPlannerModel" 186 mMo_readConditions := Or.inl (q_tw 1300 (by decide +kernel))
theorem lMo_196 : qlk "BagPlannerModel" 196 mMo_resolve := Or.inl (q_tw 1304 (by decide +kernel))
theorem lMo_189 : qlk "BagPlannerModel" 189 mMo_resolved := Or.inl (q_tw 1308 (by decide +kernel))
theorem lMo_205 : qlk "BagPlannerModel" 205 mMo_copyBlock := Or.inl (q_tw 1312 (by decide +kernel))
theorem lLa_97 : qlk "BagPlannerLaw" 97 mMo_place := Or.inl (q_tw 1316 (by decide +kernel))
theorem lLa_101 : qlk "BagPlannerLaw" 101 mMo_forget := Or.inl (q_tw 1320 (by decide +kernel))
theorem lLa_104 : qlk "BagPlannerLaw" 104 mMo_run := Or.inl (q_tw 1324 (by decide +kernel))
theorem lMo_240 : qlk "BagPlannerModel" 240 mMo_take := Or.inl (q_tw 1328 (by decide +kernel))
theorem lMo_215 : qlk "BagPlannerModel" 215 mMo_allTrue := Or.inl (q_tw 1332 (by decide +kernel))
theorem lMo_209 : qlk "BagPlannerModel" 209 mMo_valueOf := Or.inl (q_tw 1336 (by decide +kernel))
theorem lMo_218 : qlk "BagPlannerModel" 218 mMo_count := Or.inl (q_tw 1340 (by decide +kernel))
theorem lMo_243 : qlk "BagPlannerModel" 243 mMo_merge := Or.inl (q_tw 1344 (by decide +kernel))
theorem lMo_224 : qlk "BagPlannerModel" 224 mMo_inBlock := Or.inl (q_tw 1348 (by decide +kernel))
theorem lMo_228 : qlk "BagPlannerModel" 228 mMo_addNew := Or.inl (q_tw 1352 (by decide +kernel))
theorem lMo_246 : qlk "BagPlannerModel" 246 mMo_settle := Or.inl (q_tw 1356 (by decide +kernel))
theorem lMo_231 : qlk "BagPlannerModel" 231 mMo_isBefore := Or.inl (q_tw 1360 (by decide +kernel))
theorem lLa_108 : qlk "BagPlannerLaw" 108 mMo_row := Or.inl (q_tw 1364 (by decide +kernel))
theorem lLa_111 : qlk "BagPlannerLaw" 111 mMo_times := Or.inl (q_tw 1368 (by decide +kernel))
theorem lLa_115 : qlk "BagPlannerLaw" 115 mMo_total := Or.inl (q_tw 1372 (by decide +kernel))
theorem lLa_118 : qlk "BagPlannerLaw" 118 mMo_alike := Or.inl (q_tw 1376 (by decide +kernel))
theorem lMo_284 : qlk "BagPlannerModel" 284 mMo_form := Or.inl (q_tw 1380 (by decide +kernel))
theorem lMo_250 : qlk "BagPlannerModel" 250 mMo_node := Or.inl (q_tw 1384 (by decide +kernel))
theorem lMo_253 : qlk "BagPlannerModel" 253 mMo_unite := Or.inl (q_tw 1388 (by decide +kernel))
theorem lMo_257 : qlk "BagPlannerModel" 257 mMo_areOne := Or.inl (q_tw 1392 (by decide +kernel))
theorem lMo_261 : qlk "BagPlannerModel" 261 mMo_join := Or.inl (q_tw 1396 (by decide +kernel))
theorem lMo_287 : qlk "BagPlannerModel" 287 mMo_isEmpty := Or.inl (q_tw 1400 (by decide +kernel))
theorem lMo_265 : qlk "BagPlannerModel" 265 mMo_numberOf := Or.inl (q_tw 1404 (by decide +kernel))
theorem lMo_290 : qlk "BagPlannerModel" 290 mMo_leftOver := Or.inl (q_tw 1408 (by decide +kernel))
theorem lMo_293 : qlk "BagPlannerModel" 293 mMo_isPairing := Or.inl (q_tw 1412 (by decide +kernel))
theorem lMo_296 : qlk "BagPlannerModel" 296 mMo_fits := Or.inl (q_tw 1416 (by decide +kernel))
theorem lMo_278 : qlk "BagPlannerModel" 278 mMo_classesGo := Or.inl (q_tw 1420 (by decide +kernel))
theorem lMo_274 : qlk "BagPlannerModel" 274 mMo_goWith := Or.inl (q_tw 1424 (by decide +kernel))
theorem lMo_268 : qlk "BagPlannerModel" 268 mMo_paired := Or.inl (q_tw 1428 (by decide +kernel))
theorem lMo_271 : qlk "BagPlannerModel" 271 mMo_isOpen := Or.inl (q_tw 1432 (by decide +kernel))
theorem lMo_281 : qlk "BagPlannerModel" 281 mMo_sameLess := Or.inl (q_tw 1436 (by decide +kernel))
theorem lLa_121 : qlk "BagPlannerLaw" 121 mMo_sources := Or.inl (q_tw 1440 (by decide +kernel))
theorem q_oi : Cond.instanceMethod objectInit ∈ lw_tbl := q_tw 34 (by decide +kernel)
theorem q_oc : Cond.code objectInit ⟨#[0xb1]⟩ 1 none ∈ lw_tbl := q_tw 35 (by decide +kernel)
theorem q_ac_int : Cond.arrayClass .int ∈ lw_tbl := q_tw 69 (by decide +kernel)
theorem q_ac_boolean : Cond.arrayClass .boolean ∈ lw_tbl := q_tw 68 (by decide +kernel)
theorem q_ac_char : Cond.arrayClass .char ∈ lw_tbl := q_tw 97 (by decide +kernel)
theorem q_ac_long : Cond.arrayClass .long ∈ lw_tbl := q_tw 1445 (by decide +kernel)
theorem q_ao_Table : Cond.arrayOver (.object "BagPlanner$Table") ∈ lw_tbl := q_tw 43 (by decide +kernel)
theorem q_ao_Question : Cond.arrayOver (.object "BagPlanner$Question") ∈ lw_tbl := q_tw 131 (by decide +kernel)
theorem q_ao_Block : Cond.arrayOver (.object "BagPlanner$Block") ∈ lw_tbl := q_tw 138 (by decide +kernel)
end
section
abbrev qC : Type := Nat × List Value
abbrev qH : Type := List qC
abbrev qE : Type := (Option Value ⊕ Nat) × qH
abbrev qA : Type := (Nat → Nat) × va_G × Nat
def qCap : Nat := 20000
def qsv (ad : Nat → Nat) : Slot → Slot
  | .val v => .val (qv ad v)
  | x => x
def qls (ad : Nat → Nat) (ls : List Slot) : Array Slot := (ls.map (qsv ad)).toArray
def qvs (ad : Nat → Nat) (st : List Value) : List Value := st.map (qv ad)
def qout (ad : Nat → Nat) : Option Value ⊕ Nat → Outcome
  | .inl v => .returned (v.map (qv ad))
  | .inr a => .threw (ad a)
def qat (A : qA) (a : Nat) (c : qC) (H : Heap) : Prop := ∃ cell : Cell, H[a]? = some cell ∧ cell.cls = A.2.1.1 c.1 ∧ cell.vm ≠ .unknown ∧ cell.vm.isStatics = false ∧ (qown c.1 = true → cell.vm = .none) ∧
  (c.1 < 64 → ∀ (k : Nat) (v : Value), c.2[k]? = some v → cell.slots[A.2.1.2 c.1 k]? = some (qv A.1 v)) ∧
  (64 ≤ c.1 → cell.slots = (c.2.map (qv A.1)).toArray)
def qhr (A : qA) (h : qH) (H : Heap) : Prop := H.size = A.1 h.length ∧ A.2.2 ≤ h.length ∧ ∀ (i : Nat) (c : qC), h[i]? = some c → qat A (A.1 i) c H ∧ (qown c.1 = true → A.2.2 ≤ i)
def qad (A : qA) : Prop := (∀ i, A.2.2 ≤ i → A.1 (i + 1) = A.1 i + 1) ∧ ∀ i j, i < j → A.2.2 ≤ j → A.1 i < A.1 j
def qar (t : Nat) : Option FieldType := match t with
  | 64 => some .int
  | 65 => some .boolean
  | 66 => some .char
  | 67 => some .long
  | 68 => some (.object "BagPlanner$Table")
  | 69 => some (.object "BagPlanner$Question")
  | 70 => some (.object "BagPlanner$Block")
  | 80 => some .int
  | 81 => some .byte
  | _ => none
def qGl (l : Launch) (s0 : State) (a0 : Array Value) (A : qA) : Prop :=
  (∀ w ∈ lw_tbl, w.before a0 s0 = true) ∧ l.stackTraces = false ∧ qad A ∧ A.1 A.2.2 = s0.heap.size ∧
  (∀ (c : Nat) (q : vw_C), classes[c]? = some q → u_Kn s0 q.1 q.2.1 q.2.2 (A.2.1.1 c) (A.2.1.2 c)) ∧
  (∀ (t : Nat) (ty : FieldType), qar t = some ty → ∃ (kA : Class) (comp : ClassId), s0.vm.classes[A.2.1.1 t]? = some kA ∧ kA.kind = .array comp ty) ∧
  (∀ (t : Nat) (ty : FieldType), qar t = some ty → t < 80 → va_RA s0 (A.2.1.1 t) ty) ∧ (Jvm.Cond.and given_1 narrow_1).before a0 s0 = true
def qIn (l : Launch) (s0 : State) (a0 : Array Value) (A : qA) (M : qM) (d n0 : Nat) (p : Program) (R : Room) (s : State) (m : MethodId) (meth : Method) (c : Code) : Prop :=
  p.tables.exec = Jvm.exec ∧ c.code = M.2.1 ∧ c.maxLocals = M.2.2.1 ∧ meth.sig.returnType = M.2.2.2.1 ∧ meth.locks = false ∧ meth.name = M.1.name ∧ s.vm.findClass M.1.cls = some m.cls ∧
  (c.exceptionTable.toList.map (fun x => (x.startPc, x.endPc, x.handlerPc, x.catchType)) = M.2.2.2.2) ∧ s0.WarmedH s.vm ∧
  (∀ q : Nat, q < A.1 A.2.2 → s.heap[q]? = s0.heap[q]?) ∧ (∀ (q : Nat) (cell : Cell), A.1 A.2.2 ≤ q → s.heap[q]? = some cell → cell.vm.isStatics = false) ∧ s.heap.size = A.1 n0 ∧ A.2.2 ≤ n0 ∧
  d + 10 ≤ R.frames ∧ 64 * d + 800 ≤ R.locals ∧ qCap ≤ R.cells + n0 ∧ 256 * qCap ≤ R.slots + 256 * n0 ∧ qGl l s0 a0 A
def qSt (A : qA) (s0 : State) (n0 : Nat) (h : qH) (H : Heap) (locs : List Loc) : Prop :=
  qhr A h H ∧ (∀ q : Nat, q < A.1 A.2.2 → H[q]? = s0.heap[q]?) ∧ (∀ q ∈ locs, A.1 A.2.2 ≤ q.base) ∧ n0 ≤ h.length ∧ h.length ≤ qCap
def qQ (A : qA) (s0 : State) (n0 : Nat) (s : State) (below : List Frame) (P : qE → Prop) : State → Prop := fun t =>
  ∃ r : qE, P r ∧ t.status = .running ∧ Ended t below (qout A.1 r.1) ∧ s.WarmedH t.vm ∧ ∃ L : List Loc, s.sameButNew ({ t with vm := s.vm } : State) L (r.2.length - n0) (256 * (r.2.length - n0)) ∧ qSt A s0 n0 r.2 t.heap L
def QW (d : Nat) (M : qM) (pc : Nat) (ls : List Slot) (st : List Value) (h : qH) (P : qE → Prop) : Prop :=
  ∀ ⦃l : Launch⦄ ⦃s0 : State⦄ ⦃a0 : Array Value⦄ ⦃A : qA⦄ ⦃n0 : Nat⦄ ⦃p : Program⦄ ⦃e : Env⦄ ⦃R : Room⦄ ⦃s : State⦄ ⦃m : MethodId⦄ ⦃args : Array Value⦄ ⦃below : List Frame⦄ ⦃meth : Method⦄ ⦃c : Code⦄ ⦃H : Heap⦄ ⦃locs : List Loc⦄,
    qIn l s0 a0 A M d n0 p R s m meth c → qSt A s0 n0 h H locs → W p l e R s m args below meth c H locs (h.length - n0) (256 * (h.length - n0)) (qQ A s0 n0 s below P) (F0 m pc (qls A.1 ls) (qvs A.1 st))
theorem QW.mono {d : Nat} {M : qM} {pc : Nat} {ls : List Slot} {st : List Value} {h : qH} {P P' : qE → Prop} (k : QW d M pc ls st h P) (hP : ∀ r, P r → P' r) : QW d M pc ls st h P' := by
  intro l s0 a0 A n0 p e R s m args below meth c H locs I S T hT X
  obtain ⟨t, a, r, hr, b⟩ := k I S T hT X
  exact ⟨t, a, r, hP r hr, b⟩
theorem qls_get {ad : Nat → Nat} {ls : List Slot} {i : Nat} {v : Value} (h : ls[i]? = some (.val v)) : (qls ad ls)[i]? = some (.val (qv ad v)) := by
  simp [qls, h, qsv]
def qsto (ls : List Slot) (i : Nat) (v : Value) : Option (List Slot) := match ls[i]? with
  | some .unset => some (ls.set i (.val v))
  | some (.val (.int _)) => some (ls.set i (.val v))
  | some (.val (.ref _)) => some (ls.set i (.val v))
  | some (.val .null) => some (ls.set i (.val v))
  | _ => none
theorem qls_set (ad : Nat → Nat) (ls : List Slot) (i : Nat) (v : Value) : (qls ad ls).setIfInBounds i (.val (qv ad v)) = qls ad (ls.set i (.val v)) := by
  simp [qls, List.map_set, qsv]
theorem qsto_ok {ad : Nat → Nat} {ls ls' : List Slot} {i : Nat} {v : Value} (h : qsto ls i v = some ls') (hc : v.category = 1) : storeLocals (qls ad ls) i (qv ad v) = some (qls ad ls') := by
  have hc' : (qv ad v).category = 1 := by cases v <;> first | exact hc | rfl
  unfold qsto at h
  cases hg : ls[i]? with
  | none => rw [hg] at h; cases h
  | some x =>
    have hi : i < ls.length := (List.getElem?_eq_some_iff.mp hg).1
    have hi2 : i < (qls ad ls).size := by simpa [qls] using hi
    have hg2 : (qls ad ls)[i]? = some (qsv ad x) := by simp [qls, hg]
    have key : storeSelf (qls ad ls) i (qv ad v) = some (qls ad (ls.set i (.val v))) := by
      simp [storeSelf, setAt, hi2, hc', qls_set]
    rw [hg] at h
    cases x with
    | unset => cases h; simp [storeLocals, hg2, qsv, key]
    | second => cases h
    | val w =>
      cases w with
      | int z =>
        cases h
        have hg3 : (qls ad ls)[i]? = some (.val (.int z)) := hg2
        simp [storeLocals, hg3, Value.category, key]
      | ref z =>
        cases h
        have hg3 : (qls ad ls)[i]? = some (.val (.ref (ad z))) := hg2
        simp [storeLocals, hg3, Value.category, key]
      | null =>
        cases h
        have hg3 : (qls ad ls)[i]? = some (.val (.null)) := hg2
        simp [storeLocals, hg3, Value.category, key]
      | _ => cases h

section QS
variable {d : Nat} {M : qM} {pc : Nat} {ls : List Slot} {st : List Value} {h : qH} {P : qE → Prop}
theorem QW.iconst {n : Int} {v : Int32} (hd : decode M.2.1 pc = .ok (.iconst n, 1)) (hv : Int32.ofInt n = v) (kk : QW d M (pc + 1) ls (.int v :: st) h P) : QW d M pc ls st h P := by
  intro l s0 a0 A n0 p e R s m args below meth c H locs I S
  exact lv_iconst I.1 I.2.1 hd hv (kk I S)
theorem QW.bipush {n : Int} {v : Int32} (hd : decode M.2.1 pc = .ok (.bipush n, 2)) (hv : (Int8.ofInt n).toInt32 = v) (kk : QW d M (pc + 2) ls (.int v :: st) h P) : QW d M pc ls st h P := by
  intro l s0 a0 A n0 p e R s m args below meth c H locs I S
  exact lv_bipush I.1 I.2.1 hd hv (kk I S)
theorem QW.sipush {n : Int} {v : Int32} (hd : decode M.2.1 pc = .ok (.sipush n, 3)) (hv : (Int16.ofInt n).toInt32 = v) (kk : QW d M (pc + 3) ls (.int v :: st) h P) : QW d M pc ls st h P := by
  intro l s0 a0 A n0 p e R s m args below meth c H locs I S
  exact lv_sipush I.1 I.2.1 hd hv (kk I S)
theorem QW.lconst {n : Fin 2} {v : Int64} (hd : decode M.2.1 pc = .ok (.lconst n, 1)) (hv : Int64.ofNat (n : Nat) = v) (kk : QW d M (pc + 1) ls (.long v :: st) h P) : QW d M pc ls st h P := by
  intro l s0 a0 A n0 p e R s m args below meth c H locs I S
  exact lv_lconst I.1 I.2.1 hd hv (kk I S)
theorem QW.iload_n {k : Fin 4} {i : Nat} {x : Int32} (hd : decode M.2.1 pc = .ok (.iload_n k, 1)) (hi : (k : Nat) = i) (hl : ls[i]? = some (.val (.int x))) (kk : QW d M (pc + 1) ls (.int x :: st) h P) : QW d M pc ls st h P := by
  intro l s0 a0 A n0 p e R s m args below meth c H locs I S
  exact lv_iload_n I.1 I.2.1 hd hi (qls_get hl) (kk I S)
theorem QW.iload {i : Nat} {x : Int32} (hd : decode M.2.1 pc = .ok (.iload i, 2)) (hl : ls[i]? = some (.val (.int x))) (kk : QW d M (pc + 2) ls (.int x :: st) h P) : QW d M pc ls st h P := by
  intro l s0 a0 A n0 p e R s m args below meth c H locs I S
  exact lv_iload I.1 I.2.1 hd (qls_get hl) (kk I S)
theorem QW.lload_n {k : Fin 4} {i : Nat} {x : Int64} (hd : decode M.2.1 pc = .ok (.lload_n k, 1)) (hi : (k : Nat) = i) (hl : ls[i]? = some (.val (.long x))) (kk : QW d M (pc + 1) ls (.long x :: st) h P) : QW d M pc ls st h P := by
  intro l s0 a0 A n0 p e R s m args below meth c H locs I S
  exact lv_lload_n I.1 I.2.1 hd hi (qls_get hl) (kk I S)
theorem QW.lload {i : Nat} {x : Int64} (hd : decode M.2.1 pc = .ok (.lload i, 2)) (hl : ls[i]? = some (.val (.long x))) (kk : QW d M (pc + 2) ls (.long x :: st) h P) : QW d M pc ls st h P := by
  intro l s0 a0 A n0 p e R s m args below meth c H locs I S
  exact lv_lload I.1 I.2.1 hd (qls_get hl) (kk I S)
theorem QW.aload_n {k : Fin 4} {i : Nat} {x : Nat} (hd : decode M.2.1 pc = .ok (.aload_n k, 1)) (hi : (k : Nat) = i) (hl : ls[i]? = some (.val (.ref x))) (kk : QW d M (pc + 1) ls (.ref x :: st) h P) : QW d M pc ls st h P := by
  intro l s0 a0 A n0 p e R s m args below meth c H locs I S
  exact lv_aload_n I.1 I.2.1 hd hi (qls_get hl) (kk I S)
theorem QW.aload {i : Nat} {x : Nat} (hd : decode M.2.1 pc = .ok (.aload i, 2)) (hl : ls[i]? = some (.val (.ref x))) (kk : QW d M (pc + 2) ls (.ref x :: st) h P) : QW d M pc ls st h P := by
  intro l s0 a0 A n0 p e R s m args below meth c H locs I S
  exact lv_aload I.1 I.2.1 hd (qls_get hl) (kk I S)
theorem QW.istore_n {k : Fin 4} {i : Nat} {x : Int32} {ls' : List Slot} (hd : decode M.2.1 pc = .ok (.istore_n k, 1)) (hi : (k : Nat) = i) (hs : qsto ls i (.int x) = some ls') (kk : QW d M (pc + 1) ls' st h P) : QW d M pc ls (.int x :: st) h P := by
  subst hi
  intro l s0 a0 A n0 p e R s m args below meth c H locs I S T hT X
  have e' := qsto_ok (ad := A.1) hs rfl
  obtain ⟨hx, hb⟩ : p.tables.exec = Jvm.exec ∧ c.code = M.2.1 := ⟨I.1, I.2.1⟩
  obtain ⟨t, a, b⟩ := kk I S T hT X
  refine ⟨t, ?_, b⟩
  show Steps p.tables e below (T.setTop (F0 m pc (qls A.1 ls) (.int x :: qvs A.1 st))) t
  have e' : storeLocals (qls A.1 ls) _ (.int x) = some (qls A.1 ls') := e'
  jvm_step X.here [X.here.top, ↓top_set X.here.top, hx, hb, hd, e']
  exact a
theorem QW.istore {i : Nat} {x : Int32} {ls' : List Slot} (hd : decode M.2.1 pc = .ok (.istore i, 2)) (hs : qsto ls i (.int x) = some ls') (kk : QW d M (pc + 2) ls' st h P) : QW d M pc ls (.int x :: st) h P := by
  intro l s0 a0 A n0 p e R s m args below meth c H locs I S T hT X
  have e' := qsto_ok (ad := A.1) hs rfl
  obtain ⟨hx, hb⟩ : p.tables.exec = Jvm.exec ∧ c.code = M.2.1 := ⟨I.1, I.2.1⟩
  obtain ⟨t, a, b⟩ := kk I S T hT X
  refine ⟨t, ?_, b⟩
  show Steps p.tables e below (T.setTop (F0 m pc (qls A.1 ls) (.int x :: qvs A.1 st))) t
  have e' : storeLocals (qls A.1 ls) _ (.int x) = some (qls A.1 ls') := e'
  jvm_step X.here [X.here.top, ↓top_set X.here.top, hx, hb, hd, e']
  exact a
theorem QW.astore_n {k : Fin 4} {i : Nat} {x : Nat} {ls' : List Slot} (hd : decode M.2.1 pc = .ok (.astore_n k, 1)) (hi : (k : Nat) = i) (hs : qsto ls i (.ref x) = some ls') (kk : QW d M (pc + 1) ls' st h P) : QW d M pc ls (.ref x :: st) h P := by
  subst hi
  intro l s0 a0 A n0 p e R s m args below meth c H locs I S T hT X
  have e' := qsto_ok (ad := A.1) hs rfl
  obtain ⟨hx, hb⟩ : p.tables.exec = Jvm.exec ∧ c.code = M.2.1 := ⟨I.1, I.2.1⟩
  obtain ⟨t, a, b⟩ := kk I S T hT X
  refine ⟨t, ?_, b⟩
  show Steps p.tables e below (T.setTop (F0 m pc (qls A.1 ls) (.ref (A.1 x) :: qvs A.1 st))) t
  have e' : storeLocals (qls A.1 ls) _ (.ref (A.1 x)) = some (qls A.1 ls') := e'
  jvm_step X.here [X.here.top, ↓top_set X.here.top, hx, hb, hd, e', Value.isRef]
  exact a
theorem QW.astore {i : Nat} {x : Nat} {ls' : List Slot} (hd : decode M.2.1 pc = .ok (.astore i, 2)) (hs : qsto ls i (.ref x) = some ls') (kk : QW d M (pc + 2) ls' st h P) : QW d M pc ls (.ref x :: st) h P := by
  intro l s0 a0 A n0 p e R s m args below meth c H locs I S T hT X
  have e' := qsto_ok (ad := A.1) hs rfl
  obtain ⟨hx, hb⟩ : p.tables.exec = Jvm.exec ∧ c.code = M.2.1 := ⟨I.1, I.2.1⟩
  obtain ⟨t, a, b⟩ := kk I S T hT X
  refine ⟨t, ?_, b⟩
  show Steps p.tables e below (T.setTop (F0 m pc (qls A.1 ls) (.ref (A.1 x) :: qvs A.1 st))) t
  have e' : storeLocals (qls A.1 ls) _ (.ref (A.1 x)) = some (qls A.1 ls') := e'
  jvm_step X.here [X.here.top, ↓top_set X.here.top, hx, hb, hd, e', Value.isRef]
  exact a
theorem QW.iinc {i : Nat} {n : Int} {x : Int32} {ls' : List Slot} (hd : decode M.2.1 pc = .ok (.iinc i n, 3)) (hl : ls[i]? = some (.val (.int x))) (hs : qsto ls i (.int (x + Int32.ofInt n)) = some ls') (kk : QW d M (pc + 3) ls' st h P) : QW d M pc ls st h P := by
  intro l s0 a0 A n0 p e R s m args below meth c H locs I S T hT X
  have e' : storeLocals (qls A.1 ls) i (.int (x + Int32.ofInt n)) = some (qls A.1 ls') := qsto_ok (ad := A.1) hs rfl
  have hg : (qls A.1 ls)[i]? = some (.val (.int x)) := qls_get hl
  obtain ⟨hx, hb⟩ : p.tables.exec = Jvm.exec ∧ c.code = M.2.1 := ⟨I.1, I.2.1⟩
  obtain ⟨t, a, b⟩ := kk I S T hT X
  refine ⟨t, ?_, b⟩
  jvm_step X.here [X.here.top, ↓top_set X.here.top, hx, hb, hd, hg, e']
  exact a
theorem QW.iadd {x y : Int32} (hd : decode M.2.1 pc = .ok (.iadd, 1)) (kk : QW d M (pc + 1) ls (.int (x + y) :: st) h P) : QW d M pc ls (.int y :: .int x :: st) h P := by
  intro l s0 a0 A n0 p e R s m args below meth c H locs I S
  exact lv_iadd I.1 I.2.1 hd (kk I S)
theorem QW.isub {x y : Int32} (hd : decode M.2.1 pc = .ok (.isub, 1)) (kk : QW d M (pc + 1) ls (.int (x - y) :: st) h P) : QW d M pc ls (.int y :: .int x :: st) h P := by
  intro l s0 a0 A n0 p e R s m args below meth c H locs I S
  exact lv_isub I.1 I.2.1 hd (kk I S)
theorem QW.imul {x y : Int32} (hd : decode M.2.1 pc = .ok (.imul, 1)) (kk : QW d M (pc + 1) ls (.int (x * y) :: st) h P) : QW d M pc ls (.int y :: .int x :: st) h P := by
  intro l s0 a0 A n0 p e R s m args below meth c H locs I S
  exact lv_imul I.1 I.2.1 hd (kk I S)
theorem QW.iand {x y : Int32} (hd : decode M.2.1 pc = .ok (.iand, 1)) (kk : QW d M (pc + 1) ls (.int (x &&& y) :: st) h P) : QW d M pc ls (.int y :: .int x :: st) h P := by
  intro l s0 a0 A n0 p e R s m args below meth c H locs I S
  exact lv_iand I.1 I.2.1 hd (kk I S)
theorem QW.ior {x y : Int32} (hd : decode M.2.1 pc = .ok (.ior, 1)) (kk : QW d M (pc + 1) ls (.int (x ||| y) :: st) h P) : QW d M pc ls (.int y :: .int x :: st) h P := by
  intro l s0 a0 A n0 p e R s m args below meth c H locs I S
  exact lv_ior I.1 I.2.1 hd (kk I S)
theorem QW.ixor {x y : Int32} (hd : decode M.2.1 pc = .ok (.ixor, 1)) (kk : QW d M (pc + 1) ls (.int (x ^^^ y) :: st) h P) : QW d M pc ls (.int y :: .int x :: st) h P := by
  intro l s0 a0 A n0 p e R s m args below meth c H locs I S
  exact lv_ixor I.1 I.2.1 hd (kk I S)
theorem QW.ishl {x y : Int32} (hd : decode M.2.1 pc = .ok (.ishl, 1)) (kk : QW d M (pc + 1) ls (.int (x <<< (y &&& 31)) :: st) h P) : QW d M pc ls (.int y :: .int x :: st) h P := by
  intro l s0 a0 A n0 p e R s m args below meth c H locs I S
  exact lv_ishl I.1 I.2.1 hd (kk I S)
theorem QW.ishr {x y : Int32} (hd : decode M.2.1 pc = .ok (.ishr, 1)) (kk : QW d M (pc + 1) ls (.int (x >>> (y &&& 31)) :: st) h P) : QW d M pc ls (.int y :: .int x :: st) h P := by
  intro l s0 a0 A n0 p e R s m args below meth c H locs I S
  exact lv_ishr I.1 I.2.1 hd (kk I S)
theorem QW.idiv {x y : Int32} (hd : decode M.2.1 pc = .ok (.idiv, 1)) (hne : ¬ y = 0) (kk : QW d M (pc + 1) ls (.int (x / y) :: st) h P) : QW d M pc ls (.int y :: .int x :: st) h P := by
  intro l s0 a0 A n0 p e R s m args below meth c H locs I S
  exact lv_idiv I.1 I.2.1 hd hne (kk I S)
theorem QW.irem {x y : Int32} (hd : decode M.2.1 pc = .ok (.irem, 1)) (hne : ¬ y = 0) (kk : QW d M (pc + 1) ls (.int (x - x / y * y) :: st) h P) : QW d M pc ls (.int y :: .int x :: st) h P := by
  intro l s0 a0 A n0 p e R s m args below meth c H locs I S
  exact lv_irem I.1 I.2.1 hd hne (kk I S)
theorem QW.ineg {x : Int32} (hd : decode M.2.1 pc = .ok (.ineg, 1)) (kk : QW d M (pc + 1) ls (.int (-x) :: st) h P) : QW d M pc ls (.int x :: st) h P := by
  intro l s0 a0 A n0 p e R s m args below meth c H locs I S
  exact lv_ineg I.1 I.2.1 hd (kk I S)
theorem QW.ladd {x y : Int64} (hd : decode M.2.1 pc = .ok (.ladd, 1)) (kk : QW d M (pc + 1) ls (.long (x + y) :: st) h P) : QW d M pc ls (.long y :: .long x :: st) h P := by
  intro l s0 a0 A n0 p e R s m args below meth c H locs I S
  exact lv_ladd I.1 I.2.1 hd (kk I S)
theorem QW.lsub {x y : Int64} (hd : decode M.2.1 pc = .ok (.lsub, 1)) (kk : QW d M (pc + 1) ls (.long (x - y) :: st) h P) : QW d M pc ls (.long y :: .long x :: st) h P := by
  intro l s0 a0 A n0 p e R s m args below meth c H locs I S
  exact lv_lsub I.1 I.2.1 hd (kk I S)
theorem QW.land {x y : Int64} (hd : decode M.2.1 pc = .ok (.land, 1)) (kk : QW d M (pc + 1) ls (.long (x &&& y) :: st) h P) : QW d M pc ls (.long y :: .long x :: st) h P := by
  intro l s0 a0 A n0 p e R s m args below meth c H locs I S
  exact lv_land I.1 I.2.1 hd (kk I S)
theorem QW.lor {x y : Int64} (hd : decode M.2.1 pc = .ok (.lor, 1)) (kk : QW d M (pc + 1) ls (.long (x ||| y) :: st) h P) : QW d M pc ls (.long y :: .long x :: st) h P := by
  intro l s0 a0 A n0 p e R s m args below meth c H locs I S
  exact lv_lor I.1 I.2.1 hd (kk I S)
theorem QW.i2l {x : Int32} (hd : decode M.2.1 pc = .ok (.i2l, 1)) (kk : QW d M (pc + 1) ls (.long x.toInt64 :: st) h P) : QW d M pc ls (.int x :: st) h P := by
  intro l s0 a0 A n0 p e R s m args below meth c H locs I S
  exact lv_i2l I.1 I.2.1 hd rfl (kk I S)
theorem QW.l2i {x : Int64} (hd : decode M.2.1 pc = .ok (.l2i, 1)) (kk : QW d M (pc + 1) ls (.int x.toInt32 :: st) h P) : QW d M pc ls (.long x :: st) h P := by
  intro l s0 a0 A n0 p e R s m args below meth c H locs I S
  exact lv_l2i I.1 I.2.1 hd rfl (kk I S)
theorem QW.i2c {x : Int32} (hd : decode M.2.1 pc = .ok (.i2c, 1)) (kk : QW d M (pc + 1) ls (.int (x.toUInt32 % 65536).toInt32 :: st) h P) : QW d M pc ls (.int x :: st) h P := by
  intro l s0 a0 A n0 p e R s m args below meth c H locs I S
  exact lv_i2c I.1 I.2.1 hd rfl (kk I S)
theorem QW.lushr {x : Int64} {y : Int32} (hd : decode M.2.1 pc = .ok (.lushr, 1)) (kk : QW d M (pc + 1) ls (.long (x.toUInt64 >>> (y.toInt64.toUInt64 &&& Int64.toUInt64 63)).toInt64 :: st) h P) : QW d M pc ls (.int y :: .long x :: st) h P := by
  intro l s0 a0 A n0 p e R s m args below meth c H locs I S
  exact lv_lushr I.1 I.2.1 hd rfl (kk I S)
theorem QW.lshl {x : Int64} {y : Int32} (hd : decode M.2.1 pc = .ok (.lshl, 1)) (kk : QW d M (pc + 1) ls (.long (x <<< (y.toInt64 &&& 63)) :: st) h P) : QW d M pc ls (.int y :: .long x :: st) h P := by
  intro l s0 a0 A n0 p e R s m args below meth c H locs I S
  exact lv_lshl I.1 I.2.1 hd rfl (kk I S)
theorem QW.lcmp {x y : Int64} (hd : decode M.2.1 pc = .ok (.lcmp, 1)) (kk : QW d M (pc + 1) ls (.int (lg_cmp x y) :: st) h P) : QW d M pc ls (.long y :: .long x :: st) h P := by
  intro l s0 a0 A n0 p e R s m args below meth c H locs I S
  exact W.lcmp I.1 I.2.1 hd (kk I S)
theorem qv_cat (ad : Nat → Nat) (v : Value) : (qv ad v).category = v.category := by cases v <;> rfl
theorem QW.dup {v : Value} (hd : decode M.2.1 pc = .ok (.dup, 1)) (hc : v.category = 1) (kk : QW d M (pc + 1) ls (v :: v :: st) h P) : QW d M pc ls (v :: st) h P := by
  intro l s0 a0 A n0 p e R s m args below meth c H locs I S
  exact lv_dup I.1 I.2.1 hd ((qv_cat _ _).trans hc) (kk I S)
theorem QW.pop {v : Value} (hd : decode M.2.1 pc = .ok (.pop, 1)) (hc : v.category = 1) (kk : QW d M (pc + 1) ls st h P) : QW d M pc ls (v :: st) h P := by
  intro l s0 a0 A n0 p e R s m args below meth c H locs I S
  exact lv_pop I.1 I.2.1 hd ((qv_cat _ _).trans hc) (kk I S)
theorem QW.dup_x1 {v w : Value} (hd : decode M.2.1 pc = .ok (.dup_x1, 1)) (hc : v.category = 1) (hc2 : w.category = 1) (kk : QW d M (pc + 1) ls (v :: w :: v :: st) h P) : QW d M pc ls (v :: w :: st) h P := by
  intro l s0 a0 A n0 p e R s m args below meth c H locs I S
  exact lv_dup_x1 I.1 I.2.1 hd ((qv_cat _ _).trans hc) ((qv_cat _ _).trans hc2) (kk I S)
theorem QW.dup_x2 {v w z : Value} (hd : decode M.2.1 pc = .ok (.dup_x2, 1)) (hc : v.category = 1) (hc2 : w.category = 1) (hc3 : z.category = 1) (kk : QW d M (pc + 1) ls (v :: w :: z :: v :: st) h P) : QW d M pc ls (v :: w :: z :: st) h P := by
  intro l s0 a0 A n0 p e R s m args below meth c H locs I S
  exact lv_dup_x2 I.1 I.2.1 hd ((qv_cat _ _).trans hc) ((qv_cat _ _).trans hc2) ((qv_cat _ _).trans hc3) (kk I S)
theorem QW.dup2 {v w : Value} (hd : decode M.2.1 pc = .ok (.dup2, 1)) (hc : v.category = 1) (hc2 : w.category = 1) (kk : QW d M (pc + 1) ls (v :: w :: v :: w :: st) h P) : QW d M pc ls (v :: w :: st) h P := by
  intro l s0 a0 A n0 p e R s m args below meth c H locs I S
  exact lv_dup2_11 I.1 I.2.1 hd ((qv_cat _ _).trans hc) ((qv_cat _ _).trans hc2) (kk I S)
theorem QW.if_eq {x : Int32} {off : Int} {tgt : Nat} (hd : decode M.2.1 pc = .ok (.ifCond .eq off, 3)) (ht : (pc : Int) + off = (tgt : Int)) (kt : x = 0 → QW d M tgt ls st h P) (kf : ¬ x = 0 → QW d M (pc + 3) ls st h P) : QW d M pc ls (.int x :: st) h P := by
  intro l s0 a0 A n0 p e R s m args below meth c H locs I S
  exact lv_if_eq I.1 I.2.1 hd ht (fun z => kt z I S) (fun z => kf z I S)
theorem QW.icmp_eq {x y : Int32} {off : Int} {tgt : Nat} (hd : decode M.2.1 pc = .ok (.if_icmp .eq off, 3)) (ht : (pc : Int) + off = (tgt : Int)) (kt : x = y → QW d M tgt ls st h P) (kf : ¬ x = y → QW d M (pc + 3) ls st h P) : QW d M pc ls (.int y :: .int x :: st) h P := by
  intro l s0 a0 A n0 p e R s m args below meth c H locs I S
  exact lv_icmp_eq I.1 I.2.1 hd ht (fun z => kt z I S) (fun z => kf z I S)
theorem QW.if_ne {x : Int32} {off : Int} {tgt : Nat} (hd : decode M.2.1 pc = .ok (.ifCond .ne off, 3)) (ht : (pc : Int) + off = (tgt : Int)) (kt : ¬ x = 0 → QW d M tgt ls st h P) (kf : x = 0 → QW d M (pc + 3) ls st h P) : QW d M pc ls (.int x :: st) h P := by
  intro l s0 a0 A n0 p e R s m args below meth c H locs I S
  exact lv_if_ne I.1 I.2.1 hd ht (fun z => kt z I S) (fun z => kf z I S)
theorem QW.icmp_ne {x y : Int32} {off : Int} {tgt : Nat} (hd : decode M.2.1 pc = .ok (.if_icmp .ne off, 3)) (ht : (pc : Int) + off = (tgt : Int)) (kt : ¬ x = y → QW d M tgt ls st h P) (kf : x = y → QW d M (pc + 3) ls st h P) : QW d M pc ls (.int y :: .int x :: st) h P := by
  intro l s0 a0 A n0 p e R s m args below meth c H locs I S
  exact lv_icmp_ne I.1 I.2.1 hd ht (fun z => kt z I S) (fun z => kf z I S)
theorem QW.if_lt {x : Int32} {off : Int} {tgt : Nat} (hd : decode M.2.1 pc = .ok (.ifCond .lt off, 3)) (ht : (pc : Int) + off = (tgt : Int)) (kt : x < 0 → QW d M tgt ls st h P) (kf : ¬ x < 0 → QW d M (pc + 3) ls st h P) : QW d M pc ls (.int x :: st) h P := by
  intro l s0 a0 A n0 p e R s m args below meth c H locs I S
  exact lv_if_lt I.1 I.2.1 hd ht (fun z => kt z I S) (fun z => kf z I S)
theorem QW.icmp_lt {x y : Int32} {off : Int} {tgt : Nat} (hd : decode M.2.1 pc = .ok (.if_icmp .lt off, 3)) (ht : (pc : Int) + off = (tgt : Int)) (kt : x < y → QW d M tgt ls st h P) (kf : ¬ x < y → QW d M (pc + 3) ls st h P) : QW d M pc ls (.int y :: .int x :: st) h P := by
  intro l s0 a0 A n0 p e R s m args below meth c H locs I S
  exact lv_icmp_lt I.1 I.2.1 hd ht (fun z => kt z I S) (fun z => kf z I S)
theorem QW.if_ge {x : Int32} {off : Int} {tgt : Nat} (hd : decode M.2.1 pc = .ok (.ifCond .ge off, 3)) (ht : (pc : Int) + off = (tgt : Int)) (kt : 0 ≤ x → QW d M tgt ls st h P) (kf : ¬ 0 ≤ x → QW d M (pc + 3) ls st h P) : QW d M pc ls (.int x :: st) h P := by
  intro l s0 a0 A n0 p e R s m args below meth c H locs I S
  exact lv_if_ge I.1 I.2.1 hd ht (fun z => kt z I S) (fun z => kf z I S)
theorem QW.icmp_ge {x y : Int32} {off : Int} {tgt : Nat} (hd : decode M.2.1 pc = .ok (.if_icmp .ge off, 3)) (ht : (pc : Int) + off = (tgt : Int)) (kt : y ≤ x → QW d M tgt ls st h P) (kf : ¬ y ≤ x → QW d M (pc + 3) ls st h P) : QW d M pc ls (.int y :: .int x :: st) h P := by
  intro l s0 a0 A n0 p e R s m args below meth c H locs I S
  exact lv_icmp_ge I.1 I.2.1 hd ht (fun z => kt z I S) (fun z => kf z I S)
theorem QW.if_gt {x : Int32} {off : Int} {tgt : Nat} (hd : decode M.2.1 pc = .ok (.ifCond .gt off, 3)) (ht : (pc : Int) + off = (tgt : Int)) (kt : 0 < x → QW d M tgt ls st h P) (kf : ¬ 0 < x → QW d M (pc + 3) ls st h P) : QW d M pc ls (.int x :: st) h P := by
  intro l s0 a0 A n0 p e R s m args below meth c H locs I S
  exact lv_if_gt I.1 I.2.1 hd ht (fun z => kt z I S) (fun z => kf z I S)
theorem QW.icmp_gt {x y : Int32} {off : Int} {tgt : Nat} (hd : decode M.2.1 pc = .ok (.if_icmp .gt off, 3)) (ht : (pc : Int) + off = (tgt : Int)) (kt : y < x → QW d M tgt ls st h P) (kf : ¬ y < x → QW d M (pc + 3) ls st h P) : QW d M pc ls (.int y :: .int x :: st) h P := by
  intro l s0 a0 A n0 p e R s m args below meth c H locs I S
  exact lv_icmp_gt I.1 I.2.1 hd ht (fun z => kt z I S) (fun z => kf z I S)
theorem QW.if_le {x : Int32} {off : Int} {tgt : Nat} (hd : decode M.2.1 pc = .ok (.ifCond .le off, 3)) (ht : (pc : Int) + off = (tgt : Int)) (kt : x ≤ 0 → QW d M tgt ls st h P) (kf : ¬ x ≤ 0 → QW d M (pc + 3) ls st h P) : QW d M pc ls (.int x :: st) h P := by
  intro l s0 a0 A n0 p e R s m args below meth c H locs I S
  exact lv_if_le I.1 I.2.1 hd ht (fun z => kt z I S) (fun z => kf z I S)
theorem QW.icmp_le {x y : Int32} {off : Int} {tgt : Nat} (hd : decode M.2.1 pc = .ok (.if_icmp .le off, 3)) (ht : (pc : Int) + off = (tgt : Int)) (kt : x ≤ y → QW d M tgt ls st h P) (kf : ¬ x ≤ y → QW d M (pc + 3) ls st h P) : QW d M pc ls (.int y :: .int x :: st) h P := by
  intro l s0 a0 A n0 p e R s m args below meth c H locs I S
  exact lv_icmp_le I.1 I.2.1 hd ht (fun z => kt z I S) (fun z => kf z I S)
theorem QW.goto {off : Int} {tgt : Nat} (hd : decode M.2.1 pc = .ok (.goto off, 3)) (ht : (pc : Int) + off = (tgt : Int)) (kk : QW d M tgt ls st h P) : QW d M pc ls st h P := by
  intro l s0 a0 A n0 p e R s m args below meth c H locs I S
  exact lv_goto I.1 I.2.1 hd ht (kk I S)
end QS

theorem qat_kept {A : qA} {a : Nat} {c : qC} {H H' : Heap} (h : qat A a c H) (e : H'[a]? = H[a]?) : qat A a c H' := by
  obtain ⟨cell, h1, h2⟩ := h
  exact ⟨cell, e.trans h1, h2⟩
theorem qat_lt {A : qA} {a : Nat} {c : qC} {H : Heap} (h : qat A a c H) : a < H.size := by
  obtain ⟨cell, h1, -⟩ := h
  exact (Array.getElem?_eq_some_iff.mp h1).1
theorem qad_ne {A : qA} (hA : qad A) {i j : Nat} (hi : A.2.2 ≤ i) (h : j ≠ i) : A.1 j ≠ A.1 i := by
  rcases Nat.lt_or_gt_of_ne h with h1 | h1
  · exact Nat.ne_of_lt (hA.2 j i h1 hi)
  · exact Nat.ne_of_gt (hA.2 i j h1 (Nat.le_trans hi (Nat.le_of_lt h1)))
theorem qad_le {A : qA} (hA : qad A) {i : Nat} (hi : A.2.2 ≤ i) : A.1 A.2.2 ≤ A.1 i := by
  rcases Nat.eq_or_lt_of_le hi with h | h
  · rw [h]; exact Nat.le_refl _
  · exact Nat.le_of_lt (hA.2 _ i h hi)
theorem qhr_put {A : qA} {h : qH} {H H' : Heap} {i : Nat} {c c' : qC} (hA : qad A) (hr : qhr A h H) (hi : h[i]? = some c) (hK : A.2.2 ≤ i) (hc : qat A (A.1 i) c' H') (hz : H'.size = H.size) (ho : ∀ q : Nat, q ≠ A.1 i → H'[q]? = H[q]?) : qhr A (h.set i c') H' := by
  have hl : i < h.length := (List.getElem?_eq_some_iff.mp hi).1
  refine ⟨by rw [List.length_set, hz]; exact hr.1, by rw [List.length_set]; exact hr.2.1, fun j x hj => ?_⟩
  by_cases hji : j = i
  · subst hji
    rw [List.getElem?_set_self hl] at hj
    cases hj
    exact ⟨hc, fun _ => hK⟩
  · rw [List.getElem?_set_ne (Ne.symm hji)] at hj
    obtain ⟨h1, h2⟩ := hr.2.2 j x hj
    exact ⟨qat_kept h1 (ho _ (qad_ne hA hK hji)), h2⟩
theorem qhr_new {A : qA} {h : qH} {H H' : Heap} {c : qC} (hA : qad A) (hr : qhr A h H) (hc : qat A (A.1 h.length) c H') (hz : H'.size = H.size + 1) (ho : ∀ q : Nat, q < H.size → H'[q]? = H[q]?) : qhr A (h ++ [c]) H' := by
  refine ⟨by rw [hz, hr.1, List.length_append, List.length_singleton, hA.1 _ hr.2.1], by rw [List.length_append]; exact Nat.le_trans hr.2.1 (Nat.le_add_right _ _), fun j x hj => ?_⟩
  by_cases hl : j < h.length
  · rw [List.getElem?_append_left hl] at hj
    obtain ⟨h1, h2⟩ := hr.2.2 j x hj
    exact ⟨qat_kept h1 (ho _ (qat_lt h1)), h2⟩
  · rw [List.getElem?_append_right (by omega)] at hj
    have hz0 : j - h.length < 1 := (List.getElem?_eq_some_iff.mp hj).1
    have hj0 : j = h.length := by omega
    subst hj0
    rw [Nat.sub_self] at hj
    cases hj
    exact ⟨hc, fun _ => hr.2.1⟩
theorem qSt_put {A : qA} {s0 : State} {n0 : Nat} {h : qH} {H H' : Heap} {locs : List Loc} {i sl : Nat} {c c' : qC} (hA : qad A) (S : qSt A s0 n0 h H locs) (hi : h[i]? = some c) (hK : A.2.2 ≤ i) (hc : qat A (A.1 i) c' H') (hz : H'.size = H.size) (ho : ∀ q : Nat, q ≠ A.1 i → H'[q]? = H[q]?) : qSt A s0 n0 (h.set i c') H' (locs ++ [⟨A.1 i, sl⟩]) := by
  refine ⟨qhr_put hA S.1 hi hK hc hz ho, fun q hq => ?_, fun q hq => ?_, by rw [List.length_set]; exact S.2.2.2.1, by rw [List.length_set]; exact S.2.2.2.2⟩
  · have := qad_le hA hK
    rw [ho q (by omega)]
    exact S.2.1 q hq
  · rcases List.mem_append.mp hq with h1 | h1
    · exact S.2.2.1 q h1
    · rw [List.mem_singleton.mp h1]
      exact qad_le hA hK
theorem qSt_new {A : qA} {s0 : State} {n0 : Nat} {h : qH} {H H' : Heap} {locs : List Loc} {c : qC} (hA : qad A) (S : qSt A s0 n0 h H locs) (hl : h.length < qCap) (hc : qat A (A.1 h.length) c H') (hz : H'.size = H.size + 1) (ho : ∀ q : Nat, q < H.size → H'[q]? = H[q]?) : qSt A s0 n0 (h ++ [c]) H' locs := by
  refine ⟨qhr_new hA S.1 hc hz ho, fun q hq => ?_, S.2.2.1, by rw [List.length_append]; exact Nat.le_trans S.2.2.2.1 (Nat.le_add_right _ _), by rw [List.length_append, List.length_singleton]; exact hl⟩
  have h1 : H.size = A.1 h.length := S.1.1
  have h2 := qad_le hA S.1.2.1
  rw [ho q (by omega)]
  exact S.2.1 q hq
theorem qad_add {A : qA} (hA : qad A) (j : Nat) : A.1 (A.2.2 + j) = A.1 A.2.2 + j := by
  induction j with
  | zero => rfl
  | succ j ih =>
    rw [← Nat.add_assoc, hA.1 _ (Nat.le_add_right _ _), ih, Nat.add_assoc]
theorem qhr_own {A : qA} (hA : qad A) {h : qH} {H : Heap} (hr : qhr A h H) {q : Nat} {cell : Cell} (hq : A.1 A.2.2 ≤ q) (hc : H[q]? = some cell) : ∃ (i : Nat) (c : qC), A.2.2 ≤ i ∧ h[i]? = some c ∧ A.1 i = q := by
  have hlt : q < H.size := (Array.getElem?_eq_some_iff.mp hc).1
  have e1 : A.1 h.length = A.1 A.2.2 + (h.length - A.2.2) := by
    have := qad_add hA (h.length - A.2.2)
    rw [Nat.add_sub_cancel' hr.2.1] at this
    exact this
  have hi : A.2.2 + (q - A.1 A.2.2) < h.length := by
    have := hr.2.1
    have := hr.1
    omega
  refine ⟨A.2.2 + (q - A.1 A.2.2), h[A.2.2 + (q - A.1 A.2.2)], Nat.le_add_right _ _, List.getElem?_eq_getElem hi, ?_⟩
  rw [qad_add hA]
  omega
theorem qhr_ns {A : qA} (hA : qad A) {h : qH} {H : Heap} (hr : qhr A h H) (q : Nat) (cell : Cell) (hq : A.1 A.2.2 ≤ q) (hc : H[q]? = some cell) : cell.vm.isStatics = false := by
  obtain ⟨i, c, -, hi, rfl⟩ := qhr_own hA hr hq hc
  obtain ⟨⟨cell', h1, -, -, h4, -⟩, -⟩ := hr.2.2 i c hi
  cases hc.symm.trans h1
  exact h4
end
section
section QACC
variable {l : Launch} {s0 : State} {a0 : Array Value} {A : qA} {M : qM} {d n0 : Nat} {p : Program} {R : Room} {s : State} {m : MethodId} {meth : Method} {c : Code}
theorem qIn.warm (I : qIn l s0 a0 A M d n0 p R s m meth c) : s0.WarmedH s.vm := I.2.2.2.2.2.2.2.2.1
theorem qIn.own (I : qIn l s0 a0 A M d n0 p R s m meth c) : s.vm.findClass M.1.cls = some m.cls := I.2.2.2.2.2.2.1
theorem qIn.glob (I : qIn l s0 a0 A M d n0 p R s m meth c) : qGl l s0 a0 A := I.2.2.2.2.2.2.2.2.2.2.2.2.2.2.2.2.2
theorem qIn.ad (I : qIn l s0 a0 A M d n0 p R s m meth c) : qad A := I.glob.2.2.1
theorem qIn.word (I : qIn l s0 a0 A M d n0 p R s m meth c) {w : Cond} (hw : w ∈ lw_tbl) (hk : (w.onTables && w.keeps) = true ∨ ∃ ty, w = .arrayClass ty) {a' : Array Value} : w.before a' s = true := word_at I.warm hk (I.glob.1 w hw)
theorem qIn.cls (I : qIn l s0 a0 A M d n0 p R s m meth c) {ct : Nat} {q : vw_C} (h : classes[ct]? = some q) : u_Kn s q.1 q.2.1 q.2.2 (A.2.1.1 ct) (A.2.1.2 ct) := u_Kn_moved I.warm.alike (I.glob.2.2.2.2.1 ct q h)
theorem qIn.arr (I : qIn l s0 a0 A M d n0 p R s m meth c) {t : Nat} {ty : FieldType} (h : qar t = some ty) : ∃ (kA : Class) (comp : ClassId), s.vm.classes[A.2.1.1 t]? = some kA ∧ kA.kind = .array comp ty := by
  obtain ⟨kA, comp, h1, h2⟩ := I.glob.2.2.2.2.2.1 t ty h
  obtain ⟨k', hk', he⟩ := I.warm.alike.2.2 _ _ h1
  exact ⟨k', comp, hk', by rw [he]; exact h2⟩
theorem q_ra_name {U : State} {cA : ClassId} {ty : FieldType} (h : va_RA U cA ty) : U.vm.findClass ("[" ++ ty.toString) = some cA := by
  cases ty with
  | object C => exact h.choose_spec.choose_spec.2.2.2
  | _ => exact h
theorem qIn.ra (I : qIn l s0 a0 A M d n0 p R s m meth c) {t : Nat} {ty : FieldType} (h : qar t = some ty) (ht : t < 80) : va_RA s (A.2.1.1 t) ty := (I.glob.2.2.2.2.2.2.1 t ty h ht).moved I.warm.alike
theorem qIn.arrN (I : qIn l s0 a0 A M d n0 p R s m meth c) {t : Nat} {ty : FieldType} (h : qar t = some ty) (ht : t < 80) : s.vm.findClass ("[" ++ ty.toString) = some (A.2.1.1 t) := q_ra_name (I.ra h ht)
theorem q_nst {v : VmData} (h : v.isStatics = false) : ∀ k, v ≠ .statics k := fun k e => by rw [e] at h; cases h
theorem qIn.isArr (I : qIn l s0 a0 A M d n0 p R s m meth c) {t : Nat} {ty : FieldType} (h : qar t = some ty) {cell : Cell} (hc : cell.cls = A.2.1.1 t) (hs : cell.vm.isStatics = false) : s.isArrayOf cell ty := by
  obtain ⟨kA, comp, h1, h2⟩ := I.arr h
  exact ⟨q_nst hs, kA, by rw [hc]; exact h1, comp, h2⟩
end QACC
theorem qlay_ok {C : String} {T : u_T} {N : Nat} : ∀ w ∈ u_ws C T N, (w.onTables && w.keeps) = true := by
  intro w hw
  obtain ⟨k, -, rfl⟩ := List.mem_map.mp hw
  unfold u_lay
  split <;> rfl
theorem qat_aset {A : qA} {a t j : Nat} {l : List Value} {v : Value} {H' : Heap} {cell : Cell} (ht : 64 ≤ t) (c2 : cell.cls = A.2.1.1 t) (c3 : cell.vm ≠ .unknown) (c4 : cell.vm.isStatics = false) (c5 : qown t = true → cell.vm = .none) (c7 : cell.slots = (l.map (qv A.1)).toArray) (e : H'[a]? = some (cell.setSlot j (qv A.1 v))) : qat A a (t, l.set j v) H' := by
  refine ⟨_, e, c2, c3, c4, c5, fun h => absurd ht (Nat.not_le.mpr h), fun _ => ?_⟩
  show cell.slots.setIfInBounds j (qv A.1 v) = _
  rw [c7]
  simp [List.map_set]
theorem q_in {l : List Value} {x : Int32} {v : Value} {ad : Nat → Nat} {sl : Array Value} (h0 : ¬ x < 0) (hv : l[x.toNatClampNeg]? = some v) (hs : sl = (l.map (qv ad)).toArray) : ¬ (x < 0 ∨ sl.size ≤ x.toNatClampNeg) ∧ sl[x.toNatClampNeg]? = some (qv ad v) := by
  subst hs
  have hl := (List.getElem?_eq_some_iff.mp hv).1
  refine ⟨fun h => ?_, by simp [hv]⟩
  rcases h with h | h
  · exact h0 h
  · simp at h; omega
section QMEM
variable {d : Nat} {M : qM} {pc : Nat} {ls : List Slot} {st : List Value} {h : qH} {P : qE → Prop}
theorem QW.alen {a t : Nat} {ty : FieldType} {l : List Value} {v : Int32} (hd : decode M.2.1 pc = .ok (.arraylength, 1)) (ha : h[a]? = some (t, l)) (ht : qar t = some ty) (h64 : 64 ≤ t) (hv : Int32.ofNat l.length = v) (kk : QW d M (pc + 1) ls (.int v :: st) h P) : QW d M pc ls (.ref a :: st) h P := by
  intro l s0 a0 A n0 p e R s m args below meth c H locs I S
  obtain ⟨⟨cell, c1, c2, c3, c4, c5, -, c7⟩, -⟩ := S.1.2.2 a _ ha
  exact W.alen (n := v) I.1 I.2.1 c1 (I.isArr ht c2 c4) (by rw [c7 h64]; simpa using hv) rfl rfl hd (kk I S)
theorem QW.iald {a t : Nat} {l : List Value} {x : Int32} {v : Value} (hd : decode M.2.1 pc = .ok (.iaload, 1)) (ha : h[a]? = some (t, l)) (ht : qar t = some .int) (h64 : 64 ≤ t) (h0 : ¬ x < 0) (hv : l[x.toNatClampNeg]? = some v) (kk : QW d M (pc + 1) ls (v :: st) h P) : QW d M pc ls (.int x :: .ref a :: st) h P := by
  intro l s0 a0 A n0 p e R s m args below meth c H locs I S
  obtain ⟨⟨cell, c1, c2, c3, c4, c5, -, c7⟩, -⟩ := S.1.2.2 a _ ha
  obtain ⟨g1, g2⟩ := q_in h0 hv (c7 h64)
  exact W.iald I.1 I.2.1 c1 (I.isArr ht c2 c4) c3 g1 g2 rfl rfl hd (kk I S)
theorem QW.zald {a t : Nat} {l : List Value} {x : Int32} {v : Value} (hd : decode M.2.1 pc = .ok (.baload, 1)) (ha : h[a]? = some (t, l)) (ht : qar t = some .boolean) (h64 : 64 ≤ t) (h0 : ¬ x < 0) (hv : l[x.toNatClampNeg]? = some v) (kk : QW d M (pc + 1) ls (v :: st) h P) : QW d M pc ls (.int x :: .ref a :: st) h P := by
  intro l s0 a0 A n0 p e R s m args below meth c H locs I S
  obtain ⟨⟨cell, c1, c2, c3, c4, c5, -, c7⟩, -⟩ := S.1.2.2 a _ ha
  obtain ⟨g1, g2⟩ := q_in h0 hv (c7 h64)
  exact W.zald I.1 I.2.1 c1 (I.isArr ht c2 c4) c3 g1 g2 rfl rfl hd (kk I S)
theorem QW.bald {a t : Nat} {l : List Value} {x : Int32} {v : Value} (hd : decode M.2.1 pc = .ok (.baload, 1)) (ha : h[a]? = some (t, l)) (ht : qar t = some .byte) (h64 : 64 ≤ t) (h0 : ¬ x < 0) (hv : l[x.toNatClampNeg]? = some v) (kk : QW d M (pc + 1) ls (v :: st) h P) : QW d M pc ls (.int x :: .ref a :: st) h P := by
  intro l s0 a0 A n0 p e R s m args below meth c H locs I S
  obtain ⟨⟨cell, c1, c2, c3, c4, c5, -, c7⟩, -⟩ := S.1.2.2 a _ ha
  obtain ⟨g1, g2⟩ := q_in h0 hv (c7 h64)
  exact W.bald I.1 I.2.1 c1 (I.isArr ht c2 c4) c3 g1 g2 rfl rfl hd (kk I S)
theorem QW.cald {a t : Nat} {l : List Value} {x : Int32} {v : Value} (hd : decode M.2.1 pc = .ok (.caload, 1)) (ha : h[a]? = some (t, l)) (ht : qar t = some .char) (h64 : 64 ≤ t) (h0 : ¬ x < 0) (hv : l[x.toNatClampNeg]? = some v) (kk : QW d M (pc + 1) ls (v :: st) h P) : QW d M pc ls (.int x :: .ref a :: st) h P := by
  intro l s0 a0 A n0 p e R s m args below meth c H locs I S
  obtain ⟨⟨cell, c1, c2, c3, c4, c5, -, c7⟩, -⟩ := S.1.2.2 a _ ha
  obtain ⟨g1, g2⟩ := q_in h0 hv (c7 h64)
  exact W.cald I.1 I.2.1 c1 (I.isArr ht c2 c4) c3 g1 g2 rfl rfl hd (kk I S)
theorem QW.lald {a t : Nat} {l : List Value} {x : Int32} {v : Value} (hd : decode M.2.1 pc = .ok (.laload, 1)) (ha : h[a]? = some (t, l)) (ht : qar t = some .long) (h64 : 64 ≤ t) (h0 : ¬ x < 0) (hv : l[x.toNatClampNeg]? = some v) (kk : QW d M (pc + 1) ls (v :: st) h P) : QW d M pc ls (.int x :: .ref a :: st) h P := by
  intro l s0 a0 A n0 p e R s m args below meth c H locs I S
  obtain ⟨⟨cell, c1, c2, c3, c4, c5, -, c7⟩, -⟩ := S.1.2.2 a _ ha
  obtain ⟨g1, g2⟩ := q_in h0 hv (c7 h64)
  exact W.lald I.1 I.2.1 c1 (I.isArr ht c2 c4) c3 g1 g2 rfl rfl hd (kk I S)
theorem QW.aald {a t : Nat} {C : String} {l : List Value} {x : Int32} {v : Value} (hd : decode M.2.1 pc = .ok (.aaload, 1)) (ha : h[a]? = some (t, l)) (ht : qar t = some (.object C)) (h64 : 64 ≤ t) (h0 : ¬ x < 0) (hv : l[x.toNatClampNeg]? = some v) (kk : QW d M (pc + 1) ls (v :: st) h P) : QW d M pc ls (.int x :: .ref a :: st) h P := by
  intro l s0 a0 A n0 p e R s m args below meth c H locs I S
  obtain ⟨⟨cell, c1, c2, c3, c4, c5, -, c7⟩, -⟩ := S.1.2.2 a _ ha
  obtain ⟨g1, g2⟩ := q_in h0 hv (c7 h64)
  exact W.aald I.1 I.2.1 c1 (I.isArr ht c2 c4) rfl c3 g1 g2 rfl rfl hd (kk I S)
theorem QW.iast {a t : Nat} {l : List Value} {x : Int32} {y : Int32} {v : Value} (hd : decode M.2.1 pc = .ok (.iastore, 1)) (ha : h[a]? = some (t, l)) (ht : qar t = some .int) (h64 : 64 ≤ t) (ho : qown t = true) (h0 : ¬ x < 0) (hv : l[x.toNatClampNeg]? = some v) (kk : QW d M (pc + 1) ls st (h.set a (t, l.set x.toNatClampNeg (.int y))) P) : QW d M pc ls (.int y :: .int x :: .ref a :: st) h P := by
  intro l s0 a0 A n0 p e R s m args below meth c H locs I S
  obtain ⟨⟨cell, c1, c2, c3, c4, c5, -, c7⟩, hK⟩ := S.1.2.2 a _ ha
  obtain ⟨g1, g2⟩ := q_in h0 hv (c7 h64)
  refine W.iast I.1 I.2.1 c1 (I.isArr ht c2 c4) c3 g1 rfl rfl hd fun H' eh z oq => ?_
  have S' := qSt_put (sl := x.toNatClampNeg) I.ad S ha (hK ho) (qat_aset (v := .int y) h64 c2 c3 c4 c5 (c7 h64) eh) z oq
  have K := kk (e := e) (args := args) (below := below) I S'
  rw [List.length_set] at K
  exact K
theorem QW.zast {a t : Nat} {l : List Value} {x : Int32} {y : Int32} {v : Value} (hd : decode M.2.1 pc = .ok (.bastore, 1)) (ha : h[a]? = some (t, l)) (ht : qar t = some .boolean) (h64 : 64 ≤ t) (ho : qown t = true) (h0 : ¬ x < 0) (hv : l[x.toNatClampNeg]? = some v) (hn : narrow .boolean (.int y) = .int y) (kk : QW d M (pc + 1) ls st (h.set a (t, l.set x.toNatClampNeg (.int y))) P) : QW d M pc ls (.int y :: .int x :: .ref a :: st) h P := by
  intro l s0 a0 A n0 p e R s m args below meth c H locs I S
  obtain ⟨⟨cell, c1, c2, c3, c4, c5, -, c7⟩, hK⟩ := S.1.2.2 a _ ha
  obtain ⟨g1, g2⟩ := q_in h0 hv (c7 h64)
  refine W.zast I.1 I.2.1 c1 (I.isArr ht c2 c4) c3 g1 rfl rfl hd fun H' eh z oq => ?_
  rw [hn] at eh
  have S' := qSt_put (sl := x.toNatClampNeg) I.ad S ha (hK ho) (qat_aset (v := .int y) h64 c2 c3 c4 c5 (c7 h64) eh) z oq
  have K := kk (e := e) (args := args) (below := below) I S'
  rw [List.length_set] at K
  exact K
theorem QW.cast {a t : Nat} {l : List Value} {x : Int32} {y : Int32} {v : Value} (hd : decode M.2.1 pc = .ok (.castore, 1)) (ha : h[a]? = some (t, l)) (ht : qar t = some .char) (h64 : 64 ≤ t) (ho : qown t = true) (h0 : ¬ x < 0) (hv : l[x.toNatClampNeg]? = some v) (hn : narrow .char (.int y) = .int y) (kk : QW d M (pc + 1) ls st (h.set a (t, l.set x.toNatClampNeg (.int y))) P) : QW d M pc ls (.int y :: .int x :: .ref a :: st) h P := by
  intro l s0 a0 A n0 p e R s m args below meth c H locs I S
  obtain ⟨⟨cell, c1, c2, c3, c4, c5, -, c7⟩, hK⟩ := S.1.2.2 a _ ha
  obtain ⟨g1, g2⟩ := q_in h0 hv (c7 h64)
  refine W.cast I.1 I.2.1 c1 (I.isArr ht c2 c4) c3 g1 rfl rfl hd fun H' eh z oq => ?_
  rw [hn] at eh
  have S' := qSt_put (sl := x.toNatClampNeg) I.ad S ha (hK ho) (qat_aset (v := .int y) h64 c2 c3 c4 c5 (c7 h64) eh) z oq
  have K := kk (e := e) (args := args) (below := below) I S'
  rw [List.length_set] at K
  exact K
theorem QW.last {a t : Nat} {l : List Value} {x : Int32} {y : Int64} {v : Value} (hd : decode M.2.1 pc = .ok (.lastore, 1)) (ha : h[a]? = some (t, l)) (ht : qar t = some .long) (h64 : 64 ≤ t) (ho : qown t = true) (h0 : ¬ x < 0) (hv : l[x.toNatClampNeg]? = some v) (kk : QW d M (pc + 1) ls st (h.set a (t, l.set x.toNatClampNeg (.long y))) P) : QW d M pc ls (.long y :: .int x :: .ref a :: st) h P := by
  intro l s0 a0 A n0 p e R s m args below meth c H locs I S
  obtain ⟨⟨cell, c1, c2, c3, c4, c5, -, c7⟩, hK⟩ := S.1.2.2 a _ ha
  obtain ⟨g1, g2⟩ := q_in h0 hv (c7 h64)
  refine W.last I.1 I.2.1 c1 (I.isArr ht c2 c4) c3 g1 rfl rfl hd fun H' eh z oq => ?_
  have S' := qSt_put (sl := x.toNatClampNeg) I.ad S ha (hK ho) (qat_aset (v := .long y) h64 c2 c3 c4 c5 (c7 h64) eh) z oq
  have K := kk (e := e) (args := args) (below := below) I S'
  rw [List.length_set] at K
  exact K
end QMEM

theorem qat_fset {A : qA} {a ct k N : Nat} {fs : List Value} {v : Value} {H' : Heap} {cell : Cell} (h64 : ct < 64) (hap : ∀ x y, x < N → y < N → x ≠ y → A.2.1.2 ct x ≠ A.2.1.2 ct y) (hk : k < N) (hl : fs.length = N) (c2 : cell.cls = A.2.1.1 ct) (c3 : cell.vm ≠ .unknown) (c4 : cell.vm.isStatics = false) (c5 : qown ct = true → cell.vm = .none)
    (c6 : ∀ (k : Nat) (v : Value), fs[k]? = some v → cell.slots[A.2.1.2 ct k]? = some (qv A.1 v)) (e : H'[a]? = some (cell.setSlot (A.2.1.2 ct k) (qv A.1 v))) : qat A a (ct, fs.set k v) H' := by
  refine ⟨_, e, c2, c3, c4, c5, fun _ j w hw => ?_, fun h => absurd h64 (Nat.not_lt.mpr h)⟩
  have hkl : k < fs.length := by omega
  by_cases hj : j = k
  · subst hj
    rw [List.getElem?_set_self hkl] at hw
    cases hw
    exact Cell.slots_setSlot_self _ (k2_hasslot (c6 j _ (List.getElem?_eq_getElem hkl)))
  · rw [List.getElem?_set_ne (Ne.symm hj)] at hw
    have hjl := (List.getElem?_eq_some_iff.mp hw).1
    rw [slot_ne _ _ (hap k j hk (by omega) (Ne.symm hj))]
    exact c6 j w hw
section QOBJ
variable {d : Nat} {M : qM} {pc : Nat} {ls : List Slot} {st : List Value} {h : qH} {P : qE → Prop}
theorem qIn.lays {l : Launch} {s0 : State} {a0 : Array Value} {A : qA} {M : qM} {d n0 : Nat} {p : Program} {R : Room} {s : State} {m : MethodId} {meth : Method} {c : Code} (I : qIn l s0 a0 A M d n0 p R s m meth c) {C : String} {T : u_T} {N : Nat} {ty : Nat → FieldType} (h : qcok C T N ty) {args : Array Value} : ∀ w ∈ u_ws C T N, w.before args s = true :=
  fun w hw => I.word (h.2.2 w hw) (Or.inl (qlay_ok w hw))
theorem qIn.apart {l : Launch} {s0 : State} {a0 : Array Value} {A : qA} {M : qM} {d n0 : Nat} {p : Program} {R : Room} {s : State} {m : MethodId} {meth : Method} {c : Code} (I : qIn l s0 a0 A M d n0 p R s m meth c) {C : String} {T : u_T} {N ct : Nat} {ty : Nat → FieldType} (h : qcok C T N ty) (hc : classes[ct]? = some (C, T, N)) : ∀ x y, x < N → y < N → x ≠ y → A.2.1.2 ct x ≠ A.2.1.2 ct y := by
  intro x y hx hy hne
  obtain ⟨hS, -⟩ := I.cls hc
  obtain ⟨_, _, _, fa, hia, ea⟩ := hS x hx
  obtain ⟨_, _, _, fb, hib, eb⟩ := hS y hy
  rw [← ea, ← eb]
  refine u_apart (u_lays (I.lays h (args := #[])) (fun w hw => hw) hx) (u_lays (I.lays h (args := #[])) (fun w hw => hw) hy) hia hib ?_
  rw [(State.fieldFound?_type hia (h.1 x hx)).1, (State.fieldFound?_type hib (h.1 y hy)).1]
  exact h.2.1 x hx y hy hne
theorem qIn.nest {l : Launch} {s0 : State} {a0 : Array Value} {A : qA} {M : qM} {d n0 : Nat} {p : Program} {R : Room} {s : State} {m : MethodId} {meth : Method} {c : Code} (I : qIn l s0 a0 A M d n0 p R s m meth c) {a : String} {i : Nat} {b n ds host : String} (h : Cond.fieldLinkNest a i b n ds host ∈ lw_tbl) {args : Array Value} : (Cond.fieldLinkNest a i b n ds host).before args s = true :=
  va_Nw.use rfl (va_Nw.warmF I.warm (va_Nw.of rfl (I.glob.1 _ h)))
theorem QW.getf {idx ct k N a : Nat} {t : FieldType} {fin : Bool} {fs : List Value} {v : Value} (hd : decode M.2.1 pc = .ok (.getfield idx, 3)) (hf : qfl M.1.cls idx ct k N t fin) (ha : h[a]? = some (ct, fs)) (hv : fs[k]? = some v) (kk : QW d M (pc + 3) ls (v :: st) h P) : QW d M pc ls (.ref a :: st) h P := by
  intro l s0 a0 A n0 p e R s m args below meth c H locs I S
  obtain ⟨C, T, ty, h1, h2, h2', h3, h4, h5, -, -, h6⟩ := hf
  obtain ⟨⟨cell, c1, c2, c3, c4, c5, c6, -⟩, -⟩ := S.1.2.2 a _ ha
  obtain ⟨hS, hfc, kC, hkC, hkind⟩ := I.cls h1
  obtain ⟨cf, kf, fi, f, hi, hsl⟩ := hS k h3
  have hst := (u_facts hfc hkC (u_lays (I.lays h5 (args := args)) (fun w hw => hw) h3) hi).1
  have hi : s.fieldFound? C (T k).2.1 (T k).2.2.1 = some (cf, kf, fi, f) := by rw [← h4]; exact hi
  rcases h6 with h6 | ⟨host, h6⟩
  · exact W.getf I.1 I.2.1 I.own (I.word h6 (Or.inl rfl)) hi hst c1 c3 (by rw [hsl]; exact c6 h2' k v hv) rfl rfl hd (kk I S)
  · exact va_Wgetf I.1 I.2.1 I.own (I.nest h6) hi hst c1 c3 (by rw [hsl]; exact c6 h2' k v hv) rfl rfl hd (kk I S)
theorem QW.putf {idx ct k N a : Nat} {t : FieldType} {fs : List Value} {v : Value} (hd : decode M.2.1 pc = .ok (.putfield idx, 3)) (hf : qfl M.1.cls idx ct k N t false) (ha : h[a]? = some (ct, fs)) (hl : fs.length = N) (hn : ∀ ad, narrow t (qv ad v) = qv ad v) (hfit : ∀ ad, fits t (qv ad v) = true) (kk : QW d M (pc + 3) ls st (h.set a (ct, fs.set k v)) P) : QW d M pc ls (v :: .ref a :: st) h P := by
  intro l s0 a0 A n0 p e R s m args below meth c H locs I S
  obtain ⟨C, T, ty, h1, h2, h2', h3, h4, h5, h5', h5'', h6⟩ := hf
  obtain ⟨⟨cell, c1, c2, c3, c4, c5, c6, -⟩, hK⟩ := S.1.2.2 a _ ha
  obtain ⟨hS, hfc, kC, hkC, hkind⟩ := I.cls h1
  obtain ⟨cf, kf, fi, f, hi, hsl⟩ := hS k h3
  have hst := (u_facts hfc hkC (u_lays (I.lays h5 (args := args)) (fun w hw => hw) h3) hi).1
  have hlay := I.lays h5 (args := args) _ (u_in_lay h3)
  unfold u_lay at hlay
  rw [if_neg (by rw [h5'']; decide)] at hlay
  have h7 := u_store hfc hkC hkind hlay hi (h5' ▸ h5.1 k h3) (hn A.1) (hfit A.1)
  have hi : s.fieldFound? C (T k).2.1 (T k).2.2.1 = some (cf, kf, fi, f) := by rw [← h4]; exact hi
  have hlt : f.slot < cell.slots.size := by rw [hsl]; exact k2_hasslot (c6 h2' k _ (List.getElem?_eq_getElem (show k < fs.length by omega)))
  have kk' : ∀ H' : Heap, H'[A.1 a]? = some (cell.setSlot f.slot (qv A.1 v)) → H'.size = H.size → (∀ q, q ≠ A.1 a → H'[q]? = H[q]?) → W p l e R s m args below meth c H' (locs ++ [⟨A.1 a, f.slot⟩]) (h.length - n0) (256 * (h.length - n0)) (qQ A s0 n0 s below P) (F0 m (pc + 3) (qls A.1 ls) (qvs A.1 st)) := by
    intro H' eh z oq
    rw [hsl] at eh
    have K := kk (e := e) (args := args) (below := below) I (qSt_put (sl := f.slot) I.ad S ha (hK h2) (qat_fset h2' (I.apart h5 h1) h3 hl c2 c3 c4 c5 (c6 h2') eh) z oq)
    rw [List.length_set] at K
    exact K
  rcases h6 with h6 | ⟨host, h6⟩
  · exact W.putK I.1 I.2.1 (f := f) ⟨I.own, I.word h6 (Or.inl rfl), ⟨_, _, _, hi⟩, hst⟩ (by rw [c2]; exact h7) c1 (c5 h2) hlt rfl rfl hd kk'
  · exact va_WputK I.1 I.2.1 I.own (I.nest h6) hi hst (by rw [c2]; exact h7) c1 (c5 h2) hlt rfl rfl hd kk'
theorem QW.putF {idx ct k N a : Nat} {t : FieldType} {fs : List Value} {v : Value} (hd : decode M.2.1 pc = .ok (.putfield idx, 3)) (hf : qfF M.1.cls idx ct k N t) (hin : M.1.name = "<init>") (ha : h[a]? = some (ct, fs)) (hl : fs.length = N) (hn : ∀ ad, narrow t (qv ad v) = qv ad v) (hfit : ∀ ad, fits t (qv ad v) = true) (kk : QW d M (pc + 3) ls st (h.set a (ct, fs.set k v)) P) : QW d M pc ls (v :: .ref a :: st) h P := by
  intro l s0 a0 A n0 p e R s m args below meth c H locs I S
  obtain ⟨C, T, ty, h1, h2, h2', h3, h4, hC, h5, h5', h5'', h6⟩ := hf
  obtain ⟨⟨cell, c1, c2, c3, c4, c5, c6, -⟩, hK⟩ := S.1.2.2 a _ ha
  obtain ⟨hS, hfc, kC, hkC, hkind⟩ := I.cls h1
  obtain ⟨cf, kf, fi, f, hi, hsl⟩ := hS k h3
  have hst := (u_facts hfc hkC (u_lays (I.lays h5 (args := args)) (fun w hw => hw) h3) hi).1
  have hlay := I.lays h5 (args := args) _ (u_in_lay h3)
  unfold u_lay at hlay
  rw [if_pos h5''] at hlay
  have hcf : m.cls = cf := by
    obtain ⟨_, _, c', _, _, _, -, -, hf', -, -, -, hown2, -⟩ := Cond.laysFinal_spec hlay
    have e1 : c' = cf := by have := hi.symm.trans hf'; simp at this; exact this.1.symm
    rw [h4, hC] at hown2
    rw [← e1]; exact Option.some.inj (I.own.symm.trans hown2)
  have h7 := u_fits hfc hkC hkind (Or.inr hlay) hi (h5' ▸ h5.1 k h3) (hn A.1) (hfit A.1)
  have hi : s.fieldFound? C (T k).2.1 (T k).2.2.1 = some (cf, kf, fi, f) := by rw [← h4]; exact hi
  have hlt : f.slot < cell.slots.size := by rw [hsl]; exact k2_hasslot (c6 h2' k _ (List.getElem?_eq_getElem (show k < fs.length by omega)))
  refine W.putFinK I.1 I.2.1 I.own (I.word h6 (Or.inl rfl)) hi hst hcf (I.2.2.2.2.2.1.trans hin) (by rw [c2]; exact h7) c1 (c5 h2) hlt rfl rfl hd fun H' eh z oq => ?_
  rw [hsl] at eh
  have K := kk (e := e) (args := args) (below := below) I (qSt_put (sl := f.slot) I.ad S ha (hK h2) (qat_fset h2' (I.apart h5 h1) h3 hl c2 c3 c4 c5 (c6 h2') eh) z oq)
  rw [List.length_set] at K
  exact K
theorem QW.new {idx ct : Nat} {fs : List Value} (hd : decode M.2.1 pc = .ok (.new idx, 3)) (hf : qnw M.1.cls idx ct fs) (hc : h.length < qCap) (kk : QW d M (pc + 3) ls (.ref h.length :: st) (h ++ [(ct, fs)]) P) : QW d M pc ls st h P := by
  intro l s0 a0 A n0 p e R s m args below meth c H locs I S
  obtain ⟨C, T, ty, h1, h2, h3, h4, h5, h5', h6, h7, h8⟩ := hf
  have hKn := I.cls h1
  have hR1 : qCap ≤ R.cells + n0 := I.2.2.2.2.2.2.2.2.2.2.2.2.2.2.2.1
  have hR2 : 256 * qCap ≤ R.slots + 256 * n0 := I.2.2.2.2.2.2.2.2.2.2.2.2.2.2.2.2.1
  have hn0 : n0 ≤ h.length := S.2.2.2.1
  refine W.newcK I.1 I.2.1 I.own (I.word h6 (Or.inl rfl)) (I.word h7 (Or.inl rfl)) (I.word h8 (Or.inl rfl)) rfl hd (by omega) (by omega) hKn.2.1 rfl fun H' kC hkC eh z oq => ?_
  obtain ⟨cell, b1, b2, b3, b4⟩ := u_born ty (I.lays h4 (args := args)) (fun w hw => hw) hKn hkC eh h4.1
  have hsz : H.size = A.1 h.length := S.1.1
  have hat : qat A (A.1 h.length) (ct, fs) H' := by
    rw [← hsz]
    refine ⟨cell, b1, b2, by rw [b3]; exact fun h => (by cases h), by rw [b3]; rfl, fun _ => b3, fun _ k v hv => ?_, fun h => absurd h2 (Nat.not_lt.mpr h)⟩
    have hk := (List.getElem?_eq_some_iff.mp hv).1
    rw [b4 k hk, h5' v (List.mem_of_getElem? hv) A.1]
    exact (h5 k hk).symm.trans hv
  have K := kk (e := e) (args := args) (below := below) I (qSt_new I.ad S hc hat z oq)
  rw [List.length_append, List.length_singleton] at K
  refine W.widen (k := h.length + 1 - n0) (n := 256 * (h.length + 1 - n0)) (by omega) (by omega) ?_
  rw [hsz]
  exact K
end QOBJ

theorem q_arrV {ad : Nat → Nat} (cA : ClassId) (n : Nat) (v : Value) (hv : qv ad v = v) : (arrV cA n (fun _ => v)).slots = ((List.replicate n v).map (qv ad)).toArray := by
  rw [← arrV_new]
  simp [hv]
section QARR
variable {d : Nat} {M : qM} {pc : Nat} {ls : List Slot} {st : List Value} {h : qH} {P : qE → Prop}
theorem QW.newa {at0 : ArrayType} {t N : Nat} {n : Int32} (hd : decode M.2.1 pc = .ok (.newarray at0, 2)) (ht : qar t = some (newarray.typeOf at0)) (h64 : 64 ≤ t) (h80 : t < 80) (hw : Cond.arrayClass (newarray.typeOf at0) ∈ lw_tbl) (hn : ¬ n < 0) (hN : n.toNatClampNeg = N) (hN2 : N ≤ 256) (hc : h.length < qCap)
    (kk : QW d M (pc + 2) ls (.ref h.length :: st) (h ++ [(t, List.replicate N (defaultValue (newarray.typeOf at0)))]) P) : QW d M pc ls (.int n :: st) h P := by
  intro l s0 a0 A n0 p e R s m args below meth c H locs I S
  have hR1 : qCap ≤ R.cells + n0 := I.2.2.2.2.2.2.2.2.2.2.2.2.2.2.2.1
  have hR2 : 256 * qCap ≤ R.slots + 256 * n0 := I.2.2.2.2.2.2.2.2.2.2.2.2.2.2.2.2.1
  have hn0 : n0 ≤ h.length := S.2.2.2.1
  have hcb : componentBytes (newarray.typeOf at0) ≤ 8 := by cases at0 <;> decide
  have hb : N * componentBytes (newarray.typeOf at0) ≤ 536870912 := Nat.le_trans (Nat.mul_le_mul hN2 hcb) (by decide)
  refine va_newaK I.1 I.2.1 (I.word hw (Or.inr ⟨_, rfl⟩)) rfl hd rfl hn hN hb (by omega) (by omega) rfl fun H' cA eh z oq hAr hNm => ?_
  have hcA : cA = A.2.1.1 t := Option.some.inj (hNm.symm.trans (I.arrN ht h80))
  have hsz : H.size = A.1 h.length := S.1.1
  have hdv : ∀ ad, qv ad (defaultValue (newarray.typeOf at0)) = defaultValue (newarray.typeOf at0) := fun ad => by cases at0 <;> rfl
  have hat : qat A (A.1 h.length) (t, List.replicate N (defaultValue (newarray.typeOf at0))) H' := by
    rw [← hsz]
    exact ⟨_, eh, hcA, fun h => (by cases h), rfl, fun _ => rfl, fun h => absurd h64 (Nat.not_le.mpr h), fun _ => q_arrV cA N _ (hdv A.1)⟩
  have K := kk (e := e) (args := args) (below := below) I (qSt_new I.ad S hc hat z oq)
  rw [List.length_append, List.length_singleton] at K
  refine W.widen (k := h.length + 1 - n0) (n := 256 * (h.length + 1 - n0)) (by omega) (by omega) ?_
  rw [hsz]
  exact K
theorem QW.newq {idx t N : Nat} {C : String} {n : Int32} (hd : decode M.2.1 pc = .ok (.anewarray idx, 3)) (ht : qar t = some (.object C)) (h64 : 64 ≤ t) (h80 : t < 80) (hw : Cond.classLink M.1.cls idx C ∈ lw_tbl) (hw2 : Cond.arrayOver (.object C) ∈ lw_tbl) (hn : ¬ n < 0) (hN : n.toNatClampNeg = N) (hN2 : N ≤ 256) (hc : h.length < qCap)
    (kk : QW d M (pc + 3) ls (.ref h.length :: st) (h ++ [(t, List.replicate N .null)]) P) : QW d M pc ls (.int n :: st) h P := by
  intro l s0 a0 A n0 p e R s m args below meth c H locs I S
  have hR1 : qCap ≤ R.cells + n0 := I.2.2.2.2.2.2.2.2.2.2.2.2.2.2.2.1
  have hR2 : 256 * qCap ≤ R.slots + 256 * n0 := I.2.2.2.2.2.2.2.2.2.2.2.2.2.2.2.2.1
  have hn0 : n0 ≤ h.length := S.2.2.2.1
  subst hN
  have hover : (Cond.arrayOver (.object C)).before args s = true := va_AO.use (va_AO.moved I.warm.alike (va_AO.of (I.glob.1 _ hw2)))
  refine W.anew I.1 I.2.1 I.own (I.word hw (Or.inl rfl)) hover rfl hd rfl hn (by omega) (by omega) (by omega) fun cA kA comp f1 f2 f3 f4 => ?_
  generalize hH1 : H.push ({ cls := cA, slots := Array.replicate n.toNatClampNeg .null, vm := .none } : Cell) = H1
  have z1 : H1.size = H.size + 1 := by rw [← hH1, Array.size_push]
  have e1 : H1[H.size]? = some (arrV cA n.toNatClampNeg (fun _ => .null)) := by rw [← hH1, Array.getElem?_push_size, ← arrV_new]
  have o1 : ∀ q : Nat, q < H.size → H1[q]? = H[q]? := fun q hq => by rw [← hH1, Array.getElem?_push, if_neg (Nat.ne_of_lt hq)]
  have hcA : cA = A.2.1.1 t := Option.some.inj (f1.symm.trans (I.arrN ht h80))
  have hsz : H.size = A.1 h.length := S.1.1
  have hat : qat A (A.1 h.length) (t, List.replicate n.toNatClampNeg .null) H1 := by
    rw [← hsz]
    exact ⟨_, e1, hcA, fun h => (by cases h), rfl, fun _ => rfl, fun h => absurd h64 (Nat.not_le.mpr h), fun _ => q_arrV cA _ _ rfl⟩
  have K := kk (e := e) (args := args) (below := below) I (qSt_new I.ad S hc hat z1 o1)
  rw [List.length_append, List.length_singleton] at K
  refine W.widen (k := h.length + 1 - n0) (n := 256 * (h.length + 1 - n0)) (by omega) (by omega) ?_
  rw [hsz]
  exact K
theorem QW.aast {a t b ct : Nat} {q : vw_C} {l fs : List Value} {x : Int32} {v : Value} (hd : decode M.2.1 pc = .ok (.aastore, 1)) (ha : h[a]? = some (t, l)) (ht : qar t = some (.object q.1)) (h64 : 64 ≤ t) (h80 : t < 80) (ho : qown t = true) (hb : h[b]? = some (ct, fs)) (hq : classes[ct]? = some q) (h0 : ¬ x < 0) (hv : l[x.toNatClampNeg]? = some v)
    (kk : QW d M (pc + 1) ls st (h.set a (t, l.set x.toNatClampNeg (.ref b))) P) : QW d M pc ls (.ref b :: .int x :: .ref a :: st) h P := by
  intro l s0 a0 A n0 p e R s m args below meth c H locs I S
  obtain ⟨⟨cell, c1, c2, c3, c4, c5, -, c7⟩, hK⟩ := S.1.2.2 a _ ha
  obtain ⟨⟨cellB, d1, d2, d3, d4, d5, -, -⟩, -⟩ := S.1.2.2 b _ hb
  obtain ⟨g1, g2⟩ := q_in h0 hv (c7 h64)
  obtain ⟨-, hat⟩ := I.cls hq
  obtain ⟨kA, comp, k1, k2, k3, -⟩ := I.ra ht h80
  have hcomp : comp = A.2.1.1 ct := Option.some.inj (k3.symm.trans hat.1)
  subst hcomp
  have hat' := hat
  obtain ⟨-, kC, hkC, -⟩ := hat'
  refine W.aast I.1 I.2.1 c1 (q_nst c4) c3 (by rw [c2]; exact k1) k2 rfl hkC ⟨h0, Nat.not_le.mp fun q => g1 (Or.inr q)⟩ d1 (q_nst d4) (by rw [d2]; exact hkC) (by rw [d2]; exact va_assign hat) rfl rfl hd fun H' eh z oq => ?_
  have K := kk (e := e) (args := args) (below := below) I (qSt_put (sl := x.toNatClampNeg) I.ad S ha (hK ho) (qat_aset (v := .ref b) h64 c2 c3 c4 c5 (c7 h64) eh) z oq)
  rw [List.length_set] at K
  exact K
end QARR

section QRET
variable {d : Nat} {M : qM} {pc : Nat} {ls : List Slot} {h : qH} {P : qE → Prop}
theorem QW.iret {x : Int32} {ty : FieldType} (hd : decode M.2.1 pc = .ok (.ireturn, 1)) (hr : M.2.2.2.1 = some ty) (hn : narrow ty (.int x) = .int x) (hp : P (.inl (some (.int x)), h)) : QW d M pc ls [.int x] h P := by
  intro l s0 a0 A n0 p e R s m args below meth c H locs I S T hT X
  obtain ⟨i1, i2, i3, i4, i5, -⟩ := I
  have i4 : meth.sig.returnType = some ty := i4.trans hr
  obtain ⟨fs, hret, hrun, hended, hW, hframe⟩ := X.leave (v := some (.int x)) (hlocks := i5) (fun h => by rw [i4] at h; cases h)
  have hmeth' : T.vm.method? m = some meth := X.method'
  refine ⟨T.setFrames fs, ?_, (.inl (some (.int x)), h), hp, hrun, hended, hW, locs, hframe, by show qSt A s0 n0 h T.heap locs; rw [hT]; exact S⟩
  show Steps p.tables e below (T.setTop (F0 m pc (qls A.1 ls) [.int x])) _
  jvm_step X.here [X.here.top, i1, i2, hd, hmeth', i4, hn]
  (try refine ⟨rfl, ?_⟩); (try refine ⟨rfl, ?_⟩)
  first | (intro acts; rw [hret _ acts rfl rfl rfl]) | rw [hret _ _ rfl rfl rfl]
  exact Steps.refl _
theorem QW.vret (hd : decode M.2.1 pc = .ok (.return_, 1)) (hr : M.2.2.2.1 = none) (hp : P (.inl none, h)) : QW d M pc ls [] h P := by
  intro l s0 a0 A n0 p e R s m args below meth c H locs I S T hT X
  obtain ⟨i1, i2, i3, i4, i5, -⟩ := I
  have i4 : meth.sig.returnType = none := i4.trans hr
  obtain ⟨fs, hret, hrun, hended, hW, hframe⟩ := X.leave (v := none) (hlocks := i5) (fun _ => rfl)
  have hmeth' : T.vm.method? m = some meth := X.method'
  refine ⟨T.setFrames fs, ?_, (.inl none, h), hp, hrun, hended, hW, locs, hframe, by show qSt A s0 n0 h T.heap locs; rw [hT]; exact S⟩
  show Steps p.tables e below (T.setTop (F0 m pc (qls A.1 ls) [])) _
  jvm_step X.here [X.here.top, i1, i2, hd, hmeth', i4]
  (try refine ⟨rfl, ?_⟩); (try refine ⟨rfl, ?_⟩)
  first | (intro acts; rw [hret _ acts rfl rfl rfl]) | rw [hret _ _ rfl rfl rfl]
  exact Steps.refl _
theorem QW.aret {a : Nat} {n : String} (hd : decode M.2.1 pc = .ok (.areturn, 1)) (hr : M.2.2.2.1 = some (.object n)) (hp : P (.inl (some (.ref a)), h)) : QW d M pc ls [.ref a] h P := by
  intro l s0 a0 A n0 p e R s m args below meth c H locs I S T hT X
  obtain ⟨i1, i2, i3, i4, i5, -⟩ := I
  have i4 : meth.sig.returnType = some (.object n) := i4.trans hr
  obtain ⟨fs, hret, hrun, hended, hW, hframe⟩ := X.leave (v := some (.ref (A.1 a))) (hlocks := i5) (fun h => by rw [i4] at h; cases h)
  have hmeth' : T.vm.method? m = some meth := X.method'
  refine ⟨T.setFrames fs, ?_, (.inl (some (.ref a)), h), hp, hrun, hended, hW, locs, hframe, by show qSt A s0 n0 h T.heap locs; rw [hT]; exact S⟩
  show Steps p.tables e below (T.setTop (F0 m pc (qls A.1 ls) [.ref (A.1 a)])) _
  jvm_step X.here [X.here.top, i1, i2, hd, hmeth', i4]
  (try refine ⟨rfl, ?_⟩); (try refine ⟨rfl, ?_⟩)
  first | (intro acts; rw [hret _ acts rfl rfl rfl]) | rw [hret _ _ rfl rfl rfl]
  exact Steps.refl _
end QRET
end
section
def qen (n : Nat) (as : List Value) : List Slot := lg_sl as ++ List.replicate (n - (lg_sl as).length) .unset
theorem lg_sl_qv (ad : Nat → Nat) (as : List Value) : lg_sl (qvs ad as) = (lg_sl as).map (qsv ad) := by
  induction as with
  | nil => rfl
  | cons v vs ih =>
    show lg_sl (qv ad v :: qvs ad vs) = _
    have e1 : ∀ w (ws : List Value), lg_sl (w :: ws) = (if w.category = 2 then [.val w, .second] else [.val w]) ++ lg_sl ws := fun w ws => rfl
    rw [e1, e1, ih, List.map_append, qv_cat]
    congr 1
    split <;> rfl
theorem qen_entry (ad : Nat → Nat) (m : MethodId) (n : Nat) (as : List Value) : entryFrame m (qvs ad as).toArray n = F0 m 0 (qls ad (qen n as)) [] := by
  rw [lg_entry_eq, lg_sl_qv]
  simp [qls, qen, qsv]
theorem q_weaken {tb : Tables} {e : Env} {mid below : List Frame} {a b : State} (h : Steps tb e (mid ++ below) a b) : Steps tb e below a b := by
  obtain ⟨n, hn, w⟩ := h
  exact ⟨n, hn, fun k hk => (w k hk).weaken⟩
def qMt (M : qM) (U : State) (mk : MethodId) (methk : Method) (ck : Code) : Prop :=
  U.vm.method? mk = some methk ∧ methk.code = some ck ∧ ck.code = M.2.1 ∧ ck.maxLocals = M.2.2.1 ∧ methk.sig.returnType = M.2.2.2.1 ∧ methk.locks = false ∧ methk.name = M.1.name ∧ U.vm.findClass M.1.cls = some mk.cls ∧
  (ck.exceptionTable.toList.map (fun x => (x.startPc, x.endPc, x.handlerPc, x.catchType)) = M.2.2.2.2) ∧ ∃ kk : Class, U.vm.classes[mk.cls]? = some kk ∧ plainName kk.name = true
theorem qMt.plain {M : qM} {U : State} {mk : MethodId} {methk : Method} {ck : Code} (h : qMt M U mk methk ck) : U.plainMethod mk := by
  obtain ⟨-, -, -, -, -, -, -, -, -, kk, h1, h2⟩ := h
  refine State.plainMethod.of_name fun k hk => ?_
  cases h1.symm.trans hk
  exact h2
section QCALL
variable {l : Launch} {s0 : State} {a0 : Array Value} {A : qA} {d n0 : Nat} {M M2 : qM} {p : Program} {e : Env} {R : Room} {s : State} {m : MethodId} {args : Array Value} {below : List Frame} {meth : Method} {c : Code} {H : Heap} {locs : List Loc} {h : qH} {T : State}
set_option maxRecDepth 100000 in
theorem q_call (I : qIn l s0 a0 A M (d + 1) n0 p R s m meth c) (S : qSt A s0 n0 h H locs) (hT : T.heap = H) (X : Stand p l e R s m args below meth c T locs (h.length - n0) (256 * (h.length - n0)))
    {g : JFrame} (hg : g.method = m) (hsz : g.locals.size = c.maxLocals) (hw : 2 * g.monitorRoom + (g.stack.map fun v => v.category).sum ≤ 20) {ig : Instr} {len : Nat} (hdg : decode c.code g.pc = .ok (ig, len))
    {mk : MethodId} {methk : Method} {ck : Code} (hm : qMt M2 T mk methk ck) (hml : M2.2.2.1 ≤ 30) {as : List Value} {P1 : qE → Prop} (hC : QW d M2 0 (qen M2.2.2.1 as) [] h P1) :
    ∃ (r : qE) (t T' : State) (L : List Loc), P1 r ∧ Stand p l e R s m args below meth c T' L (r.2.length - n0) (256 * (r.2.length - n0)) ∧ qSt A s0 n0 r.2 T'.heap L ∧
      (∀ acts, Steps p.tables e below (doInvoke e (T.setTop g) acts mk (qvs A.1 as).toArray).1 t) ∧
      (∀ v, r.1 = .inl v → t = T'.setTop { g with pc := g.pc + len, stack := (v.map (qv A.1)).toList ++ g.stack }) ∧ (∀ a, r.1 = .inr a → t = (T'.setTop g).pushFrame (.throwing (A.1 a))) := by
  obtain ⟨i1, i2, i3, i4, i5, i6, i7, i8, i9, i10, i11, i12, i13, i14, i15, i16, i17, i18⟩ := I
  have j10 := hm.plain
  obtain ⟨j1, j2, j3, j4, j5, j6, j7, j8, j9, -⟩ := hm
  obtain ⟨S1, S2, S3, S4, S5⟩ := S
  obtain ⟨Y, hin⟩ := X.into (R' := { frames := R.frames - 1, cells := R.cells - (h.length - n0), slots := R.slots - 256 * (h.length - n0), locals := 64 * d + 800 }) hg hsz hdg (qvs A.1 as).toArray j1 j2 j6 j10
    (by show R.frames - 1 + 1 ≤ R.frames; omega) (by show 2 * g.monitorRoom + (g.stack.map fun v => v.category).sum + (ck.maxLocals + 11) + (64 * d + 800) ≤ R.locals; rw [j4]; omega)
    (by show h.length - n0 + (R.cells - (h.length - n0)) ≤ R.cells; omega) (by show 256 * (h.length - n0) + (R.slots - 256 * (h.length - n0)) ≤ R.slots; omega)
  have hheap : (T.calling g mk (qvs A.1 as).toArray).heap = H := hT
  have hvm : (T.calling g mk (qvs A.1 as).toArray).vm = T.vm := rfl
  have I' : qIn l s0 a0 A M2 d h.length p { frames := R.frames - 1, cells := R.cells - (h.length - n0), slots := R.slots - 256 * (h.length - n0), locals := 64 * d + 800 } (T.calling g mk (qvs A.1 as).toArray) mk methk ck := by
    refine ⟨i1, j3, j4, j5, j6, j7, j8, j9, State.WarmedH.trans i9 X.warmed, by rw [hheap]; exact S2, fun q cell hq hc => ?_, by rw [hheap]; exact S1.1, S1.2.1, by show d + 10 ≤ R.frames - 1; omega, Nat.le_refl _, by show qCap ≤ R.cells - (h.length - n0) + h.length; omega, by show 256 * qCap ≤ R.slots - 256 * (h.length - n0) + 256 * h.length; omega, i18⟩
    exact qhr_ns i18.2.2.1 S1 q cell hq (by rw [hheap] at hc; exact hc)
  have S' : qSt A s0 h.length h H [] := ⟨S1, S2, (fun q hq => by cases hq), Nat.le_refl _, S5⟩
  have K := hC I' S' (e := e) (args := (qvs A.1 as).toArray) (below := .java g :: below)
  rw [Nat.sub_self, Nat.mul_zero] at K
  obtain ⟨t, a1, r, b1, b2, b3, b4, L, b5, b6⟩ := K _ (by exact hT) Y
  have a3 : entryFrame mk (qvs A.1 as).toArray ck.maxLocals = F0 mk 0 (qls A.1 (qen M2.2.2.1 as)) (qvs A.1 []) := by rw [j4]; exact qen_entry A.1 mk M2.2.2.1 as
  rw [← a3] at a1
  obtain ⟨c1, c2, c3, c4, c5⟩ := b6
  have hn : h.length - n0 + (r.2.length - h.length) = r.2.length - n0 := by omega
  have hn2 : 256 * (h.length - n0) + 256 * (r.2.length - h.length) = 256 * (r.2.length - n0) := by omega
  have hL : ∀ q ∈ locs ++ L, A.1 A.2.2 ≤ q.base := fun q hq => by
    rcases List.mem_append.mp hq with h1 | h1
    · exact S3 q h1
    · exact c3 q h1
  have a2 : ∀ acts, Steps p.tables e below (doInvoke e (T.setTop g) acts mk (qvs A.1 as).toArray).1 t := fun acts => by
    rw [hin acts]
    exact q_weaken (mid := [.java g]) a1
  cases hr : r.1 with
  | inl v =>
    rw [hr] at b3
    obtain ⟨T', X', hW', -, ht⟩ := X.outOf hg hdg b3 b4 b5
    rw [hn, hn2] at X'
    have hth : t.heap = T'.heap := by rw [ht]; rfl
    refine ⟨r, t, T', locs ++ L, b1, X', ⟨by rw [← hth]; exact c1, by rw [← hth]; exact c2, hL, by omega, c5⟩, a2, fun v' hv' => ?_, fun a ha => ?_⟩
    · cases hr.symm.trans hv'
      exact ht
    · cases hr.symm.trans ha
  | inr x =>
    rw [hr] at b3
    obtain ⟨T', X', hW', -, ht⟩ := X.outOfThrown hg b3 b4 b5
    rw [hn, hn2] at X'
    have hth : t.heap = T'.heap := by rw [ht]; rfl
    refine ⟨r, t, T', locs ++ L, b1, X', ⟨by rw [← hth]; exact c1, by rw [← hth]; exact c2, hL, by omega, c5⟩, a2, fun v' hv' => ?_, fun a ha => ?_⟩
    · cases hr.symm.trans hv'
    · cases hr.symm.trans ha
      exact ht
end QCALL

def QT (d : Nat) (M : qM) (pc : Nat) (ls : List Slot) (a : Nat) (h : qH) (P : qE → Prop) : Prop :=
  ∀ ⦃l : Launch⦄ ⦃s0 : State⦄ ⦃a0 : Array Value⦄ ⦃A : qA⦄ ⦃n0 : Nat⦄ ⦃p : Program⦄ ⦃e : Env⦄ ⦃R : Room⦄ ⦃s : State⦄ ⦃m : MethodId⦄ ⦃args : Array Value⦄ ⦃below : List Frame⦄ ⦃meth : Method⦄ ⦃c : Code⦄ ⦃T : State⦄ ⦃locs : List Loc⦄,
    qIn l s0 a0 A M d n0 p R s m meth c → qSt A s0 n0 h T.heap locs → Stand p l e R s m args below meth c T locs (h.length - n0) (256 * (h.length - n0)) → ∀ st' : List Value,
      ∃ t, Steps p.tables e below ((T.setTop (F0 m pc (qls A.1 ls) st')).pushFrame (.throwing (A.1 a))) t ∧ qQ A s0 n0 s below P t
section QCL
variable {l : Launch} {s0 : State} {a0 : Array Value} {A : qA} {d n0 : Nat} {M M2 : qM} {p : Program} {e : Env} {R : Room} {s : State} {m : MethodId} {args : Array Value} {below : List Frame} {meth : Method} {c : Code} {H : Heap} {locs : List Loc} {h : qH} {T : State}
theorem q_meth (I : qIn l s0 a0 A M d n0 p R s m meth c) (hm : qme M2) : ∃ (mk : MethodId) (methk : Method) (ck : Code) (kk : Class), s.methodNamed? M2.1 = some mk ∧ qMt M2 s mk methk ck ∧ parseMethodDescriptor M2.1.desc = some methk.sig ∧ s.vm.classes[mk.cls]? = some kk ∧ kk.init = .initialized := by
  obtain ⟨h1, h2, h3, h4, h5⟩ := hm
  have hini : (Cond.initialized M2.1.cls).before #[] s = true := I.word h5 (Or.inl rfl)
  have key : ∀ (mk : MethodId) (methk : Method) (ck : Code), s.methodNamed? M2.1 = some mk → s.vm.method? mk = some methk → methk.code = some ck → ck.code = M2.2.1 → ck.maxLocals = M2.2.2.1 → methk.sig.returnType = M2.2.2.2.1 → methk.locks = false →
      (ck.exceptionTable.toList.map (fun x => (x.startPc, x.endPc, x.handlerPc, x.catchType)) = M2.2.2.2.2) → parseMethodDescriptor M2.1.desc = some methk.sig →
      ∃ (mk : MethodId) (methk : Method) (ck : Code) (kk : Class), s.methodNamed? M2.1 = some mk ∧ qMt M2 s mk methk ck ∧ parseMethodDescriptor M2.1.desc = some methk.sig ∧ s.vm.classes[mk.cls]? = some kk ∧ kk.init = .initialized := by
    intro mk methk ck g1 g2 g3 g4 g5 g6 g7 g8 g9
    obtain ⟨kk, hkk, hkn⟩ := className_of_methodNamed g1
    refine ⟨mk, methk, ck, kk, g1, ⟨g2, g3, g4, g5, g6, g7, (name_of_methodNamed g1 g2).1, findClass_of_methodNamed g1, g8, kk, hkk, by rw [hkn]; exact h1⟩, g9, hkk, Cond.initialized_spec (findClass_of_methodNamed g1) hkk hini⟩
  rcases h4 with ⟨h4, h6⟩ | h4
  · have hcode : (Cond.code M2.1 M2.2.1 M2.2.2.1 M2.2.2.2.1).before #[] s = true := I.word h4 (Or.inl rfl)
    obtain ⟨mk, g1⟩ := Cond.code_named hcode
    obtain ⟨methk, ck, g2, g3, g4, g5, g6, g7, g8, g9⟩ := Cond.code_spec g1 hcode
    refine key mk methk ck g1 g2 g3 g4 g5 g6 g7 ?_ g9
    rw [h6]
    simp at g8
    simp [g8]
  · have hcode : (Cond.codeWith M2.1 M2.2.1 M2.2.2.1 M2.2.2.2.1 M2.2.2.2.2).before #[] s = true := I.word h4 (Or.inl rfl)
    obtain ⟨mk, methk, ck, g1, g2, g3, g4, g5, g8, g6, g7, g9⟩ := Cond.codeWith_spec hcode
    exact key mk methk ck g1 g2 g3 g4 g5 g6 g7 g8 g9
theorem qMt.to {mk : MethodId} {methk : Method} {ck : Code} (h : qMt M2 s mk methk ck) {U : State} (hW : s.WarmedH U.vm) : qMt M2 U mk methk ck := by
  obtain ⟨h1, h2, h3, h4, h5, h6, h7, h8, h9, kk, h10, h11⟩ := h
  obtain ⟨k', hk', he⟩ := hW.alike.2.2 _ _ h10
  exact ⟨by rw [hW.alike.method?]; exact h1, h2, h3, h4, h5, h6, h7, by rw [hW.alike.findClass]; exact h8, h9, k', hk', by rw [he]; exact h11⟩
def qnp (M : qM) : Option Nat := (parseMethodDescriptor M.1.desc).map (fun d => d.parameters.length)
theorem q_go {pc : Nat} {ls : List Slot} {rest as : List Value} {P P1 : qE → Prop} {ig : Instr} (I : qIn l s0 a0 A M (d + 1) n0 p R s m meth c) (S : qSt A s0 n0 h H locs) (hT : T.heap = H) (X : Stand p l e R s m args below meth c T locs (h.length - n0) (256 * (h.length - n0)))
    (hd : decode M.2.1 pc = .ok (ig, 3)) (hls : ls.length = M.2.2.1) (hw : (rest.map fun v => v.category).sum ≤ 20) {mk : MethodId} {methk : Method} {ck : Code} (hm : qMt M2 T mk methk ck) (hml : M2.2.2.1 ≤ 30) (hC : QW d M2 0 (qen M2.2.2.1 as) [] h P1)
    (hr : ∀ v h', P1 (.inl v, h') → QW (d + 1) M (pc + 3) ls (v.toList ++ rest) h' P) (ht : ∀ a h', P1 (.inr a, h') → QT (d + 1) M pc ls a h' P) :
    ∃ t, (∀ acts, Steps p.tables e below (doInvoke e (T.setTop (F0 m pc (qls A.1 ls) (qvs A.1 rest))) acts mk (qvs A.1 as).toArray).1 t) ∧ qQ A s0 n0 s below P t := by
  have hsz : (F0 m pc (qls A.1 ls) (qvs A.1 rest)).locals.size = c.maxLocals := by
    show (qls A.1 ls).size = _
    rw [I.2.2.1, ← hls]
    simp [qls]
  have hww : 2 * (F0 m pc (qls A.1 ls) (qvs A.1 rest)).monitorRoom + ((F0 m pc (qls A.1 ls) (qvs A.1 rest)).stack.map fun v => v.category).sum ≤ 20 := by
    show 2 * 0 + ((qvs A.1 rest).map fun v => v.category).sum ≤ 20
    have e1 : (qvs A.1 rest).map (fun v => v.category) = rest.map fun v => v.category := by
      simp [qvs, List.map_map, Function.comp_def, qv_cat]
    rw [e1]
    omega
  obtain ⟨r, t, T', L, b1, X', S', b4, b5, b6⟩ := q_call I S hT X (g := F0 m pc (qls A.1 ls) (qvs A.1 rest)) rfl hsz hww (by rw [I.2.1]; exact hd) hm hml hC
  obtain ⟨o, h'⟩ := r
  cases o with
  | inl v =>
    obtain ⟨t2, a2, q2⟩ := hr v h' b1 I S' T' rfl X'
    have e1 := b5 v rfl
    refine ⟨t2, fun acts => (b4 acts).trans ?_, q2⟩
    rw [e1]
    have e2 : qvs A.1 (v.toList ++ rest) = (v.map (qv A.1)).toList ++ qvs A.1 rest := by cases v <;> rfl
    rw [e2] at a2
    exact a2
  | inr a =>
    obtain ⟨t2, a2, q2⟩ := ht a h' b1 I S' X' (qvs A.1 rest)
    have e1 := b6 a rfl
    refine ⟨t2, fun acts => (b4 acts).trans ?_, q2⟩
    rw [e1]
    exact a2
end QCL
section QCR
variable {d : Nat} {M M2 : qM} {pc idx : Nat} {ls : List Slot} {st as rest : List Value} {h : qH} {P P1 : qE → Prop}
theorem q_vlen {ad : Nat → Nat} {as : List Value} {sig : MethodDescriptor} {n : Nat} (h : qnp M2 = some n) (hs : parseMethodDescriptor M2.1.desc = some sig) (hl : as.length = n) : (qvs ad as).length = sig.parameters.length := by
  unfold qnp at h
  rw [hs] at h
  have h2 : sig.parameters.length = n := Option.some.inj h
  simp only [qvs, List.length_map]
  omega
theorem QW.callS (hd : decode M.2.1 pc = .ok (.invokestatic idx, 3)) (hm : qme M2) (hl : qlk M.1.cls idx M2) (hs : Cond.static M2.1 ∈ lw_tbl) (hn : qnp M2 = some as.length) (hst : st = as.reverse ++ rest) (hls : ls.length = M.2.2.1) (hw : (rest.map fun v => v.category).sum ≤ 20)
    (hC : QW d M2 0 (qen M2.2.2.1 as) [] h P1) (hr : ∀ v h', P1 (.inl v, h') → QW (d + 1) M (pc + 3) ls (v.toList ++ rest) h' P) (ht : ∀ a h', P1 (.inr a, h') → QT (d + 1) M pc ls a h' P) : QW (d + 1) M pc ls st h P := by
  intro l s0 a0 A n0 p e R s m args below meth c H locs I S T hT X
  subst hst
  obtain ⟨mk, methk, ck, kk, g1, g2, g3, g4, g5⟩ := q_meth I hm
  have hstat : methk.isStatic = true := Cond.static_spec g1 g2.1 (I.word hs (Or.inl rfl) (a' := args))
  have hlen := q_vlen (ad := A.1) hn g3 rfl
  have hstk : qvs A.1 (as.reverse ++ rest) = (qvs A.1 as).reverse ++ qvs A.1 rest := by simp [qvs]
  have fin : ∀ vm', Stand p l e R s m args below meth c (T.setVm vm') locs (h.length - n0) (256 * (h.length - n0)) → (∀ target, (∀ acts, Steps p.tables e below (doInvoke e ((T.setVm vm').setTop (F0 m pc (qls A.1 ls) (qvs A.1 rest))) acts mk (qvs A.1 as).toArray).1 target) → Steps p.tables e below (T.setTop (F0 m pc (qls A.1 ls) (qvs A.1 (as.reverse ++ rest)))) target) →
      ∃ t, Steps p.tables e below (T.setTop (F0 m pc (qls A.1 ls) (qvs A.1 (as.reverse ++ rest)))) t ∧ qQ A s0 n0 s below P t := by
    intro vm' X' hgo
    obtain ⟨t, b1, b2⟩ := q_go I S (by exact hT) X' hd hls hw (g2.to X'.warmed) hm.2.1 hC hr ht
    exact ⟨t, hgo t b1, b2⟩
  rcases hl with hl | ⟨host, hl⟩
  · obtain ⟨vm', X', hgo⟩ := X.invokestatic I.1 I.own (I.word hl (Or.inl rfl)) g1 g2.1 hstat g4 g5 hm.2.2.1 (g := F0 m pc (qls A.1 ls) (qvs A.1 (as.reverse ++ rest))) rfl (argsL := qvs A.1 as) (rest := qvs A.1 rest) hlen hstk (by rw [I.2.1]; exact hd)
    exact fin vm' X' hgo
  · obtain ⟨vm', X', hgo⟩ := X.invokestaticNest I.1 I.own (va_Nw.use rfl (va_Nw.warmM I.warm (va_Nw.of rfl (I.glob.1 _ hl)))) g1 g2.1 hstat g4 g5 hm.2.2.1 (g := F0 m pc (qls A.1 ls) (qvs A.1 (as.reverse ++ rest))) rfl (argsL := qvs A.1 as) (rest := qvs A.1 rest) hlen hstk (by rw [I.2.1]; exact hd)
    exact fin vm' X' hgo
theorem QW.callV {b ct : Nat} {q : vw_C} {fs : List Value} (hd : decode M.2.1 pc = .ok (.invokevirtual idx, 3)) (hm : qme M2) (hl : qlk M.1.cls idx M2) (hi : Cond.instanceMethod M2.1 ∈ lw_tbl) (hse : Cond.selects M2.1.cls M2.1 M2.1 ∈ lw_tbl) (hn : qnp M2 = some as.length) (hst : st = as.reverse ++ .ref b :: rest) (hb : h[b]? = some (ct, fs)) (hq : classes[ct]? = some q) (hqc : q.1 = M2.1.cls) (hls : ls.length = M.2.2.1) (hw : (rest.map fun v => v.category).sum ≤ 20)
    (hC : QW d M2 0 (qen M2.2.2.1 (.ref b :: as)) [] h P1) (hr : ∀ v h', P1 (.inl v, h') → QW (d + 1) M (pc + 3) ls (v.toList ++ rest) h' P) (ht : ∀ a h', P1 (.inr a, h') → QT (d + 1) M pc ls a h' P) : QW (d + 1) M pc ls st h P := by
  intro l s0 a0 A n0 p e R s m args below meth c H locs I S T hT X
  subst hst
  obtain ⟨mk, methk, ck, kk, g1, g2, g3, g4, g5⟩ := q_meth I hm
  obtain ⟨mk', methk', g1', g2', hstM, habM⟩ := Cond.instanceMethod_spec (I.word hi (Or.inl rfl) (a' := args))
  cases g1.symm.trans g1'
  cases g2.1.symm.trans g2'
  obtain ⟨⟨cellB, d1, d2, d3, d4, -⟩, -⟩ := S.1.2.2 b _ hb
  have hcls : s.vm.findClass M2.1.cls = some cellB.cls := by rw [d2, ← hqc]; exact (I.cls hq).2.1
  obtain ⟨c2, r2, m2, q1, q2, q3, q4, kP, hkP, hkPi⟩ := Cond.selects_spec (I.word hse (Or.inl rfl) (a' := args))
  cases hcls.symm.trans q1
  cases (State.methodFound?_of_named g1 hm.2.2.1).symm.trans q2
  cases g1.symm.trans q3
  have hselP : selectMethod e.platform s.vm cellB.cls mk = .method mk := by rw [Launch.admits_selectMethod X.admits]; exact q4
  have hlen := q_vlen (ad := A.1) hn g3 rfl
  have hstk : qvs A.1 (as.reverse ++ .ref b :: rest) = (qvs A.1 as).reverse ++ .ref (A.1 b) :: qvs A.1 rest := by simp [qvs, qv]
  have fin : ∀ vm', Stand p l e R s m args below meth c (T.setVm vm') locs (h.length - n0) (256 * (h.length - n0)) → (∀ target, (∀ acts, Steps p.tables e below (doInvoke e ((T.setVm vm').setTop (F0 m pc (qls A.1 ls) (qvs A.1 rest))) acts mk (qvs A.1 (.ref b :: as)).toArray).1 target) → Steps p.tables e below (T.setTop (F0 m pc (qls A.1 ls) (qvs A.1 (as.reverse ++ .ref b :: rest)))) target) →
      ∃ t, Steps p.tables e below (T.setTop (F0 m pc (qls A.1 ls) (qvs A.1 (as.reverse ++ .ref b :: rest)))) t ∧ qQ A s0 n0 s below P t := by
    intro vm' X' hgo
    obtain ⟨t, b1, b2⟩ := q_go I S (by exact hT) X' hd hls hw (g2.to X'.warmed) hm.2.1 hC hr ht
    exact ⟨t, hgo t b1, b2⟩
  have hTc : T.heap[A.1 b]? = some cellB := by rw [hT]; exact d1
  rcases hl with hl | ⟨host, hl⟩
  · obtain ⟨vm', X', hgo⟩ := X.invokevirtual I.1 I.own (I.word hl (Or.inl rfl)) g1 g2.1 hstM hkP hkPi hm.2.2.1 (a := A.1 b) (cell := cellB) hTc (q_nst d4) hselP g2.1 habM hkP hkPi (g := F0 m pc (qls A.1 ls) (qvs A.1 (as.reverse ++ .ref b :: rest))) rfl (argsL := qvs A.1 as) (rest := qvs A.1 rest) hlen hstk (by rw [I.2.1]; exact hd)
    exact fin vm' X' hgo
  · obtain ⟨vm', X', hgo⟩ := X.invokevirtualNest I.1 I.own (va_Nw.use rfl (va_Nw.warmM I.warm (va_Nw.of rfl (I.glob.1 _ hl)))) g1 g2.1 hstM hkP hkPi hm.2.2.1 (a := A.1 b) (cell := cellB) hTc (q_nst d4) hselP g2.1 habM hkP hkPi (g := F0 m pc (qls A.1 ls) (qvs A.1 (as.reverse ++ .ref b :: rest))) rfl (argsL := qvs A.1 as) (rest := qvs A.1 rest) hlen hstk (by rw [I.2.1]; exact hd)
    exact fin vm' X' hgo
theorem QW.callI {b : Nat} (hd : decode M.2.1 pc = .ok (.invokespecial idx, 3)) (hy : M2.1.name = "<init>") (hv : M2.2.2.2.1 = none) (hno : M2.2.2.2.2 = []) (hcode : Cond.code M2.1 M2.2.1 M2.2.2.1 none ∈ lw_tbl) (hm : qme M2) (hl : qlk M.1.cls idx M2) (hi : Cond.instanceMethod M2.1 ∈ lw_tbl) (hn : qnp M2 = some as.length) (hst : st = as.reverse ++ .ref b :: rest) (hls : ls.length = M.2.2.1) (hw : (rest.map fun v => v.category).sum ≤ 20)
    (hC : QW d M2 0 (qen M2.2.2.1 (.ref b :: as)) [] h P1) (hr : ∀ v h', P1 (.inl v, h') → QW (d + 1) M (pc + 3) ls (v.toList ++ rest) h' P) (ht : ∀ a h', P1 (.inr a, h') → QT (d + 1) M pc ls a h' P) : QW (d + 1) M pc ls st h P := by
  intro l s0 a0 A n0 p e R s m args below meth c H locs I S T hT X
  subst hst
  obtain ⟨mk, methk, ck, kk, g1, g2, g3, g4, g5⟩ := q_meth I hm
  have hpl : e.platform.magicAccessors = ({} : Platform).magicAccessors := by rw [X.admits.platform]
  have hlen : ∀ sig, parseMethodDescriptor M2.1.desc = some sig → (qvs A.1 as).length = sig.parameters.length := fun sig hsig => q_vlen (ad := A.1) hn hsig rfl
  have hstk : qvs A.1 (as.reverse ++ .ref b :: rest) = (qvs A.1 as).reverse ++ .ref (A.1 b) :: qvs A.1 rest := by simp [qvs, qv]
  have fin : ∀ vm', s.WarmedH vm' → (∀ target, (∀ acts, Steps p.tables e below (doInvoke e ((T.setVm vm').setTop (F0 m pc (qls A.1 ls) (qvs A.1 rest))) acts mk (qvs A.1 (.ref b :: as)).toArray).1 target) → Steps p.tables e below (T.setTop (F0 m pc (qls A.1 ls) (qvs A.1 (as.reverse ++ .ref b :: rest)))) target) →
      ∃ t, Steps p.tables e below (T.setTop (F0 m pc (qls A.1 ls) (qvs A.1 (as.reverse ++ .ref b :: rest)))) t ∧ qQ A s0 n0 s below P t := by
    intro vm' hW hgo
    have X' := X.noted hW
    obtain ⟨t, b1, b2⟩ := q_go I S (by exact hT) X' hd hls hw (g2.to X'.warmed) hm.2.1 hC hr ht
    exact ⟨t, hgo t b1, b2⟩
  rcases hl with hl | ⟨host, hl⟩
  · obtain ⟨mk', methM, cM, kP, vm₁, hnamed, -, -, -, -, -, -, -, hW₁, hstep₁⟩ := Steps.initColdArgs (e := e) X.here I.1 X.warmed hpl I.own hy hm.2.2.1 (I.word hl (Or.inl rfl) (a' := args)) (I.word hi (Or.inl rfl)) (I.word hcode (Or.inl rfl)) (f := F0 m pc (qls A.1 ls) (qvs A.1 (as.reverse ++ .ref b :: rest))) rfl hlen hstk (by rw [I.2.1]; exact hd)
    cases g1.symm.trans hnamed
    exact fin vm₁ hW₁ hstep₁
  · obtain ⟨mk', methM, cM, kP, vm₁, hnamed, -, -, -, -, -, -, -, hW₁, hstep₁⟩ := Steps.initColdArgsNest (e := e) X.here I.1 X.warmed hpl I.own hy hm.2.2.1 (va_Nw.use rfl (va_Nw.warmM I.warm (va_Nw.of rfl (I.glob.1 _ hl))) (A := args)) (I.word hi (Or.inl rfl)) (I.word hcode (Or.inl rfl)) (f := F0 m pc (qls A.1 ls) (qvs A.1 (as.reverse ++ .ref b :: rest))) rfl hlen hstk (by rw [I.2.1]; exact hd)
    cases g1.symm.trans hnamed
    exact fin vm₁ hW₁ hstep₁
theorem QW.objInit {b : Nat} (hd : decode M.2.1 pc = .ok (.invokespecial idx, 3)) (hl : Cond.methodLink M.1.cls idx objectInit ∈ lw_tbl) (hi : Cond.instanceMethod objectInit ∈ lw_tbl) (hc : Cond.code objectInit ⟨#[0xb1]⟩ 1 none ∈ lw_tbl) (hls : ls.length = M.2.2.1) (hw : (rest.map fun v => v.category).sum ≤ 20) (kk : QW d M (pc + 3) ls rest h P) : QW d M pc ls (.ref b :: rest) h P := by
  intro l s0 a0 A n0 p e R s m args below meth c H locs I S
  have hf : d + 10 ≤ R.frames := I.2.2.2.2.2.2.2.2.2.2.2.2.2.1
  have hlo : 64 * d + 800 ≤ R.locals := I.2.2.2.2.2.2.2.2.2.2.2.2.2.2.1
  have e1 : (qvs A.1 rest).map (fun v => v.category) = rest.map fun v => v.category := by simp [qvs, List.map_map, Function.comp_def, qv_cat]
  refine W.objInit I.1 I.2.1 I.own (I.word hl (Or.inl rfl)) (I.word hi (Or.inl rfl)) (I.word hc (Or.inl rfl)) rfl (by show (qls A.1 ls).size = _; rw [I.2.2.1, ← hls]; simp [qls]) rfl hd (by omega) (by show 2 * 0 + ((qvs A.1 rest).map fun v => v.category).sum + 12 ≤ R.locals; rw [e1]; omega) ?_
  exact kk I S
end QCR
end
section
def q_by (pl : Platform) (s : State) (dc : ClassId) (pc : Nat) (k : ClassId) (y : ExceptionTableEntry) : Prop :=
  covers y pc = false ∨ (y.catchType ≠ 0 ∧ ∃ c, s.vm.ClassLinks pl dc y.catchType c ∧ s.vm.assignable k c = false)
theorem q_row {e : Env} {S : State} {f : JFrame} {a : Addr} {x : ExceptionTableEntry} {t : List ExceptionTableEntry} {c : ClassId} {cell : Cell} (hx : covers x f.pc = true) (h0 : x.catchType ≠ 0) (hl : S.vm.ClassLinks e.platform f.method.cls x.catchType c)
    (hcell : S.heap[a]? = some cell) (hobj : ∀ k, cell.vm ≠ .statics k) (hk : ∃ k, S.vm.classes[cell.cls]? = some k) (hc : ∃ k, S.vm.classes[c]? = some k) {Q : Handler → Pre} {E : CtlPost} {d : Bool} {acts : List Action} :
    wp (findHandler.go f a (x :: t)) Q E e d acts S ↔
      if S.vm.assignable cell.cls c = true then Q (.found x.handlerPc) d acts (S.setVm (S.vm.noted f.method.cls x.catchType (.cls c))) else wp (findHandler.go f a t) Q E e d acts (S.setVm (S.vm.noted f.method.cls x.catchType (.cls c))) := by
  have hal : S.vm.Alike (S.vm.noted f.method.cls x.catchType (.cls c)) := (Vm.Alike.refl S.vm).noted _ _ _
  obtain ⟨ha, ht⟩ := (resolveClass_links e.toSetting hl).op (op := VmOp.resolveClass f.method.cls x.catchType) rfl
  obtain ⟨k1, hk1⟩ := hk
  obtain ⟨k2, hk2⟩ := hc
  obtain ⟨k3, hk3, -⟩ := hal.2.2 _ _ hk1
  obtain ⟨k4, hk4, -⟩ := hal.2.2 _ _ hk2
  have hx' : (decide (x.startPc ≤ f.pc) && decide (f.pc < x.endPc)) = true := hx
  cases hf : S.vm.assignable cell.cls c with
  | true =>
    have hf' : (S.vm.noted f.method.cls x.catchType (.cls c)).assignable cell.cls c = true := by rw [hal.assignable]; exact hf
    simp [findHandler.go, hx', h0, ha, ht, hcell, hobj, hk3, hk4, hf', VmOp.dirties, VmOp.acts]
  | false =>
    have hf' : (S.vm.noted f.method.cls x.catchType (.cls c)).assignable cell.cls c = false := by rw [hal.assignable]; exact hf
    simp [findHandler.go, hx', h0, ha, ht, hcell, hobj, hk3, hk4, hf', VmOp.dirties, VmOp.acts]
theorem q_seek {e : Env} {s : State} {f : JFrame} {a : Addr} {cell : Cell} (hobj : ∀ k, cell.vm ≠ .statics k) {k0 : Class} (hk0 : s.vm.classes[cell.cls]? = some k0) {x : ExceptionTableEntry} {rest : List ExceptionTableEntry} (hx : covers x f.pc = true) (h0 : x.catchType ≠ 0)
    {c : ClassId} (hl : s.vm.ClassLinks e.platform f.method.cls x.catchType c) (hfit : s.vm.assignable cell.cls c = true) :
    ∀ (pre : List ExceptionTableEntry) (S : State), s.WarmedH S.vm → S.heap[a]? = some cell → (∀ y ∈ pre, q_by e.platform s f.method.cls f.pc cell.cls y) →
      ∃ vm' : Vm, s.WarmedH vm' ∧ ∀ (Q : Handler → Pre) (E : CtlPost) (d : Bool) (acts : List Action), wp (findHandler.go f a (pre ++ x :: rest)) Q E e d acts S ↔ Q (.found x.handlerPc) d acts (S.setVm vm') := by
  have link : ∀ (S : State), s.WarmedH S.vm → ∀ (y : ExceptionTableEntry) (b : ClassId), s.vm.ClassLinks e.platform f.method.cls y.catchType b →
      s.WarmedH (S.vm.noted f.method.cls y.catchType (.cls b)) ∧ S.vm.ClassLinks e.platform f.method.cls y.catchType b ∧ (∃ k, S.vm.classes[cell.cls]? = some k) ∧ ∃ k, S.vm.classes[b]? = some k := by
    intro S hW y b hb
    obtain ⟨dk, _, _, kt, hd, _, _, _, _, hkt, _, hopen⟩ := hb.here
    obtain ⟨k1, hk1, -⟩ := hW.alike.2.2 _ _ hk0
    obtain ⟨k2, hk2, -⟩ := hW.alike.2.2 _ _ hkt
    exact ⟨hW.noted hd hopen (State.rightAt_cls hb), hW.classLinks hb, ⟨k1, hk1⟩, ⟨k2, hk2⟩⟩
  intro pre
  induction pre with
  | nil =>
    intro S hW hcell _
    obtain ⟨g1, g2, g3, g4⟩ := link S hW x c hl
    refine ⟨_, g1, fun Q E d acts => ?_⟩
    rw [List.nil_append, q_row hx h0 g2 hcell hobj g3 g4, if_pos (by rw [hW.alike.assignable]; exact hfit)]
  | cons y ys ih =>
    intro S hW hcell hby
    have hys : ∀ z ∈ ys, q_by e.platform s f.method.cls f.pc cell.cls z := fun z hz => hby z (List.mem_cons_of_mem _ hz)
    cases hcov : covers y f.pc with
    | false =>
      obtain ⟨vm', hW', hq⟩ := ih S hW hcell hys
      refine ⟨vm', hW', fun Q E d acts => ?_⟩
      rw [List.cons_append, W.findHandler_go_skip hcov]
      exact hq Q E d acts
    | true =>
      rcases hby y (List.mem_cons_self ..) with h1 | ⟨h1, b, hb, hno⟩
      · rw [h1] at hcov; cases hcov
      · obtain ⟨g1, g2, g3, g4⟩ := link S hW y b hb
        obtain ⟨vm', hW', hq⟩ := ih (S.setVm (S.vm.noted f.method.cls y.catchType (.cls b))) g1 hcell hys
        refine ⟨vm', hW', fun Q E d acts => ?_⟩
        rw [List.cons_append, q_row hcov h1 g2 hcell hobj g3 g4, if_neg (by rw [hW.alike.assignable, hno]; decide)]
        exact hq Q E d acts
theorem q_caught {tb : Tables} {e : Env} {s target : State} {g : JFrame} {c : Code} {below : List Frame} {a : Addr} (h : At s g.method c below) {pc : Nat} {vm' : Vm}
    (hf : ∀ (Q : Handler → Pre) (E : CtlPost) (d : Bool) (acts : List Action), wp (findHandler g a) Q E e d acts ((s.setTop g).pushFrame (.throwing a)) ↔ Q (.found pc) d acts (((s.setTop g).pushFrame (.throwing a)).setVm vm'))
    (hrest : Steps tb e below ((s.setVm vm').setTop { g with pc := pc, stack := [.ref a] }) target) : Steps tb e below ((s.setTop g).pushFrame (.throwing a)) target := by
  obtain ⟨hgo, hw⟩ := h.throwing a
  refine Steps.head hgo hw ?_
  have step : (stepThrowing e ((s.setTop g).pushFrame (.throwing a)) a (.java g :: s.frames.tail)).1 = (((s.setTop g).pushFrame (.throwing a)).setVm vm').setFrames (.java { g with pc := pc, stack := [.ref a] } :: s.frames.tail) := by
    simp only [stepThrowing, searchFrame, vmDo]
    generalize hr : Sem.go _ e false [] _ = res
    obtain ⟨as, rfl, -⟩ := Sem.eq_ok_of hr (a := Handler.found pc) (s' := ((s.setTop g).pushFrame (.throwing a)).setVm vm') (acts' := []) (by simp [hf])
    rfl
  rw [stepThread_throwing (frames_entered h.top _), step]
  obtain ⟨g₀, hg⟩ := Option.isSome_iff_exists.mp h.top
  obtain ⟨r, hr⟩ := State.topJava?_eq_some.mp hg
  have hr' : (s.setVm vm').frames = .java g₀ :: r := hr
  rw [State.setTop_of_frames _ hr'] at hrest
  have e1 : ∀ (u : State) (F G : List Frame), ((u.setFrames F).setVm vm').setFrames G = (u.setVm vm').setFrames G := fun u F G => by
    show ((u.setVm vm').setFrames F).setFrames G = _
    rw [State.setFrames_setFrames]
  rw [hr, List.tail_cons, State.pushFrame, e1, State.setTop_of_frames _ hr, e1]
  exact hrest
section QTR
variable {d : Nat} {M : qM} {pc : Nat} {ls : List Slot} {a : Nat} {h : qH} {P : qE → Prop}
theorem QT.leave (hno : ∀ q ∈ M.2.2.2.2, ¬ (q.1 ≤ pc ∧ pc < q.2.1)) (hp : P (.inr a, h)) : QT d M pc ls a h P := by
  intro l s0 a0 A n0 p e R s m args below meth c T locs I S X st'
  have hout : ∀ x ∈ c.exceptionTable.toList, covers x (F0 m pc (qls A.1 ls) st').pc = false := fun x hx => by
    have h1 := hno (x.startPc, x.endPc, x.handlerPc, x.catchType) (by rw [← I.2.2.2.2.2.2.2.1]; exact List.mem_map.mpr ⟨x, hx, rfl⟩)
    have h2 : ¬ (x.startPc ≤ pc ∧ pc < x.endPc) := h1
    show (decide (x.startPc ≤ pc) && decide (pc < x.endPc)) = false
    simpa using h2
  obtain ⟨g1, g2, g3, g4, g5⟩ := X.leaveThrown (A.1 a) (g := F0 m pc (qls A.1 ls) st') rfl rfl rfl hout (hlocks := I.2.2.2.2.1)
  exact ⟨_, g1, (.inr a, h), hp, g2, g3, g4, locs, g5, S⟩
theorem QT.leave0 (hno : M.2.2.2.2 = []) (hp : P (.inr a, h)) : QT d M pc ls a h P := QT.leave (fun q hq => by rw [hno] at hq; cases hq) hp
end QTR
end
section
theorem q_lst {U V : State} (hv : V.vm = U.vm) (hh : ∀ q : Nat, q < U.heap.size → V.heap[q]? = U.heap[q]?) {C n d : String} {a a' : Array Value} (h : (Cond.laysStatic C n d).before a U = true) : (Cond.laysStatic C n d).before a' V = true := by
  obtain ⟨c, k, i, f, ad, cell, h1, h2, h3, h4, h5, h6, h7, h8, h9⟩ := Cond.laysStatic_spec h
  have hlt : ad < U.heap.size := (Array.getElem?_eq_some_iff.mp h5).1
  have h2' : V.fieldFound? C n d = some (c, k, i, f) := by
    rw [← h2]
    unfold State.fieldFound?
    rw [hv]
  have h5' : V.heap[ad]? = some cell := (hh ad hlt).trans h5
  simp [Cond.before, Cond.holds, Cond.value, hv, h1, h2', h4, h5', h3, h6, h7, h8, h9]
theorem q_isr {U V : State} (hv : V.vm = U.vm) (hh : ∀ q : Nat, q < U.heap.size → V.heap[q]? = U.heap[q]?) {C n d : String} {a a' : Array Value} (h : (Cond.laysStatic C n d).before a U = true) (hr : (Cond.isRef (.static C n d)).before a U = true) : (Cond.isRef (.static C n d)).before a' V = true := by
  obtain ⟨c, k, i, f, ad, cell, h1, h2, h3, h4, h5, h6, h7, h8, h9⟩ := Cond.laysStatic_spec h
  have hlt : ad < U.heap.size := (Array.getElem?_eq_some_iff.mp h5).1
  have h2' : V.fieldFound? C n d = some (c, k, i, f) := by
    rw [← h2]
    unfold State.fieldFound?
    rw [hv]
  have h5' : V.heap[ad]? = some cell := (hh ad hlt).trans h5
  have e1 : (Term.static C n d).eval a U none [] U = cell.slots[f.slot]? := by simp [Term.eval, State.fieldNamed?, h2, h3, h4, h5, h6]
  have e2 : (Term.static C n d).eval a' V none [] V = cell.slots[f.slot]? := by simp [Term.eval, State.fieldNamed?, h2', h3, h4, h5', h6]
  simp only [Cond.before, Cond.holds, Cond.value] at hr ⊢
  rw [e1] at hr
  rw [e2]
  exact hr
set_option maxHeartbeats 2000000 in
theorem q_thr {p : Program} {l : Launch} {e : Env} {R : Room} {s : State} {m₀ : MethodId} {args : Array Value} {below : List Frame} {meth : Method} {c : Code} {W : State} {locs : List Loc} {cells slots : Nat}
    (X : Stand p l e R s m₀ args below meth c W locs cells slots) (hexec : p.tables.exec = Jvm.exec) (htr : e.platform.stackTraces = false) {own cls : String} {names : List String} {ic : Nat}
    (hown : s.vm.findClass own = some m₀.cls) (hcls : Bundle.fit cls = true) (hnames : ∀ n ∈ names, Bundle.fit n = true) (h : ∀ a ∈ Bundle.ownAtoms own ic cls names, a.before args s = true)
    (hlocs : ∀ x ∈ locs, ∀ cell, s.heap[x.base]? = some cell → cell.vm.isStatics = false)
    {a : Addr} {cX : ClassId} {kX : Class} (hfoundX : s.vm.findClass cls = some cX) (hkX : s.vm.classes[cX]? = some kX) (hcell : W.heap[a]? = some (freshCell cX kX)) (hnew : s.heap.size ≤ a)
    {msg : Value} (hmsg : msg.isRef = true) {g : JFrame} (hg : g.method = m₀) (hsize : g.locals.size = c.maxLocals) (hlocked : g.locked = none) (hentered : g.entered = []) {rest : List Value} (hstack : g.stack = msg :: .ref a :: .ref a :: rest)
    (hd6 : decode c.code g.pc = .ok (.invokespecial ic, 3)) (hd9 : decode c.code (g.pc + 3) = .ok (.athrow, 1)) (hout : ∀ x ∈ c.exceptionTable.toList, covers x (g.pc + 3) = false)
    (hRframes : names.length + 3 < R.frames) (hRlocals : 2 * g.monitorRoom + ((Value.ref a :: rest).map fun v => v.category).sum + (13 * (names.length + 1) + 42) ≤ R.locals) (hlocks : meth.locks = false) :
    ∃ (U : State) (L : List Loc), Steps p.tables e below (W.setTop g) U ∧ U.status = .running ∧ Ended U below (.threw a) ∧ s.WarmedH U.vm ∧ s.sameButNew ({ U with vm := s.vm } : State) L cells slots ∧ (∀ y ∈ L, y ∈ locs ∨ y.base = a) ∧
      U.heap.size = W.heap.size ∧ (∀ q : Nat, q ≠ a → U.heap[q]? = W.heap[q]?) ∧ ∃ ce : Cell, U.heap[a]? = some ce ∧ ce.cls = cX ∧ ce.vm = .none := by
  have hpl : e.platform.magicAccessors = ({} : Platform).magicAccessors := by rw [X.admits.platform]
  have w : ∀ x, x ∈ Bundle.ownAtoms own ic cls names → x.holds args s none s [] = true := fun x hx => h x hx
  obtain ⟨T, Z0, L, -, Y⟩ := ThrowableC.of_atoms (args := args) (pl := e.platform) (by rw [X.admits.platform]) (by rw [X.admits.platform]) hpl (fun x hx => h x (by simp [Bundle.ownAtoms, hx]))
  obtain ⟨Z, M, LZ, LM, hnZ⟩ := Init0T.ofS_atoms (args := args) hpl L Y (fun x hx => h x (by simp [Bundle.ownAtoms, hx]))
  obtain ⟨P1, Ps, hlen, L1, hL, hP1m, hlink1, hlink⟩ := Bundle.chainS (args := args) hpl hnZ names cls hcls hnames (fun x hx => h x (by simp [Bundle.ownAtoms, hx]))
  have hfound : s.vm.findClass cls = some P1.m.cls := findClass_of_methodNamed hP1m
  cases Option.some.inj (hfoundX.symm.trans hfound)
  obtain ⟨c1, k1, hc1, hk, hord, -, -, -⟩ := Cond.instantiable_spec (w (.instantiable cls 6) (by simp [Bundle.ownAtoms]))
  cases Option.some.inj (hc1.symm.trans hfound)
  cases Option.some.inj (hkX.symm.trans hk)
  have sel : ∀ {y : MethodName} {mk : MethodId}, Cond.selects cls y y ∈ Bundle.ownAtoms own ic cls names → s.methodNamed? y = some mk → (y.cls ≠ "java/lang/invoke/MethodHandle" ∧ y.cls ≠ "java/lang/invoke/VarHandle") → selectMethod e.platform s.vm P1.m.cls mk = .method mk := by
    intro y mk hy hn hne
    obtain ⟨c2, r2, m2, q1, q2, q3, q4, -⟩ := Cond.selects_spec (w _ hy)
    cases Option.some.inj (q1.symm.trans hfound)
    cases Option.some.inj (q2.symm.trans (State.methodFound?_of_named hn hne))
    cases Option.some.inj (q3.symm.trans hn)
    rw [Launch.admits_selectMethod X.admits]
    exact q4
  have hsel0 := sel (y := Bundle.tFill0) (by simp [Bundle.ownAtoms]) Y.fill0 (by decide)
  have hselF := sel (y := Bundle.tFill) (by simp [Bundle.ownAtoms]) Y.fill (by decide)
  obtain ⟨cellS0, hcS0, hiss⟩ := Y.statics
  obtain ⟨u0, hu0⟩ := Cond.staticRefV Y.unassigned L.unassignedStatic L.statics hcS0 hiss (w (.isRef (.static Bundle.tN "UNASSIGNED_STACK" Bundle.steD)) (by simp [Bundle.ownAtoms]))
  obtain ⟨sen, hsen⟩ := Cond.staticRefV Y.sentinel L.sentinelStatic L.statics hcS0 hiss (w (.isRef (.static Bundle.tN "SUPPRESSED_SENTINEL" Bundle.listD)) (by simp [Bundle.ownAtoms]))
  obtain ⟨ci198, i198, fB, hk198, hg198, ha198, hsB, -, hnB, htB, hffB⟩ := Cond.ownField (t := .object "java/lang/Object") Y.found L.cls (by decide +kernel) (w (.fieldLink Bundle.tN 198 Bundle.tN "backtrace" "Ljava/lang/Object;") (by simp [Bundle.ownAtoms])) (w (.lays Bundle.tN Bundle.tN "backtrace" "Ljava/lang/Object;") (by simp [Bundle.ownAtoms])) e.platform hpl
  obtain ⟨cellS, hcS', heS, -, hkeep⟩ := X.same.2.2.2.2.2 T.aS cellS0 hcS0
  have hcellS : W.heap[T.aS]? = some cellS := hcS'
  have hnl : ∀ i, (⟨T.aS, i⟩ : Loc) ∉ locs := fun i hmem => by
    have h1 := hlocs _ hmem cellS0 hcS0
    rw [hiss] at h1
    cases h1
  have hknownS : cellS.vm ≠ .unknown := by
    rw [heS]
    intro hu
    rw [show cellS0.vm = .unknown from hu] at hiss
    cases hiss
  have hneS : T.aS ≠ a := Nat.ne_of_lt (Nat.lt_of_lt_of_le (Array.getElem?_eq_some_iff.mp hcS0).1 hnew)
  obtain ⟨iM, hffM⟩ := Y.msg
  obtain ⟨tyC, dC, hdC, hdnC⟩ := Cond.laysAt hfound hk Y.cause (w (.lays cls Bundle.tN "cause" "Ljava/lang/Throwable;") (by simp [Bundle.ownAtoms]))
  obtain ⟨tyS, dS, hdS, hdnS⟩ := Cond.laysAt hfound hk Y.stack (w (.lays cls Bundle.tN "stackTrace" Bundle.steD) (by simp [Bundle.ownAtoms]))
  obtain ⟨tyP, dP, hdP, hdnP⟩ := Cond.laysAt hfound hk Y.supp (w (.lays cls Bundle.tN "suppressedExceptions" Bundle.listD) (by simp [Bundle.ownAtoms]))
  obtain ⟨tyM, dM, hdM, hdnM⟩ := Cond.laysAt hfound hk hffM (w (.lays cls Bundle.tN "detailMessage" "Ljava/lang/String;") (by simp [Bundle.ownAtoms]))
  obtain ⟨tyB, dB, hdB, hdnB⟩ := Cond.laysAt hfound hk hffB (w (.lays cls Bundle.tN "backtrace" "Ljava/lang/Object;") (by simp [Bundle.ownAtoms]))
  have bC := Cond.laysApart hdB hdC hdnB hdnC (by rw [hnB, Y.causeName]; decide)
  have bS := Cond.laysApart hdB hdS hdnB hdnS (by rw [hnB, Y.stackName]; decide)
  have bP := Cond.laysApart hdB hdP hdnB hdnP (by rw [hnB, Y.suppName]; decide)
  have hskip : SkipFacts T e.platform s (fun u => u) u0 ((preparedCellV T.toThrowableT (freshCell P1.m.cls kX) a u0 sen).withEntry W.cur) := by
    refine ⟨{ ci198 := ci198, i198 := i198, fBack := fB }, ⟨hk198, hg198, ha198, hsB⟩, ?_, fun _ _ => rfl⟩
    have h1 := fresh_default (c := P1.m.cls) tyB
    rw [htB] at h1
    simpa [preparedCellV, Cell.setSlot, Cell.withEntry, Array.getElem?_setIfInBounds, bC, bS, bP, bC.symm, bS.symm, bP.symm, defaultValue] using h1
  obtain ⟨tm, methC, cdC, kC, vm₁, hnC, -, -, -, -, -, -, -, hW₁, st1⟩ := Steps.initColdS (tb := p.tables) (e := e) (below := below) (s := s) (U := W) X.here hexec X.warmed hpl hown (t := Bundle.initS cls) rfl rfl (Bundle.fit_spec hcls).2
    (w (.methodLink own ic (Bundle.initS cls)) (by simp [Bundle.ownAtoms])) (h (.instanceMethod (Bundle.initS cls)) (by cases names <;> simp [Bundle.ownAtoms, Bundle.chainSAtoms, Bundle.passSAtoms])) (bytes := Bundle.six) (maxL := 2) (h (.code (Bundle.initS cls) Bundle.six 2 none) (by cases names <;> simp [Bundle.ownAtoms, Bundle.chainSAtoms, Bundle.passSAtoms]))
    (f := g) hg (a := a) (msg := msg) (rest := .ref a :: rest) hstack hd6
  cases Option.some.inj (hnC.symm.trans hP1m)
  obtain ⟨vm₂, X₂, st2⟩ := (X.noted hW₁).ctorMessageOffV hexec (g := { g with stack := .ref a :: rest }) hg hsize T L Z LZ M LM (P1 :: Ps)
    (fun P hP => by rcases List.mem_cons.mp hP with rfl | hP; exact L1; exact hL P hP) ⟨hlink1, hlink⟩ (u0 := u0) (sen := sen) (self := a) hmsg (cell := freshCell P1.m.cls kX) (cellS := cellS)
    hcell (fun _ => by simp) (by simp) rfl rfl hsel0 hselF hcellS hneS hknownS (by rw [hkeep _ (hnl _)]; exact hu0) (by rw [hkeep _ (hnl _)]; exact hsen)
    (Takes.of_laid hk hord tyC (by rw [Y.causeType]; rfl)) (Takes.of_laid hk hord tyS (by rw [Y.stackType]; exact fits_refV_array _ u0)) (Takes.of_laid hk hord tyP (by rw [Y.suppType]; exact fits_refV_object _ sen))
    (Takes.of_laid hk hord tyM (by rw [Y.msgType]; exact fits_refV_object _ ⟨msg, hmsg⟩)) Y.objLocals hskip htr [] hd6
    (by simp only [List.length_cons, hlen]; omega) (by simp only [List.length_cons, hlen]; exact hRlocals)
  obtain ⟨hwalk, hrun, hended, hWU, hsame⟩ := X₂.athrowLeaves hexec (g := { g with stack := .ref a :: rest, pc := g.pc + 3 }) hg hlocked hentered hout (a := a) (rest := rest) rfl hd9
  have hlt : a < ((W.setVm vm₁).setVm vm₂).heap.size := (Array.getElem?_eq_some_iff.mp hcell).1
  have hU := heapAt_setCell_self (s := (W.setVm vm₁).setVm vm₂) (plainBareV T.toThrowableT (freshCell P1.m.cls kX) a u0 sen msg) hlt
  refine ⟨_, _, st1 _ (fun acts => ?_), hrun, hended, hWU, hsame, fun y hy => ?_, ?_, fun q hq => ?_, _, hU, rfl, rfl⟩
  · rw [doInvoke_state]
    exact st2 _ hwalk
  · rcases List.mem_append.mp hy with h1 | h1
    · exact Or.inl h1
    · refine Or.inr ?_
      simp only [List.mem_cons, List.not_mem_nil, or_false] at h1
      rcases h1 with rfl | rfl | rfl | rfl | rfl <;> rfl
  · exact size_setCell _ _ _
  · exact heapAt_setCell_ne (s := (W.setVm vm₁).setVm vm₂) _ (Ne.symm hq)
def qGv : Cond := Jvm.Cond.and given_1 narrow_1
def qat1 (w : Cond) : Bool := (decide (w ∈ lw_tbl) && (w.onTables && w.keeps)) || (match w with
  | .laysStatic _ _ _ => decide (w ∈ lw_tbl)
  | .declares _ => decide (w ∈ lw_tbl)
  | .castable _ _ => decide (w ∈ lw_tbl)
  | .isRef (.static C n d) => decide (Cond.laysStatic C n d ∈ lw_tbl) && decide (w ∈ flatC qGv)
  | _ => false)
def qthr (own : String) (ia ib ic ct : Nat) (cls : String) (names : List String) : Prop :=
  classes[ct]? = some (cls, zF0, 0) ∧ (qown ct = true ∧ ct < 64) ∧ (Bundle.fit cls = true ∧ ∀ n ∈ names, Bundle.fit n = true) ∧ names.length ≤ 4 ∧ Cond.classLink own ia cls ∈ lw_tbl ∧ Cond.instantiable cls 6 ∈ lw_tbl ∧ Cond.initialized cls ∈ lw_tbl ∧
  (∃ tx, Cond.stringRef own ib tx ∈ lw_tbl) ∧ Cond.exactly (.string own ib) "java/lang/String" ∈ flatC qGv ∧ (Bundle.ownAtoms own ic cls names).all qat1 = true
section QTHR
variable {l : Launch} {s0 : State} {a0 : Array Value} {A : qA} {M : qM} {d n0 : Nat} {p : Program} {R : Room} {s : State} {m : MethodId} {meth : Method} {c : Code}
theorem qIn.heap0 (I : qIn l s0 a0 A M d n0 p R s m meth c) : ∀ q : Nat, q < s0.heap.size → s.heap[q]? = s0.heap[q]? := by
  intro q hq
  exact I.2.2.2.2.2.2.2.2.2.1 q (by rw [I.glob.2.2.2.1]; exact hq)
theorem qIn.atoms (I : qIn l s0 a0 A M d n0 p R s m meth c) {args : Array Value} {w : Cond} (hw : qat1 w = true) : w.before args s = true := by
  have hW := I.warm
  have sh : ∀ c : Cond, c.keeps = true → c.before a0 s0 = true → c.before a0 (s0.setVm s.vm) = true := fun c hk h => Cond.holds_shifted (State.Shifted.of_warmed hW) c [] hk h
  have hh : ∀ q : Nat, q < (s0.setVm s.vm).heap.size → s.heap[q]? = (s0.setVm s.vm).heap[q]? := I.heap0
  unfold qat1 at hw
  rw [Bool.or_eq_true] at hw
  rcases hw with hw | hw
  · rw [Bool.and_eq_true, decide_eq_true_eq] at hw
    exact I.word hw.1 (Or.inl hw.2)
  · split at hw
    · rw [decide_eq_true_eq] at hw
      exact q_lst (U := s0.setVm s.vm) (V := s) rfl hh (sh _ rfl (I.glob.1 _ hw))
    · rw [decide_eq_true_eq] at hw
      exact va_Nw.use rfl (va_Nw.warmD hW (va_Nw.of rfl (I.glob.1 _ hw)))
    · rw [decide_eq_true_eq] at hw
      exact va_Nw.use rfl (va_Nw.warmC hW (va_Nw.of rfl (I.glob.1 _ hw)))
    · rw [Bool.and_eq_true, decide_eq_true_eq, decide_eq_true_eq] at hw
      exact q_isr (U := s0.setVm s.vm) (V := s) rfl hh (sh _ rfl (I.glob.1 _ hw.1)) (sh _ rfl (flat_of_before _ I.glob.2.2.2.2.2.2.2 _ hw.2))
    · cases hw
end QTHR
theorem QW.thr {d : Nat} {M : qM} {pc : Nat} {ls : List Slot} {h : qH} {P : qE → Prop} {ia ib ic ct : Nat} {cls : String} {names : List String} (hx : qthr M.1.cls ia ib ic ct cls names)
    (hd0 : decode M.2.1 pc = .ok (.new ia, 3)) (hd3 : decode M.2.1 (pc + 3) = .ok (.dup, 1)) (hd4 : decode M.2.1 (pc + 4) = .ok (.ldc ib, 2)) (hd6 : decode M.2.1 (pc + 6) = .ok (.invokespecial ic, 3)) (hd9 : decode M.2.1 (pc + 9) = .ok (.athrow, 1))
    (hno : M.2.2.2.2 = []) (hc : h.length < qCap) (hls : ls.length = M.2.2.1) (hp : P (.inr h.length, h ++ [(ct, [])])) : QW d M pc ls [] h P := by
  intro l s0 a0 A n0 p e R s m args below meth c H locs I S
  obtain ⟨x1, x2, x3, x4, x5, x6, x7, ⟨tx, x8⟩, x9, x10⟩ := hx
  have hKn := I.cls x1
  have hfr : d + 10 ≤ R.frames := I.2.2.2.2.2.2.2.2.2.2.2.2.2.1
  have hlo : 64 * d + 800 ≤ R.locals := I.2.2.2.2.2.2.2.2.2.2.2.2.2.2.1
  have hR1 : qCap ≤ R.cells + n0 := I.2.2.2.2.2.2.2.2.2.2.2.2.2.2.2.1
  have hR2 : 256 * qCap ≤ R.slots + 256 * n0 := I.2.2.2.2.2.2.2.2.2.2.2.2.2.2.2.2.1
  have hn0 : n0 ≤ h.length := S.2.2.2.1
  have hsz : H.size = A.1 h.length := S.1.1
  obtain ⟨q, -, -, -, hq, -⟩ := Cond.exactly_spec (flat_of_before _ I.glob.2.2.2.2.2.2.2 _ x9)
  have hZ : vk_R M.1.cls ib tx q s := vk_R.warm I.warm (vk_R.of (I.glob.1 _ x8) hq)
  refine W.newcK I.1 I.2.1 I.own (I.word x5 (Or.inl rfl)) (I.word x6 (Or.inl rfl)) (I.word x7 (Or.inl rfl)) rfl hd0 (by omega) (by omega) hKn.2.1 rfl fun H' kC hkC eh z oq => ?_
  refine W.widen (k := h.length + 1 - n0) (n := 256 * (h.length + 1 - n0)) (by omega) (by omega) ?_
  refine lv_dup (va := .ref H.size) I.1 I.2.1 hd3 rfl ?_
  refine va_ldcS I.1 I.2.1 I.own hZ hd4 ?_
  intro T hT X
  have htr : e.platform.stackTraces = false := by rw [X.admits.platform]; exact I.glob.2.1
  have hmx : (qls A.1 ls).size = c.maxLocals := by rw [I.2.2.1, ← hls]; simp [qls]
  have hK : A.1 A.2.2 ≤ H.size := by rw [hsz]; exact qad_le I.ad S.1.2.1
  have hs0 : s.heap.size ≤ H.size := by
    have h1 : s.heap.size = A.1 n0 := I.2.2.2.2.2.2.2.2.2.2.2.1
    rw [h1, hsz]
    rcases Nat.eq_or_lt_of_le hn0 with h2 | h2
    · rw [h2]; exact Nat.le_refl _
    · exact Nat.le_of_lt (I.ad.2 _ _ h2 S.1.2.1)
  have hex : c.exceptionTable.toList = [] := by
    have h1 := I.2.2.2.2.2.2.2.1
    rw [hno] at h1
    exact List.map_eq_nil_iff.mp h1
  obtain ⟨U, L, b1, b2, b3, b4, b5, b6, b7, b8, ce, b9, b10, b11⟩ := q_thr X I.1 htr I.own x3.1 x3.2 (fun w hw => I.atoms (List.all_eq_true.mp x10 w hw))
    (fun x hx cell hcell => I.2.2.2.2.2.2.2.2.2.2.1 x.base cell (S.2.2.1 x hx) hcell) (a := H.size) hKn.2.1 hkC (by rw [hT]; exact eh) hs0 (msg := .ref q) rfl (g := F0 m (pc + 6) (qls A.1 ls) [.ref q, .ref H.size, .ref H.size]) rfl hmx rfl rfl (rest := []) rfl
    (by rw [I.2.1]; exact hd6) (by rw [I.2.1]; exact hd9) (by rw [hex]; exact fun x hx => (by cases hx)) (by omega) (by show 2 * 0 + (1 + 0) + (13 * (names.length + 1) + 42) ≤ R.locals; omega) I.2.2.2.2.1
  have hl : (h ++ [(ct, ([] : List Value))]).length = h.length + 1 := by simp
  have hat : qat A (A.1 h.length) (ct, []) U.heap := by
    rw [← hsz]
    exact ⟨ce, b9, b10, by rw [b11]; exact fun z => (by cases z), by rw [b11]; rfl, fun _ => b11, fun _ k v hv => (by cases hv), fun h64 => absurd x2.2 (Nat.not_lt.mpr h64)⟩
  have S' : qSt A s0 n0 (h ++ [(ct, [])]) U.heap locs := qSt_new I.ad S hc hat (by rw [b7, hT]; exact z) (fun q hq => by rw [b8 q (Nat.ne_of_lt hq), hT]; exact oq q hq)
  refine ⟨U, b1, (.inr h.length, h ++ [(ct, [])]), hp, b2, by rw [hsz] at b3; exact b3, b4, L, by rw [hl]; exact b5, S'.1, S'.2.1, fun y hy => ?_, S'.2.2.2.1, S'.2.2.2.2⟩
  rcases b6 y hy with h1 | h1
  · exact S.2.2.1 y h1
  · rw [h1]; exact hK
section QCAT
variable {d : Nat} {M : qM} {pc : Nat} {ls : List Slot} {a : Nat} {h : qH} {P : qE → Prop}
theorem q_cat {tbl : List ExceptionTableEntry} {st en hp ci : Nat} {post : List (Nat × Nat × Nat × Nat)} (h : tbl.map (fun x => (x.startPc, x.endPc, x.handlerPc, x.catchType)) = (st, en, hp, ci) :: post) : ∃ (x : ExceptionTableEntry) (r : List ExceptionTableEntry), tbl = x :: r ∧ x.startPc = st ∧ x.endPc = en ∧ x.handlerPc = hp ∧ x.catchType = ci ∧ r.map (fun x => (x.startPc, x.endPc, x.handlerPc, x.catchType)) = post := by
  cases tbl with
  | nil => cases h
  | cons x r =>
    rw [List.map_cons, List.cons.injEq] at h
    obtain ⟨h1, h2⟩ := h
    simp only [Prod.mk.injEq] at h1
    exact ⟨x, r, rfl, h1.1, h1.2.1, h1.2.2.1, h1.2.2.2, h2⟩
theorem QT.catch {st en hp ci ct N : Nat} {cn : String} {T0 : u_T} {fs : List Value} {pre : List (Nat × Nat × Nat × Nat)} {post : List (Nat × Nat × Nat × Nat)} (ht : M.2.2.2.2 = pre ++ (st, en, hp, ci) :: post) (hpre : pre = [] ∨ ∃ (s1 e1 p1 c1 : Nat) (n1 : String), pre = [(s1, e1, p1, c1)] ∧ c1 ≠ 0 ∧ Cond.classLink M.1.cls c1 n1 ∈ lw_tbl ∧ Cond.not (.castable cn n1) ∈ flatC qGv)
    (h1 : st ≤ pc) (h2 : pc < en) (h0 : ci ≠ 0) (hl : Cond.classLink M.1.cls ci cn ∈ lw_tbl) (ha : h[a]? = some (ct, fs)) (hq : classes[ct]? = some (cn, T0, N)) (kk : QW d M hp ls [.ref a] h P) : QT d M pc ls a h P := by
  intro l s0 a0 A n0 p e R s m args below meth c T locs I S X st'
  obtain ⟨⟨cell, c1, c2, c3, c4, -⟩, -⟩ := S.1.2.2 a _ ha
  have hat := (I.cls hq).2
  obtain ⟨hfc, k0, hk0, hkind⟩ := hat
  have hpl : e.platform.magicAccessors = ({} : Platform).magicAccessors := by rw [X.admits.platform]
  have hcell : ((T.setTop (F0 m pc (qls A.1 ls) st')).pushFrame (.throwing (A.1 a))).heap[A.1 a]? = some cell := c1
  have hk : s.vm.classes[cell.cls]? = some k0 := by rw [c2]; exact hk0
  have tb := I.2.2.2.2.2.2.2.1
  rw [ht] at tb
  obtain ⟨cc, hcc, hcl⟩ := Cond.classLink_spec I.own (I.word hl (Or.inl rfl) (a' := args)) e.platform hpl
  have hcc : cc = A.2.1.1 ct := Option.some.inj (hcc.symm.trans hfc)
  subst hcc
  have hfit : s.vm.assignable cell.cls (A.2.1.1 ct) = true := by rw [c2]; exact va_assign ⟨hfc, k0, hk0, hkind⟩
  have fin : ∀ (pe : List ExceptionTableEntry) (x : ExceptionTableEntry) (r : List ExceptionTableEntry), c.exceptionTable.toList = pe ++ x :: r → x.startPc = st → x.endPc = en → x.handlerPc = hp → x.catchType = ci → (∀ y ∈ pe, q_by e.platform s m.cls pc cell.cls y) →
      ∃ t, Steps p.tables e below ((T.setTop (F0 m pc (qls A.1 ls) st')).pushFrame (.throwing (A.1 a))) t ∧ qQ A s0 n0 s below P t := by
    intro pe x r e1 e2 e3 e4 e5 hby
    have hcov : covers x (F0 m pc (qls A.1 ls) st').pc = true := by
      show (decide (x.startPc ≤ pc) && decide (pc < x.endPc)) = true
      rw [e2, e3]
      simp [h1, h2]
    obtain ⟨vm', hW', hs⟩ := q_seek (e := e) (s := s) (f := F0 m pc (qls A.1 ls) st') (a := A.1 a) (q_nst c4) hk (x := x) (rest := r) hcov (by rw [e5]; exact h0) (by rw [e5]; exact hcl) hfit pe ((T.setTop (F0 m pc (qls A.1 ls) st')).pushFrame (.throwing (A.1 a))) X.warmed hcell hby
    obtain ⟨t, b1, b2⟩ := kk (e := e) (args := args) (below := below) I S (T.setVm vm') rfl (X.noted hW')
    refine ⟨t, q_caught (vm' := vm') (pc := hp) X.here (fun Q E d acts => ?_) b1, b2⟩
    rw [W.findHandler_eq (meth := meth) (code := c) X.method' X.code, e1, hs, e4]
  rcases hpre with rfl | ⟨s1, e1, p1, c1', n1, rfl, g1, g2, g3⟩
  · obtain ⟨x, r, q1, q2, q3, q4, q5, -⟩ := q_cat tb
    exact fin [] x r q1 q2 q3 q4 q5 (fun y hy => by cases hy)
  · obtain ⟨y, r0, q1, -, -, -, q5, q6⟩ := q_cat tb
    obtain ⟨x, r, w1, w2, w3, w4, w5, -⟩ := q_cat q6
    refine fin [y] x r (by rw [q1, w1]; rfl) w2 w3 w4 w5 (fun z hz => ?_)
    rw [List.mem_singleton.mp hz]
    refine Or.inr ⟨by rw [q5]; exact g1, ?_⟩
    obtain ⟨cb, hcb, hclb⟩ := Cond.classLink_spec I.own (I.word g2 (Or.inl rfl) (a' := args)) e.platform hpl
    obtain ⟨k1, t1, f1, f2, f3⟩ := va_Nc.moved I.warm.alike (va_Nc.of (flat_of_before _ I.glob.2.2.2.2.2.2.2 _ g3))
    cases Option.some.inj (f1.symm.trans hfc)
    cases Option.some.inj (f2.symm.trans hcb)
    exact ⟨_, by rw [q5]; exact hclb, by rw [c2]; exact f3⟩
end QCAT
end
section
def qb (b : Bool) : Int32 := match b with
  | true => 1
  | false => 0
theorem qb_n (b : Bool) : narrow .boolean (.int (qb b)) = .int (qb b) := by cases b <;> rfl
theorem q_apl {h x : qH} {a : Nat} {c : qC} (ha : h[a]? = some c) : (h ++ x)[a]? = some c := by
  rw [List.getElem?_append_left (List.getElem?_eq_some_iff.mp ha).1]
  exact ha
theorem q_apr (h x : qH) (k : Nat) : (h ++ x)[h.length + k]? = x[k]? := by
  rw [List.getElem?_append_right (Nat.le_add_right _ _), Nat.add_sub_cancel_left]
theorem q_sap {h x : qH} {a : Nat} {c c' : qC} (ha : h[a]? = some c) : (h ++ x).set a c' = h.set a c' ++ x := by
  rw [List.set_append_left _ _ (List.getElem?_eq_some_iff.mp ha).1]
theorem q_gs {h : qH} {a : Nat} {c c' : qC} (ha : h[a]? = some c) : (h.set a c')[a]? = some c' := by
  rw [List.getElem?_set_self (List.getElem?_eq_some_iff.mp ha).1]
theorem q_gn {h : qH} {a b : Nat} {c c' : qC} (hb : h[b]? = some c) (hne : a ≠ b) : (h.set a c')[b]? = some c := by
  rw [List.getElem?_set_ne hne]
  exact hb
theorem q_ss (h : qH) (a : Nat) (c c' : qC) : (h.set a c).set a c' = h.set a c' := by simp
theorem QW.hq {d : Nat} {M : qM} {pc : Nat} {ls : List Slot} {st : List Value} {h h' : qH} {P : qE → Prop} (e : h = h') (k : QW d M pc ls st h' P) : QW d M pc ls st h P := e ▸ k
theorem QW.sq {d : Nat} {M : qM} {pc : Nat} {ls : List Slot} {st st' : List Value} {h : qH} {P : qE → Prop} (e : st = st') (k : QW d M pc ls st' h P) : QW d M pc ls st h P := e ▸ k
theorem dTab_hasColumn_0 : decode mTab_hasColumn.2.1 0 = .ok (.iload_n 1, 1) := by decide +kernel
theorem dTab_hasColumn_1 : decode mTab_hasColumn.2.1 1 = .ok (.ifCond .lt 15, 3) := by decide +kernel
theorem dTab_hasColumn_4 : decode mTab_hasColumn.2.1 4 = .ok (.iload_n 1, 1) := by decide +kernel
theorem dTab_hasColumn_5 : decode mTab_hasColumn.2.1 5 = .ok (.aload_n 0, 1) := by decide +kernel
theorem dTab_hasColumn_6 : decode mTab_hasColumn.2.1 6 = .ok (.getfield 19, 3) := by decide +kernel
theorem dTab_hasColumn_9 : decode mTab_hasColumn.2.1 9 = .ok (.if_icmp .ge 7, 3) := by decide +kernel
theorem dTab_hasColumn_12 : decode mTab_hasColumn.2.1 12 = .ok (.iconst 1, 1) := by decide +kernel
theorem dTab_hasColumn_13 : decode mTab_hasColumn.2.1 13 = .ok (.goto 4, 3) := by decide +kernel
theorem dTab_hasColumn_16 : decode mTab_hasColumn.2.1 16 = .ok (.iconst 0, 1) := by decide +kernel
theorem dTab_hasColumn_17 : decode mTab_hasColumn.2.1 17 = .ok (.ireturn, 1) := by decide +kernel
theorem cTab_hasColumn {d t : Nat} {h : qH} {P : qE → Prop} {c r col : Int32} {v3 v4 : Value} (ht : h[t]? = some (9, [.int c, .int r, v3, v4])) (hp : P (.inl (some (.int (qb (decide (0 ≤ col) && decide (col < c))))), h)) : QW d mTab_hasColumn 0 (qen 2 [.ref t, .int col]) [] h P := by
  show QW d mTab_hasColumn 0 [.val (.ref t), .val (.int col)] [] h P
  have tail : ∀ b : Bool, b = (decide (0 ≤ col) && decide (col < c)) → QW d mTab_hasColumn 17 [.val (.ref t), .val (.int col)] [.int (qb b)] h P := fun b hb => by
    refine QW.iret dTab_hasColumn_17 rfl (qb_n _) (by rw [hb]; exact hp)
  refine QW.iload_n dTab_hasColumn_0 rfl rfl ?_
  refine QW.if_lt (tgt := 16) dTab_hasColumn_1 (by decide) (fun z => ?_) (fun z => ?_)
  · refine QW.iconst (v := 0) dTab_hasColumn_16 (by decide) (tail false ?_)
    have : ¬ 0 ≤ col := k2_nle z
    simp [this]
  · refine QW.iload_n dTab_hasColumn_4 rfl rfl ?_
    refine QW.aload_n dTab_hasColumn_5 rfl rfl ?_
    refine QW.getf dTab_hasColumn_6 fTab_19 (by assumption) rfl ?_
    refine QW.icmp_ge (tgt := 16) dTab_hasColumn_9 (by decide) (fun z2 => ?_) (fun z2 => ?_)
    · refine QW.iconst (v := 0) dTab_hasColumn_16 (by decide) (tail false ?_)
      have : ¬ col < c := k2_nlt z2
      simp [this]
    · refine QW.iconst (v := 1) dTab_hasColumn_12 (by decide) ?_
      refine QW.goto (tgt := 17) dTab_hasColumn_13 (by decide) (tail true ?_)
      have h1 : 0 ≤ col := k2_le z
      have h2 : col < c := k2_lt z2
      simp [h1, h2]
theorem dTab_init_0 : decode mTab_init.2.1 0 = .ok (.aload_n 0, 1) := by decide +kernel
theorem dTab_init_1 : decode mTab_init.2.1 1 = .ok (.invokespecial 3, 3) := by decide +kernel
theorem dTab_init_4 : decode mTab_init.2.1 4 = .ok (.aload_n 0, 1) := by decide +kernel
theorem dTab_init_5 : decode mTab_init.2.1 5 = .ok (.iconst 3, 1) := by decide +kernel
theorem dTab_init_6 : decode mTab_init.2.1 6 = .ok (.newarray .boolean, 2) := by decide +kernel
theorem dTab_init_8 : decode mTab_init.2.1 8 = .ok (.putfield 9, 3) := by decide +kernel
theorem dTab_init_11 : decode mTab_init.2.1 11 = .ok (.aload_n 0, 1) := by decide +kernel
theorem dTab_init_12 : decode mTab_init.2.1 12 = .ok (.bipush 24, 2) := by decide +kernel
theorem dTab_init_14 : decode mTab_init.2.1 14 = .ok (.newarray .int, 2) := by decide +kernel
theorem dTab_init_16 : decode mTab_init.2.1 16 = .ok (.putfield 15, 3) := by decide +kernel
theorem dTab_init_19 : decode mTab_init.2.1 19 = .ok (.return_, 1) := by decide +kernel
theorem cTab_init {d a : Nat} {h : qH} {P : qE → Prop} (ha : h[a]? = some (9, [.int 0, .int 0, .null, .null])) (hc : h.length + 2 ≤ qCap) (hp : P (.inl none, h.set a (9, [.int 0, .int 0, .ref h.length, .ref (h.length + 1)]) ++ [(65, List.replicate 3 (.int 0)), (64, List.replicate 24 (.int 0))])) : QW d mTab_init 0 (qen 1 [.ref a]) [] h P := by
  show QW d mTab_init 0 [.val (.ref a)] [] h P
  refine QW.aload_n dTab_init_0 rfl rfl ?_
  refine QW.objInit dTab_init_1 oTab_3 q_oi q_oc rfl (by decide) ?_
  refine QW.aload_n dTab_init_4 rfl rfl ?_
  refine QW.iconst (v := 3) dTab_init_5 (by decide) ?_
  refine QW.newa (t := 65) dTab_init_6 rfl (by decide) (by decide) q_ac_boolean (by decide) (N := 3) (by decide) (by decide) (by omega) ?_
  refine QW.putF dTab_init_8 gTab_9 rfl (q_apl ha) rfl (fun _ => rfl) (fun _ => rfl) ?_
  refine QW.hq (q_sap ha) ?_
  refine QW.aload_n dTab_init_11 rfl rfl ?_
  refine QW.bipush (v := 24) dTab_init_12 (by decide) ?_
  refine QW.newa (t := 64) dTab_init_14 rfl (by decide) (by decide) q_ac_int (by decide) (N := 24) (by decide) (by decide) (by simp; omega) ?_
  refine QW.putF dTab_init_16 gTab_15 rfl (by rw [List.append_assoc]; exact q_apl (q_gs ha)) rfl (fun _ => rfl) (fun _ => rfl) ?_
  refine QW.hq (h' := h.set a (9, [.int 0, .int 0, .ref h.length, .ref (h.length + 1)]) ++ [(65, List.replicate 3 (.int 0)), (64, List.replicate 24 (.int 0))]) ?_ ?_
  · rw [List.append_assoc, q_sap (q_gs ha), q_ss]; simp [defaultValue, newarray.typeOf]
  refine QW.vret dTab_init_19 rfl hp
end
section
theorem taBp_85 : (Bundle.ownAtoms "BagPlanner" 85 "java/lang/IllegalArgumentException" ["java/lang/RuntimeException", "java/lang/Exception"]).all qat1 = true := by decide +kernel
theorem tBp_83_85 : qthr "BagPlanner" 81 83 85 20 "java/lang/IllegalArgumentException" ["java/lang/RuntimeException", "java/lang/Exception"] := ⟨rfl, ⟨rfl, by decide⟩, ⟨by decide +kernel, by decide +kernel⟩, by decide, q_tw 417 (by decide +kernel), q_tw 418 (by decide +kernel), q_tw 17 (by decide +kernel), ⟨"a table has 1 to 3 columns", q_tw 459 (by decide +kernel)⟩, by decide +kernel, taBp_85⟩
theorem taBp_95 : (Bundle.ownAtoms "BagPlanner" 95 "java/lang/IllegalStateException" ["java/lang/RuntimeException", "java/lang/Exception"]).all qat1 = true := by decide +kernel
theorem tBp_93_95 : qthr "BagPlanner" 91 93 95 21 "java/lang/IllegalStateException" ["java/lang/RuntimeException", "java/lang/Exception"] := ⟨rfl, ⟨rfl, by decide⟩, ⟨by decide +kernel, by decide +kernel⟩, by decide, q_tw 486 (by decide +kernel), q_tw 487 (by decide +kernel), q_tw 18 (by decide +kernel), ⟨"there are 4 tables", q_tw 495 (by decide +kernel)⟩, by decide +kernel, taBp_95⟩
theorem tBp_110_95 : qthr "BagPlanner" 91 110 95 21 "java/lang/IllegalStateException" ["java/lang/RuntimeException", "java/lang/Exception"] := ⟨rfl, ⟨rfl, by decide⟩, ⟨by decide +kernel, by decide +kernel⟩, by decide, q_tw 486 (by decide +kernel), q_tw 487 (by decide +kernel), q_tw 18 (by decide +kernel), ⟨"two rows have the same value there", q_tw 534 (by decide +kernel)⟩, by decide +kernel, taBp_95⟩
theorem tBp_119_85 : qthr "BagPlanner" 81 119 85 20 "java/lang/IllegalArgumentException" ["java/lang/RuntimeException", "java/lang/Exception"] := ⟨rfl, ⟨rfl, by decide⟩, ⟨by decide +kernel, by decide +kernel⟩, by decide, q_tw 417 (by decide +kernel), q_tw 418 (by decide +kernel), q_tw 17 (by decide +kernel), ⟨"there is no such table", q_tw 542 (by decide +kernel)⟩, by decide +kernel, taBp_85⟩
theorem tBp_128_95 : qthr "BagPlanner" 91 128 95 21 "java/lang/IllegalStateException" ["java/lang/RuntimeException", "java/lang/Exception"] := ⟨rfl, ⟨rfl, by decide⟩, ⟨by decide +kernel, by decide +kernel⟩, by decide, q_tw 486 (by decide +kernel), q_tw 487 (by decide +kernel), q_tw 18 (by decide +kernel), ⟨"the table has 8 rows", q_tw 543 (by decide +kernel)⟩, by decide +kernel, taBp_95⟩
theorem tBp_134_95 : qthr "BagPlanner" 91 134 95 21 "java/lang/IllegalStateException" ["java/lang/RuntimeException", "java/lang/Exception"] := ⟨rfl, ⟨rfl, by decide⟩, ⟨by decide +kernel, by decide +kernel⟩, by decide, q_tw 486 (by decide +kernel), q_tw 487 (by decide +kernel), q_tw 18 (by decide +kernel), ⟨"a row has the same value in a key", q_tw 552 (by decide +kernel)⟩, by decide +kernel, taBp_95⟩
theorem tBp_155_85 : qthr "BagPlanner" 81 155 85 20 "java/lang/IllegalArgumentException" ["java/lang/RuntimeException", "java/lang/Exception"] := ⟨rfl, ⟨rfl, by decide⟩, ⟨by decide +kernel, by decide +kernel⟩, by decide, q_tw 417 (by decide +kernel), q_tw 418 (by decide +kernel), q_tw 17 (by decide +kernel), ⟨"the text is no question", q_tw 804 (by decide +kernel)⟩, by decide +kernel, taBp_85⟩
theorem tBp_157_95 : qthr "BagPlanner" 91 157 95 21 "java/lang/IllegalStateException" ["java/lang/RuntimeException", "java/lang/Exception"] := ⟨rfl, ⟨rfl, by decide⟩, ⟨by decide +kernel, by decide +kernel⟩, by decide, q_tw 486 (by decide +kernel), q_tw 487 (by decide +kernel), q_tw 18 (by decide +kernel), ⟨"there are 4 questions", q_tw 805 (by decide +kernel)⟩, by decide +kernel, taBp_95⟩
theorem taBp_171 : (Bundle.ownAtoms "BagPlanner" 171 "java/lang/UnsupportedOperationException" ["java/lang/RuntimeException", "java/lang/Exception"]).all qat1 = true := by decide +kernel
theorem tBp_169_171 : qthr "BagPlanner" 167 169 171 22 "java/lang/UnsupportedOperationException" ["java/lang/RuntimeException", "java/lang/Exception"] := ⟨rfl, ⟨rfl, by decide⟩, ⟨by decide +kernel, by decide +kernel⟩, by decide, q_tw 891 (by decide +kernel), q_tw 892 (by decide +kernel), q_tw 26 (by decide +kernel), ⟨"there are more than 64 different rows", q_tw 900 (by decide +kernel)⟩, by decide +kernel, taBp_171⟩
theorem taBp_183 : (Bundle.ownAtoms "BagPlanner" 183 "java/lang/IndexOutOfBoundsException" ["java/lang/RuntimeException", "java/lang/Exception"]).all qat1 = true := by decide +kernel
theorem tBp_181_183 : qthr "BagPlanner" 179 181 183 23 "java/lang/IndexOutOfBoundsException" ["java/lang/RuntimeException", "java/lang/Exception"] := ⟨rfl, ⟨rfl, by decide⟩, ⟨by decide +kernel, by decide +kernel⟩, by decide, q_tw 919 (by decide +kernel), q_tw 920 (by decide +kernel), q_tw 27 (by decide +kernel), ⟨"there is no such row or value", q_tw 928 (by decide +kernel)⟩, by decide +kernel, taBp_183⟩
theorem tBp_188_183 : qthr "BagPlanner" 179 188 183 23 "java/lang/IndexOutOfBoundsException" ["java/lang/RuntimeException", "java/lang/Exception"] := ⟨rfl, ⟨rfl, by decide⟩, ⟨by decide +kernel, by decide +kernel⟩, by decide, q_tw 919 (by decide +kernel), q_tw 920 (by decide +kernel), q_tw 27 (by decide +kernel), ⟨"there is no such row", q_tw 942 (by decide +kernel)⟩, by decide +kernel, taBp_183⟩
theorem tBp_218_85 : qthr "BagPlanner" 81 218 85 20 "java/lang/IllegalArgumentException" ["java/lang/RuntimeException", "java/lang/Exception"] := ⟨rfl, ⟨rfl, by decide⟩, ⟨by decide +kernel, by decide +kernel⟩, by decide, q_tw 417 (by decide +kernel), q_tw 418 (by decide +kernel), q_tw 17 (by decide +kernel), ⟨"there is no such table or column", q_tw 525 (by decide +kernel)⟩, by decide +kernel, taBp_85⟩
theorem tBp_220_85 : qthr "BagPlanner" 81 220 85 20 "java/lang/IllegalArgumentException" ["java/lang/RuntimeException", "java/lang/Exception"] := ⟨rfl, ⟨rfl, by decide⟩, ⟨by decide +kernel, by decide +kernel⟩, by decide, q_tw 417 (by decide +kernel), q_tw 418 (by decide +kernel), q_tw 17 (by decide +kernel), ⟨"there is no such question", q_tw 818 (by decide +kernel)⟩, by decide +kernel, taBp_85⟩
theorem tBp_225_171 : qthr "BagPlanner" 167 225 171 22 "java/lang/UnsupportedOperationException" ["java/lang/RuntimeException", "java/lang/Exception"] := ⟨rfl, ⟨rfl, by decide⟩, ⟨by decide +kernel, by decide +kernel⟩, by decide, q_tw 891 (by decide +kernel), q_tw 892 (by decide +kernel), q_tw 26 (by decide +kernel), ⟨"the question has more than one block", q_tw 953 (by decide +kernel)⟩, by decide +kernel, taBp_171⟩
theorem xl_13 : Cond.classLink "BagPlannerLaw" 13 "java/lang/IllegalArgumentException" ∈ lw_tbl := q_tw 411 (by decide +kernel)
theorem xl_15 : Cond.classLink "BagPlannerLaw" 15 "java/lang/IllegalStateException" ∈ lw_tbl := q_tw 412 (by decide +kernel)
theorem xl_36 : Cond.classLink "BagPlannerLaw" 36 "java/lang/UnsupportedOperationException" ∈ lw_tbl := q_tw 809 (by decide +kernel)
theorem xl_42 : Cond.classLink "BagPlannerLaw" 42 "java/lang/IndexOutOfBoundsException" ∈ lw_tbl := q_tw 910 (by decide +kernel)
theorem xn_20_21 : Cond.not (.castable "java/lang/IllegalArgumentException" "java/lang/IllegalStateException") ∈ flatC qGv := by decide +kernel
theorem xn_20_22 : Cond.not (.castable "java/lang/IllegalArgumentException" "java/lang/UnsupportedOperationException") ∈ flatC qGv := by decide +kernel
theorem xn_20_23 : Cond.not (.castable "java/lang/IllegalArgumentException" "java/lang/IndexOutOfBoundsException") ∈ flatC qGv := by decide +kernel
theorem xn_21_20 : Cond.not (.castable "java/lang/IllegalStateException" "java/lang/IllegalArgumentException") ∈ flatC qGv := by decide +kernel
theorem xn_21_22 : Cond.not (.castable "java/lang/IllegalStateException" "java/lang/UnsupportedOperationException") ∈ flatC qGv := by decide +kernel
theorem xn_21_23 : Cond.not (.castable "java/lang/IllegalStateException" "java/lang/IndexOutOfBoundsException") ∈ flatC qGv := by decide +kernel
theorem xn_22_20 : Cond.not (.castable "java/lang/UnsupportedOperationException" "java/lang/IllegalArgumentException") ∈ flatC qGv := by decide +kernel
theorem xn_22_21 : Cond.not (.castable "java/lang/UnsupportedOperationException" "java/lang/IllegalStateException") ∈ flatC qGv := by decide +kernel
theorem xn_22_23 : Cond.not (.castable "java/lang/UnsupportedOperationException" "java/lang/IndexOutOfBoundsException") ∈ flatC qGv := by decide +kernel
theorem xn_23_20 : Cond.not (.castable "java/lang/IndexOutOfBoundsException" "java/lang/IllegalArgumentException") ∈ flatC qGv := by decide +kernel
theorem xn_23_21 : Cond.not (.castable "java/lang/IndexOutOfBoundsException" "java/lang/IllegalStateException") ∈ flatC qGv := by decide +kernel
theorem xn_23_22 : Cond.not (.castable "java/lang/IndexOutOfBoundsException" "java/lang/UnsupportedOperationException") ∈ flatC qGv := by decide +kernel
end
section
theorem q_self {h : qH} {a : Nat} {c : qC} (ha : h[a]? = some c) : h.set a c = h := by
  apply List.ext_getElem?
  intro i
  by_cases hi : a = i
  · subst hi
    rw [List.getElem?_set_self (List.getElem?_eq_some_iff.mp ha).1, ha]
  · rw [List.getElem?_set_ne hi]
section QNF
variable {d : Nat} {M : qM} {pc : Nat} {ls : List Slot} {st : List Value} {h : qH} {P : qE → Prop} {a n : Nat} {C : qC} {x x' : qH}
theorem nf_len (hn : h.length = n) : (h.set a C ++ x).length = n + x.length := by rw [List.length_append, List.length_set, hn]
theorem nf_get (hn : h.length = n) (k : Nat) : (h.set a C ++ x)[n + k]? = x[k]? := by
  have h1 := q_apr (h.set a C) x k
  rw [List.length_set, hn] at h1
  exact h1
theorem nf_own (hn : h.length = n) (ha : a < n) : (h.set a C ++ x)[a]? = some C := by
  refine q_apl ?_
  rw [List.getElem?_set_self (by omega)]
theorem nf_set (hn : h.length = n) (k : Nat) (c : qC) : (h.set a C ++ x).set (n + k) c = h.set a C ++ x.set k c := by
  have h1 : (h.set a C).length = n := by rw [List.length_set, hn]
  rw [List.set_append_right _ _ (by omega), h1, Nat.add_sub_cancel_left]
theorem nf_seto (hn : h.length = n) (ha : a < n) (c : qC) : (h.set a C ++ x).set a c = h.set a c ++ x := by
  rw [List.set_append_left _ _ (by rw [List.length_set]; omega)]
  simp
theorem QW.iincN {i : Nat} {m : Int} {y v : Int32} {ls' : List Slot} (hd : decode M.2.1 pc = .ok (.iinc i m, 3)) (hl : ls[i]? = some (.val (.int y))) (hv : y + Int32.ofInt m = v) (hs : qsto ls i (.int v) = some ls') (kk : QW d M (pc + 3) ls' st h P) : QW d M pc ls st h P := by
  subst hv
  exact QW.iinc hd hl hs kk
theorem QW.newN {idx ct k : Nat} {fs : List Value} (hn : h.length = n) (hd : decode M.2.1 pc = .ok (.new idx, 3)) (hf : qnw M.1.cls idx ct fs) (hk : x.length = k) (hc : n + k < qCap) (hx : x ++ [(ct, fs)] = x') (kk : QW d M (pc + 3) ls (.ref (n + k) :: st) (h.set a C ++ x') P) : QW d M pc ls st (h.set a C ++ x) P := by
  have hl : (h.set a C ++ x).length = n + k := by rw [nf_len hn, hk]
  refine QW.new hd hf (by rw [hl]; exact hc) ?_
  rw [hl, List.append_assoc, hx]
  exact kk
theorem QW.newaN {at0 : ArrayType} {t N k : Nat} {m : Int32} {v : Value} (hn : h.length = n) (hd : decode M.2.1 pc = .ok (.newarray at0, 2)) (ht : qar t = some (newarray.typeOf at0)) (h64 : 64 ≤ t) (h80 : t < 80) (hw : Cond.arrayClass (newarray.typeOf at0) ∈ lw_tbl) (hm : ¬ m < 0) (hN : m.toNatClampNeg = N) (hN2 : N ≤ 256) (hv : defaultValue (newarray.typeOf at0) = v) (hk : x.length = k) (hc : n + k < qCap) (hx : x ++ [(t, List.replicate N v)] = x')
    (kk : QW d M (pc + 2) ls (.ref (n + k) :: st) (h.set a C ++ x') P) : QW d M pc ls (.int m :: st) (h.set a C ++ x) P := by
  have hl : (h.set a C ++ x).length = n + k := by rw [nf_len hn, hk]
  refine QW.newa hd ht h64 h80 hw hm hN hN2 (by rw [hl]; exact hc) ?_
  rw [hl, List.append_assoc, hv, hx]
  exact kk
theorem QW.newqN {idx t N k : Nat} {cn : String} {m : Int32} (hn : h.length = n) (hd : decode M.2.1 pc = .ok (.anewarray idx, 3)) (ht : qar t = some (.object cn)) (h64 : 64 ≤ t) (h80 : t < 80) (hw : Cond.classLink M.1.cls idx cn ∈ lw_tbl) (hw2 : Cond.arrayOver (.object cn) ∈ lw_tbl) (hm : ¬ m < 0) (hN : m.toNatClampNeg = N) (hN2 : N ≤ 256) (hk : x.length = k) (hc : n + k < qCap) (hx : x ++ [(t, List.replicate N .null)] = x')
    (kk : QW d M (pc + 3) ls (.ref (n + k) :: st) (h.set a C ++ x') P) : QW d M pc ls (.int m :: st) (h.set a C ++ x) P := by
  have hl : (h.set a C ++ x).length = n + k := by rw [nf_len hn, hk]
  refine QW.newq hd ht h64 h80 hw hw2 hm hN hN2 (by rw [hl]; exact hc) ?_
  rw [hl, List.append_assoc, hx]
  exact kk
theorem QW.putFo {idx ct k N : Nat} {t : FieldType} {fs fs' : List Value} {v : Value} (hn : h.length = n) (ha : a < n) (hd : decode M.2.1 pc = .ok (.putfield idx, 3)) (hf : qfF M.1.cls idx ct k N t) (hin : M.1.name = "<init>") (hl : fs.length = N) (hv : ∀ ad, narrow t (qv ad v) = qv ad v) (hfit : ∀ ad, fits t (qv ad v) = true) (hfs : fs.set k v = fs') (kk : QW d M (pc + 3) ls st (h.set a (ct, fs') ++ x) P) : QW d M pc ls (v :: .ref a :: st) (h.set a (ct, fs) ++ x) P := by
  subst hfs
  refine QW.putF hd hf hin (nf_own hn ha) hl hv hfit ?_
  rw [nf_seto hn ha]
  exact kk
theorem QW.putfo {idx ct k N : Nat} {t : FieldType} {fs fs' : List Value} {v : Value} (hn : h.length = n) (ha : a < n) (hd : decode M.2.1 pc = .ok (.putfield idx, 3)) (hf : qfl M.1.cls idx ct k N t false) (hl : fs.length = N) (hv : ∀ ad, narrow t (qv ad v) = qv ad v) (hfit : ∀ ad, fits t (qv ad v) = true) (hfs : fs.set k v = fs') (kk : QW d M (pc + 3) ls st (h.set a (ct, fs') ++ x) P) : QW d M pc ls (v :: .ref a :: st) (h.set a (ct, fs) ++ x) P := by
  subst hfs
  refine QW.putf hd hf (nf_own hn ha) hl hv hfit ?_
  rw [nf_seto hn ha]
  exact kk
theorem QW.getfo {idx ct k N : Nat} {t : FieldType} {fin : Bool} {fs : List Value} {v : Value} (hn : h.length = n) (ha : a < n) (hd : decode M.2.1 pc = .ok (.getfield idx, 3)) (hf : qfl M.1.cls idx ct k N t fin) (hv : fs[k]? = some v) (kk : QW d M (pc + 3) ls (v :: st) (h.set a (ct, fs) ++ x) P) : QW d M pc ls (.ref a :: st) (h.set a (ct, fs) ++ x) P :=
  QW.getf hd hf (nf_own hn ha) hv kk
theorem QW.aastN {k j t ct : Nat} {q : vw_C} {l fs : List Value} {i : Int32} {v : Value} (hn : h.length = n) (hd : decode M.2.1 pc = .ok (.aastore, 1)) (hk : x[k]? = some (t, l)) (ht : qar t = some (.object q.1)) (h64 : 64 ≤ t) (h80 : t < 80) (ho : qown t = true) (hj : x[j]? = some (ct, fs)) (hq : classes[ct]? = some q) (h0 : ¬ i < 0) (hv : l[i.toNatClampNeg]? = some v) (hx : x.set k (t, l.set i.toNatClampNeg (.ref (n + j))) = x')
    (kk : QW d M (pc + 1) ls st (h.set a C ++ x') P) : QW d M pc ls (.ref (n + j) :: .int i :: .ref (n + k) :: st) (h.set a C ++ x) P := by
  subst hx
  refine QW.aast hd ((nf_get hn k).trans hk) ht h64 h80 ho ((nf_get hn j).trans hj) hq h0 hv ?_
  rw [nf_set hn]
  exact kk
theorem QW.ctorN {M2 : qM} {idx k : Nat} {C2 : qC} {y : qH} {rest : List Value} (hn : h.length = n) (hd : decode M.2.1 pc = .ok (.invokespecial idx, 3)) (hy : M2.1.name = "<init>") (hv : M2.2.2.2.1 = none) (hno : M2.2.2.2.2 = []) (hcode : Cond.code M2.1 M2.2.1 M2.2.2.1 none ∈ lw_tbl) (hm : qme M2) (hl : qlk M.1.cls idx M2) (hi : Cond.instanceMethod M2.1 ∈ lw_tbl) (hnp : qnp M2 = some 0) (hls : ls.length = M.2.2.1) (hw : (rest.map fun v => v.category).sum ≤ 20)
    (hC : ∀ P1 : qE → Prop, P1 (.inl none, (h.set a C ++ x).set (n + k) C2 ++ y) → QW d M2 0 (qen M2.2.2.1 [.ref (n + k)]) [] (h.set a C ++ x) P1) (hx : x.set k C2 ++ y = x') (kk : QW (d + 1) M (pc + 3) ls rest (h.set a C ++ x') P) : QW (d + 1) M pc ls (.ref (n + k) :: rest) (h.set a C ++ x) P := by
  refine QW.callI (as := []) (P1 := fun r => r = (.inl none, h.set a C ++ x')) hd hy hv hno hcode hm hl hi hnp rfl hls hw (hC _ ?_) (fun v h' e => ?_) (fun b h' e => ?_)
  · rw [nf_set hn, List.append_assoc, hx]
  · cases e
    exact kk
  · cases e
end QNF
set_option maxRecDepth 20000 in
theorem cTab_init' {d a n : Nat} {h : qH} {P : qE → Prop} (hn : h.length = n) (h0 : h[a]? = some (9, [.int 0, .int 0, .null, .null])) (hcap : n + 2 ≤ qCap) (hp : P (.inl none, h.set a (9, [.int 0, .int 0, .ref (n + 0), .ref (n + 1)]) ++ [(65, List.replicate 3 (.int 0)), (64, List.replicate 24 (.int 0))])) : QW d mTab_init 0 (qen 1 [.ref a]) [] h P := by
  have ha : a < n := by rw [← hn]; exact (List.getElem?_eq_some_iff.mp h0).1
  refine QW.hq (h' := h.set a (9, [.int 0, .int 0, .null, .null]) ++ []) (by rw [List.append_nil]; exact (q_self h0).symm) ?_
  show QW d mTab_init 0 [.val (.ref a)] [] _ P
  refine QW.aload_n dTab_init_0 rfl rfl ?_
  refine QW.objInit dTab_init_1 oTab_3 q_oi q_oc rfl (Nat.le_of_ble_eq_true rfl) ?_
  refine QW.aload_n dTab_init_4 rfl rfl ?_
  refine QW.iconst (v := 3) dTab_init_5 (by decide) ?_
  refine QW.newaN (t := 65) (N := 3) (k := 0) (v := .int 0) (x' := [(65, List.replicate 3 (.int 0))]) hn dTab_init_6 rfl (by decide) (by decide) q_ac_boolean (by decide) (by decide) (by decide) rfl rfl (by omega) rfl ?_
  refine QW.putFo (fs' := [.int 0, .int 0, .ref (n + 0), .null]) hn ha dTab_init_8 gTab_9 rfl rfl (fun _ => rfl) (fun _ => rfl) rfl ?_
  refine QW.aload_n dTab_init_11 rfl rfl ?_
  refine QW.bipush (v := 24) dTab_init_12 (by decide) ?_
  refine QW.newaN (t := 64) (N := 24) (k := 1) (v := .int 0) (x' := [(65, List.replicate 3 (.int 0)), (64, List.replicate 24 (.int 0))]) hn dTab_init_14 rfl (by decide) (by decide) q_ac_int (by decide) (by decide) (by decide) rfl rfl (by omega) rfl ?_
  refine QW.putFo (fs' := [.int 0, .int 0, .ref (n + 0), .ref (n + 1)]) hn ha dTab_init_16 gTab_15 rfl rfl (fun _ => rfl) (fun _ => rfl) rfl ?_
  exact QW.vret dTab_init_19 rfl hp
theorem dCat_init_0 : decode mCat_init.2.1 0 = .ok (.aload_n 0, 1) := by decide +kernel
theorem dCat_init_1 : decode mCat_init.2.1 1 = .ok (.invokespecial 3, 3) := by decide +kernel
theorem dCat_init_4 : decode mCat_init.2.1 4 = .ok (.aload_n 0, 1) := by decide +kernel
theorem dCat_init_5 : decode mCat_init.2.1 5 = .ok (.iconst 4, 1) := by decide +kernel
theorem dCat_init_6 : decode mCat_init.2.1 6 = .ok (.anewarray 9, 3) := by decide +kernel
theorem dCat_init_9 : decode mCat_init.2.1 9 = .ok (.putfield 11, 3) := by decide +kernel
theorem dCat_init_12 : decode mCat_init.2.1 12 = .ok (.iconst 0, 1) := by decide +kernel
theorem dCat_init_13 : decode mCat_init.2.1 13 = .ok (.istore_n 1, 1) := by decide +kernel
theorem dCat_init_14 : decode mCat_init.2.1 14 = .ok (.iload_n 1, 1) := by decide +kernel
theorem dCat_init_15 : decode mCat_init.2.1 15 = .ok (.iconst 4, 1) := by decide +kernel
theorem dCat_init_16 : decode mCat_init.2.1 16 = .ok (.if_icmp .ge 22, 3) := by decide +kernel
theorem dCat_init_19 : decode mCat_init.2.1 19 = .ok (.aload_n 0, 1) := by decide +kernel
theorem dCat_init_20 : decode mCat_init.2.1 20 = .ok (.getfield 11, 3) := by decide +kernel
theorem dCat_init_23 : decode mCat_init.2.1 23 = .ok (.iload_n 1, 1) := by decide +kernel
theorem dCat_init_24 : decode mCat_init.2.1 24 = .ok (.new 9, 3) := by decide +kernel
theorem dCat_init_27 : decode mCat_init.2.1 27 = .ok (.dup, 1) := by decide +kernel
theorem dCat_init_28 : decode mCat_init.2.1 28 = .ok (.invokespecial 17, 3) := by decide +kernel
theorem dCat_init_31 : decode mCat_init.2.1 31 = .ok (.aastore, 1) := by decide +kernel
theorem dCat_init_32 : decode mCat_init.2.1 32 = .ok (.iinc 1 1, 3) := by decide +kernel
theorem dCat_init_35 : decode mCat_init.2.1 35 = .ok (.goto (-21), 3) := by decide +kernel
theorem dCat_init_38 : decode mCat_init.2.1 38 = .ok (.return_, 1) := by decide +kernel
set_option maxRecDepth 20000 in
theorem cCat_init {d a n : Nat} {h : qH} {P : qE → Prop} (hn : h.length = n) (h0 : h[a]? = some (3, [.null, .int 0])) (hcap : n + 13 ≤ qCap) (hp : P (.inl none, h.set a (3, [.ref (n + 0), .int 0]) ++ [(68, [.ref (n + 1), .ref (n + 4), .ref (n + 7), .ref (n + 10)]), (9, [.int 0, .int 0, .ref (n + 2), .ref (n + 3)]), (65, List.replicate 3 (.int 0)), (64, List.replicate 24 (.int 0)), (9, [.int 0, .int 0, .ref (n + 5), .ref (n + 6)]), (65, List.replicate 3 (.int 0)), (64, List.replicate 24 (.int 0)), (9, [.int 0, .int 0, .ref (n + 8), .ref (n + 9)]), (65, List.replicate 3 (.int 0)), (64, List.replicate 24 (.int 0)), (9, [.int 0, .int 0, .ref (n + 11), .ref (n + 12)]), (65, List.replicate 3 (.int 0)), (64, List.replicate 24 (.int 0))])) : QW (d + 1) mCat_init 0 (qen 2 [.ref a]) [] h P := by
  have ha : a < n := by rw [← hn]; exact (List.getElem?_eq_some_iff.mp h0).1
  refine QW.hq (h' := h.set a (3, [.null, .int 0]) ++ []) (by rw [List.append_nil]; exact (q_self h0).symm) ?_
  show QW (d + 1) mCat_init 0 [.val (.ref a), .unset] [] _ P
  refine QW.aload_n dCat_init_0 rfl rfl ?_
  refine QW.objInit dCat_init_1 oCat_3 q_oi q_oc rfl (Nat.le_of_ble_eq_true rfl) ?_
  refine QW.aload_n dCat_init_4 rfl rfl ?_
  refine QW.iconst (v := 4) dCat_init_5 (by decide) ?_
  refine QW.newqN (t := 68) (N := 4) (k := 0) (x' := [(68, [.null, .null, .null, .null])]) hn dCat_init_6 rfl (by decide) (by decide) (q_tw 42 (by decide +kernel)) q_ao_Table (by decide) (by decide) (by decide) rfl (by omega) rfl ?_
  refine QW.putFo (fs' := [.ref (n + 0), .int 0]) hn ha dCat_init_9 gCat_11 rfl rfl (fun _ => rfl) (fun _ => rfl) rfl ?_
  refine QW.iconst (v := 0) dCat_init_12 (by decide) ?_
  refine QW.istore_n (ls' := [.val (.ref a), .val (.int 0)]) dCat_init_13 rfl rfl ?_
  refine QW.iload_n dCat_init_14 rfl rfl ?_
  refine QW.iconst (v := 4) dCat_init_15 (by decide) ?_
  refine QW.icmp_ge (tgt := 38) dCat_init_16 (by decide) (fun z => absurd z (by decide)) (fun _ => ?_)
  refine QW.aload_n dCat_init_19 rfl rfl ?_
  refine QW.getfo hn ha dCat_init_20 fCat_11 rfl ?_
  refine QW.iload_n dCat_init_23 rfl rfl ?_
  refine QW.newN (k := 1) (x' := [(68, [.null, .null, .null, .null]), (9, [.int 0, .int 0, .null, .null])]) hn dCat_init_24 nCat_9 rfl (by omega) rfl ?_
  refine QW.dup dCat_init_27 rfl ?_
  refine QW.ctorN (M2 := mTab_init) (k := 1) (C2 := (9, [.int 0, .int 0, .ref (n + 2), .ref (n + 3)])) (y := [(65, List.replicate 3 (.int 0)), (64, List.replicate 24 (.int 0))]) (x' := [(68, [.null, .null, .null, .null]), (9, [.int 0, .int 0, .ref (n + 2), .ref (n + 3)]), (65, List.replicate 3 (.int 0)), (64, List.replicate 24 (.int 0))]) hn dCat_init_28 rfl rfl rfl kTab_init eTab_init lCat_17 iTab_init rfl rfl (Nat.le_of_ble_eq_true rfl) (fun P1 hp1 => cTab_init' (n := n + 2) (by rw [nf_len hn]; rfl) ((nf_get hn 1).trans rfl) (by omega) hp1) rfl ?_
  refine QW.aastN (k := 0) (j := 1) (x' := [(68, [.ref (n + 1), .null, .null, .null]), (9, [.int 0, .int 0, .ref (n + 2), .ref (n + 3)]), (65, List.replicate 3 (.int 0)), (64, List.replicate 24 (.int 0))]) hn dCat_init_31 rfl rfl (by decide) (by decide) rfl rfl rfl (by decide) rfl rfl ?_
  refine QW.iincN (v := 1) (ls' := [.val (.ref a), .val (.int 1)]) dCat_init_32 rfl (by decide) rfl ?_
  refine QW.goto (tgt := 14) dCat_init_35 (by decide) ?_
  refine QW.iload_n dCat_init_14 rfl rfl ?_
  refine QW.iconst (v := 4) dCat_init_15 (by decide) ?_
  refine QW.icmp_ge (tgt := 38) dCat_init_16 (by decide) (fun z => absurd z (by decide)) (fun _ => ?_)
  refine QW.aload_n dCat_init_19 rfl rfl ?_
  refine QW.getfo hn ha dCat_init_20 fCat_11 rfl ?_
  refine QW.iload_n dCat_init_23 rfl rfl ?_
  refine QW.newN (k := 4) (x' := [(68, [.ref (n + 1), .null, .null, .null]), (9, [.int 0, .int 0, .ref (n + 2), .ref (n + 3)]), (65, List.replicate 3 (.int 0)), (64, List.replicate 24 (.int 0)), (9, [.int 0, .int 0, .null, .null])]) hn dCat_init_24 nCat_9 rfl (by omega) rfl ?_
  refine QW.dup dCat_init_27 rfl ?_
  refine QW.ctorN (M2 := mTab_init) (k := 4) (C2 := (9, [.int 0, .int 0, .ref (n + 5), .ref (n + 6)])) (y := [(65, List.replicate 3 (.int 0)), (64, List.replicate 24 (.int 0))]) (x' := [(68, [.ref (n + 1), .null, .null, .null]), (9, [.int 0, .int 0, .ref (n + 2), .ref (n + 3)]), (65, List.replicate 3 (.int 0)), (64, List.replicate 24 (.int 0)), (9, [.int 0, .int 0, .ref (n + 5), .ref (n + 6)]), (65, List.replicate 3 (.int 0)), (64, List.replicate 24 (.int 0))]) hn dCat_init_28 rfl rfl rfl kTab_init eTab_init lCat_17 iTab_init rfl rfl (Nat.le_of_ble_eq_true rfl) (fun P1 hp1 => cTab_init' (n := n + 5) (by rw [nf_len hn]; rfl) ((nf_get hn 4).trans rfl) (by omega) hp1) rfl ?_
  refine QW.aastN (k := 0) (j := 4) (x' := [(68, [.ref (n + 1), .ref (n + 4), .null, .null]), (9, [.int 0, .int 0, .ref (n + 2), .ref (n + 3)]), (65, List.replicate 3 (.int 0)), (64, List.replicate 24 (.int 0)), (9, [.int 0, .int 0, .ref (n + 5), .ref (n + 6)]), (65, List.replicate 3 (.int 0)), (64, List.replicate 24 (.int 0))]) hn dCat_init_31 rfl rfl (by decide) (by decide) rfl rfl rfl (by decide) rfl rfl ?_
  refine QW.iincN (v := 2) (ls' := [.val (.ref a), .val (.int 2)]) dCat_init_32 rfl (by decide) rfl ?_
  refine QW.goto (tgt := 14) dCat_init_35 (by decide) ?_
  refine QW.iload_n dCat_init_14 rfl rfl ?_
  refine QW.iconst (v := 4) dCat_init_15 (by decide) ?_
  refine QW.icmp_ge (tgt := 38) dCat_init_16 (by decide) (fun z => absurd z (by decide)) (fun _ => ?_)
  refine QW.aload_n dCat_init_19 rfl rfl ?_
  refine QW.getfo hn ha dCat_init_20 fCat_11 rfl ?_
  refine QW.iload_n dCat_init_23 rfl rfl ?_
  refine QW.newN (k := 7) (x' := [(68, [.ref (n + 1), .ref (n + 4), .null, .null]), (9, [.int 0, .int 0, .ref (n + 2), .ref (n + 3)]), (65, List.replicate 3 (.int 0)), (64, List.replicate 24 (.int 0)), (9, [.int 0, .int 0, .ref (n + 5), .ref (n + 6)]), (65, List.replicate 3 (.int 0)), (64, List.replicate 24 (.int 0)), (9, [.int 0, .int 0, .null, .null])]) hn dCat_init_24 nCat_9 rfl (by omega) rfl ?_
  refine QW.dup dCat_init_27 rfl ?_
  refine QW.ctorN (M2 := mTab_init) (k := 7) (C2 := (9, [.int 0, .int 0, .ref (n + 8), .ref (n + 9)])) (y := [(65, List.replicate 3 (.int 0)), (64, List.replicate 24 (.int 0))]) (x' := [(68, [.ref (n + 1), .ref (n + 4), .null, .null]), (9, [.int 0, .int 0, .ref (n + 2), .ref (n + 3)]), (65, List.replicate 3 (.int 0)), (64, List.replicate 24 (.int 0)), (9, [.int 0, .int 0, .ref (n + 5), .ref (n + 6)]), (65, List.replicate 3 (.int 0)), (64, List.replicate 24 (.int 0)), (9, [.int 0, .int 0, .ref (n + 8), .ref (n + 9)]), (65, List.replicate 3 (.int 0)), (64, List.replicate 24 (.int 0))]) hn dCat_init_28 rfl rfl rfl kTab_init eTab_init lCat_17 iTab_init rfl rfl (Nat.le_of_ble_eq_true rfl) (fun P1 hp1 => cTab_init' (n := n + 8) (by rw [nf_len hn]; rfl) ((nf_get hn 7).trans rfl) (by omega) hp1) rfl ?_
  refine QW.aastN (k := 0) (j := 7) (x' := [(68, [.ref (n + 1), .ref (n + 4), .ref (n + 7), .null]), (9, [.int 0, .int 0, .ref (n + 2), .ref (n + 3)]), (65, List.replicate 3 (.int 0)), (64, List.replicate 24 (.int 0)), (9, [.int 0, .int 0, .ref (n + 5), .ref (n + 6)]), (65, List.replicate 3 (.int 0)), (64, List.replicate 24 (.int 0)), (9, [.int 0, .int 0, .ref (n + 8), .ref (n + 9)]), (65, List.replicate 3 (.int 0)), (64, List.replicate 24 (.int 0))]) hn dCat_init_31 rfl rfl (by decide) (by decide) rfl rfl rfl (by decide) rfl rfl ?_
  refine QW.iincN (v := 3) (ls' := [.val (.ref a), .val (.int 3)]) dCat_init_32 rfl (by decide) rfl ?_
  refine QW.goto (tgt := 14) dCat_init_35 (by decide) ?_
  refine QW.iload_n dCat_init_14 rfl rfl ?_
  refine QW.iconst (v := 4) dCat_init_15 (by decide) ?_
  refine QW.icmp_ge (tgt := 38) dCat_init_16 (by decide) (fun z => absurd z (by decide)) (fun _ => ?_)
  refine QW.aload_n dCat_init_19 rfl rfl ?_
  refine QW.getfo hn ha dCat_init_20 fCat_11 rfl ?_
  refine QW.iload_n dCat_init_23 rfl rfl ?_
  refine QW.newN (k := 10) (x' := [(68, [.ref (n + 1), .ref (n + 4), .ref (n + 7), .null]), (9, [.int 0, .int 0, .ref (n + 2), .ref (n + 3)]), (65, List.replicate 3 (.int 0)), (64, List.replicate 24 (.int 0)), (9, [.int 0, .int 0, .ref (n + 5), .ref (n + 6)]), (65, List.replicate 3 (.int 0)), (64, List.replicate 24 (.int 0)), (9, [.int 0, .int 0, .ref (n + 8), .ref (n + 9)]), (65, List.replicate 3 (.int 0)), (64, List.replicate 24 (.int 0)), (9, [.int 0, .int 0, .null, .null])]) hn dCat_init_24 nCat_9 rfl (by omega) rfl ?_
  refine QW.dup dCat_init_27 rfl ?_
  refine QW.ctorN (M2 := mTab_init) (k := 10) (C2 := (9, [.int 0, .int 0, .ref (n + 11), .ref (n + 12)])) (y := [(65, List.replicate 3 (.int 0)), (64, List.replicate 24 (.int 0))]) (x' := [(68, [.ref (n + 1), .ref (n + 4), .ref (n + 7), .null]), (9, [.int 0, .int 0, .ref (n + 2), .ref (n + 3)]), (65, List.replicate 3 (.int 0)), (64, List.replicate 24 (.int 0)), (9, [.int 0, .int 0, .ref (n + 5), .ref (n + 6)]), (65, List.replicate 3 (.int 0)), (64, List.replicate 24 (.int 0)), (9, [.int 0, .int 0, .ref (n + 8), .ref (n + 9)]), (65, List.replicate 3 (.int 0)), (64, List.replicate 24 (.int 0)), (9, [.int 0, .int 0, .ref (n + 11), .ref (n + 12)]), (65, List.replicate 3 (.int 0)), (64, List.replicate 24 (.int 0))]) hn dCat_init_28 rfl rfl rfl kTab_init eTab_init lCat_17 iTab_init rfl rfl (Nat.le_of_ble_eq_true rfl) (fun P1 hp1 => cTab_init' (n := n + 11) (by rw [nf_len hn]; rfl) ((nf_get hn 10).trans rfl) (by omega) hp1) rfl ?_
  refine QW.aastN (k := 0) (j := 10) (x' := [(68, [.ref (n + 1), .ref (n + 4), .ref (n + 7), .ref (n + 10)]), (9, [.int 0, .int 0, .ref (n + 2), .ref (n + 3)]), (65, List.replicate 3 (.int 0)), (64, List.replicate 24 (.int 0)), (9, [.int 0, .int 0, .ref (n + 5), .ref (n + 6)]), (65, List.replicate 3 (.int 0)), (64, List.replicate 24 (.int 0)), (9, [.int 0, .int 0, .ref (n + 8), .ref (n + 9)]), (65, List.replicate 3 (.int 0)), (64, List.replicate 24 (.int 0)), (9, [.int 0, .int 0, .ref (n + 11), .ref (n + 12)]), (65, List.replicate 3 (.int 0)), (64, List.replicate 24 (.int 0))]) hn dCat_init_31 rfl rfl (by decide) (by decide) rfl rfl rfl (by decide) rfl rfl ?_
  refine QW.iincN (v := 4) (ls' := [.val (.ref a), .val (.int 4)]) dCat_init_32 rfl (by decide) rfl ?_
  refine QW.goto (tgt := 14) dCat_init_35 (by decide) ?_
  refine QW.iload_n dCat_init_14 rfl rfl ?_
  refine QW.iconst (v := 4) dCat_init_15 (by decide) ?_
  refine QW.icmp_ge (tgt := 38) dCat_init_16 (by decide) (fun _ => ?_) (fun z => absurd z (by decide))
  exact QW.vret dCat_init_38 rfl hp
theorem dTxt_init_0 : decode mTxt_init.2.1 0 = .ok (.aload_n 0, 1) := by decide +kernel
theorem dTxt_init_1 : decode mTxt_init.2.1 1 = .ok (.invokespecial 3, 3) := by decide +kernel
theorem dTxt_init_4 : decode mTxt_init.2.1 4 = .ok (.aload_n 0, 1) := by decide +kernel
theorem dTxt_init_5 : decode mTxt_init.2.1 5 = .ok (.sipush 200, 3) := by decide +kernel
theorem dTxt_init_8 : decode mTxt_init.2.1 8 = .ok (.newarray .char, 2) := by decide +kernel
theorem dTxt_init_10 : decode mTxt_init.2.1 10 = .ok (.putfield 9, 3) := by decide +kernel
theorem dTxt_init_13 : decode mTxt_init.2.1 13 = .ok (.return_, 1) := by decide +kernel
set_option maxRecDepth 20000 in
theorem cTxt_init {d a n : Nat} {h : qH} {P : qE → Prop} (hn : h.length = n) (h0 : h[a]? = some (10, [.null, .int 0])) (hcap : n + 1 ≤ qCap) (hp : P (.inl none, h.set a (10, [.ref (n + 0), .int 0]) ++ [(66, List.replicate 200 (.int 0))])) : QW d mTxt_init 0 (qen 1 [.ref a]) [] h P := by
  have ha : a < n := by rw [← hn]; exact (List.getElem?_eq_some_iff.mp h0).1
  refine QW.hq (h' := h.set a (10, [.null, .int 0]) ++ []) (by rw [List.append_nil]; exact (q_self h0).symm) ?_
  show QW d mTxt_init 0 [.val (.ref a)] [] _ P
  refine QW.aload_n dTxt_init_0 rfl rfl ?_
  refine QW.objInit dTxt_init_1 oTxt_3 q_oi q_oc rfl (Nat.le_of_ble_eq_true rfl) ?_
  refine QW.aload_n dTxt_init_4 rfl rfl ?_
  refine QW.sipush (v := 200) dTxt_init_5 (by decide) ?_
  refine QW.newaN (t := 66) (N := 200) (k := 0) (v := .int 0) (x' := [(66, List.replicate 200 (.int 0))]) hn dTxt_init_8 rfl (by decide) (by decide) q_ac_char (by decide) (by decide) (by decide) rfl rfl (by omega) rfl ?_
  refine QW.putFo (fs' := [.ref (n + 0), .int 0]) hn ha dTxt_init_10 gTxt_9 rfl rfl (fun _ => rfl) (fun _ => rfl) rfl ?_
  exact QW.vret dTxt_init_13 rfl hp
theorem dTok_init_0 : decode mTok_init.2.1 0 = .ok (.aload_n 0, 1) := by decide +kernel
theorem dTok_init_1 : decode mTok_init.2.1 1 = .ok (.invokespecial 3, 3) := by decide +kernel
theorem dTok_init_4 : decode mTok_init.2.1 4 = .ok (.aload_n 0, 1) := by decide +kernel
theorem dTok_init_5 : decode mTok_init.2.1 5 = .ok (.sipush 201, 3) := by decide +kernel
theorem dTok_init_8 : decode mTok_init.2.1 8 = .ok (.newarray .int, 2) := by decide +kernel
theorem dTok_init_10 : decode mTok_init.2.1 10 = .ok (.putfield 9, 3) := by decide +kernel
theorem dTok_init_13 : decode mTok_init.2.1 13 = .ok (.aload_n 0, 1) := by decide +kernel
theorem dTok_init_14 : decode mTok_init.2.1 14 = .ok (.sipush 201, 3) := by decide +kernel
theorem dTok_init_17 : decode mTok_init.2.1 17 = .ok (.newarray .int, 2) := by decide +kernel
theorem dTok_init_19 : decode mTok_init.2.1 19 = .ok (.putfield 15, 3) := by decide +kernel
theorem dTok_init_22 : decode mTok_init.2.1 22 = .ok (.aload_n 0, 1) := by decide +kernel
theorem dTok_init_23 : decode mTok_init.2.1 23 = .ok (.sipush 201, 3) := by decide +kernel
theorem dTok_init_26 : decode mTok_init.2.1 26 = .ok (.newarray .int, 2) := by decide +kernel
theorem dTok_init_28 : decode mTok_init.2.1 28 = .ok (.putfield 18, 3) := by decide +kernel
theorem dTok_init_31 : decode mTok_init.2.1 31 = .ok (.return_, 1) := by decide +kernel
set_option maxRecDepth 20000 in
theorem cTok_init {d a n : Nat} {h : qH} {P : qE → Prop} (hn : h.length = n) (h0 : h[a]? = some (11, [.null, .null, .null, .int 0, .int 0])) (hcap : n + 3 ≤ qCap) (hp : P (.inl none, h.set a (11, [.ref (n + 0), .ref (n + 1), .ref (n + 2), .int 0, .int 0]) ++ [(64, List.replicate 201 (.int 0)), (64, List.replicate 201 (.int 0)), (64, List.replicate 201 (.int 0))])) : QW d mTok_init 0 (qen 1 [.ref a]) [] h P := by
  have ha : a < n := by rw [← hn]; exact (List.getElem?_eq_some_iff.mp h0).1
  refine QW.hq (h' := h.set a (11, [.null, .null, .null, .int 0, .int 0]) ++ []) (by rw [List.append_nil]; exact (q_self h0).symm) ?_
  show QW d mTok_init 0 [.val (.ref a)] [] _ P
  refine QW.aload_n dTok_init_0 rfl rfl ?_
  refine QW.objInit dTok_init_1 oTok_3 q_oi q_oc rfl (Nat.le_of_ble_eq_true rfl) ?_
  refine QW.aload_n dTok_init_4 rfl rfl ?_
  refine QW.sipush (v := 201) dTok_init_5 (by decide) ?_
  refine QW.newaN (t := 64) (N := 201) (k := 0) (v := .int 0) (x' := [(64, List.replicate 201 (.int 0))]) hn dTok_init_8 rfl (by decide) (by decide) q_ac_int (by decide) (by decide) (by decide) rfl rfl (by omega) rfl ?_
  refine QW.putFo (fs' := [.ref (n + 0), .null, .null, .int 0, .int 0]) hn ha dTok_init_10 gTok_9 rfl rfl (fun _ => rfl) (fun _ => rfl) rfl ?_
  refine QW.aload_n dTok_init_13 rfl rfl ?_
  refine QW.sipush (v := 201) dTok_init_14 (by decide) ?_
  refine QW.newaN (t := 64) (N := 201) (k := 1) (v := .int 0) (x' := [(64, List.replicate 201 (.int 0)), (64, List.replicate 201 (.int 0))]) hn dTok_init_17 rfl (by decide) (by decide) q_ac_int (by decide) (by decide) (by decide) rfl rfl (by omega) rfl ?_
  refine QW.putFo (fs' := [.ref (n + 0), .ref (n + 1), .null, .int 0, .int 0]) hn ha dTok_init_19 gTok_15 rfl rfl (fun _ => rfl) (fun _ => rfl) rfl ?_
  refine QW.aload_n dTok_init_22 rfl rfl ?_
  refine QW.sipush (v := 201) dTok_init_23 (by decide) ?_
  refine QW.newaN (t := 64) (N := 201) (k := 2) (v := .int 0) (x' := [(64, List.replicate 201 (.int 0)), (64, List.replicate 201 (.int 0)), (64, List.replicate 201 (.int 0))]) hn dTok_init_26 rfl (by decide) (by decide) q_ac_int (by decide) (by decide) (by decide) rfl rfl (by omega) rfl ?_
  refine QW.putFo (fs' := [.ref (n + 0), .ref (n + 1), .ref (n + 2), .int 0, .int 0]) hn ha dTok_init_28 gTok_18 rfl rfl (fun _ => rfl) (fun _ => rfl) rfl ?_
  exact QW.vret dTok_init_31 rfl hp
theorem dRd_init_0 : decode mRd_init.2.1 0 = .ok (.aload_n 0, 1) := by decide +kernel
theorem dRd_init_1 : decode mRd_init.2.1 1 = .ok (.invokespecial 3, 3) := by decide +kernel
theorem dRd_init_4 : decode mRd_init.2.1 4 = .ok (.aload_n 0, 1) := by decide +kernel
theorem dRd_init_5 : decode mRd_init.2.1 5 = .ok (.new 9, 3) := by decide +kernel
theorem dRd_init_8 : decode mRd_init.2.1 8 = .ok (.dup, 1) := by decide +kernel
theorem dRd_init_9 : decode mRd_init.2.1 9 = .ok (.invokespecial 11, 3) := by decide +kernel
theorem dRd_init_12 : decode mRd_init.2.1 12 = .ok (.putfield 12, 3) := by decide +kernel
theorem dRd_init_15 : decode mRd_init.2.1 15 = .ok (.return_, 1) := by decide +kernel
set_option maxRecDepth 20000 in
theorem cRd_init {d a n : Nat} {h : qH} {P : qE → Prop} (hn : h.length = n) (h0 : h[a]? = some (8, [.null])) (hcap : n + 4 ≤ qCap) (hp : P (.inl none, h.set a (8, [.ref (n + 0)]) ++ [(11, [.ref (n + 1), .ref (n + 2), .ref (n + 3), .int 0, .int 0]), (64, List.replicate 201 (.int 0)), (64, List.replicate 201 (.int 0)), (64, List.replicate 201 (.int 0))])) : QW (d + 1) mRd_init 0 (qen 1 [.ref a]) [] h P := by
  have ha : a < n := by rw [← hn]; exact (List.getElem?_eq_some_iff.mp h0).1
  refine QW.hq (h' := h.set a (8, [.null]) ++ []) (by rw [List.append_nil]; exact (q_self h0).symm) ?_
  show QW (d + 1) mRd_init 0 [.val (.ref a)] [] _ P
  refine QW.aload_n dRd_init_0 rfl rfl ?_
  refine QW.objInit dRd_init_1 oRd_3 q_oi q_oc rfl (Nat.le_of_ble_eq_true rfl) ?_
  refine QW.aload_n dRd_init_4 rfl rfl ?_
  refine QW.newN (k := 0) (x' := [(11, [.null, .null, .null, .int 0, .int 0])]) hn dRd_init_5 nRd_9 rfl (by omega) rfl ?_
  refine QW.dup dRd_init_8 rfl ?_
  refine QW.ctorN (M2 := mTok_init) (k := 0) (C2 := (11, [.ref (n + 1), .ref (n + 2), .ref (n + 3), .int 0, .int 0])) (y := [(64, List.replicate 201 (.int 0)), (64, List.replicate 201 (.int 0)), (64, List.replicate 201 (.int 0))]) (x' := [(11, [.ref (n + 1), .ref (n + 2), .ref (n + 3), .int 0, .int 0]), (64, List.replicate 201 (.int 0)), (64, List.replicate 201 (.int 0)), (64, List.replicate 201 (.int 0))]) hn dRd_init_9 rfl rfl rfl kTok_init eTok_init lRd_11 iTok_init rfl rfl (Nat.le_of_ble_eq_true rfl) (fun P1 hp1 => cTok_init (n := n + 1) (by rw [nf_len hn]; rfl) ((nf_get hn 0).trans rfl) (by omega) hp1) rfl ?_
  refine QW.putFo (fs' := [.ref (n + 0)]) hn ha dRd_init_12 gRd_12 rfl rfl (fun _ => rfl) (fun _ => rfl) rfl ?_
  exact QW.vret dRd_init_15 rfl hp
theorem dBl_init_0 : decode mBl_init.2.1 0 = .ok (.aload_n 0, 1) := by decide +kernel
theorem dBl_init_1 : decode mBl_init.2.1 1 = .ok (.invokespecial 3, 3) := by decide +kernel
theorem dBl_init_4 : decode mBl_init.2.1 4 = .ok (.aload_n 0, 1) := by decide +kernel
theorem dBl_init_5 : decode mBl_init.2.1 5 = .ok (.iconst 4, 1) := by decide +kernel
theorem dBl_init_6 : decode mBl_init.2.1 6 = .ok (.newarray .int, 2) := by decide +kernel
theorem dBl_init_8 : decode mBl_init.2.1 8 = .ok (.putfield 9, 3) := by decide +kernel
theorem dBl_init_11 : decode mBl_init.2.1 11 = .ok (.aload_n 0, 1) := by decide +kernel
theorem dBl_init_12 : decode mBl_init.2.1 12 = .ok (.iconst 4, 1) := by decide +kernel
theorem dBl_init_13 : decode mBl_init.2.1 13 = .ok (.newarray .int, 2) := by decide +kernel
theorem dBl_init_15 : decode mBl_init.2.1 15 = .ok (.putfield 15, 3) := by decide +kernel
theorem dBl_init_18 : decode mBl_init.2.1 18 = .ok (.aload_n 0, 1) := by decide +kernel
theorem dBl_init_19 : decode mBl_init.2.1 19 = .ok (.bipush 6, 2) := by decide +kernel
theorem dBl_init_21 : decode mBl_init.2.1 21 = .ok (.newarray .boolean, 2) := by decide +kernel
theorem dBl_init_23 : decode mBl_init.2.1 23 = .ok (.putfield 18, 3) := by decide +kernel
theorem dBl_init_26 : decode mBl_init.2.1 26 = .ok (.aload_n 0, 1) := by decide +kernel
theorem dBl_init_27 : decode mBl_init.2.1 27 = .ok (.bipush 15, 2) := by decide +kernel
theorem dBl_init_29 : decode mBl_init.2.1 29 = .ok (.newarray .int, 2) := by decide +kernel
theorem dBl_init_31 : decode mBl_init.2.1 31 = .ok (.putfield 22, 3) := by decide +kernel
theorem dBl_init_34 : decode mBl_init.2.1 34 = .ok (.aload_n 0, 1) := by decide +kernel
theorem dBl_init_35 : decode mBl_init.2.1 35 = .ok (.bipush 15, 2) := by decide +kernel
theorem dBl_init_37 : decode mBl_init.2.1 37 = .ok (.newarray .int, 2) := by decide +kernel
theorem dBl_init_39 : decode mBl_init.2.1 39 = .ok (.putfield 25, 3) := by decide +kernel
theorem dBl_init_42 : decode mBl_init.2.1 42 = .ok (.aload_n 0, 1) := by decide +kernel
theorem dBl_init_43 : decode mBl_init.2.1 43 = .ok (.bipush 15, 2) := by decide +kernel
theorem dBl_init_45 : decode mBl_init.2.1 45 = .ok (.newarray .int, 2) := by decide +kernel
theorem dBl_init_47 : decode mBl_init.2.1 47 = .ok (.putfield 28, 3) := by decide +kernel
theorem dBl_init_50 : decode mBl_init.2.1 50 = .ok (.return_, 1) := by decide +kernel
set_option maxRecDepth 20000 in
theorem cBl_init {d a n : Nat} {h : qH} {P : qE → Prop} (hn : h.length = n) (h0 : h[a]? = some (2, [.int 0, .int 0, .int 0, .int 0, .null, .null, .null, .null, .null, .null])) (hcap : n + 6 ≤ qCap) (hp : P (.inl none, h.set a (2, [.int 0, .int 0, .int 0, .int 0, .ref (n + 0), .ref (n + 1), .ref (n + 2), .ref (n + 3), .ref (n + 4), .ref (n + 5)]) ++ [(64, List.replicate 4 (.int 0)), (64, List.replicate 4 (.int 0)), (65, List.replicate 6 (.int 0)), (64, List.replicate 15 (.int 0)), (64, List.replicate 15 (.int 0)), (64, List.replicate 15 (.int 0))])) : QW d mBl_init 0 (qen 1 [.ref a]) [] h P := by
  have ha : a < n := by rw [← hn]; exact (List.getElem?_eq_some_iff.mp h0).1
  refine QW.hq (h' := h.set a (2, [.int 0, .int 0, .int 0, .int 0, .null, .null, .null, .null, .null, .null]) ++ []) (by rw [List.append_nil]; exact (q_self h0).symm) ?_
  show QW d mBl_init 0 [.val (.ref a)] [] _ P
  refine QW.aload_n dBl_init_0 rfl rfl ?_
  refine QW.objInit dBl_init_1 oBl_3 q_oi q_oc rfl (Nat.le_of_ble_eq_true rfl) ?_
  refine QW.aload_n dBl_init_4 rfl rfl ?_
  refine QW.iconst (v := 4) dBl_init_5 (by decide) ?_
  refine QW.newaN (t := 64) (N := 4) (k := 0) (v := .int 0) (x' := [(64, List.replicate 4 (.int 0))]) hn dBl_init_6 rfl (by decide) (by decide) q_ac_int (by decide) (by decide) (by decide) rfl rfl (by omega) rfl ?_
  refine QW.putFo (fs' := [.int 0, .int 0, .int 0, .int 0, .ref (n + 0), .null, .null, .null, .null, .null]) hn ha dBl_init_8 gBl_9 rfl rfl (fun _ => rfl) (fun _ => rfl) rfl ?_
  refine QW.aload_n dBl_init_11 rfl rfl ?_
  refine QW.iconst (v := 4) dBl_init_12 (by decide) ?_
  refine QW.newaN (t := 64) (N := 4) (k := 1) (v := .int 0) (x' := [(64, List.replicate 4 (.int 0)), (64, List.replicate 4 (.int 0))]) hn dBl_init_13 rfl (by decide) (by decide) q_ac_int (by decide) (by decide) (by decide) rfl rfl (by omega) rfl ?_
  refine QW.putFo (fs' := [.int 0, .int 0, .int 0, .int 0, .ref (n + 0), .ref (n + 1), .null, .null, .null, .null]) hn ha dBl_init_15 gBl_15 rfl rfl (fun _ => rfl) (fun _ => rfl) rfl ?_
  refine QW.aload_n dBl_init_18 rfl rfl ?_
  refine QW.bipush (v := 6) dBl_init_19 (by decide) ?_
  refine QW.newaN (t := 65) (N := 6) (k := 2) (v := .int 0) (x' := [(64, List.replicate 4 (.int 0)), (64, List.replicate 4 (.int 0)), (65, List.replicate 6 (.int 0))]) hn dBl_init_21 rfl (by decide) (by decide) q_ac_boolean (by decide) (by decide) (by decide) rfl rfl (by omega) rfl ?_
  refine QW.putFo (fs' := [.int 0, .int 0, .int 0, .int 0, .ref (n + 0), .ref (n + 1), .ref (n + 2), .null, .null, .null]) hn ha dBl_init_23 gBl_18 rfl rfl (fun _ => rfl) (fun _ => rfl) rfl ?_
  refine QW.aload_n dBl_init_26 rfl rfl ?_
  refine QW.bipush (v := 15) dBl_init_27 (by decide) ?_
  refine QW.newaN (t := 64) (N := 15) (k := 3) (v := .int 0) (x' := [(64, List.replicate 4 (.int 0)), (64, List.replicate 4 (.int 0)), (65, List.replicate 6 (.int 0)), (64, List.replicate 15 (.int 0))]) hn dBl_init_29 rfl (by decide) (by decide) q_ac_int (by decide) (by decide) (by decide) rfl rfl (by omega) rfl ?_
  refine QW.putFo (fs' := [.int 0, .int 0, .int 0, .int 0, .ref (n + 0), .ref (n + 1), .ref (n + 2), .ref (n + 3), .null, .null]) hn ha dBl_init_31 gBl_22 rfl rfl (fun _ => rfl) (fun _ => rfl) rfl ?_
  refine QW.aload_n dBl_init_34 rfl rfl ?_
  refine QW.bipush (v := 15) dBl_init_35 (by decide) ?_
  refine QW.newaN (t := 64) (N := 15) (k := 4) (v := .int 0) (x' := [(64, List.replicate 4 (.int 0)), (64, List.replicate 4 (.int 0)), (65, List.replicate 6 (.int 0)), (64, List.replicate 15 (.int 0)), (64, List.replicate 15 (.int 0))]) hn dBl_init_37 rfl (by decide) (by decide) q_ac_int (by decide) (by decide) (by decide) rfl rfl (by omega) rfl ?_
  refine QW.putFo (fs' := [.int 0, .int 0, .int 0, .int 0, .ref (n + 0), .ref (n + 1), .ref (n + 2), .ref (n + 3), .ref (n + 4), .null]) hn ha dBl_init_39 gBl_25 rfl rfl (fun _ => rfl) (fun _ => rfl) rfl ?_
  refine QW.aload_n dBl_init_42 rfl rfl ?_
  refine QW.bipush (v := 15) dBl_init_43 (by decide) ?_
  refine QW.newaN (t := 64) (N := 15) (k := 5) (v := .int 0) (x' := [(64, List.replicate 4 (.int 0)), (64, List.replicate 4 (.int 0)), (65, List.replicate 6 (.int 0)), (64, List.replicate 15 (.int 0)), (64, List.replicate 15 (.int 0)), (64, List.replicate 15 (.int 0))]) hn dBl_init_45 rfl (by decide) (by decide) q_ac_int (by decide) (by decide) (by decide) rfl rfl (by omega) rfl ?_
  refine QW.putFo (fs' := [.int 0, .int 0, .int 0, .int 0, .ref (n + 0), .ref (n + 1), .ref (n + 2), .ref (n + 3), .ref (n + 4), .ref (n + 5)]) hn ha dBl_init_47 gBl_28 rfl rfl (fun _ => rfl) (fun _ => rfl) rfl ?_
  exact QW.vret dBl_init_50 rfl hp
theorem dQu_init_0 : decode mQu_init.2.1 0 = .ok (.aload_n 0, 1) := by decide +kernel
theorem dQu_init_1 : decode mQu_init.2.1 1 = .ok (.invokespecial 3, 3) := by decide +kernel
theorem dQu_init_4 : decode mQu_init.2.1 4 = .ok (.aload_n 0, 1) := by decide +kernel
theorem dQu_init_5 : decode mQu_init.2.1 5 = .ok (.iconst 3, 1) := by decide +kernel
theorem dQu_init_6 : decode mQu_init.2.1 6 = .ok (.anewarray 9, 3) := by decide +kernel
theorem dQu_init_9 : decode mQu_init.2.1 9 = .ok (.putfield 11, 3) := by decide +kernel
theorem dQu_init_12 : decode mQu_init.2.1 12 = .ok (.aload_n 0, 1) := by decide +kernel
theorem dQu_init_13 : decode mQu_init.2.1 13 = .ok (.iconst 2, 1) := by decide +kernel
theorem dQu_init_14 : decode mQu_init.2.1 14 = .ok (.newarray .int, 2) := by decide +kernel
theorem dQu_init_16 : decode mQu_init.2.1 16 = .ok (.putfield 17, 3) := by decide +kernel
theorem dQu_init_19 : decode mQu_init.2.1 19 = .ok (.iconst 0, 1) := by decide +kernel
theorem dQu_init_20 : decode mQu_init.2.1 20 = .ok (.istore_n 1, 1) := by decide +kernel
theorem dQu_init_21 : decode mQu_init.2.1 21 = .ok (.iload_n 1, 1) := by decide +kernel
theorem dQu_init_22 : decode mQu_init.2.1 22 = .ok (.iconst 3, 1) := by decide +kernel
theorem dQu_init_23 : decode mQu_init.2.1 23 = .ok (.if_icmp .ge 22, 3) := by decide +kernel
theorem dQu_init_26 : decode mQu_init.2.1 26 = .ok (.aload_n 0, 1) := by decide +kernel
theorem dQu_init_27 : decode mQu_init.2.1 27 = .ok (.getfield 11, 3) := by decide +kernel
theorem dQu_init_30 : decode mQu_init.2.1 30 = .ok (.iload_n 1, 1) := by decide +kernel
theorem dQu_init_31 : decode mQu_init.2.1 31 = .ok (.new 9, 3) := by decide +kernel
theorem dQu_init_34 : decode mQu_init.2.1 34 = .ok (.dup, 1) := by decide +kernel
theorem dQu_init_35 : decode mQu_init.2.1 35 = .ok (.invokespecial 21, 3) := by decide +kernel
theorem dQu_init_38 : decode mQu_init.2.1 38 = .ok (.aastore, 1) := by decide +kernel
theorem dQu_init_39 : decode mQu_init.2.1 39 = .ok (.iinc 1 1, 3) := by decide +kernel
theorem dQu_init_42 : decode mQu_init.2.1 42 = .ok (.goto (-21), 3) := by decide +kernel
theorem dQu_init_45 : decode mQu_init.2.1 45 = .ok (.return_, 1) := by decide +kernel
set_option maxRecDepth 20000 in
theorem cQu_init {d a n : Nat} {h : qH} {P : qE → Prop} (hn : h.length = n) (h0 : h[a]? = some (7, [.int 0, .null, .null])) (hcap : n + 23 ≤ qCap) (hp : P (.inl none, h.set a (7, [.int 0, .ref (n + 0), .ref (n + 1)]) ++ [(70, [.ref (n + 2), .ref (n + 9), .ref (n + 16)]), (64, List.replicate 2 (.int 0)), (2, [.int 0, .int 0, .int 0, .int 0, .ref (n + 3), .ref (n + 4), .ref (n + 5), .ref (n + 6), .ref (n + 7), .ref (n + 8)]), (64, List.replicate 4 (.int 0)), (64, List.replicate 4 (.int 0)), (65, List.replicate 6 (.int 0)), (64, List.replicate 15 (.int 0)), (64, List.replicate 15 (.int 0)), (64, List.replicate 15 (.int 0)), (2, [.int 0, .int 0, .int 0, .int 0, .ref (n + 10), .ref (n + 11), .ref (n + 12), .ref (n + 13), .ref (n + 14), .ref (n + 15)]), (64, List.replicate 4 (.int 0)), (64, List.replicate 4 (.int 0)), (65, List.replicate 6 (.int 0)), (64, List.replicate 15 (.int 0)), (64, List.replicate 15 (.int 0)), (64, List.replicate 15 (.int 0)), (2, [.int 0, .int 0, .int 0, .int 0, .ref (n + 17), .ref (n + 18), .ref (n + 19), .ref (n + 20), .ref (n + 21), .ref (n + 22)]), (64, List.replicate 4 (.int 0)), (64, List.replicate 4 (.int 0)), (65, List.replicate 6 (.int 0)), (64, List.replicate 15 (.int 0)), (64, List.replicate 15 (.int 0)), (64, List.replicate 15 (.int 0))])) : QW (d + 1) mQu_init 0 (qen 2 [.ref a]) [] h P := by
  have ha : a < n := by rw [← hn]; exact (List.getElem?_eq_some_iff.mp h0).1
  refine QW.hq (h' := h.set a (7, [.int 0, .null, .null]) ++ []) (by rw [List.append_nil]; exact (q_self h0).symm) ?_
  show QW (d + 1) mQu_init 0 [.val (.ref a), .unset] [] _ P
  refine QW.aload_n dQu_init_0 rfl rfl ?_
  refine QW.objInit dQu_init_1 oQu_3 q_oi q_oc rfl (Nat.le_of_ble_eq_true rfl) ?_
  refine QW.aload_n dQu_init_4 rfl rfl ?_
  refine QW.iconst (v := 3) dQu_init_5 (by decide) ?_
  refine QW.newqN (t := 70) (N := 3) (k := 0) (x' := [(70, [.null, .null, .null])]) hn dQu_init_6 rfl (by decide) (by decide) (q_tw 137 (by decide +kernel)) q_ao_Block (by decide) (by decide) (by decide) rfl (by omega) rfl ?_
  refine QW.putFo (fs' := [.int 0, .ref (n + 0), .null]) hn ha dQu_init_9 gQu_11 rfl rfl (fun _ => rfl) (fun _ => rfl) rfl ?_
  refine QW.aload_n dQu_init_12 rfl rfl ?_
  refine QW.iconst (v := 2) dQu_init_13 (by decide) ?_
  refine QW.newaN (t := 64) (N := 2) (k := 1) (v := .int 0) (x' := [(70, [.null, .null, .null]), (64, List.replicate 2 (.int 0))]) hn dQu_init_14 rfl (by decide) (by decide) q_ac_int (by decide) (by decide) (by decide) rfl rfl (by omega) rfl ?_
  refine QW.putFo (fs' := [.int 0, .ref (n + 0), .ref (n + 1)]) hn ha dQu_init_16 gQu_17 rfl rfl (fun _ => rfl) (fun _ => rfl) rfl ?_
  refine QW.iconst (v := 0) dQu_init_19 (by decide) ?_
  refine QW.istore_n (ls' := [.val (.ref a), .val (.int 0)]) dQu_init_20 rfl rfl ?_
  refine QW.iload_n dQu_init_21 rfl rfl ?_
  refine QW.iconst (v := 3) dQu_init_22 (by decide) ?_
  refine QW.icmp_ge (tgt := 45) dQu_init_23 (by decide) (fun z => absurd z (by decide)) (fun _ => ?_)
  refine QW.aload_n dQu_init_26 rfl rfl ?_
  refine QW.getfo hn ha dQu_init_27 fQu_11 rfl ?_
  refine QW.iload_n dQu_init_30 rfl rfl ?_
  refine QW.newN (k := 2) (x' := [(70, [.null, .null, .null]), (64, List.replicate 2 (.int 0)), (2, [.int 0, .int 0, .int 0, .int 0, .null, .null, .null, .null, .null, .null])]) hn dQu_init_31 nQu_9 rfl (by omega) rfl ?_
  refine QW.dup dQu_init_34 rfl ?_
  refine QW.ctorN (M2 := mBl_init) (k := 2) (C2 := (2, [.int 0, .int 0, .int 0, .int 0, .ref (n + 3), .ref (n + 4), .ref (n + 5), .ref (n + 6), .ref (n + 7), .ref (n + 8)])) (y := [(64, List.replicate 4 (.int 0)), (64, List.replicate 4 (.int 0)), (65, List.replicate 6 (.int 0)), (64, List.replicate 15 (.int 0)), (64, List.replicate 15 (.int 0)), (64, List.replicate 15 (.int 0))]) (x' := [(70, [.null, .null, .null]), (64, List.replicate 2 (.int 0)), (2, [.int 0, .int 0, .int 0, .int 0, .ref (n + 3), .ref (n + 4), .ref (n + 5), .ref (n + 6), .ref (n + 7), .ref (n + 8)]), (64, List.replicate 4 (.int 0)), (64, List.replicate 4 (.int 0)), (65, List.replicate 6 (.int 0)), (64, List.replicate 15 (.int 0)), (64, List.replicate 15 (.int 0)), (64, List.replicate 15 (.int 0))]) hn dQu_init_35 rfl rfl rfl kBl_init eBl_init lQu_21 iBl_init rfl rfl (Nat.le_of_ble_eq_true rfl) (fun P1 hp1 => cBl_init (n := n + 3) (by rw [nf_len hn]; rfl) ((nf_get hn 2).trans rfl) (by omega) hp1) rfl ?_
  refine QW.aastN (k := 0) (j := 2) (x' := [(70, [.ref (n + 2), .null, .null]), (64, List.replicate 2 (.int 0)), (2, [.int 0, .int 0, .int 0, .int 0, .ref (n + 3), .ref (n + 4), .ref (n + 5), .ref (n + 6), .ref (n + 7), .ref (n + 8)]), (64, List.replicate 4 (.int 0)), (64, List.replicate 4 (.int 0)), (65, List.replicate 6 (.int 0)), (64, List.replicate 15 (.int 0)), (64, List.replicate 15 (.int 0)), (64, List.replicate 15 (.int 0))]) hn dQu_init_38 rfl rfl (by decide) (by decide) rfl rfl rfl (by decide) rfl rfl ?_
  refine QW.iincN (v := 1) (ls' := [.val (.ref a), .val (.int 1)]) dQu_init_39 rfl (by decide) rfl ?_
  refine QW.goto (tgt := 21) dQu_init_42 (by decide) ?_
  refine QW.iload_n dQu_init_21 rfl rfl ?_
  refine QW.iconst (v := 3) dQu_init_22 (by decide) ?_
  refine QW.icmp_ge (tgt := 45) dQu_init_23 (by decide) (fun z => absurd z (by decide)) (fun _ => ?_)
  refine QW.aload_n dQu_init_26 rfl rfl ?_
  refine QW.getfo hn ha dQu_init_27 fQu_11 rfl ?_
  refine QW.iload_n dQu_init_30 rfl rfl ?_
  refine QW.newN (k := 9) (x' := [(70, [.ref (n + 2), .null, .null]), (64, List.replicate 2 (.int 0)), (2, [.int 0, .int 0, .int 0, .int 0, .ref (n + 3), .ref (n + 4), .ref (n + 5), .ref (n + 6), .ref (n + 7), .ref (n + 8)]), (64, List.replicate 4 (.int 0)), (64, List.replicate 4 (.int 0)), (65, List.replicate 6 (.int 0)), (64, List.replicate 15 (.int 0)), (64, List.replicate 15 (.int 0)), (64, List.replicate 15 (.int 0)), (2, [.int 0, .int 0, .int 0, .int 0, .null, .null, .null, .null, .null, .null])]) hn dQu_init_31 nQu_9 rfl (by omega) rfl ?_
  refine QW.dup dQu_init_34 rfl ?_
  refine QW.ctorN (M2 := mBl_init) (k := 9) (C2 := (2, [.int 0, .int 0, .int 0, .int 0, .ref (n + 10), .ref (n + 11), .ref (n + 12), .ref (n + 13), .ref (n + 14), .ref (n + 15)])) (y := [(64, List.replicate 4 (.int 0)), (64, List.replicate 4 (.int 0)), (65, List.replicate 6 (.int 0)), (64, List.replicate 15 (.int 0)), (64, List.replicate 15 (.int 0)), (64, List.replicate 15 (.int 0))]) (x' := [(70, [.ref (n + 2), .null, .null]), (64, List.replicate 2 (.int 0)), (2, [.int 0, .int 0, .int 0, .int 0, .ref (n + 3), .ref (n + 4), .ref (n + 5), .ref (n + 6), .ref (n + 7), .ref (n + 8)]), (64, List.replicate 4 (.int 0)), (64, List.replicate 4 (.int 0)), (65, List.replicate 6 (.int 0)), (64, List.replicate 15 (.int 0)), (64, List.replicate 15 (.int 0)), (64, List.replicate 15 (.int 0)), (2, [.int 0, .int 0, .int 0, .int 0, .ref (n + 10), .ref (n + 11), .ref (n + 12), .ref (n + 13), .ref (n + 14), .ref (n + 15)]), (64, List.replicate 4 (.int 0)), (64, List.replicate 4 (.int 0)), (65, List.replicate 6 (.int 0)), (64, List.replicate 15 (.int 0)), (64, List.replicate 15 (.int 0)), (64, List.replicate 15 (.int 0))]) hn dQu_init_35 rfl rfl rfl kBl_init eBl_init lQu_21 iBl_init rfl rfl (Nat.le_of_ble_eq_true rfl) (fun P1 hp1 => cBl_init (n := n + 10) (by rw [nf_len hn]; rfl) ((nf_get hn 9).trans rfl) (by omega) hp1) rfl ?_
  refine QW.aastN (k := 0) (j := 9) (x' := [(70, [.ref (n + 2), .ref (n + 9), .null]), (64, List.replicate 2 (.int 0)), (2, [.int 0, .int 0, .int 0, .int 0, .ref (n + 3), .ref (n + 4), .ref (n + 5), .ref (n + 6), .ref (n + 7), .ref (n + 8)]), (64, List.replicate 4 (.int 0)), (64, List.replicate 4 (.int 0)), (65, List.replicate 6 (.int 0)), (64, List.replicate 15 (.int 0)), (64, List.replicate 15 (.int 0)), (64, List.replicate 15 (.int 0)), (2, [.int 0, .int 0, .int 0, .int 0, .ref (n + 10), .ref (n + 11), .ref (n + 12), .ref (n + 13), .ref (n + 14), .ref (n + 15)]), (64, List.replicate 4 (.int 0)), (64, List.replicate 4 (.int 0)), (65, List.replicate 6 (.int 0)), (64, List.replicate 15 (.int 0)), (64, List.replicate 15 (.int 0)), (64, List.replicate 15 (.int 0))]) hn dQu_init_38 rfl rfl (by decide) (by decide) rfl rfl rfl (by decide) rfl rfl ?_
  refine QW.iincN (v := 2) (ls' := [.val (.ref a), .val (.int 2)]) dQu_init_39 rfl (by decide) rfl ?_
  refine QW.goto (tgt := 21) dQu_init_42 (by decide) ?_
  refine QW.iload_n dQu_init_21 rfl rfl ?_
  refine QW.iconst (v := 3) dQu_init_22 (by decide) ?_
  refine QW.icmp_ge (tgt := 45) dQu_init_23 (by decide) (fun z => absurd z (by decide)) (fun _ => ?_)
  refine QW.aload_n dQu_init_26 rfl rfl ?_
  refine QW.getfo hn ha dQu_init_27 fQu_11 rfl ?_
  refine QW.iload_n dQu_init_30 rfl rfl ?_
  refine QW.newN (k := 16) (x' := [(70, [.ref (n + 2), .ref (n + 9), .null]), (64, List.replicate 2 (.int 0)), (2, [.int 0, .int 0, .int 0, .int 0, .ref (n + 3), .ref (n + 4), .ref (n + 5), .ref (n + 6), .ref (n + 7), .ref (n + 8)]), (64, List.replicate 4 (.int 0)), (64, List.replicate 4 (.int 0)), (65, List.replicate 6 (.int 0)), (64, List.replicate 15 (.int 0)), (64, List.replicate 15 (.int 0)), (64, List.replicate 15 (.int 0)), (2, [.int 0, .int 0, .int 0, .int 0, .ref (n + 10), .ref (n + 11), .ref (n + 12), .ref (n + 13), .ref (n + 14), .ref (n + 15)]), (64, List.replicate 4 (.int 0)), (64, List.replicate 4 (.int 0)), (65, List.replicate 6 (.int 0)), (64, List.replicate 15 (.int 0)), (64, List.replicate 15 (.int 0)), (64, List.replicate 15 (.int 0)), (2, [.int 0, .int 0, .int 0, .int 0, .null, .null, .null, .null, .null, .null])]) hn dQu_init_31 nQu_9 rfl (by omega) rfl ?_
  refine QW.dup dQu_init_34 rfl ?_
  refine QW.ctorN (M2 := mBl_init) (k := 16) (C2 := (2, [.int 0, .int 0, .int 0, .int 0, .ref (n + 17), .ref (n + 18), .ref (n + 19), .ref (n + 20), .ref (n + 21), .ref (n + 22)])) (y := [(64, List.replicate 4 (.int 0)), (64, List.replicate 4 (.int 0)), (65, List.replicate 6 (.int 0)), (64, List.replicate 15 (.int 0)), (64, List.replicate 15 (.int 0)), (64, List.replicate 15 (.int 0))]) (x' := [(70, [.ref (n + 2), .ref (n + 9), .null]), (64, List.replicate 2 (.int 0)), (2, [.int 0, .int 0, .int 0, .int 0, .ref (n + 3), .ref (n + 4), .ref (n + 5), .ref (n + 6), .ref (n + 7), .ref (n + 8)]), (64, List.replicate 4 (.int 0)), (64, List.replicate 4 (.int 0)), (65, List.replicate 6 (.int 0)), (64, List.replicate 15 (.int 0)), (64, List.replicate 15 (.int 0)), (64, List.replicate 15 (.int 0)), (2, [.int 0, .int 0, .int 0, .int 0, .ref (n + 10), .ref (n + 11), .ref (n + 12), .ref (n + 13), .ref (n + 14), .ref (n + 15)]), (64, List.replicate 4 (.int 0)), (64, List.replicate 4 (.int 0)), (65, List.replicate 6 (.int 0)), (64, List.replicate 15 (.int 0)), (64, List.replicate 15 (.int 0)), (64, List.replicate 15 (.int 0)), (2, [.int 0, .int 0, .int 0, .int 0, .ref (n + 17), .ref (n + 18), .ref (n + 19), .ref (n + 20), .ref (n + 21), .ref (n + 22)]), (64, List.replicate 4 (.int 0)), (64, List.replicate 4 (.int 0)), (65, List.replicate 6 (.int 0)), (64, List.replicate 15 (.int 0)), (64, List.replicate 15 (.int 0)), (64, List.replicate 15 (.int 0))]) hn dQu_init_35 rfl rfl rfl kBl_init eBl_init lQu_21 iBl_init rfl rfl (Nat.le_of_ble_eq_true rfl) (fun P1 hp1 => cBl_init (n := n + 17) (by rw [nf_len hn]; rfl) ((nf_get hn 16).trans rfl) (by omega) hp1) rfl ?_
  refine QW.aastN (k := 0) (j := 16) (x' := [(70, [.ref (n + 2), .ref (n + 9), .ref (n + 16)]), (64, List.replicate 2 (.int 0)), (2, [.int 0, .int 0, .int 0, .int 0, .ref (n + 3), .ref (n + 4), .ref (n + 5), .ref (n + 6), .ref (n + 7), .ref (n + 8)]), (64, List.replicate 4 (.int 0)), (64, List.replicate 4 (.int 0)), (65, List.replicate 6 (.int 0)), (64, List.replicate 15 (.int 0)), (64, List.replicate 15 (.int 0)), (64, List.replicate 15 (.int 0)), (2, [.int 0, .int 0, .int 0, .int 0, .ref (n + 10), .ref (n + 11), .ref (n + 12), .ref (n + 13), .ref (n + 14), .ref (n + 15)]), (64, List.replicate 4 (.int 0)), (64, List.replicate 4 (.int 0)), (65, List.replicate 6 (.int 0)), (64, List.replicate 15 (.int 0)), (64, List.replicate 15 (.int 0)), (64, List.replicate 15 (.int 0)), (2, [.int 0, .int 0, .int 0, .int 0, .ref (n + 17), .ref (n + 18), .ref (n + 19), .ref (n + 20), .ref (n + 21), .ref (n + 22)]), (64, List.replicate 4 (.int 0)), (64, List.replicate 4 (.int 0)), (65, List.replicate 6 (.int 0)), (64, List.replicate 15 (.int 0)), (64, List.replicate 15 (.int 0)), (64, List.replicate 15 (.int 0))]) hn dQu_init_38 rfl rfl (by decide) (by decide) rfl rfl rfl (by decide) rfl rfl ?_
  refine QW.iincN (v := 3) (ls' := [.val (.ref a), .val (.int 3)]) dQu_init_39 rfl (by decide) rfl ?_
  refine QW.goto (tgt := 21) dQu_init_42 (by decide) ?_
  refine QW.iload_n dQu_init_21 rfl rfl ?_
  refine QW.iconst (v := 3) dQu_init_22 (by decide) ?_
  refine QW.icmp_ge (tgt := 45) dQu_init_23 (by decide) (fun _ => ?_) (fun z => absurd z (by decide))
  exact QW.vret dQu_init_45 rfl hp
theorem dPlan_init_0 : decode mPlan_init.2.1 0 = .ok (.aload_n 0, 1) := by decide +kernel
theorem dPlan_init_1 : decode mPlan_init.2.1 1 = .ok (.invokespecial 3, 3) := by decide +kernel
theorem dPlan_init_4 : decode mPlan_init.2.1 4 = .ok (.aload_n 0, 1) := by decide +kernel
theorem dPlan_init_5 : decode mPlan_init.2.1 5 = .ok (.iconst 4, 1) := by decide +kernel
theorem dPlan_init_6 : decode mPlan_init.2.1 6 = .ok (.newarray .int, 2) := by decide +kernel
theorem dPlan_init_8 : decode mPlan_init.2.1 8 = .ok (.putfield 9, 3) := by decide +kernel
theorem dPlan_init_11 : decode mPlan_init.2.1 11 = .ok (.aload_n 0, 1) := by decide +kernel
theorem dPlan_init_12 : decode mPlan_init.2.1 12 = .ok (.iconst 4, 1) := by decide +kernel
theorem dPlan_init_13 : decode mPlan_init.2.1 13 = .ok (.newarray .boolean, 2) := by decide +kernel
theorem dPlan_init_15 : decode mPlan_init.2.1 15 = .ok (.putfield 15, 3) := by decide +kernel
theorem dPlan_init_18 : decode mPlan_init.2.1 18 = .ok (.aload_n 0, 1) := by decide +kernel
theorem dPlan_init_19 : decode mPlan_init.2.1 19 = .ok (.bipush 6, 2) := by decide +kernel
theorem dPlan_init_21 : decode mPlan_init.2.1 21 = .ok (.newarray .int, 2) := by decide +kernel
theorem dPlan_init_23 : decode mPlan_init.2.1 23 = .ok (.putfield 19, 3) := by decide +kernel
theorem dPlan_init_26 : decode mPlan_init.2.1 26 = .ok (.aload_n 0, 1) := by decide +kernel
theorem dPlan_init_27 : decode mPlan_init.2.1 27 = .ok (.iconst 3, 1) := by decide +kernel
theorem dPlan_init_28 : decode mPlan_init.2.1 28 = .ok (.newarray .int, 2) := by decide +kernel
theorem dPlan_init_30 : decode mPlan_init.2.1 30 = .ok (.putfield 22, 3) := by decide +kernel
theorem dPlan_init_33 : decode mPlan_init.2.1 33 = .ok (.return_, 1) := by decide +kernel
set_option maxRecDepth 20000 in
theorem cPlan_init {d a n : Nat} {h : qH} {P : qE → Prop} (hn : h.length = n) (h0 : h[a]? = some (6, [.null, .null, .null, .null])) (hcap : n + 4 ≤ qCap) (hp : P (.inl none, h.set a (6, [.ref (n + 0), .ref (n + 1), .ref (n + 2), .ref (n + 3)]) ++ [(64, List.replicate 4 (.int 0)), (65, List.replicate 4 (.int 0)), (64, List.replicate 6 (.int 0)), (64, List.replicate 3 (.int 0))])) : QW d mPlan_init 0 (qen 1 [.ref a]) [] h P := by
  have ha : a < n := by rw [← hn]; exact (List.getElem?_eq_some_iff.mp h0).1
  refine QW.hq (h' := h.set a (6, [.null, .null, .null, .null]) ++ []) (by rw [List.append_nil]; exact (q_self h0).symm) ?_
  show QW d mPlan_init 0 [.val (.ref a)] [] _ P
  refine QW.aload_n dPlan_init_0 rfl rfl ?_
  refine QW.objInit dPlan_init_1 oPlan_3 q_oi q_oc rfl (Nat.le_of_ble_eq_true rfl) ?_
  refine QW.aload_n dPlan_init_4 rfl rfl ?_
  refine QW.iconst (v := 4) dPlan_init_5 (by decide) ?_
  refine QW.newaN (t := 64) (N := 4) (k := 0) (v := .int 0) (x' := [(64, List.replicate 4 (.int 0))]) hn dPlan_init_6 rfl (by decide) (by decide) q_ac_int (by decide) (by decide) (by decide) rfl rfl (by omega) rfl ?_
  refine QW.putFo (fs' := [.ref (n + 0), .null, .null, .null]) hn ha dPlan_init_8 gPlan_9 rfl rfl (fun _ => rfl) (fun _ => rfl) rfl ?_
  refine QW.aload_n dPlan_init_11 rfl rfl ?_
  refine QW.iconst (v := 4) dPlan_init_12 (by decide) ?_
  refine QW.newaN (t := 65) (N := 4) (k := 1) (v := .int 0) (x' := [(64, List.replicate 4 (.int 0)), (65, List.replicate 4 (.int 0))]) hn dPlan_init_13 rfl (by decide) (by decide) q_ac_boolean (by decide) (by decide) (by decide) rfl rfl (by omega) rfl ?_
  refine QW.putFo (fs' := [.ref (n + 0), .ref (n + 1), .null, .null]) hn ha dPlan_init_15 gPlan_15 rfl rfl (fun _ => rfl) (fun _ => rfl) rfl ?_
  refine QW.aload_n dPlan_init_18 rfl rfl ?_
  refine QW.bipush (v := 6) dPlan_init_19 (by decide) ?_
  refine QW.newaN (t := 64) (N := 6) (k := 2) (v := .int 0) (x' := [(64, List.replicate 4 (.int 0)), (65, List.replicate 4 (.int 0)), (64, List.replicate 6 (.int 0))]) hn dPlan_init_21 rfl (by decide) (by decide) q_ac_int (by decide) (by decide) (by decide) rfl rfl (by omega) rfl ?_
  refine QW.putFo (fs' := [.ref (n + 0), .ref (n + 1), .ref (n + 2), .null]) hn ha dPlan_init_23 gPlan_19 rfl rfl (fun _ => rfl) (fun _ => rfl) rfl ?_
  refine QW.aload_n dPlan_init_26 rfl rfl ?_
  refine QW.iconst (v := 3) dPlan_init_27 (by decide) ?_
  refine QW.newaN (t := 64) (N := 3) (k := 3) (v := .int 0) (x' := [(64, List.replicate 4 (.int 0)), (65, List.replicate 4 (.int 0)), (64, List.replicate 6 (.int 0)), (64, List.replicate 3 (.int 0))]) hn dPlan_init_28 rfl (by decide) (by decide) q_ac_int (by decide) (by decide) (by decide) rfl rfl (by omega) rfl ?_
  refine QW.putFo (fs' := [.ref (n + 0), .ref (n + 1), .ref (n + 2), .ref (n + 3)]) hn ha dPlan_init_30 gPlan_22 rfl rfl (fun _ => rfl) (fun _ => rfl) rfl ?_
  exact QW.vret dPlan_init_33 rfl hp
theorem dBag_init_0 : decode mBag_init.2.1 0 = .ok (.aload_n 0, 1) := by decide +kernel
theorem dBag_init_1 : decode mBag_init.2.1 1 = .ok (.invokespecial 3, 3) := by decide +kernel
theorem dBag_init_4 : decode mBag_init.2.1 4 = .ok (.aload_n 0, 1) := by decide +kernel
theorem dBag_init_5 : decode mBag_init.2.1 5 = .ok (.sipush 192, 3) := by decide +kernel
theorem dBag_init_8 : decode mBag_init.2.1 8 = .ok (.newarray .int, 2) := by decide +kernel
theorem dBag_init_10 : decode mBag_init.2.1 10 = .ok (.putfield 9, 3) := by decide +kernel
theorem dBag_init_13 : decode mBag_init.2.1 13 = .ok (.aload_n 0, 1) := by decide +kernel
theorem dBag_init_14 : decode mBag_init.2.1 14 = .ok (.bipush 64, 2) := by decide +kernel
theorem dBag_init_16 : decode mBag_init.2.1 16 = .ok (.newarray .int, 2) := by decide +kernel
theorem dBag_init_18 : decode mBag_init.2.1 18 = .ok (.putfield 15, 3) := by decide +kernel
theorem dBag_init_21 : decode mBag_init.2.1 21 = .ok (.return_, 1) := by decide +kernel
set_option maxRecDepth 20000 in
theorem cBag_init {d a n : Nat} {h : qH} {P : qE → Prop} (hn : h.length = n) (h0 : h[a]? = some (1, [.int 0, .int 0, .null, .null])) (hcap : n + 2 ≤ qCap) (hp : P (.inl none, h.set a (1, [.int 0, .int 0, .ref (n + 0), .ref (n + 1)]) ++ [(64, List.replicate 192 (.int 0)), (64, List.replicate 64 (.int 0))])) : QW d mBag_init 0 (qen 1 [.ref a]) [] h P := by
  have ha : a < n := by rw [← hn]; exact (List.getElem?_eq_some_iff.mp h0).1
  refine QW.hq (h' := h.set a (1, [.int 0, .int 0, .null, .null]) ++ []) (by rw [List.append_nil]; exact (q_self h0).symm) ?_
  show QW d mBag_init 0 [.val (.ref a)] [] _ P
  refine QW.aload_n dBag_init_0 rfl rfl ?_
  refine QW.objInit dBag_init_1 oBag_3 q_oi q_oc rfl (Nat.le_of_ble_eq_true rfl) ?_
  refine QW.aload_n dBag_init_4 rfl rfl ?_
  refine QW.sipush (v := 192) dBag_init_5 (by decide) ?_
  refine QW.newaN (t := 64) (N := 192) (k := 0) (v := .int 0) (x' := [(64, List.replicate 192 (.int 0))]) hn dBag_init_8 rfl (by decide) (by decide) q_ac_int (by decide) (by decide) (by decide) rfl rfl (by omega) rfl ?_
  refine QW.putFo (fs' := [.int 0, .int 0, .ref (n + 0), .null]) hn ha dBag_init_10 gBag_9 rfl rfl (fun _ => rfl) (fun _ => rfl) rfl ?_
  refine QW.aload_n dBag_init_13 rfl rfl ?_
  refine QW.bipush (v := 64) dBag_init_14 (by decide) ?_
  refine QW.newaN (t := 64) (N := 64) (k := 1) (v := .int 0) (x' := [(64, List.replicate 192 (.int 0)), (64, List.replicate 64 (.int 0))]) hn dBag_init_16 rfl (by decide) (by decide) q_ac_int (by decide) (by decide) (by decide) rfl rfl (by omega) rfl ?_
  refine QW.putFo (fs' := [.int 0, .int 0, .ref (n + 0), .ref (n + 1)]) hn ha dBag_init_18 gBag_15 rfl rfl (fun _ => rfl) (fun _ => rfl) rfl ?_
  exact QW.vret dBag_init_21 rfl hp
theorem dNf_init_0 : decode mNf_init.2.1 0 = .ok (.aload_n 0, 1) := by decide +kernel
theorem dNf_init_1 : decode mNf_init.2.1 1 = .ok (.invokespecial 3, 3) := by decide +kernel
theorem dNf_init_4 : decode mNf_init.2.1 4 = .ok (.aload_n 0, 1) := by decide +kernel
theorem dNf_init_5 : decode mNf_init.2.1 5 = .ok (.iconst 3, 1) := by decide +kernel
theorem dNf_init_6 : decode mNf_init.2.1 6 = .ok (.newarray .int, 2) := by decide +kernel
theorem dNf_init_8 : decode mNf_init.2.1 8 = .ok (.putfield 9, 3) := by decide +kernel
theorem dNf_init_11 : decode mNf_init.2.1 11 = .ok (.aload_n 0, 1) := by decide +kernel
theorem dNf_init_12 : decode mNf_init.2.1 12 = .ok (.bipush 6, 2) := by decide +kernel
theorem dNf_init_14 : decode mNf_init.2.1 14 = .ok (.newarray .int, 2) := by decide +kernel
theorem dNf_init_16 : decode mNf_init.2.1 16 = .ok (.putfield 15, 3) := by decide +kernel
theorem dNf_init_19 : decode mNf_init.2.1 19 = .ok (.aload_n 0, 1) := by decide +kernel
theorem dNf_init_20 : decode mNf_init.2.1 20 = .ok (.bipush 6, 2) := by decide +kernel
theorem dNf_init_22 : decode mNf_init.2.1 22 = .ok (.newarray .int, 2) := by decide +kernel
theorem dNf_init_24 : decode mNf_init.2.1 24 = .ok (.putfield 18, 3) := by decide +kernel
theorem dNf_init_27 : decode mNf_init.2.1 27 = .ok (.aload_n 0, 1) := by decide +kernel
theorem dNf_init_28 : decode mNf_init.2.1 28 = .ok (.iconst 4, 1) := by decide +kernel
theorem dNf_init_29 : decode mNf_init.2.1 29 = .ok (.newarray .int, 2) := by decide +kernel
theorem dNf_init_31 : decode mNf_init.2.1 31 = .ok (.putfield 21, 3) := by decide +kernel
theorem dNf_init_34 : decode mNf_init.2.1 34 = .ok (.aload_n 0, 1) := by decide +kernel
theorem dNf_init_35 : decode mNf_init.2.1 35 = .ok (.iconst 4, 1) := by decide +kernel
theorem dNf_init_36 : decode mNf_init.2.1 36 = .ok (.newarray .int, 2) := by decide +kernel
theorem dNf_init_38 : decode mNf_init.2.1 38 = .ok (.putfield 24, 3) := by decide +kernel
theorem dNf_init_41 : decode mNf_init.2.1 41 = .ok (.aload_n 0, 1) := by decide +kernel
theorem dNf_init_42 : decode mNf_init.2.1 42 = .ok (.iconst 4, 1) := by decide +kernel
theorem dNf_init_43 : decode mNf_init.2.1 43 = .ok (.newarray .int, 2) := by decide +kernel
theorem dNf_init_45 : decode mNf_init.2.1 45 = .ok (.putfield 27, 3) := by decide +kernel
theorem dNf_init_48 : decode mNf_init.2.1 48 = .ok (.aload_n 0, 1) := by decide +kernel
theorem dNf_init_49 : decode mNf_init.2.1 49 = .ok (.bipush 15, 2) := by decide +kernel
theorem dNf_init_51 : decode mNf_init.2.1 51 = .ok (.newarray .int, 2) := by decide +kernel
theorem dNf_init_53 : decode mNf_init.2.1 53 = .ok (.putfield 30, 3) := by decide +kernel
theorem dNf_init_56 : decode mNf_init.2.1 56 = .ok (.aload_n 0, 1) := by decide +kernel
theorem dNf_init_57 : decode mNf_init.2.1 57 = .ok (.bipush 27, 2) := by decide +kernel
theorem dNf_init_59 : decode mNf_init.2.1 59 = .ok (.newarray .int, 2) := by decide +kernel
theorem dNf_init_61 : decode mNf_init.2.1 61 = .ok (.putfield 33, 3) := by decide +kernel
theorem dNf_init_64 : decode mNf_init.2.1 64 = .ok (.aload_n 0, 1) := by decide +kernel
theorem dNf_init_65 : decode mNf_init.2.1 65 = .ok (.bipush 27, 2) := by decide +kernel
theorem dNf_init_67 : decode mNf_init.2.1 67 = .ok (.newarray .int, 2) := by decide +kernel
theorem dNf_init_69 : decode mNf_init.2.1 69 = .ok (.putfield 36, 3) := by decide +kernel
theorem dNf_init_72 : decode mNf_init.2.1 72 = .ok (.return_, 1) := by decide +kernel
set_option maxRecDepth 20000 in
theorem cNf_init {d a n : Nat} {h : qH} {P : qE → Prop} (hn : h.length = n) (h0 : h[a]? = some (4, [.int 0, .int 0, .int 0, .null, .int 0, .null, .null, .int 0, .null, .null, .null, .int 0, .null, .null, .null])) (hcap : n + 9 ≤ qCap) (hp : P (.inl none, h.set a (4, [.int 0, .int 0, .int 0, .ref (n + 0), .int 0, .ref (n + 1), .ref (n + 2), .int 0, .ref (n + 3), .ref (n + 4), .ref (n + 5), .int 0, .ref (n + 6), .ref (n + 7), .ref (n + 8)]) ++ [(64, List.replicate 3 (.int 0)), (64, List.replicate 6 (.int 0)), (64, List.replicate 6 (.int 0)), (64, List.replicate 4 (.int 0)), (64, List.replicate 4 (.int 0)), (64, List.replicate 4 (.int 0)), (64, List.replicate 15 (.int 0)), (64, List.replicate 27 (.int 0)), (64, List.replicate 27 (.int 0))])) : QW d mNf_init 0 (qen 1 [.ref a]) [] h P := by
  have ha : a < n := by rw [← hn]; exact (List.getElem?_eq_some_iff.mp h0).1
  refine QW.hq (h' := h.set a (4, [.int 0, .int 0, .int 0, .null, .int 0, .null, .null, .int 0, .null, .null, .null, .int 0, .null, .null, .null]) ++ []) (by rw [List.append_nil]; exact (q_self h0).symm) ?_
  show QW d mNf_init 0 [.val (.ref a)] [] _ P
  refine QW.aload_n dNf_init_0 rfl rfl ?_
  refine QW.objInit dNf_init_1 oNf_3 q_oi q_oc rfl (Nat.le_of_ble_eq_true rfl) ?_
  refine QW.aload_n dNf_init_4 rfl rfl ?_
  refine QW.iconst (v := 3) dNf_init_5 (by decide) ?_
  refine QW.newaN (t := 64) (N := 3) (k := 0) (v := .int 0) (x' := [(64, List.replicate 3 (.int 0))]) hn dNf_init_6 rfl (by decide) (by decide) q_ac_int (by decide) (by decide) (by decide) rfl rfl (by omega) rfl ?_
  refine QW.putFo (fs' := [.int 0, .int 0, .int 0, .ref (n + 0), .int 0, .null, .null, .int 0, .null, .null, .null, .int 0, .null, .null, .null]) hn ha dNf_init_8 gNf_9 rfl rfl (fun _ => rfl) (fun _ => rfl) rfl ?_
  refine QW.aload_n dNf_init_11 rfl rfl ?_
  refine QW.bipush (v := 6) dNf_init_12 (by decide) ?_
  refine QW.newaN (t := 64) (N := 6) (k := 1) (v := .int 0) (x' := [(64, List.replicate 3 (.int 0)), (64, List.replicate 6 (.int 0))]) hn dNf_init_14 rfl (by decide) (by decide) q_ac_int (by decide) (by decide) (by decide) rfl rfl (by omega) rfl ?_
  refine QW.putFo (fs' := [.int 0, .int 0, .int 0, .ref (n + 0), .int 0, .ref (n + 1), .null, .int 0, .null, .null, .null, .int 0, .null, .null, .null]) hn ha dNf_init_16 gNf_15 rfl rfl (fun _ => rfl) (fun _ => rfl) rfl ?_
  refine QW.aload_n dNf_init_19 rfl rfl ?_
  refine QW.bipush (v := 6) dNf_init_20 (by decide) ?_
  refine QW.newaN (t := 64) (N := 6) (k := 2) (v := .int 0) (x' := [(64, List.replicate 3 (.int 0)), (64, List.replicate 6 (.int 0)), (64, List.replicate 6 (.int 0))]) hn dNf_init_22 rfl (by decide) (by decide) q_ac_int (by decide) (by decide) (by decide) rfl rfl (by omega) rfl ?_
  refine QW.putFo (fs' := [.int 0, .int 0, .int 0, .ref (n + 0), .int 0, .ref (n + 1), .ref (n + 2), .int 0, .null, .null, .null, .int 0, .null, .null, .null]) hn ha dNf_init_24 gNf_18 rfl rfl (fun _ => rfl) (fun _ => rfl) rfl ?_
  refine QW.aload_n dNf_init_27 rfl rfl ?_
  refine QW.iconst (v := 4) dNf_init_28 (by decide) ?_
  refine QW.newaN (t := 64) (N := 4) (k := 3) (v := .int 0) (x' := [(64, List.replicate 3 (.int 0)), (64, List.replicate 6 (.int 0)), (64, List.replicate 6 (.int 0)), (64, List.replicate 4 (.int 0))]) hn dNf_init_29 rfl (by decide) (by decide) q_ac_int (by decide) (by decide) (by decide) rfl rfl (by omega) rfl ?_
  refine QW.putFo (fs' := [.int 0, .int 0, .int 0, .ref (n + 0), .int 0, .ref (n + 1), .ref (n + 2), .int 0, .ref (n + 3), .null, .null, .int 0, .null, .null, .null]) hn ha dNf_init_31 gNf_21 rfl rfl (fun _ => rfl) (fun _ => rfl) rfl ?_
  refine QW.aload_n dNf_init_34 rfl rfl ?_
  refine QW.iconst (v := 4) dNf_init_35 (by decide) ?_
  refine QW.newaN (t := 64) (N := 4) (k := 4) (v := .int 0) (x' := [(64, List.replicate 3 (.int 0)), (64, List.replicate 6 (.int 0)), (64, List.replicate 6 (.int 0)), (64, List.replicate 4 (.int 0)), (64, List.replicate 4 (.int 0))]) hn dNf_init_36 rfl (by decide) (by decide) q_ac_int (by decide) (by decide) (by decide) rfl rfl (by omega) rfl ?_
  refine QW.putFo (fs' := [.int 0, .int 0, .int 0, .ref (n + 0), .int 0, .ref (n + 1), .ref (n + 2), .int 0, .ref (n + 3), .ref (n + 4), .null, .int 0, .null, .null, .null]) hn ha dNf_init_38 gNf_24 rfl rfl (fun _ => rfl) (fun _ => rfl) rfl ?_
  refine QW.aload_n dNf_init_41 rfl rfl ?_
  refine QW.iconst (v := 4) dNf_init_42 (by decide) ?_
  refine QW.newaN (t := 64) (N := 4) (k := 5) (v := .int 0) (x' := [(64, List.replicate 3 (.int 0)), (64, List.replicate 6 (.int 0)), (64, List.replicate 6 (.int 0)), (64, List.replicate 4 (.int 0)), (64, List.replicate 4 (.int 0)), (64, List.replicate 4 (.int 0))]) hn dNf_init_43 rfl (by decide) (by decide) q_ac_int (by decide) (by decide) (by decide) rfl rfl (by omega) rfl ?_
  refine QW.putFo (fs' := [.int 0, .int 0, .int 0, .ref (n + 0), .int 0, .ref (n + 1), .ref (n + 2), .int 0, .ref (n + 3), .ref (n + 4), .ref (n + 5), .int 0, .null, .null, .null]) hn ha dNf_init_45 gNf_27 rfl rfl (fun _ => rfl) (fun _ => rfl) rfl ?_
  refine QW.aload_n dNf_init_48 rfl rfl ?_
  refine QW.bipush (v := 15) dNf_init_49 (by decide) ?_
  refine QW.newaN (t := 64) (N := 15) (k := 6) (v := .int 0) (x' := [(64, List.replicate 3 (.int 0)), (64, List.replicate 6 (.int 0)), (64, List.replicate 6 (.int 0)), (64, List.replicate 4 (.int 0)), (64, List.replicate 4 (.int 0)), (64, List.replicate 4 (.int 0)), (64, List.replicate 15 (.int 0))]) hn dNf_init_51 rfl (by decide) (by decide) q_ac_int (by decide) (by decide) (by decide) rfl rfl (by omega) rfl ?_
  refine QW.putFo (fs' := [.int 0, .int 0, .int 0, .ref (n + 0), .int 0, .ref (n + 1), .ref (n + 2), .int 0, .ref (n + 3), .ref (n + 4), .ref (n + 5), .int 0, .ref (n + 6), .null, .null]) hn ha dNf_init_53 gNf_30 rfl rfl (fun _ => rfl) (fun _ => rfl) rfl ?_
  refine QW.aload_n dNf_init_56 rfl rfl ?_
  refine QW.bipush (v := 27) dNf_init_57 (by decide) ?_
  refine QW.newaN (t := 64) (N := 27) (k := 7) (v := .int 0) (x' := [(64, List.replicate 3 (.int 0)), (64, List.replicate 6 (.int 0)), (64, List.replicate 6 (.int 0)), (64, List.replicate 4 (.int 0)), (64, List.replicate 4 (.int 0)), (64, List.replicate 4 (.int 0)), (64, List.replicate 15 (.int 0)), (64, List.replicate 27 (.int 0))]) hn dNf_init_59 rfl (by decide) (by decide) q_ac_int (by decide) (by decide) (by decide) rfl rfl (by omega) rfl ?_
  refine QW.putFo (fs' := [.int 0, .int 0, .int 0, .ref (n + 0), .int 0, .ref (n + 1), .ref (n + 2), .int 0, .ref (n + 3), .ref (n + 4), .ref (n + 5), .int 0, .ref (n + 6), .ref (n + 7), .null]) hn ha dNf_init_61 gNf_33 rfl rfl (fun _ => rfl) (fun _ => rfl) rfl ?_
  refine QW.aload_n dNf_init_64 rfl rfl ?_
  refine QW.bipush (v := 27) dNf_init_65 (by decide) ?_
  refine QW.newaN (t := 64) (N := 27) (k := 8) (v := .int 0) (x' := [(64, List.replicate 3 (.int 0)), (64, List.replicate 6 (.int 0)), (64, List.replicate 6 (.int 0)), (64, List.replicate 4 (.int 0)), (64, List.replicate 4 (.int 0)), (64, List.replicate 4 (.int 0)), (64, List.replicate 15 (.int 0)), (64, List.replicate 27 (.int 0)), (64, List.replicate 27 (.int 0))]) hn dNf_init_67 rfl (by decide) (by decide) q_ac_int (by decide) (by decide) (by decide) rfl rfl (by omega) rfl ?_
  refine QW.putFo (fs' := [.int 0, .int 0, .int 0, .ref (n + 0), .int 0, .ref (n + 1), .ref (n + 2), .int 0, .ref (n + 3), .ref (n + 4), .ref (n + 5), .int 0, .ref (n + 6), .ref (n + 7), .ref (n + 8)]) hn ha dNf_init_69 gNf_36 rfl rfl (fun _ => rfl) (fun _ => rfl) rfl ?_
  exact QW.vret dNf_init_72 rfl hp
theorem dPg_init_0 : decode mPg_init.2.1 0 = .ok (.aload_n 0, 1) := by decide +kernel
theorem dPg_init_1 : decode mPg_init.2.1 1 = .ok (.invokespecial 3, 3) := by decide +kernel
theorem dPg_init_4 : decode mPg_init.2.1 4 = .ok (.aload_n 0, 1) := by decide +kernel
theorem dPg_init_5 : decode mPg_init.2.1 5 = .ok (.iconst 4, 1) := by decide +kernel
theorem dPg_init_6 : decode mPg_init.2.1 6 = .ok (.newarray .int, 2) := by decide +kernel
theorem dPg_init_8 : decode mPg_init.2.1 8 = .ok (.putfield 9, 3) := by decide +kernel
theorem dPg_init_11 : decode mPg_init.2.1 11 = .ok (.aload_n 0, 1) := by decide +kernel
theorem dPg_init_12 : decode mPg_init.2.1 12 = .ok (.iconst 4, 1) := by decide +kernel
theorem dPg_init_13 : decode mPg_init.2.1 13 = .ok (.newarray .boolean, 2) := by decide +kernel
theorem dPg_init_15 : decode mPg_init.2.1 15 = .ok (.putfield 15, 3) := by decide +kernel
theorem dPg_init_18 : decode mPg_init.2.1 18 = .ok (.return_, 1) := by decide +kernel
set_option maxRecDepth 20000 in
theorem cPg_init {d a n : Nat} {h : qH} {P : qE → Prop} (hn : h.length = n) (h0 : h[a]? = some (5, [.null, .null])) (hcap : n + 2 ≤ qCap) (hp : P (.inl none, h.set a (5, [.ref (n + 0), .ref (n + 1)]) ++ [(64, List.replicate 4 (.int 0)), (65, List.replicate 4 (.int 0))])) : QW d mPg_init 0 (qen 1 [.ref a]) [] h P := by
  have ha : a < n := by rw [← hn]; exact (List.getElem?_eq_some_iff.mp h0).1
  refine QW.hq (h' := h.set a (5, [.null, .null]) ++ []) (by rw [List.append_nil]; exact (q_self h0).symm) ?_
  show QW d mPg_init 0 [.val (.ref a)] [] _ P
  refine QW.aload_n dPg_init_0 rfl rfl ?_
  refine QW.objInit dPg_init_1 oPg_3 q_oi q_oc rfl (Nat.le_of_ble_eq_true rfl) ?_
  refine QW.aload_n dPg_init_4 rfl rfl ?_
  refine QW.iconst (v := 4) dPg_init_5 (by decide) ?_
  refine QW.newaN (t := 64) (N := 4) (k := 0) (v := .int 0) (x' := [(64, List.replicate 4 (.int 0))]) hn dPg_init_6 rfl (by decide) (by decide) q_ac_int (by decide) (by decide) (by decide) rfl rfl (by omega) rfl ?_
  refine QW.putFo (fs' := [.ref (n + 0), .null]) hn ha dPg_init_8 gPg_9 rfl rfl (fun _ => rfl) (fun _ => rfl) rfl ?_
  refine QW.aload_n dPg_init_11 rfl rfl ?_
  refine QW.iconst (v := 4) dPg_init_12 (by decide) ?_
  refine QW.newaN (t := 65) (N := 4) (k := 1) (v := .int 0) (x' := [(64, List.replicate 4 (.int 0)), (65, List.replicate 4 (.int 0))]) hn dPg_init_13 rfl (by decide) (by decide) q_ac_boolean (by decide) (by decide) (by decide) rfl rfl (by omega) rfl ?_
  refine QW.putFo (fs' := [.ref (n + 0), .ref (n + 1)]) hn ha dPg_init_15 gPg_15 rfl rfl (fun _ => rfl) (fun _ => rfl) rfl ?_
  exact QW.vret dPg_init_18 rfl hp
theorem dBp_init_0 : decode mBp_init.2.1 0 = .ok (.aload_n 0, 1) := by decide +kernel
theorem dBp_init_1 : decode mBp_init.2.1 1 = .ok (.invokespecial 3, 3) := by decide +kernel
theorem dBp_init_4 : decode mBp_init.2.1 4 = .ok (.aload_n 0, 1) := by decide +kernel
theorem dBp_init_5 : decode mBp_init.2.1 5 = .ok (.new 9, 3) := by decide +kernel
theorem dBp_init_8 : decode mBp_init.2.1 8 = .ok (.dup, 1) := by decide +kernel
theorem dBp_init_9 : decode mBp_init.2.1 9 = .ok (.invokespecial 11, 3) := by decide +kernel
theorem dBp_init_12 : decode mBp_init.2.1 12 = .ok (.putfield 12, 3) := by decide +kernel
theorem dBp_init_15 : decode mBp_init.2.1 15 = .ok (.aload_n 0, 1) := by decide +kernel
theorem dBp_init_16 : decode mBp_init.2.1 16 = .ok (.new 16, 3) := by decide +kernel
theorem dBp_init_19 : decode mBp_init.2.1 19 = .ok (.dup, 1) := by decide +kernel
theorem dBp_init_20 : decode mBp_init.2.1 20 = .ok (.invokespecial 18, 3) := by decide +kernel
theorem dBp_init_23 : decode mBp_init.2.1 23 = .ok (.putfield 19, 3) := by decide +kernel
theorem dBp_init_26 : decode mBp_init.2.1 26 = .ok (.aload_n 0, 1) := by decide +kernel
theorem dBp_init_27 : decode mBp_init.2.1 27 = .ok (.new 23, 3) := by decide +kernel
theorem dBp_init_30 : decode mBp_init.2.1 30 = .ok (.dup, 1) := by decide +kernel
theorem dBp_init_31 : decode mBp_init.2.1 31 = .ok (.invokespecial 25, 3) := by decide +kernel
theorem dBp_init_34 : decode mBp_init.2.1 34 = .ok (.putfield 26, 3) := by decide +kernel
theorem dBp_init_37 : decode mBp_init.2.1 37 = .ok (.aload_n 0, 1) := by decide +kernel
theorem dBp_init_38 : decode mBp_init.2.1 38 = .ok (.iconst 5, 1) := by decide +kernel
theorem dBp_init_39 : decode mBp_init.2.1 39 = .ok (.anewarray 30, 3) := by decide +kernel
theorem dBp_init_42 : decode mBp_init.2.1 42 = .ok (.putfield 32, 3) := by decide +kernel
theorem dBp_init_45 : decode mBp_init.2.1 45 = .ok (.iconst 0, 1) := by decide +kernel
theorem dBp_init_46 : decode mBp_init.2.1 46 = .ok (.istore_n 1, 1) := by decide +kernel
theorem dBp_init_47 : decode mBp_init.2.1 47 = .ok (.iload_n 1, 1) := by decide +kernel
theorem dBp_init_48 : decode mBp_init.2.1 48 = .ok (.iconst 4, 1) := by decide +kernel
theorem dBp_init_49 : decode mBp_init.2.1 49 = .ok (.if_icmp .gt 22, 3) := by decide +kernel
theorem dBp_init_52 : decode mBp_init.2.1 52 = .ok (.aload_n 0, 1) := by decide +kernel
theorem dBp_init_53 : decode mBp_init.2.1 53 = .ok (.getfield 32, 3) := by decide +kernel
theorem dBp_init_56 : decode mBp_init.2.1 56 = .ok (.iload_n 1, 1) := by decide +kernel
theorem dBp_init_57 : decode mBp_init.2.1 57 = .ok (.new 30, 3) := by decide +kernel
theorem dBp_init_60 : decode mBp_init.2.1 60 = .ok (.dup, 1) := by decide +kernel
theorem dBp_init_61 : decode mBp_init.2.1 61 = .ok (.invokespecial 36, 3) := by decide +kernel
theorem dBp_init_64 : decode mBp_init.2.1 64 = .ok (.aastore, 1) := by decide +kernel
theorem dBp_init_65 : decode mBp_init.2.1 65 = .ok (.iinc 1 1, 3) := by decide +kernel
theorem dBp_init_68 : decode mBp_init.2.1 68 = .ok (.goto (-21), 3) := by decide +kernel
theorem dBp_init_71 : decode mBp_init.2.1 71 = .ok (.aload_n 0, 1) := by decide +kernel
theorem dBp_init_72 : decode mBp_init.2.1 72 = .ok (.iconst 0, 1) := by decide +kernel
theorem dBp_init_73 : decode mBp_init.2.1 73 = .ok (.putfield 37, 3) := by decide +kernel
theorem dBp_init_76 : decode mBp_init.2.1 76 = .ok (.aload_n 0, 1) := by decide +kernel
theorem dBp_init_77 : decode mBp_init.2.1 77 = .ok (.iconst (-1), 1) := by decide +kernel
theorem dBp_init_78 : decode mBp_init.2.1 78 = .ok (.putfield 41, 3) := by decide +kernel
theorem dBp_init_81 : decode mBp_init.2.1 81 = .ok (.aload_n 0, 1) := by decide +kernel
theorem dBp_init_82 : decode mBp_init.2.1 82 = .ok (.new 44, 3) := by decide +kernel
theorem dBp_init_85 : decode mBp_init.2.1 85 = .ok (.dup, 1) := by decide +kernel
theorem dBp_init_86 : decode mBp_init.2.1 86 = .ok (.invokespecial 46, 3) := by decide +kernel
theorem dBp_init_89 : decode mBp_init.2.1 89 = .ok (.putfield 47, 3) := by decide +kernel
theorem dBp_init_92 : decode mBp_init.2.1 92 = .ok (.aload_n 0, 1) := by decide +kernel
theorem dBp_init_93 : decode mBp_init.2.1 93 = .ok (.new 51, 3) := by decide +kernel
theorem dBp_init_96 : decode mBp_init.2.1 96 = .ok (.dup, 1) := by decide +kernel
theorem dBp_init_97 : decode mBp_init.2.1 97 = .ok (.invokespecial 53, 3) := by decide +kernel
theorem dBp_init_100 : decode mBp_init.2.1 100 = .ok (.putfield 54, 3) := by decide +kernel
theorem dBp_init_103 : decode mBp_init.2.1 103 = .ok (.aload_n 0, 1) := by decide +kernel
theorem dBp_init_104 : decode mBp_init.2.1 104 = .ok (.new 51, 3) := by decide +kernel
theorem dBp_init_107 : decode mBp_init.2.1 107 = .ok (.dup, 1) := by decide +kernel
theorem dBp_init_108 : decode mBp_init.2.1 108 = .ok (.invokespecial 53, 3) := by decide +kernel
theorem dBp_init_111 : decode mBp_init.2.1 111 = .ok (.putfield 58, 3) := by decide +kernel
theorem dBp_init_114 : decode mBp_init.2.1 114 = .ok (.aload_n 0, 1) := by decide +kernel
theorem dBp_init_115 : decode mBp_init.2.1 115 = .ok (.new 51, 3) := by decide +kernel
theorem dBp_init_118 : decode mBp_init.2.1 118 = .ok (.dup, 1) := by decide +kernel
theorem dBp_init_119 : decode mBp_init.2.1 119 = .ok (.invokespecial 53, 3) := by decide +kernel
theorem dBp_init_122 : decode mBp_init.2.1 122 = .ok (.putfield 61, 3) := by decide +kernel
theorem dBp_init_125 : decode mBp_init.2.1 125 = .ok (.aload_n 0, 1) := by decide +kernel
theorem dBp_init_126 : decode mBp_init.2.1 126 = .ok (.new 64, 3) := by decide +kernel
theorem dBp_init_129 : decode mBp_init.2.1 129 = .ok (.dup, 1) := by decide +kernel
theorem dBp_init_130 : decode mBp_init.2.1 130 = .ok (.invokespecial 66, 3) := by decide +kernel
theorem dBp_init_133 : decode mBp_init.2.1 133 = .ok (.putfield 67, 3) := by decide +kernel
theorem dBp_init_136 : decode mBp_init.2.1 136 = .ok (.aload_n 0, 1) := by decide +kernel
theorem dBp_init_137 : decode mBp_init.2.1 137 = .ok (.new 64, 3) := by decide +kernel
theorem dBp_init_140 : decode mBp_init.2.1 140 = .ok (.dup, 1) := by decide +kernel
theorem dBp_init_141 : decode mBp_init.2.1 141 = .ok (.invokespecial 66, 3) := by decide +kernel
theorem dBp_init_144 : decode mBp_init.2.1 144 = .ok (.putfield 71, 3) := by decide +kernel
theorem dBp_init_147 : decode mBp_init.2.1 147 = .ok (.aload_n 0, 1) := by decide +kernel
theorem dBp_init_148 : decode mBp_init.2.1 148 = .ok (.new 74, 3) := by decide +kernel
theorem dBp_init_151 : decode mBp_init.2.1 151 = .ok (.dup, 1) := by decide +kernel
theorem dBp_init_152 : decode mBp_init.2.1 152 = .ok (.invokespecial 76, 3) := by decide +kernel
theorem dBp_init_155 : decode mBp_init.2.1 155 = .ok (.putfield 77, 3) := by decide +kernel
theorem dBp_init_158 : decode mBp_init.2.1 158 = .ok (.return_, 1) := by decide +kernel
set_option maxRecDepth 20000 in
theorem cBp_init {d a n : Nat} {h : qH} {P : qE → Prop} (hn : h.length = n) (h0 : h[a]? = some (0, [.null, .null, .null, .null, .int 0, .int 0, .null, .null, .null, .null, .null, .null, .null])) (hcap : n + 179 ≤ qCap) (hp : P (.inl none, h.set a (0, [.ref (n + 0), .ref (n + 14), .ref (n + 16), .ref (n + 21), .int 0, .int (-1), .ref (n + 142), .ref (n + 147), .ref (n + 150), .ref (n + 153), .ref (n + 156), .ref (n + 166), .ref (n + 176)]) ++ [(3, [.ref (n + 1), .int 0]), (68, [.ref (n + 2), .ref (n + 5), .ref (n + 8), .ref (n + 11)]), (9, [.int 0, .int 0, .ref (n + 3), .ref (n + 4)]), (65, List.replicate 3 (.int 0)), (64, List.replicate 24 (.int 0)), (9, [.int 0, .int 0, .ref (n + 6), .ref (n + 7)]), (65, List.replicate 3 (.int 0)), (64, List.replicate 24 (.int 0)), (9, [.int 0, .int 0, .ref (n + 9), .ref (n + 10)]), (65, List.replicate 3 (.int 0)), (64, List.replicate 24 (.int 0)), (9, [.int 0, .int 0, .ref (n + 12), .ref (n + 13)]), (65, List.replicate 3 (.int 0)), (64, List.replicate 24 (.int 0)), (10, [.ref (n + 15), .int 0]), (66, List.replicate 200 (.int 0)), (8, [.ref (n + 17)]), (11, [.ref (n + 18), .ref (n + 19), .ref (n + 20), .int 0, .int 0]), (64, List.replicate 201 (.int 0)), (64, List.replicate 201 (.int 0)), (64, List.replicate 201 (.int 0)), (69, [.ref (n + 22), .ref (n + 46), .ref (n + 70), .ref (n + 94), .ref (n + 118)]), (7, [.int 0, .ref (n + 23), .ref (n + 24)]), (70, [.ref (n + 25), .ref (n + 32), .ref (n + 39)]), (64, List.replicate 2 (.int 0)), (2, [.int 0, .int 0, .int 0, .int 0, .ref (n + 26), .ref (n + 27), .ref (n + 28), .ref (n + 29), .ref (n + 30), .ref (n + 31)]), (64, List.replicate 4 (.int 0)), (64, List.replicate 4 (.int 0)), (65, List.replicate 6 (.int 0)), (64, List.replicate 15 (.int 0)), (64, List.replicate 15 (.int 0)), (64, List.replicate 15 (.int 0)), (2, [.int 0, .int 0, .int 0, .int 0, .ref (n + 33), .ref (n + 34), .ref (n + 35), .ref (n + 36), .ref (n + 37), .ref (n + 38)]), (64, List.replicate 4 (.int 0)), (64, List.replicate 4 (.int 0)), (65, List.replicate 6 (.int 0)), (64, List.replicate 15 (.int 0)), (64, List.replicate 15 (.int 0)), (64, List.replicate 15 (.int 0)), (2, [.int 0, .int 0, .int 0, .int 0, .ref (n + 40), .ref (n + 41), .ref (n + 42), .ref (n + 43), .ref (n + 44), .ref (n + 45)]), (64, List.replicate 4 (.int 0)), (64, List.replicate 4 (.int 0)), (65, List.replicate 6 (.int 0)), (64, List.replicate 15 (.int 0)), (64, List.replicate 15 (.int 0)), (64, List.replicate 15 (.int 0)), (7, [.int 0, .ref (n + 47), .ref (n + 48)]), (70, [.ref (n + 49), .ref (n + 56), .ref (n + 63)]), (64, List.replicate 2 (.int 0)), (2, [.int 0, .int 0, .int 0, .int 0, .ref (n + 50), .ref (n + 51), .ref (n + 52), .ref (n + 53), .ref (n + 54), .ref (n + 55)]), (64, List.replicate 4 (.int 0)), (64, List.replicate 4 (.int 0)), (65, List.replicate 6 (.int 0)), (64, List.replicate 15 (.int 0)), (64, List.replicate 15 (.int 0)), (64, List.replicate 15 (.int 0)), (2, [.int 0, .int 0, .int 0, .int 0, .ref (n + 57), .ref (n + 58), .ref (n + 59), .ref (n + 60), .ref (n + 61), .ref (n + 62)]), (64, List.replicate 4 (.int 0)), (64, List.replicate 4 (.int 0)), (65, List.replicate 6 (.int 0)), (64, List.replicate 15 (.int 0)), (64, List.replicate 15 (.int 0)), (64, List.replicate 15 (.int 0)), (2, [.int 0, .int 0, .int 0, .int 0, .ref (n + 64), .ref (n + 65), .ref (n + 66), .ref (n + 67), .ref (n + 68), .ref (n + 69)]), (64, List.replicate 4 (.int 0)), (64, List.replicate 4 (.int 0)), (65, List.replicate 6 (.int 0)), (64, List.replicate 15 (.int 0)), (64, List.replicate 15 (.int 0)), (64, List.replicate 15 (.int 0)), (7, [.int 0, .ref (n + 71), .ref (n + 72)]), (70, [.ref (n + 73), .ref (n + 80), .ref (n + 87)]), (64, List.replicate 2 (.int 0)), (2, [.int 0, .int 0, .int 0, .int 0, .ref (n + 74), .ref (n + 75), .ref (n + 76), .ref (n + 77), .ref (n + 78), .ref (n + 79)]), (64, List.replicate 4 (.int 0)), (64, List.replicate 4 (.int 0)), (65, List.replicate 6 (.int 0)), (64, List.replicate 15 (.int 0)), (64, List.replicate 15 (.int 0)), (64, List.replicate 15 (.int 0)), (2, [.int 0, .int 0, .int 0, .int 0, .ref (n + 81), .ref (n + 82), .ref (n + 83), .ref (n + 84), .ref (n + 85), .ref (n + 86)]), (64, List.replicate 4 (.int 0)), (64, List.replicate 4 (.int 0)), (65, List.replicate 6 (.int 0)), (64, List.replicate 15 (.int 0)), (64, List.replicate 15 (.int 0)), (64, List.replicate 15 (.int 0)), (2, [.int 0, .int 0, .int 0, .int 0, .ref (n + 88), .ref (n + 89), .ref (n + 90), .ref (n + 91), .ref (n + 92), .ref (n + 93)]), (64, List.replicate 4 (.int 0)), (64, List.replicate 4 (.int 0)), (65, List.replicate 6 (.int 0)), (64, List.replicate 15 (.int 0)), (64, List.replicate 15 (.int 0)), (64, List.replicate 15 (.int 0)), (7, [.int 0, .ref (n + 95), .ref (n + 96)]), (70, [.ref (n + 97), .ref (n + 104), .ref (n + 111)]), (64, List.replicate 2 (.int 0)), (2, [.int 0, .int 0, .int 0, .int 0, .ref (n + 98), .ref (n + 99), .ref (n + 100), .ref (n + 101), .ref (n + 102), .ref (n + 103)]), (64, List.replicate 4 (.int 0)), (64, List.replicate 4 (.int 0)), (65, List.replicate 6 (.int 0)), (64, List.replicate 15 (.int 0)), (64, List.replicate 15 (.int 0)), (64, List.replicate 15 (.int 0)), (2, [.int 0, .int 0, .int 0, .int 0, .ref (n + 105), .ref (n + 106), .ref (n + 107), .ref (n + 108), .ref (n + 109), .ref (n + 110)]), (64, List.replicate 4 (.int 0)), (64, List.replicate 4 (.int 0)), (65, List.replicate 6 (.int 0)), (64, List.replicate 15 (.int 0)), (64, List.replicate 15 (.int 0)), (64, List.replicate 15 (.int 0)), (2, [.int 0, .int 0, .int 0, .int 0, .ref (n + 112), .ref (n + 113), .ref (n + 114), .ref (n + 115), .ref (n + 116), .ref (n + 117)]), (64, List.replicate 4 (.int 0)), (64, List.replicate 4 (.int 0)), (65, List.replicate 6 (.int 0)), (64, List.replicate 15 (.int 0)), (64, List.replicate 15 (.int 0)), (64, List.replicate 15 (.int 0)), (7, [.int 0, .ref (n + 119), .ref (n + 120)]), (70, [.ref (n + 121), .ref (n + 128), .ref (n + 135)]), (64, List.replicate 2 (.int 0)), (2, [.int 0, .int 0, .int 0, .int 0, .ref (n + 122), .ref (n + 123), .ref (n + 124), .ref (n + 125), .ref (n + 126), .ref (n + 127)]), (64, List.replicate 4 (.int 0)), (64, List.replicate 4 (.int 0)), (65, List.replicate 6 (.int 0)), (64, List.replicate 15 (.int 0)), (64, List.replicate 15 (.int 0)), (64, List.replicate 15 (.int 0)), (2, [.int 0, .int 0, .int 0, .int 0, .ref (n + 129), .ref (n + 130), .ref (n + 131), .ref (n + 132), .ref (n + 133), .ref (n + 134)]), (64, List.replicate 4 (.int 0)), (64, List.replicate 4 (.int 0)), (65, List.replicate 6 (.int 0)), (64, List.replicate 15 (.int 0)), (64, List.replicate 15 (.int 0)), (64, List.replicate 15 (.int 0)), (2, [.int 0, .int 0, .int 0, .int 0, .ref (n + 136), .ref (n + 137), .ref (n + 138), .ref (n + 139), .ref (n + 140), .ref (n + 141)]), (64, List.replicate 4 (.int 0)), (64, List.replicate 4 (.int 0)), (65, List.replicate 6 (.int 0)), (64, List.replicate 15 (.int 0)), (64, List.replicate 15 (.int 0)), (64, List.replicate 15 (.int 0)), (6, [.ref (n + 143), .ref (n + 144), .ref (n + 145), .ref (n + 146)]), (64, List.replicate 4 (.int 0)), (65, List.replicate 4 (.int 0)), (64, List.replicate 6 (.int 0)), (64, List.replicate 3 (.int 0)), (1, [.int 0, .int 0, .ref (n + 148), .ref (n + 149)]), (64, List.replicate 192 (.int 0)), (64, List.replicate 64 (.int 0)), (1, [.int 0, .int 0, .ref (n + 151), .ref (n + 152)]), (64, List.replicate 192 (.int 0)), (64, List.replicate 64 (.int 0)), (1, [.int 0, .int 0, .ref (n + 154), .ref (n + 155)]), (64, List.replicate 192 (.int 0)), (64, List.replicate 64 (.int 0)), (4, [.int 0, .int 0, .int 0, .ref (n + 157), .int 0, .ref (n + 158), .ref (n + 159), .int 0, .ref (n + 160), .ref (n + 161), .ref (n + 162), .int 0, .ref (n + 163), .ref (n + 164), .ref (n + 165)]), (64, List.replicate 3 (.int 0)), (64, List.replicate 6 (.int 0)), (64, List.replicate 6 (.int 0)), (64, List.replicate 4 (.int 0)), (64, List.replicate 4 (.int 0)), (64, List.replicate 4 (.int 0)), (64, List.replicate 15 (.int 0)), (64, List.replicate 27 (.int 0)), (64, List.replicate 27 (.int 0)), (4, [.int 0, .int 0, .int 0, .ref (n + 167), .int 0, .ref (n + 168), .ref (n + 169), .int 0, .ref (n + 170), .ref (n + 171), .ref (n + 172), .int 0, .ref (n + 173), .ref (n + 174), .ref (n + 175)]), (64, List.replicate 3 (.int 0)), (64, List.replicate 6 (.int 0)), (64, List.replicate 6 (.int 0)), (64, List.replicate 4 (.int 0)), (64, List.replicate 4 (.int 0)), (64, List.replicate 4 (.int 0)), (64, List.replicate 15 (.int 0)), (64, List.replicate 27 (.int 0)), (64, List.replicate 27 (.int 0)), (5, [.ref (n + 177), .ref (n + 178)]), (64, List.replicate 4 (.int 0)), (65, List.replicate 4 (.int 0))])) : QW (d + 2) mBp_init 0 (qen 2 [.ref a]) [] h P := by
  have ha : a < n := by rw [← hn]; exact (List.getElem?_eq_some_iff.mp h0).1
  refine QW.hq (h' := h.set a (0, [.null, .null, .null, .null, .int 0, .int 0, .null, .null, .null, .null, .null, .null, .null]) ++ []) (by rw [List.append_nil]; exact (q_self h0).symm) ?_
  show QW (d + 2) mBp_init 0 [.val (.ref a), .unset] [] _ P
  refine QW.aload_n dBp_init_0 rfl rfl ?_
  refine QW.objInit dBp_init_1 oBp_3 q_oi q_oc rfl (Nat.le_of_ble_eq_true rfl) ?_
  refine QW.aload_n dBp_init_4 rfl rfl ?_
  refine QW.newN (k := 0) (x' := [(3, [.null, .int 0])]) hn dBp_init_5 nBp_9 rfl (by omega) rfl ?_
  refine QW.dup dBp_init_8 rfl ?_
  refine QW.ctorN (M2 := mCat_init) (k := 0) (C2 := (3, [.ref (n + 1), .int 0])) (y := [(68, [.ref (n + 2), .ref (n + 5), .ref (n + 8), .ref (n + 11)]), (9, [.int 0, .int 0, .ref (n + 3), .ref (n + 4)]), (65, List.replicate 3 (.int 0)), (64, List.replicate 24 (.int 0)), (9, [.int 0, .int 0, .ref (n + 6), .ref (n + 7)]), (65, List.replicate 3 (.int 0)), (64, List.replicate 24 (.int 0)), (9, [.int 0, .int 0, .ref (n + 9), .ref (n + 10)]), (65, List.replicate 3 (.int 0)), (64, List.replicate 24 (.int 0)), (9, [.int 0, .int 0, .ref (n + 12), .ref (n + 13)]), (65, List.replicate 3 (.int 0)), (64, List.replicate 24 (.int 0))]) (x' := [(3, [.ref (n + 1), .int 0]), (68, [.ref (n + 2), .ref (n + 5), .ref (n + 8), .ref (n + 11)]), (9, [.int 0, .int 0, .ref (n + 3), .ref (n + 4)]), (65, List.replicate 3 (.int 0)), (64, List.replicate 24 (.int 0)), (9, [.int 0, .int 0, .ref (n + 6), .ref (n + 7)]), (65, List.replicate 3 (.int 0)), (64, List.replicate 24 (.int 0)), (9, [.int 0, .int 0, .ref (n + 9), .ref (n + 10)]), (65, List.replicate 3 (.int 0)), (64, List.replicate 24 (.int 0)), (9, [.int 0, .int 0, .ref (n + 12), .ref (n + 13)]), (65, List.replicate 3 (.int 0)), (64, List.replicate 24 (.int 0))]) hn dBp_init_9 rfl rfl rfl kCat_init eCat_init lBp_11 iCat_init rfl rfl (Nat.le_of_ble_eq_true rfl) (fun P1 hp1 => cCat_init (n := n + 1) (by rw [nf_len hn]; rfl) ((nf_get hn 0).trans rfl) (by omega) hp1) rfl ?_
  refine QW.putFo (fs' := [.ref (n + 0), .null, .null, .null, .int 0, .int 0, .null, .null, .null, .null, .null, .null, .null]) hn ha dBp_init_12 gBp_12 rfl rfl (fun _ => rfl) (fun _ => rfl) rfl ?_
  refine QW.aload_n dBp_init_15 rfl rfl ?_
  refine QW.newN (k := 14) (x' := [(3, [.ref (n + 1), .int 0]), (68, [.ref (n + 2), .ref (n + 5), .ref (n + 8), .ref (n + 11)]), (9, [.int 0, .int 0, .ref (n + 3), .ref (n + 4)]), (65, List.replicate 3 (.int 0)), (64, List.replicate 24 (.int 0)), (9, [.int 0, .int 0, .ref (n + 6), .ref (n + 7)]), (65, List.replicate 3 (.int 0)), (64, List.replicate 24 (.int 0)), (9, [.int 0, .int 0, .ref (n + 9), .ref (n + 10)]), (65, List.replicate 3 (.int 0)), (64, List.replicate 24 (.int 0)), (9, [.int 0, .int 0, .ref (n + 12), .ref (n + 13)]), (65, List.replicate 3 (.int 0)), (64, List.replicate 24 (.int 0)), (10, [.null, .int 0])]) hn dBp_init_16 nBp_16 rfl (by omega) rfl ?_
  refine QW.dup dBp_init_19 rfl ?_
  refine QW.ctorN (M2 := mTxt_init) (k := 14) (C2 := (10, [.ref (n + 15), .int 0])) (y := [(66, List.replicate 200 (.int 0))]) (x' := [(3, [.ref (n + 1), .int 0]), (68, [.ref (n + 2), .ref (n + 5), .ref (n + 8), .ref (n + 11)]), (9, [.int 0, .int 0, .ref (n + 3), .ref (n + 4)]), (65, List.replicate 3 (.int 0)), (64, List.replicate 24 (.int 0)), (9, [.int 0, .int 0, .ref (n + 6), .ref (n + 7)]), (65, List.replicate 3 (.int 0)), (64, List.replicate 24 (.int 0)), (9, [.int 0, .int 0, .ref (n + 9), .ref (n + 10)]), (65, List.replicate 3 (.int 0)), (64, List.replicate 24 (.int 0)), (9, [.int 0, .int 0, .ref (n + 12), .ref (n + 13)]), (65, List.replicate 3 (.int 0)), (64, List.replicate 24 (.int 0)), (10, [.ref (n + 15), .int 0]), (66, List.replicate 200 (.int 0))]) hn dBp_init_20 rfl rfl rfl kTxt_init eTxt_init lBp_18 iTxt_init rfl rfl (Nat.le_of_ble_eq_true rfl) (fun P1 hp1 => cTxt_init (n := n + 15) (by rw [nf_len hn]; rfl) ((nf_get hn 14).trans rfl) (by omega) hp1) rfl ?_
  refine QW.putFo (fs' := [.ref (n + 0), .ref (n + 14), .null, .null, .int 0, .int 0, .null, .null, .null, .null, .null, .null, .null]) hn ha dBp_init_23 gBp_19 rfl rfl (fun _ => rfl) (fun _ => rfl) rfl ?_
  refine QW.aload_n dBp_init_26 rfl rfl ?_
  refine QW.newN (k := 16) (x' := [(3, [.ref (n + 1), .int 0]), (68, [.ref (n + 2), .ref (n + 5), .ref (n + 8), .ref (n + 11)]), (9, [.int 0, .int 0, .ref (n + 3), .ref (n + 4)]), (65, List.replicate 3 (.int 0)), (64, List.replicate 24 (.int 0)), (9, [.int 0, .int 0, .ref (n + 6), .ref (n + 7)]), (65, List.replicate 3 (.int 0)), (64, List.replicate 24 (.int 0)), (9, [.int 0, .int 0, .ref (n + 9), .ref (n + 10)]), (65, List.replicate 3 (.int 0)), (64, List.replicate 24 (.int 0)), (9, [.int 0, .int 0, .ref (n + 12), .ref (n + 13)]), (65, List.replicate 3 (.int 0)), (64, List.replicate 24 (.int 0)), (10, [.ref (n + 15), .int 0]), (66, List.replicate 200 (.int 0)), (8, [.null])]) hn dBp_init_27 nBp_23 rfl (by omega) rfl ?_
  refine QW.dup dBp_init_30 rfl ?_
  refine QW.ctorN (M2 := mRd_init) (k := 16) (C2 := (8, [.ref (n + 17)])) (y := [(11, [.ref (n + 18), .ref (n + 19), .ref (n + 20), .int 0, .int 0]), (64, List.replicate 201 (.int 0)), (64, List.replicate 201 (.int 0)), (64, List.replicate 201 (.int 0))]) (x' := [(3, [.ref (n + 1), .int 0]), (68, [.ref (n + 2), .ref (n + 5), .ref (n + 8), .ref (n + 11)]), (9, [.int 0, .int 0, .ref (n + 3), .ref (n + 4)]), (65, List.replicate 3 (.int 0)), (64, List.replicate 24 (.int 0)), (9, [.int 0, .int 0, .ref (n + 6), .ref (n + 7)]), (65, List.replicate 3 (.int 0)), (64, List.replicate 24 (.int 0)), (9, [.int 0, .int 0, .ref (n + 9), .ref (n + 10)]), (65, List.replicate 3 (.int 0)), (64, List.replicate 24 (.int 0)), (9, [.int 0, .int 0, .ref (n + 12), .ref (n + 13)]), (65, List.replicate 3 (.int 0)), (64, List.replicate 24 (.int 0)), (10, [.ref (n + 15), .int 0]), (66, List.replicate 200 (.int 0)), (8, [.ref (n + 17)]), (11, [.ref (n + 18), .ref (n + 19), .ref (n + 20), .int 0, .int 0]), (64, List.replicate 201 (.int 0)), (64, List.replicate 201 (.int 0)), (64, List.replicate 201 (.int 0))]) hn dBp_init_31 rfl rfl rfl kRd_init eRd_init lBp_25 iRd_init rfl rfl (Nat.le_of_ble_eq_true rfl) (fun P1 hp1 => cRd_init (n := n + 17) (by rw [nf_len hn]; rfl) ((nf_get hn 16).trans rfl) (by omega) hp1) rfl ?_
  refine QW.putFo (fs' := [.ref (n + 0), .ref (n + 14), .ref (n + 16), .null, .int 0, .int 0, .null, .null, .null, .null, .null, .null, .null]) hn ha dBp_init_34 gBp_26 rfl rfl (fun _ => rfl) (fun _ => rfl) rfl ?_
  refine QW.aload_n dBp_init_37 rfl rfl ?_
  refine QW.iconst (v := 5) dBp_init_38 (by decide) ?_
  refine QW.newqN (t := 69) (N := 5) (k := 21) (x' := [(3, [.ref (n + 1), .int 0]), (68, [.ref (n + 2), .ref (n + 5), .ref (n + 8), .ref (n + 11)]), (9, [.int 0, .int 0, .ref (n + 3), .ref (n + 4)]), (65, List.replicate 3 (.int 0)), (64, List.replicate 24 (.int 0)), (9, [.int 0, .int 0, .ref (n + 6), .ref (n + 7)]), (65, List.replicate 3 (.int 0)), (64, List.replicate 24 (.int 0)), (9, [.int 0, .int 0, .ref (n + 9), .ref (n + 10)]), (65, List.replicate 3 (.int 0)), (64, List.replicate 24 (.int 0)), (9, [.int 0, .int 0, .ref (n + 12), .ref (n + 13)]), (65, List.replicate 3 (.int 0)), (64, List.replicate 24 (.int 0)), (10, [.ref (n + 15), .int 0]), (66, List.replicate 200 (.int 0)), (8, [.ref (n + 17)]), (11, [.ref (n + 18), .ref (n + 19), .ref (n + 20), .int 0, .int 0]), (64, List.replicate 201 (.int 0)), (64, List.replicate 201 (.int 0)), (64, List.replicate 201 (.int 0)), (69, [.null, .null, .null, .null, .null])]) hn dBp_init_39 rfl (by decide) (by decide) (q_tw 130 (by decide +kernel)) q_ao_Question (by decide) (by decide) (by decide) rfl (by omega) rfl ?_
  refine QW.putFo (fs' := [.ref (n + 0), .ref (n + 14), .ref (n + 16), .ref (n + 21), .int 0, .int 0, .null, .null, .null, .null, .null, .null, .null]) hn ha dBp_init_42 gBp_32 rfl rfl (fun _ => rfl) (fun _ => rfl) rfl ?_
  refine QW.iconst (v := 0) dBp_init_45 (by decide) ?_
  refine QW.istore_n (ls' := [.val (.ref a), .val (.int 0)]) dBp_init_46 rfl rfl ?_
  refine QW.iload_n dBp_init_47 rfl rfl ?_
  refine QW.iconst (v := 4) dBp_init_48 (by decide) ?_
  refine QW.icmp_gt (tgt := 71) dBp_init_49 (by decide) (fun z => absurd z (by decide)) (fun _ => ?_)
  refine QW.aload_n dBp_init_52 rfl rfl ?_
  refine QW.getfo hn ha dBp_init_53 fBp_32 rfl ?_
  refine QW.iload_n dBp_init_56 rfl rfl ?_
  refine QW.newN (k := 22) (x' := [(3, [.ref (n + 1), .int 0]), (68, [.ref (n + 2), .ref (n + 5), .ref (n + 8), .ref (n + 11)]), (9, [.int 0, .int 0, .ref (n + 3), .ref (n + 4)]), (65, List.replicate 3 (.int 0)), (64, List.replicate 24 (.int 0)), (9, [.int 0, .int 0, .ref (n + 6), .ref (n + 7)]), (65, List.replicate 3 (.int 0)), (64, List.replicate 24 (.int 0)), (9, [.int 0, .int 0, .ref (n + 9), .ref (n + 10)]), (65, List.replicate 3 (.int 0)), (64, List.replicate 24 (.int 0)), (9, [.int 0, .int 0, .ref (n + 12), .ref (n + 13)]), (65, List.replicate 3 (.int 0)), (64, List.replicate 24 (.int 0)), (10, [.ref (n + 15), .int 0]), (66, List.replicate 200 (.int 0)), (8, [.ref (n + 17)]), (11, [.ref (n + 18), .ref (n + 19), .ref (n + 20), .int 0, .int 0]), (64, List.replicate 201 (.int 0)), (64, List.replicate 201 (.int 0)), (64, List.replicate 201 (.int 0)), (69, [.null, .null, .null, .null, .null]), (7, [.int 0, .null, .null])]) hn dBp_init_57 nBp_30 rfl (by omega) rfl ?_
  refine QW.dup dBp_init_60 rfl ?_
  refine QW.ctorN (M2 := mQu_init) (k := 22) (C2 := (7, [.int 0, .ref (n + 23), .ref (n + 24)])) (y := [(70, [.ref (n + 25), .ref (n + 32), .ref (n + 39)]), (64, List.replicate 2 (.int 0)), (2, [.int 0, .int 0, .int 0, .int 0, .ref (n + 26), .ref (n + 27), .ref (n + 28), .ref (n + 29), .ref (n + 30), .ref (n + 31)]), (64, List.replicate 4 (.int 0)), (64, List.replicate 4 (.int 0)), (65, List.replicate 6 (.int 0)), (64, List.replicate 15 (.int 0)), (64, List.replicate 15 (.int 0)), (64, List.replicate 15 (.int 0)), (2, [.int 0, .int 0, .int 0, .int 0, .ref (n + 33), .ref (n + 34), .ref (n + 35), .ref (n + 36), .ref (n + 37), .ref (n + 38)]), (64, List.replicate 4 (.int 0)), (64, List.replicate 4 (.int 0)), (65, List.replicate 6 (.int 0)), (64, List.replicate 15 (.int 0)), (64, List.replicate 15 (.int 0)), (64, List.replicate 15 (.int 0)), (2, [.int 0, .int 0, .int 0, .int 0, .ref (n + 40), .ref (n + 41), .ref (n + 42), .ref (n + 43), .ref (n + 44), .ref (n + 45)]), (64, List.replicate 4 (.int 0)), (64, List.replicate 4 (.int 0)), (65, List.replicate 6 (.int 0)), (64, List.replicate 15 (.int 0)), (64, List.replicate 15 (.int 0)), (64, List.replicate 15 (.int 0))]) (x' := [(3, [.ref (n + 1), .int 0]), (68, [.ref (n + 2), .ref (n + 5), .ref (n + 8), .ref (n + 11)]), (9, [.int 0, .int 0, .ref (n + 3), .ref (n + 4)]), (65, List.replicate 3 (.int 0)), (64, List.replicate 24 (.int 0)), (9, [.int 0, .int 0, .ref (n + 6), .ref (n + 7)]), (65, List.replicate 3 (.int 0)), (64, List.replicate 24 (.int 0)), (9, [.int 0, .int 0, .ref (n + 9), .ref (n + 10)]), (65, List.replicate 3 (.int 0)), (64, List.replicate 24 (.int 0)), (9, [.int 0, .int 0, .ref (n + 12), .ref (n + 13)]), (65, List.replicate 3 (.int 0)), (64, List.replicate 24 (.int 0)), (10, [.ref (n + 15), .int 0]), (66, List.replicate 200 (.int 0)), (8, [.ref (n + 17)]), (11, [.ref (n + 18), .ref (n + 19), .ref (n + 20), .int 0, .int 0]), (64, List.replicate 201 (.int 0)), (64, List.replicate 201 (.int 0)), (64, List.replicate 201 (.int 0)), (69, [.null, .null, .null, .null, .null]), (7, [.int 0, .ref (n + 23), .ref (n + 24)]), (70, [.ref (n + 25), .ref (n + 32), .ref (n + 39)]), (64, List.replicate 2 (.int 0)), (2, [.int 0, .int 0, .int 0, .int 0, .ref (n + 26), .ref (n + 27), .ref (n + 28), .ref (n + 29), .ref (n + 30), .ref (n + 31)]), (64, List.replicate 4 (.int 0)), (64, List.replicate 4 (.int 0)), (65, List.replicate 6 (.int 0)), (64, List.replicate 15 (.int 0)), (64, List.replicate 15 (.int 0)), (64, List.replicate 15 (.int 0)), (2, [.int 0, .int 0, .int 0, .int 0, .ref (n + 33), .ref (n + 34), .ref (n + 35), .ref (n + 36), .ref (n + 37), .ref (n + 38)]), (64, List.replicate 4 (.int 0)), (64, List.replicate 4 (.int 0)), (65, List.replicate 6 (.int 0)), (64, List.replicate 15 (.int 0)), (64, List.replicate 15 (.int 0)), (64, List.replicate 15 (.int 0)), (2, [.int 0, .int 0, .int 0, .int 0, .ref (n + 40), .ref (n + 41), .ref (n + 42), .ref (n + 43), .ref (n + 44), .ref (n + 45)]), (64, List.replicate 4 (.int 0)), (64, List.replicate 4 (.int 0)), (65, List.replicate 6 (.int 0)), (64, List.replicate 15 (.int 0)), (64, List.replicate 15 (.int 0)), (64, List.replicate 15 (.int 0))]) hn dBp_init_61 rfl rfl rfl kQu_init eQu_init lBp_36 iQu_init rfl rfl (Nat.le_of_ble_eq_true rfl) (fun P1 hp1 => cQu_init (n := n + 23) (by rw [nf_len hn]; rfl) ((nf_get hn 22).trans rfl) (by omega) hp1) rfl ?_
  refine QW.aastN (k := 21) (j := 22) (x' := [(3, [.ref (n + 1), .int 0]), (68, [.ref (n + 2), .ref (n + 5), .ref (n + 8), .ref (n + 11)]), (9, [.int 0, .int 0, .ref (n + 3), .ref (n + 4)]), (65, List.replicate 3 (.int 0)), (64, List.replicate 24 (.int 0)), (9, [.int 0, .int 0, .ref (n + 6), .ref (n + 7)]), (65, List.replicate 3 (.int 0)), (64, List.replicate 24 (.int 0)), (9, [.int 0, .int 0, .ref (n + 9), .ref (n + 10)]), (65, List.replicate 3 (.int 0)), (64, List.replicate 24 (.int 0)), (9, [.int 0, .int 0, .ref (n + 12), .ref (n + 13)]), (65, List.replicate 3 (.int 0)), (64, List.replicate 24 (.int 0)), (10, [.ref (n + 15), .int 0]), (66, List.replicate 200 (.int 0)), (8, [.ref (n + 17)]), (11, [.ref (n + 18), .ref (n + 19), .ref (n + 20), .int 0, .int 0]), (64, List.replicate 201 (.int 0)), (64, List.replicate 201 (.int 0)), (64, List.replicate 201 (.int 0)), (69, [.ref (n + 22), .null, .null, .null, .null]), (7, [.int 0, .ref (n + 23), .ref (n + 24)]), (70, [.ref (n + 25), .ref (n + 32), .ref (n + 39)]), (64, List.replicate 2 (.int 0)), (2, [.int 0, .int 0, .int 0, .int 0, .ref (n + 26), .ref (n + 27), .ref (n + 28), .ref (n + 29), .ref (n + 30), .ref (n + 31)]), (64, List.replicate 4 (.int 0)), (64, List.replicate 4 (.int 0)), (65, List.replicate 6 (.int 0)), (64, List.replicate 15 (.int 0)), (64, List.replicate 15 (.int 0)), (64, List.replicate 15 (.int 0)), (2, [.int 0, .int 0, .int 0, .int 0, .ref (n + 33), .ref (n + 34), .ref (n + 35), .ref (n + 36), .ref (n + 37), .ref (n + 38)]), (64, List.replicate 4 (.int 0)), (64, List.replicate 4 (.int 0)), (65, List.replicate 6 (.int 0)), (64, List.replicate 15 (.int 0)), (64, List.replicate 15 (.int 0)), (64, List.replicate 15 (.int 0)), (2, [.int 0, .int 0, .int 0, .int 0, .ref (n + 40), .ref (n + 41), .ref (n + 42), .ref (n + 43), .ref (n + 44), .ref (n + 45)]), (64, List.replicate 4 (.int 0)), (64, List.replicate 4 (.int 0)), (65, List.replicate 6 (.int 0)), (64, List.replicate 15 (.int 0)), (64, List.replicate 15 (.int 0)), (64, List.replicate 15 (.int 0))]) hn dBp_init_64 rfl rfl (by decide) (by decide) rfl rfl rfl (by decide) rfl rfl ?_
  refine QW.iincN (v := 1) (ls' := [.val (.ref a), .val (.int 1)]) dBp_init_65 rfl (by decide) rfl ?_
  refine QW.goto (tgt := 47) dBp_init_68 (by decide) ?_
  refine QW.iload_n dBp_init_47 rfl rfl ?_
  refine QW.iconst (v := 4) dBp_init_48 (by decide) ?_
  refine QW.icmp_gt (tgt := 71) dBp_init_49 (by decide) (fun z => absurd z (by decide)) (fun _ => ?_)
  refine QW.aload_n dBp_init_52 rfl rfl ?_
  refine QW.getfo hn ha dBp_init_53 fBp_32 rfl ?_
  refine QW.iload_n dBp_init_56 rfl rfl ?_
  refine QW.newN (k := 46) (x' := [(3, [.ref (n + 1), .int 0]), (68, [.ref (n + 2), .ref (n + 5), .ref (n + 8), .ref (n + 11)]), (9, [.int 0, .int 0, .ref (n + 3), .ref (n + 4)]), (65, List.replicate 3 (.int 0)), (64, List.replicate 24 (.int 0)), (9, [.int 0, .int 0, .ref (n + 6), .ref (n + 7)]), (65, List.replicate 3 (.int 0)), (64, List.replicate 24 (.int 0)), (9, [.int 0, .int 0, .ref (n + 9), .ref (n + 10)]), (65, List.replicate 3 (.int 0)), (64, List.replicate 24 (.int 0)), (9, [.int 0, .int 0, .ref (n + 12), .ref (n + 13)]), (65, List.replicate 3 (.int 0)), (64, List.replicate 24 (.int 0)), (10, [.ref (n + 15), .int 0]), (66, List.replicate 200 (.int 0)), (8, [.ref (n + 17)]), (11, [.ref (n + 18), .ref (n + 19), .ref (n + 20), .int 0, .int 0]), (64, List.replicate 201 (.int 0)), (64, List.replicate 201 (.int 0)), (64, List.replicate 201 (.int 0)), (69, [.ref (n + 22), .null, .null, .null, .null]), (7, [.int 0, .ref (n + 23), .ref (n + 24)]), (70, [.ref (n + 25), .ref (n + 32), .ref (n + 39)]), (64, List.replicate 2 (.int 0)), (2, [.int 0, .int 0, .int 0, .int 0, .ref (n + 26), .ref (n + 27), .ref (n + 28), .ref (n + 29), .ref (n + 30), .ref (n + 31)]), (64, List.replicate 4 (.int 0)), (64, List.replicate 4 (.int 0)), (65, List.replicate 6 (.int 0)), (64, List.replicate 15 (.int 0)), (64, List.replicate 15 (.int 0)), (64, List.replicate 15 (.int 0)), (2, [.int 0, .int 0, .int 0, .int 0, .ref (n + 33), .ref (n + 34), .ref (n + 35), .ref (n + 36), .ref (n + 37), .ref (n + 38)]), (64, List.replicate 4 (.int 0)), (64, List.replicate 4 (.int 0)), (65, List.replicate 6 (.int 0)), (64, List.replicate 15 (.int 0)), (64, List.replicate 15 (.int 0)), (64, List.replicate 15 (.int 0)), (2, [.int 0, .int 0, .int 0, .int 0, .ref (n + 40), .ref (n + 41), .ref (n + 42), .ref (n + 43), .ref (n + 44), .ref (n + 45)]), (64, List.replicate 4 (.int 0)), (64, List.replicate 4 (.int 0)), (65, List.replicate 6 (.int 0)), (64, List.replicate 15 (.int 0)), (64, List.replicate 15 (.int 0)), (64, List.replicate 15 (.int 0)), (7, [.int 0, .null, .null])]) hn dBp_init_57 nBp_30 rfl (by omega) rfl ?_
  refine QW.dup dBp_init_60 rfl ?_
  refine QW.ctorN (M2 := mQu_init) (k := 46) (C2 := (7, [.int 0, .ref (n + 47), .ref (n + 48)])) (y := [(70, [.ref (n + 49), .ref (n + 56), .ref (n + 63)]), (64, List.replicate 2 (.int 0)), (2, [.int 0, .int 0, .int 0, .int 0, .ref (n + 50), .ref (n + 51), .ref (n + 52), .ref (n + 53), .ref (n + 54), .ref (n + 55)]), (64, List.replicate 4 (.int 0)), (64, List.replicate 4 (.int 0)), (65, List.replicate 6 (.int 0)), (64, List.replicate 15 (.int 0)), (64, List.replicate 15 (.int 0)), (64, List.replicate 15 (.int 0)), (2, [.int 0, .int 0, .int 0, .int 0, .ref (n + 57), .ref (n + 58), .ref (n + 59), .ref (n + 60), .ref (n + 61), .ref (n + 62)]), (64, List.replicate 4 (.int 0)), (64, List.replicate 4 (.int 0)), (65, List.replicate 6 (.int 0)), (64, List.replicate 15 (.int 0)), (64, List.replicate 15 (.int 0)), (64, List.replicate 15 (.int 0)), (2, [.int 0, .int 0, .int 0, .int 0, .ref (n + 64), .ref (n + 65), .ref (n + 66), .ref (n + 67), .ref (n + 68), .ref (n + 69)]), (64, List.replicate 4 (.int 0)), (64, List.replicate 4 (.int 0)), (65, List.replicate 6 (.int 0)), (64, List.replicate 15 (.int 0)), (64, List.replicate 15 (.int 0)), (64, List.replicate 15 (.int 0))]) (x' := [(3, [.ref (n + 1), .int 0]), (68, [.ref (n + 2), .ref (n + 5), .ref (n + 8), .ref (n + 11)]), (9, [.int 0, .int 0, .ref (n + 3), .ref (n + 4)]), (65, List.replicate 3 (.int 0)), (64, List.replicate 24 (.int 0)), (9, [.int 0, .int 0, .ref (n + 6), .ref (n + 7)]), (65, List.replicate 3 (.int 0)), (64, List.replicate 24 (.int 0)), (9, [.int 0, .int 0, .ref (n + 9), .ref (n + 10)]), (65, List.replicate 3 (.int 0)), (64, List.replicate 24 (.int 0)), (9, [.int 0, .int 0, .ref (n + 12), .ref (n + 13)]), (65, List.replicate 3 (.int 0)), (64, List.replicate 24 (.int 0)), (10, [.ref (n + 15), .int 0]), (66, List.replicate 200 (.int 0)), (8, [.ref (n + 17)]), (11, [.ref (n + 18), .ref (n + 19), .ref (n + 20), .int 0, .int 0]), (64, List.replicate 201 (.int 0)), (64, List.replicate 201 (.int 0)), (64, List.replicate 201 (.int 0)), (69, [.ref (n + 22), .null, .null, .null, .null]), (7, [.int 0, .ref (n + 23), .ref (n + 24)]), (70, [.ref (n + 25), .ref (n + 32), .ref (n + 39)]), (64, List.replicate 2 (.int 0)), (2, [.int 0, .int 0, .int 0, .int 0, .ref (n + 26), .ref (n + 27), .ref (n + 28), .ref (n + 29), .ref (n + 30), .ref (n + 31)]), (64, List.replicate 4 (.int 0)), (64, List.replicate 4 (.int 0)), (65, List.replicate 6 (.int 0)), (64, List.replicate 15 (.int 0)), (64, List.replicate 15 (.int 0)), (64, List.replicate 15 (.int 0)), (2, [.int 0, .int 0, .int 0, .int 0, .ref (n + 33), .ref (n + 34), .ref (n + 35), .ref (n + 36), .ref (n + 37), .ref (n + 38)]), (64, List.replicate 4 (.int 0)), (64, List.replicate 4 (.int 0)), (65, List.replicate 6 (.int 0)), (64, List.replicate 15 (.int 0)), (64, List.replicate 15 (.int 0)), (64, List.replicate 15 (.int 0)), (2, [.int 0, .int 0, .int 0, .int 0, .ref (n + 40), .ref (n + 41), .ref (n + 42), .ref (n + 43), .ref (n + 44), .ref (n + 45)]), (64, List.replicate 4 (.int 0)), (64, List.replicate 4 (.int 0)), (65, List.replicate 6 (.int 0)), (64, List.replicate 15 (.int 0)), (64, List.replicate 15 (.int 0)), (64, List.replicate 15 (.int 0)), (7, [.int 0, .ref (n + 47), .ref (n + 48)]), (70, [.ref (n + 49), .ref (n + 56), .ref (n + 63)]), (64, List.replicate 2 (.int 0)), (2, [.int 0, .int 0, .int 0, .int 0, .ref (n + 50), .ref (n + 51), .ref (n + 52), .ref (n + 53), .ref (n + 54), .ref (n + 55)]), (64, List.replicate 4 (.int 0)), (64, List.replicate 4 (.int 0)), (65, List.replicate 6 (.int 0)), (64, List.replicate 15 (.int 0)), (64, List.replicate 15 (.int 0)), (64, List.replicate 15 (.int 0)), (2, [.int 0, .int 0, .int 0, .int 0, .ref (n + 57), .ref (n + 58), .ref (n + 59), .ref (n + 60), .ref (n + 61), .ref (n + 62)]), (64, List.replicate 4 (.int 0)), (64, List.replicate 4 (.int 0)), (65, List.replicate 6 (.int 0)), (64, List.replicate 15 (.int 0)), (64, List.replicate 15 (.int 0)), (64, List.replicate 15 (.int 0)), (2, [.int 0, .int 0, .int 0, .int 0, .ref (n + 64), .ref (n + 65), .ref (n + 66), .ref (n + 67), .ref (n + 68), .ref (n + 69)]), (64, List.replicate 4 (.int 0)), (64, List.replicate 4 (.int 0)), (65, List.replicate 6 (.int 0)), (64, List.replicate 15 (.int 0)), (64, List.replicate 15 (.int 0)), (64, List.replicate 15 (.int 0))]) hn dBp_init_61 rfl rfl rfl kQu_init eQu_init lBp_36 iQu_init rfl rfl (Nat.le_of_ble_eq_true rfl) (fun P1 hp1 => cQu_init (n := n + 47) (by rw [nf_len hn]; rfl) ((nf_get hn 46).trans rfl) (by omega) hp1) rfl ?_
  refine QW.aastN (k := 21) (j := 46) (x' := [(3, [.ref (n + 1), .int 0]), (68, [.ref (n + 2), .ref (n + 5), .ref (n + 8), .ref (n + 11)]), (9, [.int 0, .int 0, .ref (n + 3), .ref (n + 4)]), (65, List.replicate 3 (.int 0)), (64, List.replicate 24 (.int 0)), (9, [.int 0, .int 0, .ref (n + 6), .ref (n + 7)]), (65, List.replicate 3 (.int 0)), (64, List.replicate 24 (.int 0)), (9, [.int 0, .int 0, .ref (n + 9), .ref (n + 10)]), (65, List.replicate 3 (.int 0)), (64, List.replicate 24 (.int 0)), (9, [.int 0, .int 0, .ref (n + 12), .ref (n + 13)]), (65, List.replicate 3 (.int 0)), (64, List.replicate 24 (.int 0)), (10, [.ref (n + 15), .int 0]), (66, List.replicate 200 (.int 0)), (8, [.ref (n + 17)]), (11, [.ref (n + 18), .ref (n + 19), .ref (n + 20), .int 0, .int 0]), (64, List.replicate 201 (.int 0)), (64, List.replicate 201 (.int 0)), (64, List.replicate 201 (.int 0)), (69, [.ref (n + 22), .ref (n + 46), .null, .null, .null]), (7, [.int 0, .ref (n + 23), .ref (n + 24)]), (70, [.ref (n + 25), .ref (n + 32), .ref (n + 39)]), (64, List.replicate 2 (.int 0)), (2, [.int 0, .int 0, .int 0, .int 0, .ref (n + 26), .ref (n + 27), .ref (n + 28), .ref (n + 29), .ref (n + 30), .ref (n + 31)]), (64, List.replicate 4 (.int 0)), (64, List.replicate 4 (.int 0)), (65, List.replicate 6 (.int 0)), (64, List.replicate 15 (.int 0)), (64, List.replicate 15 (.int 0)), (64, List.replicate 15 (.int 0)), (2, [.int 0, .int 0, .int 0, .int 0, .ref (n + 33), .ref (n + 34), .ref (n + 35), .ref (n + 36), .ref (n + 37), .ref (n + 38)]), (64, List.replicate 4 (.int 0)), (64, List.replicate 4 (.int 0)), (65, List.replicate 6 (.int 0)), (64, List.replicate 15 (.int 0)), (64, List.replicate 15 (.int 0)), (64, List.replicate 15 (.int 0)), (2, [.int 0, .int 0, .int 0, .int 0, .ref (n + 40), .ref (n + 41), .ref (n + 42), .ref (n + 43), .ref (n + 44), .ref (n + 45)]), (64, List.replicate 4 (.int 0)), (64, List.replicate 4 (.int 0)), (65, List.replicate 6 (.int 0)), (64, List.replicate 15 (.int 0)), (64, List.replicate 15 (.int 0)), (64, List.replicate 15 (.int 0)), (7, [.int 0, .ref (n + 47), .ref (n + 48)]), (70, [.ref (n + 49), .ref (n + 56), .ref (n + 63)]), (64, List.replicate 2 (.int 0)), (2, [.int 0, .int 0, .int 0, .int 0, .ref (n + 50), .ref (n + 51), .ref (n + 52), .ref (n + 53), .ref (n + 54), .ref (n + 55)]), (64, List.replicate 4 (.int 0)), (64, List.replicate 4 (.int 0)), (65, List.replicate 6 (.int 0)), (64, List.replicate 15 (.int 0)), (64, List.replicate 15 (.int 0)), (64, List.replicate 15 (.int 0)), (2, [.int 0, .int 0, .int 0, .int 0, .ref (n + 57), .ref (n + 58), .ref (n + 59), .ref (n + 60), .ref (n + 61), .ref (n + 62)]), (64, List.replicate 4 (.int 0)), (64, List.replicate 4 (.int 0)), (65, List.replicate 6 (.int 0)), (64, List.replicate 15 (.int 0)), (64, List.replicate 15 (.int 0)), (64, List.replicate 15 (.int 0)), (2, [.int 0, .int 0, .int 0, .int 0, .ref (n + 64), .ref (n + 65), .ref (n + 66), .ref (n + 67), .ref (n + 68), .ref (n + 69)]), (64, List.replicate 4 (.int 0)), (64, List.replicate 4 (.int 0)), (65, List.replicate 6 (.int 0)), (64, List.replicate 15 (.int 0)), (64, List.replicate 15 (.int 0)), (64, List.replicate 15 (.int 0))]) hn dBp_init_64 rfl rfl (by decide) (by decide) rfl rfl rfl (by decide) rfl rfl ?_
  refine QW.iincN (v := 2) (ls' := [.val (.ref a), .val (.int 2)]) dBp_init_65 rfl (by decide) rfl ?_
  refine QW.goto (tgt := 47) dBp_init_68 (by decide) ?_
  refine QW.iload_n dBp_init_47 rfl rfl ?_
  refine QW.iconst (v := 4) dBp_init_48 (by decide) ?_
  refine QW.icmp_gt (tgt := 71) dBp_init_49 (by decide) (fun z => absurd z (by decide)) (fun _ => ?_)
  refine QW.aload_n dBp_init_52 rfl rfl ?_
  refine QW.getfo hn ha dBp_init_53 fBp_32 rfl ?_
  refine QW.iload_n dBp_init_56 rfl rfl ?_
  refine QW.newN (k := 70) (x' := [(3, [.ref (n + 1), .int 0]), (68, [.ref (n + 2), .ref (n + 5), .ref (n + 8), .ref (n + 11)]), (9, [.int 0, .int 0, .ref (n + 3), .ref (n + 4)]), (65, List.replicate 3 (.int 0)), (64, List.replicate 24 (.int 0)), (9, [.int 0, .int 0, .ref (n + 6), .ref (n + 7)]), (65, List.replicate 3 (.int 0)), (64, List.replicate 24 (.int 0)), (9, [.int 0, .int 0, .ref (n + 9), .ref (n + 10)]), (65, List.replicate 3 (.int 0)), (64, List.replicate 24 (.int 0)), (9, [.int 0, .int 0, .ref (n + 12), .ref (n + 13)]), (65, List.replicate 3 (.int 0)), (64, List.replicate 24 (.int 0)), (10, [.ref (n + 15), .int 0]), (66, List.replicate 200 (.int 0)), (8, [.ref (n + 17)]), (11, [.ref (n + 18), .ref (n + 19), .ref (n + 20), .int 0, .int 0]), (64, List.replicate 201 (.int 0)), (64, List.replicate 201 (.int 0)), (64, List.replicate 201 (.int 0)), (69, [.ref (n + 22), .ref (n + 46), .null, .null, .null]), (7, [.int 0, .ref (n + 23), .ref (n + 24)]), (70, [.ref (n + 25), .ref (n + 32), .ref (n + 39)]), (64, List.replicate 2 (.int 0)), (2, [.int 0, .int 0, .int 0, .int 0, .ref (n + 26), .ref (n + 27), .ref (n + 28), .ref (n + 29), .ref (n + 30), .ref (n + 31)]), (64, List.replicate 4 (.int 0)), (64, List.replicate 4 (.int 0)), (65, List.replicate 6 (.int 0)), (64, List.replicate 15 (.int 0)), (64, List.replicate 15 (.int 0)), (64, List.replicate 15 (.int 0)), (2, [.int 0, .int 0, .int 0, .int 0, .ref (n + 33), .ref (n + 34), .ref (n + 35), .ref (n + 36), .ref (n + 37), .ref (n + 38)]), (64, List.replicate 4 (.int 0)), (64, List.replicate 4 (.int 0)), (65, List.replicate 6 (.int 0)), (64, List.replicate 15 (.int 0)), (64, List.replicate 15 (.int 0)), (64, List.replicate 15 (.int 0)), (2, [.int 0, .int 0, .int 0, .int 0, .ref (n + 40), .ref (n + 41), .ref (n + 42), .ref (n + 43), .ref (n + 44), .ref (n + 45)]), (64, List.replicate 4 (.int 0)), (64, List.replicate 4 (.int 0)), (65, List.replicate 6 (.int 0)), (64, List.replicate 15 (.int 0)), (64, List.replicate 15 (.int 0)), (64, List.replicate 15 (.int 0)), (7, [.int 0, .ref (n + 47), .ref (n + 48)]), (70, [.ref (n + 49), .ref (n + 56), .ref (n + 63)]), (64, List.replicate 2 (.int 0)), (2, [.int 0, .int 0, .int 0, .int 0, .ref (n + 50), .ref (n + 51), .ref (n + 52), .ref (n + 53), .ref (n + 54), .ref (n + 55)]), (64, List.replicate 4 (.int 0)), (64, List.replicate 4 (.int 0)), (65, List.replicate 6 (.int 0)), (64, List.replicate 15 (.int 0)), (64, List.replicate 15 (.int 0)), (64, List.replicate 15 (.int 0)), (2, [.int 0, .int 0, .int 0, .int 0, .ref (n + 57), .ref (n + 58), .ref (n + 59), .ref (n + 60), .ref (n + 61), .ref (n + 62)]), (64, List.replicate 4 (.int 0)), (64, List.replicate 4 (.int 0)), (65, List.replicate 6 (.int 0)), (64, List.replicate 15 (.int 0)), (64, List.replicate 15 (.int 0)), (64, List.replicate 15 (.int 0)), (2, [.int 0, .int 0, .int 0, .int 0, .ref (n + 64), .ref (n + 65), .ref (n + 66), .ref (n + 67), .ref (n + 68), .ref (n + 69)]), (64, List.replicate 4 (.int 0)), (64, List.replicate 4 (.int 0)), (65, List.replicate 6 (.int 0)), (64, List.replicate 15 (.int 0)), (64, List.replicate 15 (.int 0)), (64, List.replicate 15 (.int 0)), (7, [.int 0, .null, .null])]) hn dBp_init_57 nBp_30 rfl (by omega) rfl ?_
  refine QW.dup dBp_init_60 rfl ?_
  refine QW.ctorN (M2 := mQu_init) (k := 70) (C2 := (7, [.int 0, .ref (n + 71), .ref (n + 72)])) (y := [(70, [.ref (n + 73), .ref (n + 80), .ref (n + 87)]), (64, List.replicate 2 (.int 0)), (2, [.int 0, .int 0, .int 0, .int 0, .ref (n + 74), .ref (n + 75), .ref (n + 76), .ref (n + 77), .ref (n + 78), .ref (n + 79)]), (64, List.replicate 4 (.int 0)), (64, List.replicate 4 (.int 0)), (65, List.replicate 6 (.int 0)), (64, List.replicate 15 (.int 0)), (64, List.replicate 15 (.int 0)), (64, List.replicate 15 (.int 0)), (2, [.int 0, .int 0, .int 0, .int 0, .ref (n + 81), .ref (n + 82), .ref (n + 83), .ref (n + 84), .ref (n + 85), .ref (n + 86)]), (64, List.replicate 4 (.int 0)), (64, List.replicate 4 (.int 0)), (65, List.replicate 6 (.int 0)), (64, List.replicate 15 (.int 0)), (64, List.replicate 15 (.int 0)), (64, List.replicate 15 (.int 0)), (2, [.int 0, .int 0, .int 0, .int 0, .ref (n + 88), .ref (n + 89), .ref (n + 90), .ref (n + 91), .ref (n + 92), .ref (n + 93)]), (64, List.replicate 4 (.int 0)), (64, List.replicate 4 (.int 0)), (65, List.replicate 6 (.int 0)), (64, List.replicate 15 (.int 0)), (64, List.replicate 15 (.int 0)), (64, List.replicate 15 (.int 0))]) (x' := [(3, [.ref (n + 1), .int 0]), (68, [.ref (n + 2), .ref (n + 5), .ref (n + 8), .ref (n + 11)]), (9, [.int 0, .int 0, .ref (n + 3), .ref (n + 4)]), (65, List.replicate 3 (.int 0)), (64, List.replicate 24 (.int 0)), (9, [.int 0, .int 0, .ref (n + 6), .ref (n + 7)]), (65, List.replicate 3 (.int 0)), (64, List.replicate 24 (.int 0)), (9, [.int 0, .int 0, .ref (n + 9), .ref (n + 10)]), (65, List.replicate 3 (.int 0)), (64, List.replicate 24 (.int 0)), (9, [.int 0, .int 0, .ref (n + 12), .ref (n + 13)]), (65, List.replicate 3 (.int 0)), (64, List.replicate 24 (.int 0)), (10, [.ref (n + 15), .int 0]), (66, List.replicate 200 (.int 0)), (8, [.ref (n + 17)]), (11, [.ref (n + 18), .ref (n + 19), .ref (n + 20), .int 0, .int 0]), (64, List.replicate 201 (.int 0)), (64, List.replicate 201 (.int 0)), (64, List.replicate 201 (.int 0)), (69, [.ref (n + 22), .ref (n + 46), .null, .null, .null]), (7, [.int 0, .ref (n + 23), .ref (n + 24)]), (70, [.ref (n + 25), .ref (n + 32), .ref (n + 39)]), (64, List.replicate 2 (.int 0)), (2, [.int 0, .int 0, .int 0, .int 0, .ref (n + 26), .ref (n + 27), .ref (n + 28), .ref (n + 29), .ref (n + 30), .ref (n + 31)]), (64, List.replicate 4 (.int 0)), (64, List.replicate 4 (.int 0)), (65, List.replicate 6 (.int 0)), (64, List.replicate 15 (.int 0)), (64, List.replicate 15 (.int 0)), (64, List.replicate 15 (.int 0)), (2, [.int 0, .int 0, .int 0, .int 0, .ref (n + 33), .ref (n + 34), .ref (n + 35), .ref (n + 36), .ref (n + 37), .ref (n + 38)]), (64, List.replicate 4 (.int 0)), (64, List.replicate 4 (.int 0)), (65, List.replicate 6 (.int 0)), (64, List.replicate 15 (.int 0)), (64, List.replicate 15 (.int 0)), (64, List.replicate 15 (.int 0)), (2, [.int 0, .int 0, .int 0, .int 0, .ref (n + 40), .ref (n + 41), .ref (n + 42), .ref (n + 43), .ref (n + 44), .ref (n + 45)]), (64, List.replicate 4 (.int 0)), (64, List.replicate 4 (.int 0)), (65, List.replicate 6 (.int 0)), (64, List.replicate 15 (.int 0)), (64, List.replicate 15 (.int 0)), (64, List.replicate 15 (.int 0)), (7, [.int 0, .ref (n + 47), .ref (n + 48)]), (70, [.ref (n + 49), .ref (n + 56), .ref (n + 63)]), (64, List.replicate 2 (.int 0)), (2, [.int 0, .int 0, .int 0, .int 0, .ref (n + 50), .ref (n + 51), .ref (n + 52), .ref (n + 53), .ref (n + 54), .ref (n + 55)]), (64, List.replicate 4 (.int 0)), (64, List.replicate 4 (.int 0)), (65, List.replicate 6 (.int 0)), (64, List.replicate 15 (.int 0)), (64, List.replicate 15 (.int 0)), (64, List.replicate 15 (.int 0)), (2, [.int 0, .int 0, .int 0, .int 0, .ref (n + 57), .ref (n + 58), .ref (n + 59), .ref (n + 60), .ref (n + 61), .ref (n + 62)]), (64, List.replicate 4 (.int 0)), (64, List.replicate 4 (.int 0)), (65, List.replicate 6 (.int 0)), (64, List.replicate 15 (.int 0)), (64, List.replicate 15 (.int 0)), (64, List.replicate 15 (.int 0)), (2, [.int 0, .int 0, .int 0, .int 0, .ref (n + 64), .ref (n + 65), .ref (n + 66), .ref (n + 67), .ref (n + 68), .ref (n + 69)]), (64, List.replicate 4 (.int 0)), (64, List.replicate 4 (.int 0)), (65, List.replicate 6 (.int 0)), (64, List.replicate 15 (.int 0)), (64, List.replicate 15 (.int 0)), (64, List.replicate 15 (.int 0)), (7, [.int 0, .ref (n + 71), .ref (n + 72)]), (70, [.ref (n + 73), .ref (n + 80), .ref (n + 87)]), (64, List.replicate 2 (.int 0)), (2, [.int 0, .int 0, .int 0, .int 0, .ref (n + 74), .ref (n + 75), .ref (n + 76), .ref (n + 77), .ref (n + 78), .ref (n + 79)]), (64, List.replicate 4 (.int 0)), (64, List.replicate 4 (.int 0)), (65, List.replicate 6 (.int 0)), (64, List.replicate 15 (.int 0)), (64, List.replicate 15 (.int 0)), (64, List.replicate 15 (.int 0)), (2, [.int 0, .int 0, .int 0, .int 0, .ref (n + 81), .ref (n + 82), .ref (n + 83), .ref (n + 84), .ref (n + 85), .ref (n + 86)]), (64, List.replicate 4 (.int 0)), (64, List.replicate 4 (.int 0)), (65, List.replicate 6 (.int 0)), (64, List.replicate 15 (.int 0)), (64, List.replicate 15 (.int 0)), (64, List.replicate 15 (.int 0)), (2, [.int 0, .int 0, .int 0, .int 0, .ref (n + 88), .ref (n + 89), .ref (n + 90), .ref (n + 91), .ref (n + 92), .ref (n + 93)]), (64, List.replicate 4 (.int 0)), (64, List.replicate 4 (.int 0)), (65, List.replicate 6 (.int 0)), (64, List.replicate 15 (.int 0)), (64, List.replicate 15 (.int 0)), (64, List.replicate 15 (.int 0))]) hn dBp_init_61 rfl rfl rfl kQu_init eQu_init lBp_36 iQu_init rfl rfl (Nat.le_of_ble_eq_true rfl) (fun P1 hp1 => cQu_init (n := n + 71) (by rw [nf_len hn]; rfl) ((nf_get hn 70).trans rfl) (by omega) hp1) rfl ?_
  refine QW.aastN (k := 21) (j := 70) (x' := [(3, [.ref (n + 1), .int 0]), (68, [.ref (n + 2), .ref (n + 5), .ref (n + 8), .ref (n + 11)]), (9, [.int 0, .int 0, .ref (n + 3), .ref (n + 4)]), (65, List.replicate 3 (.int 0)), (64, List.replicate 24 (.int 0)), (9, [.int 0, .int 0, .ref (n + 6), .ref (n + 7)]), (65, List.replicate 3 (.int 0)), (64, List.replicate 24 (.int 0)), (9, [.int 0, .int 0, .ref (n + 9), .ref (n + 10)]), (65, List.replicate 3 (.int 0)), (64, List.replicate 24 (.int 0)), (9, [.int 0, .int 0, .ref (n + 12), .ref (n + 13)]), (65, List.replicate 3 (.int 0)), (64, List.replicate 24 (.int 0)), (10, [.ref (n + 15), .int 0]), (66, List.replicate 200 (.int 0)), (8, [.ref (n + 17)]), (11, [.ref (n + 18), .ref (n + 19), .ref (n + 20), .int 0, .int 0]), (64, List.replicate 201 (.int 0)), (64, List.replicate 201 (.int 0)), (64, List.replicate 201 (.int 0)), (69, [.ref (n + 22), .ref (n + 46), .ref (n + 70), .null, .null]), (7, [.int 0, .ref (n + 23), .ref (n + 24)]), (70, [.ref (n + 25), .ref (n + 32), .ref (n + 39)]), (64, List.replicate 2 (.int 0)), (2, [.int 0, .int 0, .int 0, .int 0, .ref (n + 26), .ref (n + 27), .ref (n + 28), .ref (n + 29), .ref (n + 30), .ref (n + 31)]), (64, List.replicate 4 (.int 0)), (64, List.replicate 4 (.int 0)), (65, List.replicate 6 (.int 0)), (64, List.replicate 15 (.int 0)), (64, List.replicate 15 (.int 0)), (64, List.replicate 15 (.int 0)), (2, [.int 0, .int 0, .int 0, .int 0, .ref (n + 33), .ref (n + 34), .ref (n + 35), .ref (n + 36), .ref (n + 37), .ref (n + 38)]), (64, List.replicate 4 (.int 0)), (64, List.replicate 4 (.int 0)), (65, List.replicate 6 (.int 0)), (64, List.replicate 15 (.int 0)), (64, List.replicate 15 (.int 0)), (64, List.replicate 15 (.int 0)), (2, [.int 0, .int 0, .int 0, .int 0, .ref (n + 40), .ref (n + 41), .ref (n + 42), .ref (n + 43), .ref (n + 44), .ref (n + 45)]), (64, List.replicate 4 (.int 0)), (64, List.replicate 4 (.int 0)), (65, List.replicate 6 (.int 0)), (64, List.replicate 15 (.int 0)), (64, List.replicate 15 (.int 0)), (64, List.replicate 15 (.int 0)), (7, [.int 0, .ref (n + 47), .ref (n + 48)]), (70, [.ref (n + 49), .ref (n + 56), .ref (n + 63)]), (64, List.replicate 2 (.int 0)), (2, [.int 0, .int 0, .int 0, .int 0, .ref (n + 50), .ref (n + 51), .ref (n + 52), .ref (n + 53), .ref (n + 54), .ref (n + 55)]), (64, List.replicate 4 (.int 0)), (64, List.replicate 4 (.int 0)), (65, List.replicate 6 (.int 0)), (64, List.replicate 15 (.int 0)), (64, List.replicate 15 (.int 0)), (64, List.replicate 15 (.int 0)), (2, [.int 0, .int 0, .int 0, .int 0, .ref (n + 57), .ref (n + 58), .ref (n + 59), .ref (n + 60), .ref (n + 61), .ref (n + 62)]), (64, List.replicate 4 (.int 0)), (64, List.replicate 4 (.int 0)), (65, List.replicate 6 (.int 0)), (64, List.replicate 15 (.int 0)), (64, List.replicate 15 (.int 0)), (64, List.replicate 15 (.int 0)), (2, [.int 0, .int 0, .int 0, .int 0, .ref (n + 64), .ref (n + 65), .ref (n + 66), .ref (n + 67), .ref (n + 68), .ref (n + 69)]), (64, List.replicate 4 (.int 0)), (64, List.replicate 4 (.int 0)), (65, List.replicate 6 (.int 0)), (64, List.replicate 15 (.int 0)), (64, List.replicate 15 (.int 0)), (64, List.replicate 15 (.int 0)), (7, [.int 0, .ref (n + 71), .ref (n + 72)]), (70, [.ref (n + 73), .ref (n + 80), .ref (n + 87)]), (64, List.replicate 2 (.int 0)), (2, [.int 0, .int 0, .int 0, .int 0, .ref (n + 74), .ref (n + 75), .ref (n + 76), .ref (n + 77), .ref (n + 78), .ref (n + 79)]), (64, List.replicate 4 (.int 0)), (64, List.replicate 4 (.int 0)), (65, List.replicate 6 (.int 0)), (64, List.replicate 15 (.int 0)), (64, List.replicate 15 (.int 0)), (64, List.replicate 15 (.int 0)), (2, [.int 0, .int 0, .int 0, .int 0, .ref (n + 81), .ref (n + 82), .ref (n + 83), .ref (n + 84), .ref (n + 85), .ref (n + 86)]), (64, List.replicate 4 (.int 0)), (64, List.replicate 4 (.int 0)), (65, List.replicate 6 (.int 0)), (64, List.replicate 15 (.int 0)), (64, List.replicate 15 (.int 0)), (64, List.replicate 15 (.int 0)), (2, [.int 0, .int 0, .int 0, .int 0, .ref (n + 88), .ref (n + 89), .ref (n + 90), .ref (n + 91), .ref (n + 92), .ref (n + 93)]), (64, List.replicate 4 (.int 0)), (64, List.replicate 4 (.int 0)), (65, List.replicate 6 (.int 0)), (64, List.replicate 15 (.int 0)), (64, List.replicate 15 (.int 0)), (64, List.replicate 15 (.int 0))]) hn dBp_init_64 rfl rfl (by decide) (by decide) rfl rfl rfl (by decide) rfl rfl ?_
  refine QW.iincN (v := 3) (ls' := [.val (.ref a), .val (.int 3)]) dBp_init_65 rfl (by decide) rfl ?_
  refine QW.goto (tgt := 47) dBp_init_68 (by decide) ?_
  refine QW.iload_n dBp_init_47 rfl rfl ?_
  refine QW.iconst (v := 4) dBp_init_48 (by decide) ?_
  refine QW.icmp_gt (tgt := 71) dBp_init_49 (by decide) (fun z => absurd z (by decide)) (fun _ => ?_)
  refine QW.aload_n dBp_init_52 rfl rfl ?_
  refine QW.getfo hn ha dBp_init_53 fBp_32 rfl ?_
  refine QW.iload_n dBp_init_56 rfl rfl ?_
  refine QW.newN (k := 94) (x' := [(3, [.ref (n + 1), .int 0]), (68, [.ref (n + 2), .ref (n + 5), .ref (n + 8), .ref (n + 11)]), (9, [.int 0, .int 0, .ref (n + 3), .ref (n + 4)]), (65, List.replicate 3 (.int 0)), (64, List.replicate 24 (.int 0)), (9, [.int 0, .int 0, .ref (n + 6), .ref (n + 7)]), (65, List.replicate 3 (.int 0)), (64, List.replicate 24 (.int 0)), (9, [.int 0, .int 0, .ref (n + 9), .ref (n + 10)]), (65, List.replicate 3 (.int 0)), (64, List.replicate 24 (.int 0)), (9, [.int 0, .int 0, .ref (n + 12), .ref (n + 13)]), (65, List.replicate 3 (.int 0)), (64, List.replicate 24 (.int 0)), (10, [.ref (n + 15), .int 0]), (66, List.replicate 200 (.int 0)), (8, [.ref (n + 17)]), (11, [.ref (n + 18), .ref (n + 19), .ref (n + 20), .int 0, .int 0]), (64, List.replicate 201 (.int 0)), (64, List.replicate 201 (.int 0)), (64, List.replicate 201 (.int 0)), (69, [.ref (n + 22), .ref (n + 46), .ref (n + 70), .null, .null]), (7, [.int 0, .ref (n + 23), .ref (n + 24)]), (70, [.ref (n + 25), .ref (n + 32), .ref (n + 39)]), (64, List.replicate 2 (.int 0)), (2, [.int 0, .int 0, .int 0, .int 0, .ref (n + 26), .ref (n + 27), .ref (n + 28), .ref (n + 29), .ref (n + 30), .ref (n + 31)]), (64, List.replicate 4 (.int 0)), (64, List.replicate 4 (.int 0)), (65, List.replicate 6 (.int 0)), (64, List.replicate 15 (.int 0)), (64, List.replicate 15 (.int 0)), (64, List.replicate 15 (.int 0)), (2, [.int 0, .int 0, .int 0, .int 0, .ref (n + 33), .ref (n + 34), .ref (n + 35), .ref (n + 36), .ref (n + 37), .ref (n + 38)]), (64, List.replicate 4 (.int 0)), (64, List.replicate 4 (.int 0)), (65, List.replicate 6 (.int 0)), (64, List.replicate 15 (.int 0)), (64, List.replicate 15 (.int 0)), (64, List.replicate 15 (.int 0)), (2, [.int 0, .int 0, .int 0, .int 0, .ref (n + 40), .ref (n + 41), .ref (n + 42), .ref (n + 43), .ref (n + 44), .ref (n + 45)]), (64, List.replicate 4 (.int 0)), (64, List.replicate 4 (.int 0)), (65, List.replicate 6 (.int 0)), (64, List.replicate 15 (.int 0)), (64, List.replicate 15 (.int 0)), (64, List.replicate 15 (.int 0)), (7, [.int 0, .ref (n + 47), .ref (n + 48)]), (70, [.ref (n + 49), .ref (n + 56), .ref (n + 63)]), (64, List.replicate 2 (.int 0)), (2, [.int 0, .int 0, .int 0, .int 0, .ref (n + 50), .ref (n + 51), .ref (n + 52), .ref (n + 53), .ref (n + 54), .ref (n + 55)]), (64, List.replicate 4 (.int 0)), (64, List.replicate 4 (.int 0)), (65, List.replicate 6 (.int 0)), (64, List.replicate 15 (.int 0)), (64, List.replicate 15 (.int 0)), (64, List.replicate 15 (.int 0)), (2, [.int 0, .int 0, .int 0, .int 0, .ref (n + 57), .ref (n + 58), .ref (n + 59), .ref (n + 60), .ref (n + 61), .ref (n + 62)]), (64, List.replicate 4 (.int 0)), (64, List.replicate 4 (.int 0)), (65, List.replicate 6 (.int 0)), (64, List.replicate 15 (.int 0)), (64, List.replicate 15 (.int 0)), (64, List.replicate 15 (.int 0)), (2, [.int 0, .int 0, .int 0, .int 0, .ref (n + 64), .ref (n + 65), .ref (n + 66), .ref (n + 67), .ref (n + 68), .ref (n + 69)]), (64, List.replicate 4 (.int 0)), (64, List.replicate 4 (.int 0)), (65, List.replicate 6 (.int 0)), (64, List.replicate 15 (.int 0)), (64, List.replicate 15 (.int 0)), (64, List.replicate 15 (.int 0)), (7, [.int 0, .ref (n + 71), .ref (n + 72)]), (70, [.ref (n + 73), .ref (n + 80), .ref (n + 87)]), (64, List.replicate 2 (.int 0)), (2, [.int 0, .int 0, .int 0, .int 0, .ref (n + 74), .ref (n + 75), .ref (n + 76), .ref (n + 77), .ref (n + 78), .ref (n + 79)]), (64, List.replicate 4 (.int 0)), (64, List.replicate 4 (.int 0)), (65, List.replicate 6 (.int 0)), (64, List.replicate 15 (.int 0)), (64, List.replicate 15 (.int 0)), (64, List.replicate 15 (.int 0)), (2, [.int 0, .int 0, .int 0, .int 0, .ref (n + 81), .ref (n + 82), .ref (n + 83), .ref (n + 84), .ref (n + 85), .ref (n + 86)]), (64, List.replicate 4 (.int 0)), (64, List.replicate 4 (.int 0)), (65, List.replicate 6 (.int 0)), (64, List.replicate 15 (.int 0)), (64, List.replicate 15 (.int 0)), (64, List.replicate 15 (.int 0)), (2, [.int 0, .int 0, .int 0, .int 0, .ref (n + 88), .ref (n + 89), .ref (n + 90), .ref (n + 91), .ref (n + 92), .ref (n + 93)]), (64, List.replicate 4 (.int 0)), (64, List.replicate 4 (.int 0)), (65, List.replicate 6 (.int 0)), (64, List.replicate 15 (.int 0)), (64, List.replicate 15 (.int 0)), (64, List.replicate 15 (.int 0)), (7, [.int 0, .null, .null])]) hn dBp_init_57 nBp_30 rfl (by omega) rfl ?_
  refine QW.dup dBp_init_60 rfl ?_
  refine QW.ctorN (M2 := mQu_init) (k := 94) (C2 := (7, [.int 0, .ref (n + 95), .ref (n + 96)])) (y := [(70, [.ref (n + 97), .ref (n + 104), .ref (n + 111)]), (64, List.replicate 2 (.int 0)), (2, [.int 0, .int 0, .int 0, .int 0, .ref (n + 98), .ref (n + 99), .ref (n + 100), .ref (n + 101), .ref (n + 102), .ref (n + 103)]), (64, List.replicate 4 (.int 0)), (64, List.replicate 4 (.int 0)), (65, List.replicate 6 (.int 0)), (64, List.replicate 15 (.int 0)), (64, List.replicate 15 (.int 0)), (64, List.replicate 15 (.int 0)), (2, [.int 0, .int 0, .int 0, .int 0, .ref (n + 105), .ref (n + 106), .ref (n + 107), .ref (n + 108), .ref (n + 109), .ref (n + 110)]), (64, List.replicate 4 (.int 0)), (64, List.replicate 4 (.int 0)), (65, List.replicate 6 (.int 0)), (64, List.replicate 15 (.int 0)), (64, List.replicate 15 (.int 0)), (64, List.replicate 15 (.int 0)), (2, [.int 0, .int 0, .int 0, .int 0, .ref (n + 112), .ref (n + 113), .ref (n + 114), .ref (n + 115), .ref (n + 116), .ref (n + 117)]), (64, List.replicate 4 (.int 0)), (64, List.replicate 4 (.int 0)), (65, List.replicate 6 (.int 0)), (64, List.replicate 15 (.int 0)), (64, List.replicate 15 (.int 0)), (64, List.replicate 15 (.int 0))]) (x' := [(3, [.ref (n + 1), .int 0]), (68, [.ref (n + 2), .ref (n + 5), .ref (n + 8), .ref (n + 11)]), (9, [.int 0, .int 0, .ref (n + 3), .ref (n + 4)]), (65, List.replicate 3 (.int 0)), (64, List.replicate 24 (.int 0)), (9, [.int 0, .int 0, .ref (n + 6), .ref (n + 7)]), (65, List.replicate 3 (.int 0)), (64, List.replicate 24 (.int 0)), (9, [.int 0, .int 0, .ref (n + 9), .ref (n + 10)]), (65, List.replicate 3 (.int 0)), (64, List.replicate 24 (.int 0)), (9, [.int 0, .int 0, .ref (n + 12), .ref (n + 13)]), (65, List.replicate 3 (.int 0)), (64, List.replicate 24 (.int 0)), (10, [.ref (n + 15), .int 0]), (66, List.replicate 200 (.int 0)), (8, [.ref (n + 17)]), (11, [.ref (n + 18), .ref (n + 19), .ref (n + 20), .int 0, .int 0]), (64, List.replicate 201 (.int 0)), (64, List.replicate 201 (.int 0)), (64, List.replicate 201 (.int 0)), (69, [.ref (n + 22), .ref (n + 46), .ref (n + 70), .null, .null]), (7, [.int 0, .ref (n + 23), .ref (n + 24)]), (70, [.ref (n + 25), .ref (n + 32), .ref (n + 39)]), (64, List.replicate 2 (.int 0)), (2, [.int 0, .int 0, .int 0, .int 0, .ref (n + 26), .ref (n + 27), .ref (n + 28), .ref (n + 29), .ref (n + 30), .ref (n + 31)]), (64, List.replicate 4 (.int 0)), (64, List.replicate 4 (.int 0)), (65, List.replicate 6 (.int 0)), (64, List.replicate 15 (.int 0)), (64, List.replicate 15 (.int 0)), (64, List.replicate 15 (.int 0)), (2, [.int 0, .int 0, .int 0, .int 0, .ref (n + 33), .ref (n + 34), .ref (n + 35), .ref (n + 36), .ref (n + 37), .ref (n + 38)]), (64, List.replicate 4 (.int 0)), (64, List.replicate 4 (.int 0)), (65, List.replicate 6 (.int 0)), (64, List.replicate 15 (.int 0)), (64, List.replicate 15 (.int 0)), (64, List.replicate 15 (.int 0)), (2, [.int 0, .int 0, .int 0, .int 0, .ref (n + 40), .ref (n + 41), .ref (n + 42), .ref (n + 43), .ref (n + 44), .ref (n + 45)]), (64, List.replicate 4 (.int 0)), (64, List.replicate 4 (.int 0)), (65, List.replicate 6 (.int 0)), (64, List.replicate 15 (.int 0)), (64, List.replicate 15 (.int 0)), (64, List.replicate 15 (.int 0)), (7, [.int 0, .ref (n + 47), .ref (n + 48)]), (70, [.ref (n + 49), .ref (n + 56), .ref (n + 63)]), (64, List.replicate 2 (.int 0)), (2, [.int 0, .int 0, .int 0, .int 0, .ref (n + 50), .ref (n + 51), .ref (n + 52), .ref (n + 53), .ref (n + 54), .ref (n + 55)]), (64, List.replicate 4 (.int 0)), (64, List.replicate 4 (.int 0)), (65, List.replicate 6 (.int 0)), (64, List.replicate 15 (.int 0)), (64, List.replicate 15 (.int 0)), (64, List.replicate 15 (.int 0)), (2, [.int 0, .int 0, .int 0, .int 0, .ref (n + 57), .ref (n + 58), .ref (n + 59), .ref (n + 60), .ref (n + 61), .ref (n + 62)]), (64, List.replicate 4 (.int 0)), (64, List.replicate 4 (.int 0)), (65, List.replicate 6 (.int 0)), (64, List.replicate 15 (.int 0)), (64, List.replicate 15 (.int 0)), (64, List.replicate 15 (.int 0)), (2, [.int 0, .int 0, .int 0, .int 0, .ref (n + 64), .ref (n + 65), .ref (n + 66), .ref (n + 67), .ref (n + 68), .ref (n + 69)]), (64, List.replicate 4 (.int 0)), (64, List.replicate 4 (.int 0)), (65, List.replicate 6 (.int 0)), (64, List.replicate 15 (.int 0)), (64, List.replicate 15 (.int 0)), (64, List.replicate 15 (.int 0)), (7, [.int 0, .ref (n + 71), .ref (n + 72)]), (70, [.ref (n + 73), .ref (n + 80), .ref (n + 87)]), (64, List.replicate 2 (.int 0)), (2, [.int 0, .int 0, .int 0, .int 0, .ref (n + 74), .ref (n + 75), .ref (n + 76), .ref (n + 77), .ref (n + 78), .ref (n + 79)]), (64, List.replicate 4 (.int 0)), (64, List.replicate 4 (.int 0)), (65, List.replicate 6 (.int 0)), (64, List.replicate 15 (.int 0)), (64, List.replicate 15 (.int 0)), (64, List.replicate 15 (.int 0)), (2, [.int 0, .int 0, .int 0, .int 0, .ref (n + 81), .ref (n + 82), .ref (n + 83), .ref (n + 84), .ref (n + 85), .ref (n + 86)]), (64, List.replicate 4 (.int 0)), (64, List.replicate 4 (.int 0)), (65, List.replicate 6 (.int 0)), (64, List.replicate 15 (.int 0)), (64, List.replicate 15 (.int 0)), (64, List.replicate 15 (.int 0)), (2, [.int 0, .int 0, .int 0, .int 0, .ref (n + 88), .ref (n + 89), .ref (n + 90), .ref (n + 91), .ref (n + 92), .ref (n + 93)]), (64, List.replicate 4 (.int 0)), (64, List.replicate 4 (.int 0)), (65, List.replicate 6 (.int 0)), (64, List.replicate 15 (.int 0)), (64, List.replicate 15 (.int 0)), (64, List.replicate 15 (.int 0)), (7, [.int 0, .ref (n + 95), .ref (n + 96)]), (70, [.ref (n + 97), .ref (n + 104), .ref (n + 111)]), (64, List.replicate 2 (.int 0)), (2, [.int 0, .int 0, .int 0, .int 0, .ref (n + 98), .ref (n + 99), .ref (n + 100), .ref (n + 101), .ref (n + 102), .ref (n + 103)]), (64, List.replicate 4 (.int 0)), (64, List.replicate 4 (.int 0)), (65, List.replicate 6 (.int 0)), (64, List.replicate 15 (.int 0)), (64, List.replicate 15 (.int 0)), (64, List.replicate 15 (.int 0)), (2, [.int 0, .int 0, .int 0, .int 0, .ref (n + 105), .ref (n + 106), .ref (n + 107), .ref (n + 108), .ref (n + 109), .ref (n + 110)]), (64, List.replicate 4 (.int 0)), (64, List.replicate 4 (.int 0)), (65, List.replicate 6 (.int 0)), (64, List.replicate 15 (.int 0)), (64, List.replicate 15 (.int 0)), (64, List.replicate 15 (.int 0)), (2, [.int 0, .int 0, .int 0, .int 0, .ref (n + 112), .ref (n + 113), .ref (n + 114), .ref (n + 115), .ref (n + 116), .ref (n + 117)]), (64, List.replicate 4 (.int 0)), (64, List.replicate 4 (.int 0)), (65, List.replicate 6 (.int 0)), (64, List.replicate 15 (.int 0)), (64, List.replicate 15 (.int 0)), (64, List.replicate 15 (.int 0))]) hn dBp_init_61 rfl rfl rfl kQu_init eQu_init lBp_36 iQu_init rfl rfl (Nat.le_of_ble_eq_true rfl) (fun P1 hp1 => cQu_init (n := n + 95) (by rw [nf_len hn]; rfl) ((nf_get hn 94).trans rfl) (by omega) hp1) rfl ?_
  refine QW.aastN (k := 21) (j := 94) (x' := [(3, [.ref (n + 1), .int 0]), (68, [.ref (n + 2), .ref (n + 5), .ref (n + 8), .ref (n + 11)]), (9, [.int 0, .int 0, .ref (n + 3), .ref (n + 4)]), (65, List.replicate 3 (.int 0)), (64, List.replicate 24 (.int 0)), (9, [.int 0, .int 0, .ref (n + 6), .ref (n + 7)]), (65, List.replicate 3 (.int 0)), (64, List.replicate 24 (.int 0)), (9, [.int 0, .int 0, .ref (n + 9), .ref (n + 10)]), (65, List.replicate 3 (.int 0)), (64, List.replicate 24 (.int 0)), (9, [.int 0, .int 0, .ref (n + 12), .ref (n + 13)]), (65, List.replicate 3 (.int 0)), (64, List.replicate 24 (.int 0)), (10, [.ref (n + 15), .int 0]), (66, List.replicate 200 (.int 0)), (8, [.ref (n + 17)]), (11, [.ref (n + 18), .ref (n + 19), .ref (n + 20), .int 0, .int 0]), (64, List.replicate 201 (.int 0)), (64, List.replicate 201 (.int 0)), (64, List.replicate 201 (.int 0)), (69, [.ref (n + 22), .ref (n + 46), .ref (n + 70), .ref (n + 94), .null]), (7, [.int 0, .ref (n + 23), .ref (n + 24)]), (70, [.ref (n + 25), .ref (n + 32), .ref (n + 39)]), (64, List.replicate 2 (.int 0)), (2, [.int 0, .int 0, .int 0, .int 0, .ref (n + 26), .ref (n + 27), .ref (n + 28), .ref (n + 29), .ref (n + 30), .ref (n + 31)]), (64, List.replicate 4 (.int 0)), (64, List.replicate 4 (.int 0)), (65, List.replicate 6 (.int 0)), (64, List.replicate 15 (.int 0)), (64, List.replicate 15 (.int 0)), (64, List.replicate 15 (.int 0)), (2, [.int 0, .int 0, .int 0, .int 0, .ref (n + 33), .ref (n + 34), .ref (n + 35), .ref (n + 36), .ref (n + 37), .ref (n + 38)]), (64, List.replicate 4 (.int 0)), (64, List.replicate 4 (.int 0)), (65, List.replicate 6 (.int 0)), (64, List.replicate 15 (.int 0)), (64, List.replicate 15 (.int 0)), (64, List.replicate 15 (.int 0)), (2, [.int 0, .int 0, .int 0, .int 0, .ref (n + 40), .ref (n + 41), .ref (n + 42), .ref (n + 43), .ref (n + 44), .ref (n + 45)]), (64, List.replicate 4 (.int 0)), (64, List.replicate 4 (.int 0)), (65, List.replicate 6 (.int 0)), (64, List.replicate 15 (.int 0)), (64, List.replicate 15 (.int 0)), (64, List.replicate 15 (.int 0)), (7, [.int 0, .ref (n + 47), .ref (n + 48)]), (70, [.ref (n + 49), .ref (n + 56), .ref (n + 63)]), (64, List.replicate 2 (.int 0)), (2, [.int 0, .int 0, .int 0, .int 0, .ref (n + 50), .ref (n + 51), .ref (n + 52), .ref (n + 53), .ref (n + 54), .ref (n + 55)]), (64, List.replicate 4 (.int 0)), (64, List.replicate 4 (.int 0)), (65, List.replicate 6 (.int 0)), (64, List.replicate 15 (.int 0)), (64, List.replicate 15 (.int 0)), (64, List.replicate 15 (.int 0)), (2, [.int 0, .int 0, .int 0, .int 0, .ref (n + 57), .ref (n + 58), .ref (n + 59), .ref (n + 60), .ref (n + 61), .ref (n + 62)]), (64, List.replicate 4 (.int 0)), (64, List.replicate 4 (.int 0)), (65, List.replicate 6 (.int 0)), (64, List.replicate 15 (.int 0)), (64, List.replicate 15 (.int 0)), (64, List.replicate 15 (.int 0)), (2, [.int 0, .int 0, .int 0, .int 0, .ref (n + 64), .ref (n + 65), .ref (n + 66), .ref (n + 67), .ref (n + 68), .ref (n + 69)]), (64, List.replicate 4 (.int 0)), (64, List.replicate 4 (.int 0)), (65, List.replicate 6 (.int 0)), (64, List.replicate 15 (.int 0)), (64, List.replicate 15 (.int 0)), (64, List.replicate 15 (.int 0)), (7, [.int 0, .ref (n + 71), .ref (n + 72)]), (70, [.ref (n + 73), .ref (n + 80), .ref (n + 87)]), (64, List.replicate 2 (.int 0)), (2, [.int 0, .int 0, .int 0, .int 0, .ref (n + 74), .ref (n + 75), .ref (n + 76), .ref (n + 77), .ref (n + 78), .ref (n + 79)]), (64, List.replicate 4 (.int 0)), (64, List.replicate 4 (.int 0)), (65, List.replicate 6 (.int 0)), (64, List.replicate 15 (.int 0)), (64, List.replicate 15 (.int 0)), (64, List.replicate 15 (.int 0)), (2, [.int 0, .int 0, .int 0, .int 0, .ref (n + 81), .ref (n + 82), .ref (n + 83), .ref (n + 84), .ref (n + 85), .ref (n + 86)]), (64, List.replicate 4 (.int 0)), (64, List.replicate 4 (.int 0)), (65, List.replicate 6 (.int 0)), (64, List.replicate 15 (.int 0)), (64, List.replicate 15 (.int 0)), (64, List.replicate 15 (.int 0)), (2, [.int 0, .int 0, .int 0, .int 0, .ref (n + 88), .ref (n + 89), .ref (n + 90), .ref (n + 91), .ref (n + 92), .ref (n + 93)]), (64, List.replicate 4 (.int 0)), (64, List.replicate 4 (.int 0)), (65, List.replicate 6 (.int 0)), (64, List.replicate 15 (.int 0)), (64, List.replicate 15 (.int 0)), (64, List.replicate 15 (.int 0)), (7, [.int 0, .ref (n + 95), .ref (n + 96)]), (70, [.ref (n + 97), .ref (n + 104), .ref (n + 111)]), (64, List.replicate 2 (.int 0)), (2, [.int 0, .int 0, .int 0, .int 0, .ref (n + 98), .ref (n + 99), .ref (n + 100), .ref (n + 101), .ref (n + 102), .ref (n + 103)]), (64, List.replicate 4 (.int 0)), (64, List.replicate 4 (.int 0)), (65, List.replicate 6 (.int 0)), (64, List.replicate 15 (.int 0)), (64, List.replicate 15 (.int 0)), (64, List.replicate 15 (.int 0)), (2, [.int 0, .int 0, .int 0, .int 0, .ref (n + 105), .ref (n + 106), .ref (n + 107), .ref (n + 108), .ref (n + 109), .ref (n + 110)]), (64, List.replicate 4 (.int 0)), (64, List.replicate 4 (.int 0)), (65, List.replicate 6 (.int 0)), (64, List.replicate 15 (.int 0)), (64, List.replicate 15 (.int 0)), (64, List.replicate 15 (.int 0)), (2, [.int 0, .int 0, .int 0, .int 0, .ref (n + 112), .ref (n + 113), .ref (n + 114), .ref (n + 115), .ref (n + 116), .ref (n + 117)]), (64, List.replicate 4 (.int 0)), (64, List.replicate 4 (.int 0)), (65, List.replicate 6 (.int 0)), (64, List.replicate 15 (.int 0)), (64, List.replicate 15 (.int 0)), (64, List.replicate 15 (.int 0))]) hn dBp_init_64 rfl rfl (by decide) (by decide) rfl rfl rfl (by decide) rfl rfl ?_
  refine QW.iincN (v := 4) (ls' := [.val (.ref a), .val (.int 4)]) dBp_init_65 rfl (by decide) rfl ?_
  refine QW.goto (tgt := 47) dBp_init_68 (by decide) ?_
  refine QW.iload_n dBp_init_47 rfl rfl ?_
  refine QW.iconst (v := 4) dBp_init_48 (by decide) ?_
  refine QW.icmp_gt (tgt := 71) dBp_init_49 (by decide) (fun z => absurd z (by decide)) (fun _ => ?_)
  refine QW.aload_n dBp_init_52 rfl rfl ?_
  refine QW.getfo hn ha dBp_init_53 fBp_32 rfl ?_
  refine QW.iload_n dBp_init_56 rfl rfl ?_
  refine QW.newN (k := 118) (x' := [(3, [.ref (n + 1), .int 0]), (68, [.ref (n + 2), .ref (n + 5), .ref (n + 8), .ref (n + 11)]), (9, [.int 0, .int 0, .ref (n + 3), .ref (n + 4)]), (65, List.replicate 3 (.int 0)), (64, List.replicate 24 (.int 0)), (9, [.int 0, .int 0, .ref (n + 6), .ref (n + 7)]), (65, List.replicate 3 (.int 0)), (64, List.replicate 24 (.int 0)), (9, [.int 0, .int 0, .ref (n + 9), .ref (n + 10)]), (65, List.replicate 3 (.int 0)), (64, List.replicate 24 (.int 0)), (9, [.int 0, .int 0, .ref (n + 12), .ref (n + 13)]), (65, List.replicate 3 (.int 0)), (64, List.replicate 24 (.int 0)), (10, [.ref (n + 15), .int 0]), (66, List.replicate 200 (.int 0)), (8, [.ref (n + 17)]), (11, [.ref (n + 18), .ref (n + 19), .ref (n + 20), .int 0, .int 0]), (64, List.replicate 201 (.int 0)), (64, List.replicate 201 (.int 0)), (64, List.replicate 201 (.int 0)), (69, [.ref (n + 22), .ref (n + 46), .ref (n + 70), .ref (n + 94), .null]), (7, [.int 0, .ref (n + 23), .ref (n + 24)]), (70, [.ref (n + 25), .ref (n + 32), .ref (n + 39)]), (64, List.replicate 2 (.int 0)), (2, [.int 0, .int 0, .int 0, .int 0, .ref (n + 26), .ref (n + 27), .ref (n + 28), .ref (n + 29), .ref (n + 30), .ref (n + 31)]), (64, List.replicate 4 (.int 0)), (64, List.replicate 4 (.int 0)), (65, List.replicate 6 (.int 0)), (64, List.replicate 15 (.int 0)), (64, List.replicate 15 (.int 0)), (64, List.replicate 15 (.int 0)), (2, [.int 0, .int 0, .int 0, .int 0, .ref (n + 33), .ref (n + 34), .ref (n + 35), .ref (n + 36), .ref (n + 37), .ref (n + 38)]), (64, List.replicate 4 (.int 0)), (64, List.replicate 4 (.int 0)), (65, List.replicate 6 (.int 0)), (64, List.replicate 15 (.int 0)), (64, List.replicate 15 (.int 0)), (64, List.replicate 15 (.int 0)), (2, [.int 0, .int 0, .int 0, .int 0, .ref (n + 40), .ref (n + 41), .ref (n + 42), .ref (n + 43), .ref (n + 44), .ref (n + 45)]), (64, List.replicate 4 (.int 0)), (64, List.replicate 4 (.int 0)), (65, List.replicate 6 (.int 0)), (64, List.replicate 15 (.int 0)), (64, List.replicate 15 (.int 0)), (64, List.replicate 15 (.int 0)), (7, [.int 0, .ref (n + 47), .ref (n + 48)]), (70, [.ref (n + 49), .ref (n + 56), .ref (n + 63)]), (64, List.replicate 2 (.int 0)), (2, [.int 0, .int 0, .int 0, .int 0, .ref (n + 50), .ref (n + 51), .ref (n + 52), .ref (n + 53), .ref (n + 54), .ref (n + 55)]), (64, List.replicate 4 (.int 0)), (64, List.replicate 4 (.int 0)), (65, List.replicate 6 (.int 0)), (64, List.replicate 15 (.int 0)), (64, List.replicate 15 (.int 0)), (64, List.replicate 15 (.int 0)), (2, [.int 0, .int 0, .int 0, .int 0, .ref (n + 57), .ref (n + 58), .ref (n + 59), .ref (n + 60), .ref (n + 61), .ref (n + 62)]), (64, List.replicate 4 (.int 0)), (64, List.replicate 4 (.int 0)), (65, List.replicate 6 (.int 0)), (64, List.replicate 15 (.int 0)), (64, List.replicate 15 (.int 0)), (64, List.replicate 15 (.int 0)), (2, [.int 0, .int 0, .int 0, .int 0, .ref (n + 64), .ref (n + 65), .ref (n + 66), .ref (n + 67), .ref (n + 68), .ref (n + 69)]), (64, List.replicate 4 (.int 0)), (64, List.replicate 4 (.int 0)), (65, List.replicate 6 (.int 0)), (64, List.replicate 15 (.int 0)), (64, List.replicate 15 (.int 0)), (64, List.replicate 15 (.int 0)), (7, [.int 0, .ref (n + 71), .ref (n + 72)]), (70, [.ref (n + 73), .ref (n + 80), .ref (n + 87)]), (64, List.replicate 2 (.int 0)), (2, [.int 0, .int 0, .int 0, .int 0, .ref (n + 74), .ref (n + 75), .ref (n + 76), .ref (n + 77), .ref (n + 78), .ref (n + 79)]), (64, List.replicate 4 (.int 0)), (64, List.replicate 4 (.int 0)), (65, List.replicate 6 (.int 0)), (64, List.replicate 15 (.int 0)), (64, List.replicate 15 (.int 0)), (64, List.replicate 15 (.int 0)), (2, [.int 0, .int 0, .int 0, .int 0, .ref (n + 81), .ref (n + 82), .ref (n + 83), .ref (n + 84), .ref (n + 85), .ref (n + 86)]), (64, List.replicate 4 (.int 0)), (64, List.replicate 4 (.int 0)), (65, List.replicate 6 (.int 0)), (64, List.replicate 15 (.int 0)), (64, List.replicate 15 (.int 0)), (64, List.replicate 15 (.int 0)), (2, [.int 0, .int 0, .int 0, .int 0, .ref (n + 88), .ref (n + 89), .ref (n + 90), .ref (n + 91), .ref (n + 92), .ref (n + 93)]), (64, List.replicate 4 (.int 0)), (64, List.replicate 4 (.int 0)), (65, List.replicate 6 (.int 0)), (64, List.replicate 15 (.int 0)), (64, List.replicate 15 (.int 0)), (64, List.replicate 15 (.int 0)), (7, [.int 0, .ref (n + 95), .ref (n + 96)]), (70, [.ref (n + 97), .ref (n + 104), .ref (n + 111)]), (64, List.replicate 2 (.int 0)), (2, [.int 0, .int 0, .int 0, .int 0, .ref (n + 98), .ref (n + 99), .ref (n + 100), .ref (n + 101), .ref (n + 102), .ref (n + 103)]), (64, List.replicate 4 (.int 0)), (64, List.replicate 4 (.int 0)), (65, List.replicate 6 (.int 0)), (64, List.replicate 15 (.int 0)), (64, List.replicate 15 (.int 0)), (64, List.replicate 15 (.int 0)), (2, [.int 0, .int 0, .int 0, .int 0, .ref (n + 105), .ref (n + 106), .ref (n + 107), .ref (n + 108), .ref (n + 109), .ref (n + 110)]), (64, List.replicate 4 (.int 0)), (64, List.replicate 4 (.int 0)), (65, List.replicate 6 (.int 0)), (64, List.replicate 15 (.int 0)), (64, List.replicate 15 (.int 0)), (64, List.replicate 15 (.int 0)), (2, [.int 0, .int 0, .int 0, .int 0, .ref (n + 112), .ref (n + 113), .ref (n + 114), .ref (n + 115), .ref (n + 116), .ref (n + 117)]), (64, List.replicate 4 (.int 0)), (64, List.replicate 4 (.int 0)), (65, List.replicate 6 (.int 0)), (64, List.replicate 15 (.int 0)), (64, List.replicate 15 (.int 0)), (64, List.replicate 15 (.int 0)), (7, [.int 0, .null, .null])]) hn dBp_init_57 nBp_30 rfl (by omega) rfl ?_
  refine QW.dup dBp_init_60 rfl ?_
  refine QW.ctorN (M2 := mQu_init) (k := 118) (C2 := (7, [.int 0, .ref (n + 119), .ref (n + 120)])) (y := [(70, [.ref (n + 121), .ref (n + 128), .ref (n + 135)]), (64, List.replicate 2 (.int 0)), (2, [.int 0, .int 0, .int 0, .int 0, .ref (n + 122), .ref (n + 123), .ref (n + 124), .ref (n + 125), .ref (n + 126), .ref (n + 127)]), (64, List.replicate 4 (.int 0)), (64, List.replicate 4 (.int 0)), (65, List.replicate 6 (.int 0)), (64, List.replicate 15 (.int 0)), (64, List.replicate 15 (.int 0)), (64, List.replicate 15 (.int 0)), (2, [.int 0, .int 0, .int 0, .int 0, .ref (n + 129), .ref (n + 130), .ref (n + 131), .ref (n + 132), .ref (n + 133), .ref (n + 134)]), (64, List.replicate 4 (.int 0)), (64, List.replicate 4 (.int 0)), (65, List.replicate 6 (.int 0)), (64, List.replicate 15 (.int 0)), (64, List.replicate 15 (.int 0)), (64, List.replicate 15 (.int 0)), (2, [.int 0, .int 0, .int 0, .int 0, .ref (n + 136), .ref (n + 137), .ref (n + 138), .ref (n + 139), .ref (n + 140), .ref (n + 141)]), (64, List.replicate 4 (.int 0)), (64, List.replicate 4 (.int 0)), (65, List.replicate 6 (.int 0)), (64, List.replicate 15 (.int 0)), (64, List.replicate 15 (.int 0)), (64, List.replicate 15 (.int 0))]) (x' := [(3, [.ref (n + 1), .int 0]), (68, [.ref (n + 2), .ref (n + 5), .ref (n + 8), .ref (n + 11)]), (9, [.int 0, .int 0, .ref (n + 3), .ref (n + 4)]), (65, List.replicate 3 (.int 0)), (64, List.replicate 24 (.int 0)), (9, [.int 0, .int 0, .ref (n + 6), .ref (n + 7)]), (65, List.replicate 3 (.int 0)), (64, List.replicate 24 (.int 0)), (9, [.int 0, .int 0, .ref (n + 9), .ref (n + 10)]), (65, List.replicate 3 (.int 0)), (64, List.replicate 24 (.int 0)), (9, [.int 0, .int 0, .ref (n + 12), .ref (n + 13)]), (65, List.replicate 3 (.int 0)), (64, List.replicate 24 (.int 0)), (10, [.ref (n + 15), .int 0]), (66, List.replicate 200 (.int 0)), (8, [.ref (n + 17)]), (11, [.ref (n + 18), .ref (n + 19), .ref (n + 20), .int 0, .int 0]), (64, List.replicate 201 (.int 0)), (64, List.replicate 201 (.int 0)), (64, List.replicate 201 (.int 0)), (69, [.ref (n + 22), .ref (n + 46), .ref (n + 70), .ref (n + 94), .null]), (7, [.int 0, .ref (n + 23), .ref (n + 24)]), (70, [.ref (n + 25), .ref (n + 32), .ref (n + 39)]), (64, List.replicate 2 (.int 0)), (2, [.int 0, .int 0, .int 0, .int 0, .ref (n + 26), .ref (n + 27), .ref (n + 28), .ref (n + 29), .ref (n + 30), .ref (n + 31)]), (64, List.replicate 4 (.int 0)), (64, List.replicate 4 (.int 0)), (65, List.replicate 6 (.int 0)), (64, List.replicate 15 (.int 0)), (64, List.replicate 15 (.int 0)), (64, List.replicate 15 (.int 0)), (2, [.int 0, .int 0, .int 0, .int 0, .ref (n + 33), .ref (n + 34), .ref (n + 35), .ref (n + 36), .ref (n + 37), .ref (n + 38)]), (64, List.replicate 4 (.int 0)), (64, List.replicate 4 (.int 0)), (65, List.replicate 6 (.int 0)), (64, List.replicate 15 (.int 0)), (64, List.replicate 15 (.int 0)), (64, List.replicate 15 (.int 0)), (2, [.int 0, .int 0, .int 0, .int 0, .ref (n + 40), .ref (n + 41), .ref (n + 42), .ref (n + 43), .ref (n + 44), .ref (n + 45)]), (64, List.replicate 4 (.int 0)), (64, List.replicate 4 (.int 0)), (65, List.replicate 6 (.int 0)), (64, List.replicate 15 (.int 0)), (64, List.replicate 15 (.int 0)), (64, List.replicate 15 (.int 0)), (7, [.int 0, .ref (n + 47), .ref (n + 48)]), (70, [.ref (n + 49), .ref (n + 56), .ref (n + 63)]), (64, List.replicate 2 (.int 0)), (2, [.int 0, .int 0, .int 0, .int 0, .ref (n + 50), .ref (n + 51), .ref (n + 52), .ref (n + 53), .ref (n + 54), .ref (n + 55)]), (64, List.replicate 4 (.int 0)), (64, List.replicate 4 (.int 0)), (65, List.replicate 6 (.int 0)), (64, List.replicate 15 (.int 0)), (64, List.replicate 15 (.int 0)), (64, List.replicate 15 (.int 0)), (2, [.int 0, .int 0, .int 0, .int 0, .ref (n + 57), .ref (n + 58), .ref (n + 59), .ref (n + 60), .ref (n + 61), .ref (n + 62)]), (64, List.replicate 4 (.int 0)), (64, List.replicate 4 (.int 0)), (65, List.replicate 6 (.int 0)), (64, List.replicate 15 (.int 0)), (64, List.replicate 15 (.int 0)), (64, List.replicate 15 (.int 0)), (2, [.int 0, .int 0, .int 0, .int 0, .ref (n + 64), .ref (n + 65), .ref (n + 66), .ref (n + 67), .ref (n + 68), .ref (n + 69)]), (64, List.replicate 4 (.int 0)), (64, List.replicate 4 (.int 0)), (65, List.replicate 6 (.int 0)), (64, List.replicate 15 (.int 0)), (64, List.replicate 15 (.int 0)), (64, List.replicate 15 (.int 0)), (7, [.int 0, .ref (n + 71), .ref (n + 72)]), (70, [.ref (n + 73), .ref (n + 80), .ref (n + 87)]), (64, List.replicate 2 (.int 0)), (2, [.int 0, .int 0, .int 0, .int 0, .ref (n + 74), .ref (n + 75), .ref (n + 76), .ref (n + 77), .ref (n + 78), .ref (n + 79)]), (64, List.replicate 4 (.int 0)), (64, List.replicate 4 (.int 0)), (65, List.replicate 6 (.int 0)), (64, List.replicate 15 (.int 0)), (64, List.replicate 15 (.int 0)), (64, List.replicate 15 (.int 0)), (2, [.int 0, .int 0, .int 0, .int 0, .ref (n + 81), .ref (n + 82), .ref (n + 83), .ref (n + 84), .ref (n + 85), .ref (n + 86)]), (64, List.replicate 4 (.int 0)), (64, List.replicate 4 (.int 0)), (65, List.replicate 6 (.int 0)), (64, List.replicate 15 (.int 0)), (64, List.replicate 15 (.int 0)), (64, List.replicate 15 (.int 0)), (2, [.int 0, .int 0, .int 0, .int 0, .ref (n + 88), .ref (n + 89), .ref (n + 90), .ref (n + 91), .ref (n + 92), .ref (n + 93)]), (64, List.replicate 4 (.int 0)), (64, List.replicate 4 (.int 0)), (65, List.replicate 6 (.int 0)), (64, List.replicate 15 (.int 0)), (64, List.replicate 15 (.int 0)), (64, List.replicate 15 (.int 0)), (7, [.int 0, .ref (n + 95), .ref (n + 96)]), (70, [.ref (n + 97), .ref (n + 104), .ref (n + 111)]), (64, List.replicate 2 (.int 0)), (2, [.int 0, .int 0, .int 0, .int 0, .ref (n + 98), .ref (n + 99), .ref (n + 100), .ref (n + 101), .ref (n + 102), .ref (n + 103)]), (64, List.replicate 4 (.int 0)), (64, List.replicate 4 (.int 0)), (65, List.replicate 6 (.int 0)), (64, List.replicate 15 (.int 0)), (64, List.replicate 15 (.int 0)), (64, List.replicate 15 (.int 0)), (2, [.int 0, .int 0, .int 0, .int 0, .ref (n + 105), .ref (n + 106), .ref (n + 107), .ref (n + 108), .ref (n + 109), .ref (n + 110)]), (64, List.replicate 4 (.int 0)), (64, List.replicate 4 (.int 0)), (65, List.replicate 6 (.int 0)), (64, List.replicate 15 (.int 0)), (64, List.replicate 15 (.int 0)), (64, List.replicate 15 (.int 0)), (2, [.int 0, .int 0, .int 0, .int 0, .ref (n + 112), .ref (n + 113), .ref (n + 114), .ref (n + 115), .ref (n + 116), .ref (n + 117)]), (64, List.replicate 4 (.int 0)), (64, List.replicate 4 (.int 0)), (65, List.replicate 6 (.int 0)), (64, List.replicate 15 (.int 0)), (64, List.replicate 15 (.int 0)), (64, List.replicate 15 (.int 0)), (7, [.int 0, .ref (n + 119), .ref (n + 120)]), (70, [.ref (n + 121), .ref (n + 128), .ref (n + 135)]), (64, List.replicate 2 (.int 0)), (2, [.int 0, .int 0, .int 0, .int 0, .ref (n + 122), .ref (n + 123), .ref (n + 124), .ref (n + 125), .ref (n + 126), .ref (n + 127)]), (64, List.replicate 4 (.int 0)), (64, List.replicate 4 (.int 0)), (65, List.replicate 6 (.int 0)), (64, List.replicate 15 (.int 0)), (64, List.replicate 15 (.int 0)), (64, List.replicate 15 (.int 0)), (2, [.int 0, .int 0, .int 0, .int 0, .ref (n + 129), .ref (n + 130), .ref (n + 131), .ref (n + 132), .ref (n + 133), .ref (n + 134)]), (64, List.replicate 4 (.int 0)), (64, List.replicate 4 (.int 0)), (65, List.replicate 6 (.int 0)), (64, List.replicate 15 (.int 0)), (64, List.replicate 15 (.int 0)), (64, List.replicate 15 (.int 0)), (2, [.int 0, .int 0, .int 0, .int 0, .ref (n + 136), .ref (n + 137), .ref (n + 138), .ref (n + 139), .ref (n + 140), .ref (n + 141)]), (64, List.replicate 4 (.int 0)), (64, List.replicate 4 (.int 0)), (65, List.replicate 6 (.int 0)), (64, List.replicate 15 (.int 0)), (64, List.replicate 15 (.int 0)), (64, List.replicate 15 (.int 0))]) hn dBp_init_61 rfl rfl rfl kQu_init eQu_init lBp_36 iQu_init rfl rfl (Nat.le_of_ble_eq_true rfl) (fun P1 hp1 => cQu_init (n := n + 119) (by rw [nf_len hn]; rfl) ((nf_get hn 118).trans rfl) (by omega) hp1) rfl ?_
  refine QW.aastN (k := 21) (j := 118) (x' := [(3, [.ref (n + 1), .int 0]), (68, [.ref (n + 2), .ref (n + 5), .ref (n + 8), .ref (n + 11)]), (9, [.int 0, .int 0, .ref (n + 3), .ref (n + 4)]), (65, List.replicate 3 (.int 0)), (64, List.replicate 24 (.int 0)), (9, [.int 0, .int 0, .ref (n + 6), .ref (n + 7)]), (65, List.replicate 3 (.int 0)), (64, List.replicate 24 (.int 0)), (9, [.int 0, .int 0, .ref (n + 9), .ref (n + 10)]), (65, List.replicate 3 (.int 0)), (64, List.replicate 24 (.int 0)), (9, [.int 0, .int 0, .ref (n + 12), .ref (n + 13)]), (65, List.replicate 3 (.int 0)), (64, List.replicate 24 (.int 0)), (10, [.ref (n + 15), .int 0]), (66, List.replicate 200 (.int 0)), (8, [.ref (n + 17)]), (11, [.ref (n + 18), .ref (n + 19), .ref (n + 20), .int 0, .int 0]), (64, List.replicate 201 (.int 0)), (64, List.replicate 201 (.int 0)), (64, List.replicate 201 (.int 0)), (69, [.ref (n + 22), .ref (n + 46), .ref (n + 70), .ref (n + 94), .ref (n + 118)]), (7, [.int 0, .ref (n + 23), .ref (n + 24)]), (70, [.ref (n + 25), .ref (n + 32), .ref (n + 39)]), (64, List.replicate 2 (.int 0)), (2, [.int 0, .int 0, .int 0, .int 0, .ref (n + 26), .ref (n + 27), .ref (n + 28), .ref (n + 29), .ref (n + 30), .ref (n + 31)]), (64, List.replicate 4 (.int 0)), (64, List.replicate 4 (.int 0)), (65, List.replicate 6 (.int 0)), (64, List.replicate 15 (.int 0)), (64, List.replicate 15 (.int 0)), (64, List.replicate 15 (.int 0)), (2, [.int 0, .int 0, .int 0, .int 0, .ref (n + 33), .ref (n + 34), .ref (n + 35), .ref (n + 36), .ref (n + 37), .ref (n + 38)]), (64, List.replicate 4 (.int 0)), (64, List.replicate 4 (.int 0)), (65, List.replicate 6 (.int 0)), (64, List.replicate 15 (.int 0)), (64, List.replicate 15 (.int 0)), (64, List.replicate 15 (.int 0)), (2, [.int 0, .int 0, .int 0, .int 0, .ref (n + 40), .ref (n + 41), .ref (n + 42), .ref (n + 43), .ref (n + 44), .ref (n + 45)]), (64, List.replicate 4 (.int 0)), (64, List.replicate 4 (.int 0)), (65, List.replicate 6 (.int 0)), (64, List.replicate 15 (.int 0)), (64, List.replicate 15 (.int 0)), (64, List.replicate 15 (.int 0)), (7, [.int 0, .ref (n + 47), .ref (n + 48)]), (70, [.ref (n + 49), .ref (n + 56), .ref (n + 63)]), (64, List.replicate 2 (.int 0)), (2, [.int 0, .int 0, .int 0, .int 0, .ref (n + 50), .ref (n + 51), .ref (n + 52), .ref (n + 53), .ref (n + 54), .ref (n + 55)]), (64, List.replicate 4 (.int 0)), (64, List.replicate 4 (.int 0)), (65, List.replicate 6 (.int 0)), (64, List.replicate 15 (.int 0)), (64, List.replicate 15 (.int 0)), (64, List.replicate 15 (.int 0)), (2, [.int 0, .int 0, .int 0, .int 0, .ref (n + 57), .ref (n + 58), .ref (n + 59), .ref (n + 60), .ref (n + 61), .ref (n + 62)]), (64, List.replicate 4 (.int 0)), (64, List.replicate 4 (.int 0)), (65, List.replicate 6 (.int 0)), (64, List.replicate 15 (.int 0)), (64, List.replicate 15 (.int 0)), (64, List.replicate 15 (.int 0)), (2, [.int 0, .int 0, .int 0, .int 0, .ref (n + 64), .ref (n + 65), .ref (n + 66), .ref (n + 67), .ref (n + 68), .ref (n + 69)]), (64, List.replicate 4 (.int 0)), (64, List.replicate 4 (.int 0)), (65, List.replicate 6 (.int 0)), (64, List.replicate 15 (.int 0)), (64, List.replicate 15 (.int 0)), (64, List.replicate 15 (.int 0)), (7, [.int 0, .ref (n + 71), .ref (n + 72)]), (70, [.ref (n + 73), .ref (n + 80), .ref (n + 87)]), (64, List.replicate 2 (.int 0)), (2, [.int 0, .int 0, .int 0, .int 0, .ref (n + 74), .ref (n + 75), .ref (n + 76), .ref (n + 77), .ref (n + 78), .ref (n + 79)]), (64, List.replicate 4 (.int 0)), (64, List.replicate 4 (.int 0)), (65, List.replicate 6 (.int 0)), (64, List.replicate 15 (.int 0)), (64, List.replicate 15 (.int 0)), (64, List.replicate 15 (.int 0)), (2, [.int 0, .int 0, .int 0, .int 0, .ref (n + 81), .ref (n + 82), .ref (n + 83), .ref (n + 84), .ref (n + 85), .ref (n + 86)]), (64, List.replicate 4 (.int 0)), (64, List.replicate 4 (.int 0)), (65, List.replicate 6 (.int 0)), (64, List.replicate 15 (.int 0)), (64, List.replicate 15 (.int 0)), (64, List.replicate 15 (.int 0)), (2, [.int 0, .int 0, .int 0, .int 0, .ref (n + 88), .ref (n + 89), .ref (n + 90), .ref (n + 91), .ref (n + 92), .ref (n + 93)]), (64, List.replicate 4 (.int 0)), (64, List.replicate 4 (.int 0)), (65, List.replicate 6 (.int 0)), (64, List.replicate 15 (.int 0)), (64, List.replicate 15 (.int 0)), (64, List.replicate 15 (.int 0)), (7, [.int 0, .ref (n + 95), .ref (n + 96)]), (70, [.ref (n + 97), .ref (n + 104), .ref (n + 111)]), (64, List.replicate 2 (.int 0)), (2, [.int 0, .int 0, .int 0, .int 0, .ref (n + 98), .ref (n + 99), .ref (n + 100), .ref (n + 101), .ref (n + 102), .ref (n + 103)]), (64, List.replicate 4 (.int 0)), (64, List.replicate 4 (.int 0)), (65, List.replicate 6 (.int 0)), (64, List.replicate 15 (.int 0)), (64, List.replicate 15 (.int 0)), (64, List.replicate 15 (.int 0)), (2, [.int 0, .int 0, .int 0, .int 0, .ref (n + 105), .ref (n + 106), .ref (n + 107), .ref (n + 108), .ref (n + 109), .ref (n + 110)]), (64, List.replicate 4 (.int 0)), (64, List.replicate 4 (.int 0)), (65, List.replicate 6 (.int 0)), (64, List.replicate 15 (.int 0)), (64, List.replicate 15 (.int 0)), (64, List.replicate 15 (.int 0)), (2, [.int 0, .int 0, .int 0, .int 0, .ref (n + 112), .ref (n + 113), .ref (n + 114), .ref (n + 115), .ref (n + 116), .ref (n + 117)]), (64, List.replicate 4 (.int 0)), (64, List.replicate 4 (.int 0)), (65, List.replicate 6 (.int 0)), (64, List.replicate 15 (.int 0)), (64, List.replicate 15 (.int 0)), (64, List.replicate 15 (.int 0)), (7, [.int 0, .ref (n + 119), .ref (n + 120)]), (70, [.ref (n + 121), .ref (n + 128), .ref (n + 135)]), (64, List.replicate 2 (.int 0)), (2, [.int 0, .int 0, .int 0, .int 0, .ref (n + 122), .ref (n + 123), .ref (n + 124), .ref (n + 125), .ref (n + 126), .ref (n + 127)]), (64, List.replicate 4 (.int 0)), (64, List.replicate 4 (.int 0)), (65, List.replicate 6 (.int 0)), (64, List.replicate 15 (.int 0)), (64, List.replicate 15 (.int 0)), (64, List.replicate 15 (.int 0)), (2, [.int 0, .int 0, .int 0, .int 0, .ref (n + 129), .ref (n + 130), .ref (n + 131), .ref (n + 132), .ref (n + 133), .ref (n + 134)]), (64, List.replicate 4 (.int 0)), (64, List.replicate 4 (.int 0)), (65, List.replicate 6 (.int 0)), (64, List.replicate 15 (.int 0)), (64, List.replicate 15 (.int 0)), (64, List.replicate 15 (.int 0)), (2, [.int 0, .int 0, .int 0, .int 0, .ref (n + 136), .ref (n + 137), .ref (n + 138), .ref (n + 139), .ref (n + 140), .ref (n + 141)]), (64, List.replicate 4 (.int 0)), (64, List.replicate 4 (.int 0)), (65, List.replicate 6 (.int 0)), (64, List.replicate 15 (.int 0)), (64, List.replicate 15 (.int 0)), (64, List.replicate 15 (.int 0))]) hn dBp_init_64 rfl rfl (by decide) (by decide) rfl rfl rfl (by decide) rfl rfl ?_
  refine QW.iincN (v := 5) (ls' := [.val (.ref a), .val (.int 5)]) dBp_init_65 rfl (by decide) rfl ?_
  refine QW.goto (tgt := 47) dBp_init_68 (by decide) ?_
  refine QW.iload_n dBp_init_47 rfl rfl ?_
  refine QW.iconst (v := 4) dBp_init_48 (by decide) ?_
  refine QW.icmp_gt (tgt := 71) dBp_init_49 (by decide) (fun _ => ?_) (fun z => absurd z (by decide))
  refine QW.aload_n dBp_init_71 rfl rfl ?_
  refine QW.iconst (v := 0) dBp_init_72 (by decide) ?_
  refine QW.putfo (fs' := [.ref (n + 0), .ref (n + 14), .ref (n + 16), .ref (n + 21), .int 0, .int 0, .null, .null, .null, .null, .null, .null, .null]) hn ha dBp_init_73 fBp_37 rfl (fun _ => rfl) (fun _ => rfl) rfl ?_
  refine QW.aload_n dBp_init_76 rfl rfl ?_
  refine QW.iconst (v := (-1)) dBp_init_77 (by decide) ?_
  refine QW.putfo (fs' := [.ref (n + 0), .ref (n + 14), .ref (n + 16), .ref (n + 21), .int 0, .int (-1), .null, .null, .null, .null, .null, .null, .null]) hn ha dBp_init_78 fBp_41 rfl (fun _ => rfl) (fun _ => rfl) rfl ?_
  refine QW.aload_n dBp_init_81 rfl rfl ?_
  refine QW.newN (k := 142) (x' := [(3, [.ref (n + 1), .int 0]), (68, [.ref (n + 2), .ref (n + 5), .ref (n + 8), .ref (n + 11)]), (9, [.int 0, .int 0, .ref (n + 3), .ref (n + 4)]), (65, List.replicate 3 (.int 0)), (64, List.replicate 24 (.int 0)), (9, [.int 0, .int 0, .ref (n + 6), .ref (n + 7)]), (65, List.replicate 3 (.int 0)), (64, List.replicate 24 (.int 0)), (9, [.int 0, .int 0, .ref (n + 9), .ref (n + 10)]), (65, List.replicate 3 (.int 0)), (64, List.replicate 24 (.int 0)), (9, [.int 0, .int 0, .ref (n + 12), .ref (n + 13)]), (65, List.replicate 3 (.int 0)), (64, List.replicate 24 (.int 0)), (10, [.ref (n + 15), .int 0]), (66, List.replicate 200 (.int 0)), (8, [.ref (n + 17)]), (11, [.ref (n + 18), .ref (n + 19), .ref (n + 20), .int 0, .int 0]), (64, List.replicate 201 (.int 0)), (64, List.replicate 201 (.int 0)), (64, List.replicate 201 (.int 0)), (69, [.ref (n + 22), .ref (n + 46), .ref (n + 70), .ref (n + 94), .ref (n + 118)]), (7, [.int 0, .ref (n + 23), .ref (n + 24)]), (70, [.ref (n + 25), .ref (n + 32), .ref (n + 39)]), (64, List.replicate 2 (.int 0)), (2, [.int 0, .int 0, .int 0, .int 0, .ref (n + 26), .ref (n + 27), .ref (n + 28), .ref (n + 29), .ref (n + 30), .ref (n + 31)]), (64, List.replicate 4 (.int 0)), (64, List.replicate 4 (.int 0)), (65, List.replicate 6 (.int 0)), (64, List.replicate 15 (.int 0)), (64, List.replicate 15 (.int 0)), (64, List.replicate 15 (.int 0)), (2, [.int 0, .int 0, .int 0, .int 0, .ref (n + 33), .ref (n + 34), .ref (n + 35), .ref (n + 36), .ref (n + 37), .ref (n + 38)]), (64, List.replicate 4 (.int 0)), (64, List.replicate 4 (.int 0)), (65, List.replicate 6 (.int 0)), (64, List.replicate 15 (.int 0)), (64, List.replicate 15 (.int 0)), (64, List.replicate 15 (.int 0)), (2, [.int 0, .int 0, .int 0, .int 0, .ref (n + 40), .ref (n + 41), .ref (n + 42), .ref (n + 43), .ref (n + 44), .ref (n + 45)]), (64, List.replicate 4 (.int 0)), (64, List.replicate 4 (.int 0)), (65, List.replicate 6 (.int 0)), (64, List.replicate 15 (.int 0)), (64, List.replicate 15 (.int 0)), (64, List.replicate 15 (.int 0)), (7, [.int 0, .ref (n + 47), .ref (n + 48)]), (70, [.ref (n + 49), .ref (n + 56), .ref (n + 63)]), (64, List.replicate 2 (.int 0)), (2, [.int 0, .int 0, .int 0, .int 0, .ref (n + 50), .ref (n + 51), .ref (n + 52), .ref (n + 53), .ref (n + 54), .ref (n + 55)]), (64, List.replicate 4 (.int 0)), (64, List.replicate 4 (.int 0)), (65, List.replicate 6 (.int 0)), (64, List.replicate 15 (.int 0)), (64, List.replicate 15 (.int 0)), (64, List.replicate 15 (.int 0)), (2, [.int 0, .int 0, .int 0, .int 0, .ref (n + 57), .ref (n + 58), .ref (n + 59), .ref (n + 60), .ref (n + 61), .ref (n + 62)]), (64, List.replicate 4 (.int 0)), (64, List.replicate 4 (.int 0)), (65, List.replicate 6 (.int 0)), (64, List.replicate 15 (.int 0)), (64, List.replicate 15 (.int 0)), (64, List.replicate 15 (.int 0)), (2, [.int 0, .int 0, .int 0, .int 0, .ref (n + 64), .ref (n + 65), .ref (n + 66), .ref (n + 67), .ref (n + 68), .ref (n + 69)]), (64, List.replicate 4 (.int 0)), (64, List.replicate 4 (.int 0)), (65, List.replicate 6 (.int 0)), (64, List.replicate 15 (.int 0)), (64, List.replicate 15 (.int 0)), (64, List.replicate 15 (.int 0)), (7, [.int 0, .ref (n + 71), .ref (n + 72)]), (70, [.ref (n + 73), .ref (n + 80), .ref (n + 87)]), (64, List.replicate 2 (.int 0)), (2, [.int 0, .int 0, .int 0, .int 0, .ref (n + 74), .ref (n + 75), .ref (n + 76), .ref (n + 77), .ref (n + 78), .ref (n + 79)]), (64, List.replicate 4 (.int 0)), (64, List.replicate 4 (.int 0)), (65, List.replicate 6 (.int 0)), (64, List.replicate 15 (.int 0)), (64, List.replicate 15 (.int 0)), (64, List.replicate 15 (.int 0)), (2, [.int 0, .int 0, .int 0, .int 0, .ref (n + 81), .ref (n + 82), .ref (n + 83), .ref (n + 84), .ref (n + 85), .ref (n + 86)]), (64, List.replicate 4 (.int 0)), (64, List.replicate 4 (.int 0)), (65, List.replicate 6 (.int 0)), (64, List.replicate 15 (.int 0)), (64, List.replicate 15 (.int 0)), (64, List.replicate 15 (.int 0)), (2, [.int 0, .int 0, .int 0, .int 0, .ref (n + 88), .ref (n + 89), .ref (n + 90), .ref (n + 91), .ref (n + 92), .ref (n + 93)]), (64, List.replicate 4 (.int 0)), (64, List.replicate 4 (.int 0)), (65, List.replicate 6 (.int 0)), (64, List.replicate 15 (.int 0)), (64, List.replicate 15 (.int 0)), (64, List.replicate 15 (.int 0)), (7, [.int 0, .ref (n + 95), .ref (n + 96)]), (70, [.ref (n + 97), .ref (n + 104), .ref (n + 111)]), (64, List.replicate 2 (.int 0)), (2, [.int 0, .int 0, .int 0, .int 0, .ref (n + 98), .ref (n + 99), .ref (n + 100), .ref (n + 101), .ref (n + 102), .ref (n + 103)]), (64, List.replicate 4 (.int 0)), (64, List.replicate 4 (.int 0)), (65, List.replicate 6 (.int 0)), (64, List.replicate 15 (.int 0)), (64, List.replicate 15 (.int 0)), (64, List.replicate 15 (.int 0)), (2, [.int 0, .int 0, .int 0, .int 0, .ref (n + 105), .ref (n + 106), .ref (n + 107), .ref (n + 108), .ref (n + 109), .ref (n + 110)]), (64, List.replicate 4 (.int 0)), (64, List.replicate 4 (.int 0)), (65, List.replicate 6 (.int 0)), (64, List.replicate 15 (.int 0)), (64, List.replicate 15 (.int 0)), (64, List.replicate 15 (.int 0)), (2, [.int 0, .int 0, .int 0, .int 0, .ref (n + 112), .ref (n + 113), .ref (n + 114), .ref (n + 115), .ref (n + 116), .ref (n + 117)]), (64, List.replicate 4 (.int 0)), (64, List.replicate 4 (.int 0)), (65, List.replicate 6 (.int 0)), (64, List.replicate 15 (.int 0)), (64, List.replicate 15 (.int 0)), (64, List.replicate 15 (.int 0)), (7, [.int 0, .ref (n + 119), .ref (n + 120)]), (70, [.ref (n + 121), .ref (n + 128), .ref (n + 135)]), (64, List.replicate 2 (.int 0)), (2, [.int 0, .int 0, .int 0, .int 0, .ref (n + 122), .ref (n + 123), .ref (n + 124), .ref (n + 125), .ref (n + 126), .ref (n + 127)]), (64, List.replicate 4 (.int 0)), (64, List.replicate 4 (.int 0)), (65, List.replicate 6 (.int 0)), (64, List.replicate 15 (.int 0)), (64, List.replicate 15 (.int 0)), (64, List.replicate 15 (.int 0)), (2, [.int 0, .int 0, .int 0, .int 0, .ref (n + 129), .ref (n + 130), .ref (n + 131), .ref (n + 132), .ref (n + 133), .ref (n + 134)]), (64, List.replicate 4 (.int 0)), (64, List.replicate 4 (.int 0)), (65, List.replicate 6 (.int 0)), (64, List.replicate 15 (.int 0)), (64, List.replicate 15 (.int 0)), (64, List.replicate 15 (.int 0)), (2, [.int 0, .int 0, .int 0, .int 0, .ref (n + 136), .ref (n + 137), .ref (n + 138), .ref (n + 139), .ref (n + 140), .ref (n + 141)]), (64, List.replicate 4 (.int 0)), (64, List.replicate 4 (.int 0)), (65, List.replicate 6 (.int 0)), (64, List.replicate 15 (.int 0)), (64, List.replicate 15 (.int 0)), (64, List.replicate 15 (.int 0)), (6, [.null, .null, .null, .null])]) hn dBp_init_82 nBp_44 rfl (by omega) rfl ?_
  refine QW.dup dBp_init_85 rfl ?_
  refine QW.ctorN (M2 := mPlan_init) (k := 142) (C2 := (6, [.ref (n + 143), .ref (n + 144), .ref (n + 145), .ref (n + 146)])) (y := [(64, List.replicate 4 (.int 0)), (65, List.replicate 4 (.int 0)), (64, List.replicate 6 (.int 0)), (64, List.replicate 3 (.int 0))]) (x' := [(3, [.ref (n + 1), .int 0]), (68, [.ref (n + 2), .ref (n + 5), .ref (n + 8), .ref (n + 11)]), (9, [.int 0, .int 0, .ref (n + 3), .ref (n + 4)]), (65, List.replicate 3 (.int 0)), (64, List.replicate 24 (.int 0)), (9, [.int 0, .int 0, .ref (n + 6), .ref (n + 7)]), (65, List.replicate 3 (.int 0)), (64, List.replicate 24 (.int 0)), (9, [.int 0, .int 0, .ref (n + 9), .ref (n + 10)]), (65, List.replicate 3 (.int 0)), (64, List.replicate 24 (.int 0)), (9, [.int 0, .int 0, .ref (n + 12), .ref (n + 13)]), (65, List.replicate 3 (.int 0)), (64, List.replicate 24 (.int 0)), (10, [.ref (n + 15), .int 0]), (66, List.replicate 200 (.int 0)), (8, [.ref (n + 17)]), (11, [.ref (n + 18), .ref (n + 19), .ref (n + 20), .int 0, .int 0]), (64, List.replicate 201 (.int 0)), (64, List.replicate 201 (.int 0)), (64, List.replicate 201 (.int 0)), (69, [.ref (n + 22), .ref (n + 46), .ref (n + 70), .ref (n + 94), .ref (n + 118)]), (7, [.int 0, .ref (n + 23), .ref (n + 24)]), (70, [.ref (n + 25), .ref (n + 32), .ref (n + 39)]), (64, List.replicate 2 (.int 0)), (2, [.int 0, .int 0, .int 0, .int 0, .ref (n + 26), .ref (n + 27), .ref (n + 28), .ref (n + 29), .ref (n + 30), .ref (n + 31)]), (64, List.replicate 4 (.int 0)), (64, List.replicate 4 (.int 0)), (65, List.replicate 6 (.int 0)), (64, List.replicate 15 (.int 0)), (64, List.replicate 15 (.int 0)), (64, List.replicate 15 (.int 0)), (2, [.int 0, .int 0, .int 0, .int 0, .ref (n + 33), .ref (n + 34), .ref (n + 35), .ref (n + 36), .ref (n + 37), .ref (n + 38)]), (64, List.replicate 4 (.int 0)), (64, List.replicate 4 (.int 0)), (65, List.replicate 6 (.int 0)), (64, List.replicate 15 (.int 0)), (64, List.replicate 15 (.int 0)), (64, List.replicate 15 (.int 0)), (2, [.int 0, .int 0, .int 0, .int 0, .ref (n + 40), .ref (n + 41), .ref (n + 42), .ref (n + 43), .ref (n + 44), .ref (n + 45)]), (64, List.replicate 4 (.int 0)), (64, List.replicate 4 (.int 0)), (65, List.replicate 6 (.int 0)), (64, List.replicate 15 (.int 0)), (64, List.replicate 15 (.int 0)), (64, List.replicate 15 (.int 0)), (7, [.int 0, .ref (n + 47), .ref (n + 48)]), (70, [.ref (n + 49), .ref (n + 56), .ref (n + 63)]), (64, List.replicate 2 (.int 0)), (2, [.int 0, .int 0, .int 0, .int 0, .ref (n + 50), .ref (n + 51), .ref (n + 52), .ref (n + 53), .ref (n + 54), .ref (n + 55)]), (64, List.replicate 4 (.int 0)), (64, List.replicate 4 (.int 0)), (65, List.replicate 6 (.int 0)), (64, List.replicate 15 (.int 0)), (64, List.replicate 15 (.int 0)), (64, List.replicate 15 (.int 0)), (2, [.int 0, .int 0, .int 0, .int 0, .ref (n + 57), .ref (n + 58), .ref (n + 59), .ref (n + 60), .ref (n + 61), .ref (n + 62)]), (64, List.replicate 4 (.int 0)), (64, List.replicate 4 (.int 0)), (65, List.replicate 6 (.int 0)), (64, List.replicate 15 (.int 0)), (64, List.replicate 15 (.int 0)), (64, List.replicate 15 (.int 0)), (2, [.int 0, .int 0, .int 0, .int 0, .ref (n + 64), .ref (n + 65), .ref (n + 66), .ref (n + 67), .ref (n + 68), .ref (n + 69)]), (64, List.replicate 4 (.int 0)), (64, List.replicate 4 (.int 0)), (65, List.replicate 6 (.int 0)), (64, List.replicate 15 (.int 0)), (64, List.replicate 15 (.int 0)), (64, List.replicate 15 (.int 0)), (7, [.int 0, .ref (n + 71), .ref (n + 72)]), (70, [.ref (n + 73), .ref (n + 80), .ref (n + 87)]), (64, List.replicate 2 (.int 0)), (2, [.int 0, .int 0, .int 0, .int 0, .ref (n + 74), .ref (n + 75), .ref (n + 76), .ref (n + 77), .ref (n + 78), .ref (n + 79)]), (64, List.replicate 4 (.int 0)), (64, List.replicate 4 (.int 0)), (65, List.replicate 6 (.int 0)), (64, List.replicate 15 (.int 0)), (64, List.replicate 15 (.int 0)), (64, List.replicate 15 (.int 0)), (2, [.int 0, .int 0, .int 0, .int 0, .ref (n + 81), .ref (n + 82), .ref (n + 83), .ref (n + 84), .ref (n + 85), .ref (n + 86)]), (64, List.replicate 4 (.int 0)), (64, List.replicate 4 (.int 0)), (65, List.replicate 6 (.int 0)), (64, List.replicate 15 (.int 0)), (64, List.replicate 15 (.int 0)), (64, List.replicate 15 (.int 0)), (2, [.int 0, .int 0, .int 0, .int 0, .ref (n + 88), .ref (n + 89), .ref (n + 90), .ref (n + 91), .ref (n + 92), .ref (n + 93)]), (64, List.replicate 4 (.int 0)), (64, List.replicate 4 (.int 0)), (65, List.replicate 6 (.int 0)), (64, List.replicate 15 (.int 0)), (64, List.replicate 15 (.int 0)), (64, List.replicate 15 (.int 0)), (7, [.int 0, .ref (n + 95), .ref (n + 96)]), (70, [.ref (n + 97), .ref (n + 104), .ref (n + 111)]), (64, List.replicate 2 (.int 0)), (2, [.int 0, .int 0, .int 0, .int 0, .ref (n + 98), .ref (n + 99), .ref (n + 100), .ref (n + 101), .ref (n + 102), .ref (n + 103)]), (64, List.replicate 4 (.int 0)), (64, List.replicate 4 (.int 0)), (65, List.replicate 6 (.int 0)), (64, List.replicate 15 (.int 0)), (64, List.replicate 15 (.int 0)), (64, List.replicate 15 (.int 0)), (2, [.int 0, .int 0, .int 0, .int 0, .ref (n + 105), .ref (n + 106), .ref (n + 107), .ref (n + 108), .ref (n + 109), .ref (n + 110)]), (64, List.replicate 4 (.int 0)), (64, List.replicate 4 (.int 0)), (65, List.replicate 6 (.int 0)), (64, List.replicate 15 (.int 0)), (64, List.replicate 15 (.int 0)), (64, List.replicate 15 (.int 0)), (2, [.int 0, .int 0, .int 0, .int 0, .ref (n + 112), .ref (n + 113), .ref (n + 114), .ref (n + 115), .ref (n + 116), .ref (n + 117)]), (64, List.replicate 4 (.int 0)), (64, List.replicate 4 (.int 0)), (65, List.replicate 6 (.int 0)), (64, List.replicate 15 (.int 0)), (64, List.replicate 15 (.int 0)), (64, List.replicate 15 (.int 0)), (7, [.int 0, .ref (n + 119), .ref (n + 120)]), (70, [.ref (n + 121), .ref (n + 128), .ref (n + 135)]), (64, List.replicate 2 (.int 0)), (2, [.int 0, .int 0, .int 0, .int 0, .ref (n + 122), .ref (n + 123), .ref (n + 124), .ref (n + 125), .ref (n + 126), .ref (n + 127)]), (64, List.replicate 4 (.int 0)), (64, List.replicate 4 (.int 0)), (65, List.replicate 6 (.int 0)), (64, List.replicate 15 (.int 0)), (64, List.replicate 15 (.int 0)), (64, List.replicate 15 (.int 0)), (2, [.int 0, .int 0, .int 0, .int 0, .ref (n + 129), .ref (n + 130), .ref (n + 131), .ref (n + 132), .ref (n + 133), .ref (n + 134)]), (64, List.replicate 4 (.int 0)), (64, List.replicate 4 (.int 0)), (65, List.replicate 6 (.int 0)), (64, List.replicate 15 (.int 0)), (64, List.replicate 15 (.int 0)), (64, List.replicate 15 (.int 0)), (2, [.int 0, .int 0, .int 0, .int 0, .ref (n + 136), .ref (n + 137), .ref (n + 138), .ref (n + 139), .ref (n + 140), .ref (n + 141)]), (64, List.replicate 4 (.int 0)), (64, List.replicate 4 (.int 0)), (65, List.replicate 6 (.int 0)), (64, List.replicate 15 (.int 0)), (64, List.replicate 15 (.int 0)), (64, List.replicate 15 (.int 0)), (6, [.ref (n + 143), .ref (n + 144), .ref (n + 145), .ref (n + 146)]), (64, List.replicate 4 (.int 0)), (65, List.replicate 4 (.int 0)), (64, List.replicate 6 (.int 0)), (64, List.replicate 3 (.int 0))]) hn dBp_init_86 rfl rfl rfl kPlan_init ePlan_init lBp_46 iPlan_init rfl rfl (Nat.le_of_ble_eq_true rfl) (fun P1 hp1 => cPlan_init (n := n + 143) (by rw [nf_len hn]; rfl) ((nf_get hn 142).trans rfl) (by omega) hp1) rfl ?_
  refine QW.putFo (fs' := [.ref (n + 0), .ref (n + 14), .ref (n + 16), .ref (n + 21), .int 0, .int (-1), .ref (n + 142), .null, .null, .null, .null, .null, .null]) hn ha dBp_init_89 gBp_47 rfl rfl (fun _ => rfl) (fun _ => rfl) rfl ?_
  refine QW.aload_n dBp_init_92 rfl rfl ?_
  refine QW.newN (k := 147) (x' := [(3, [.ref (n + 1), .int 0]), (68, [.ref (n + 2), .ref (n + 5), .ref (n + 8), .ref (n + 11)]), (9, [.int 0, .int 0, .ref (n + 3), .ref (n + 4)]), (65, List.replicate 3 (.int 0)), (64, List.replicate 24 (.int 0)), (9, [.int 0, .int 0, .ref (n + 6), .ref (n + 7)]), (65, List.replicate 3 (.int 0)), (64, List.replicate 24 (.int 0)), (9, [.int 0, .int 0, .ref (n + 9), .ref (n + 10)]), (65, List.replicate 3 (.int 0)), (64, List.replicate 24 (.int 0)), (9, [.int 0, .int 0, .ref (n + 12), .ref (n + 13)]), (65, List.replicate 3 (.int 0)), (64, List.replicate 24 (.int 0)), (10, [.ref (n + 15), .int 0]), (66, List.replicate 200 (.int 0)), (8, [.ref (n + 17)]), (11, [.ref (n + 18), .ref (n + 19), .ref (n + 20), .int 0, .int 0]), (64, List.replicate 201 (.int 0)), (64, List.replicate 201 (.int 0)), (64, List.replicate 201 (.int 0)), (69, [.ref (n + 22), .ref (n + 46), .ref (n + 70), .ref (n + 94), .ref (n + 118)]), (7, [.int 0, .ref (n + 23), .ref (n + 24)]), (70, [.ref (n + 25), .ref (n + 32), .ref (n + 39)]), (64, List.replicate 2 (.int 0)), (2, [.int 0, .int 0, .int 0, .int 0, .ref (n + 26), .ref (n + 27), .ref (n + 28), .ref (n + 29), .ref (n + 30), .ref (n + 31)]), (64, List.replicate 4 (.int 0)), (64, List.replicate 4 (.int 0)), (65, List.replicate 6 (.int 0)), (64, List.replicate 15 (.int 0)), (64, List.replicate 15 (.int 0)), (64, List.replicate 15 (.int 0)), (2, [.int 0, .int 0, .int 0, .int 0, .ref (n + 33), .ref (n + 34), .ref (n + 35), .ref (n + 36), .ref (n + 37), .ref (n + 38)]), (64, List.replicate 4 (.int 0)), (64, List.replicate 4 (.int 0)), (65, List.replicate 6 (.int 0)), (64, List.replicate 15 (.int 0)), (64, List.replicate 15 (.int 0)), (64, List.replicate 15 (.int 0)), (2, [.int 0, .int 0, .int 0, .int 0, .ref (n + 40), .ref (n + 41), .ref (n + 42), .ref (n + 43), .ref (n + 44), .ref (n + 45)]), (64, List.replicate 4 (.int 0)), (64, List.replicate 4 (.int 0)), (65, List.replicate 6 (.int 0)), (64, List.replicate 15 (.int 0)), (64, List.replicate 15 (.int 0)), (64, List.replicate 15 (.int 0)), (7, [.int 0, .ref (n + 47), .ref (n + 48)]), (70, [.ref (n + 49), .ref (n + 56), .ref (n + 63)]), (64, List.replicate 2 (.int 0)), (2, [.int 0, .int 0, .int 0, .int 0, .ref (n + 50), .ref (n + 51), .ref (n + 52), .ref (n + 53), .ref (n + 54), .ref (n + 55)]), (64, List.replicate 4 (.int 0)), (64, List.replicate 4 (.int 0)), (65, List.replicate 6 (.int 0)), (64, List.replicate 15 (.int 0)), (64, List.replicate 15 (.int 0)), (64, List.replicate 15 (.int 0)), (2, [.int 0, .int 0, .int 0, .int 0, .ref (n + 57), .ref (n + 58), .ref (n + 59), .ref (n + 60), .ref (n + 61), .ref (n + 62)]), (64, List.replicate 4 (.int 0)), (64, List.replicate 4 (.int 0)), (65, List.replicate 6 (.int 0)), (64, List.replicate 15 (.int 0)), (64, List.replicate 15 (.int 0)), (64, List.replicate 15 (.int 0)), (2, [.int 0, .int 0, .int 0, .int 0, .ref (n + 64), .ref (n + 65), .ref (n + 66), .ref (n + 67), .ref (n + 68), .ref (n + 69)]), (64, List.replicate 4 (.int 0)), (64, List.replicate 4 (.int 0)), (65, List.replicate 6 (.int 0)), (64, List.replicate 15 (.int 0)), (64, List.replicate 15 (.int 0)), (64, List.replicate 15 (.int 0)), (7, [.int 0, .ref (n + 71), .ref (n + 72)]), (70, [.ref (n + 73), .ref (n + 80), .ref (n + 87)]), (64, List.replicate 2 (.int 0)), (2, [.int 0, .int 0, .int 0, .int 0, .ref (n + 74), .ref (n + 75), .ref (n + 76), .ref (n + 77), .ref (n + 78), .ref (n + 79)]), (64, List.replicate 4 (.int 0)), (64, List.replicate 4 (.int 0)), (65, List.replicate 6 (.int 0)), (64, List.replicate 15 (.int 0)), (64, List.replicate 15 (.int 0)), (64, List.replicate 15 (.int 0)), (2, [.int 0, .int 0, .int 0, .int 0, .ref (n + 81), .ref (n + 82), .ref (n + 83), .ref (n + 84), .ref (n + 85), .ref (n + 86)]), (64, List.replicate 4 (.int 0)), (64, List.replicate 4 (.int 0)), (65, List.replicate 6 (.int 0)), (64, List.replicate 15 (.int 0)), (64, List.replicate 15 (.int 0)), (64, List.replicate 15 (.int 0)), (2, [.int 0, .int 0, .int 0, .int 0, .ref (n + 88), .ref (n + 89), .ref (n + 90), .ref (n + 91), .ref (n + 92), .ref (n + 93)]), (64, List.replicate 4 (.int 0)), (64, List.replicate 4 (.int 0)), (65, List.replicate 6 (.int 0)), (64, List.replicate 15 (.int 0)), (64, List.replicate 15 (.int 0)), (64, List.replicate 15 (.int 0)), (7, [.int 0, .ref (n + 95), .ref (n + 96)]), (70, [.ref (n + 97), .ref (n + 104), .ref (n + 111)]), (64, List.replicate 2 (.int 0)), (2, [.int 0, .int 0, .int 0, .int 0, .ref (n + 98), .ref (n + 99), .ref (n + 100), .ref (n + 101), .ref (n + 102), .ref (n + 103)]), (64, List.replicate 4 (.int 0)), (64, List.replicate 4 (.int 0)), (65, List.replicate 6 (.int 0)), (64, List.replicate 15 (.int 0)), (64, List.replicate 15 (.int 0)), (64, List.replicate 15 (.int 0)), (2, [.int 0, .int 0, .int 0, .int 0, .ref (n + 105), .ref (n + 106), .ref (n + 107), .ref (n + 108), .ref (n + 109), .ref (n + 110)]), (64, List.replicate 4 (.int 0)), (64, List.replicate 4 (.int 0)), (65, List.replicate 6 (.int 0)), (64, List.replicate 15 (.int 0)), (64, List.replicate 15 (.int 0)), (64, List.replicate 15 (.int 0)), (2, [.int 0, .int 0, .int 0, .int 0, .ref (n + 112), .ref (n + 113), .ref (n + 114), .ref (n + 115), .ref (n + 116), .ref (n + 117)]), (64, List.replicate 4 (.int 0)), (64, List.replicate 4 (.int 0)), (65, List.replicate 6 (.int 0)), (64, List.replicate 15 (.int 0)), (64, List.replicate 15 (.int 0)), (64, List.replicate 15 (.int 0)), (7, [.int 0, .ref (n + 119), .ref (n + 120)]), (70, [.ref (n + 121), .ref (n + 128), .ref (n + 135)]), (64, List.replicate 2 (.int 0)), (2, [.int 0, .int 0, .int 0, .int 0, .ref (n + 122), .ref (n + 123), .ref (n + 124), .ref (n + 125), .ref (n + 126), .ref (n + 127)]), (64, List.replicate 4 (.int 0)), (64, List.replicate 4 (.int 0)), (65, List.replicate 6 (.int 0)), (64, List.replicate 15 (.int 0)), (64, List.replicate 15 (.int 0)), (64, List.replicate 15 (.int 0)), (2, [.int 0, .int 0, .int 0, .int 0, .ref (n + 129), .ref (n + 130), .ref (n + 131), .ref (n + 132), .ref (n + 133), .ref (n + 134)]), (64, List.replicate 4 (.int 0)), (64, List.replicate 4 (.int 0)), (65, List.replicate 6 (.int 0)), (64, List.replicate 15 (.int 0)), (64, List.replicate 15 (.int 0)), (64, List.replicate 15 (.int 0)), (2, [.int 0, .int 0, .int 0, .int 0, .ref (n + 136), .ref (n + 137), .ref (n + 138), .ref (n + 139), .ref (n + 140), .ref (n + 141)]), (64, List.replicate 4 (.int 0)), (64, List.replicate 4 (.int 0)), (65, List.replicate 6 (.int 0)), (64, List.replicate 15 (.int 0)), (64, List.replicate 15 (.int 0)), (64, List.replicate 15 (.int 0)), (6, [.ref (n + 143), .ref (n + 144), .ref (n + 145), .ref (n + 146)]), (64, List.replicate 4 (.int 0)), (65, List.replicate 4 (.int 0)), (64, List.replicate 6 (.int 0)), (64, List.replicate 3 (.int 0)), (1, [.int 0, .int 0, .null, .null])]) hn dBp_init_93 nBp_51 rfl (by omega) rfl ?_
  refine QW.dup dBp_init_96 rfl ?_
  refine QW.ctorN (M2 := mBag_init) (k := 147) (C2 := (1, [.int 0, .int 0, .ref (n + 148), .ref (n + 149)])) (y := [(64, List.replicate 192 (.int 0)), (64, List.replicate 64 (.int 0))]) (x' := [(3, [.ref (n + 1), .int 0]), (68, [.ref (n + 2), .ref (n + 5), .ref (n + 8), .ref (n + 11)]), (9, [.int 0, .int 0, .ref (n + 3), .ref (n + 4)]), (65, List.replicate 3 (.int 0)), (64, List.replicate 24 (.int 0)), (9, [.int 0, .int 0, .ref (n + 6), .ref (n + 7)]), (65, List.replicate 3 (.int 0)), (64, List.replicate 24 (.int 0)), (9, [.int 0, .int 0, .ref (n + 9), .ref (n + 10)]), (65, List.replicate 3 (.int 0)), (64, List.replicate 24 (.int 0)), (9, [.int 0, .int 0, .ref (n + 12), .ref (n + 13)]), (65, List.replicate 3 (.int 0)), (64, List.replicate 24 (.int 0)), (10, [.ref (n + 15), .int 0]), (66, List.replicate 200 (.int 0)), (8, [.ref (n + 17)]), (11, [.ref (n + 18), .ref (n + 19), .ref (n + 20), .int 0, .int 0]), (64, List.replicate 201 (.int 0)), (64, List.replicate 201 (.int 0)), (64, List.replicate 201 (.int 0)), (69, [.ref (n + 22), .ref (n + 46), .ref (n + 70), .ref (n + 94), .ref (n + 118)]), (7, [.int 0, .ref (n + 23), .ref (n + 24)]), (70, [.ref (n + 25), .ref (n + 32), .ref (n + 39)]), (64, List.replicate 2 (.int 0)), (2, [.int 0, .int 0, .int 0, .int 0, .ref (n + 26), .ref (n + 27), .ref (n + 28), .ref (n + 29), .ref (n + 30), .ref (n + 31)]), (64, List.replicate 4 (.int 0)), (64, List.replicate 4 (.int 0)), (65, List.replicate 6 (.int 0)), (64, List.replicate 15 (.int 0)), (64, List.replicate 15 (.int 0)), (64, List.replicate 15 (.int 0)), (2, [.int 0, .int 0, .int 0, .int 0, .ref (n + 33), .ref (n + 34), .ref (n + 35), .ref (n + 36), .ref (n + 37), .ref (n + 38)]), (64, List.replicate 4 (.int 0)), (64, List.replicate 4 (.int 0)), (65, List.replicate 6 (.int 0)), (64, List.replicate 15 (.int 0)), (64, List.replicate 15 (.int 0)), (64, List.replicate 15 (.int 0)), (2, [.int 0, .int 0, .int 0, .int 0, .ref (n + 40), .ref (n + 41), .ref (n + 42), .ref (n + 43), .ref (n + 44), .ref (n + 45)]), (64, List.replicate 4 (.int 0)), (64, List.replicate 4 (.int 0)), (65, List.replicate 6 (.int 0)), (64, List.replicate 15 (.int 0)), (64, List.replicate 15 (.int 0)), (64, List.replicate 15 (.int 0)), (7, [.int 0, .ref (n + 47), .ref (n + 48)]), (70, [.ref (n + 49), .ref (n + 56), .ref (n + 63)]), (64, List.replicate 2 (.int 0)), (2, [.int 0, .int 0, .int 0, .int 0, .ref (n + 50), .ref (n + 51), .ref (n + 52), .ref (n + 53), .ref (n + 54), .ref (n + 55)]), (64, List.replicate 4 (.int 0)), (64, List.replicate 4 (.int 0)), (65, List.replicate 6 (.int 0)), (64, List.replicate 15 (.int 0)), (64, List.replicate 15 (.int 0)), (64, List.replicate 15 (.int 0)), (2, [.int 0, .int 0, .int 0, .int 0, .ref (n + 57), .ref (n + 58), .ref (n + 59), .ref (n + 60), .ref (n + 61), .ref (n + 62)]), (64, List.replicate 4 (.int 0)), (64, List.replicate 4 (.int 0)), (65, List.replicate 6 (.int 0)), (64, List.replicate 15 (.int 0)), (64, List.replicate 15 (.int 0)), (64, List.replicate 15 (.int 0)), (2, [.int 0, .int 0, .int 0, .int 0, .ref (n + 64), .ref (n + 65), .ref (n + 66), .ref (n + 67), .ref (n + 68), .ref (n + 69)]), (64, List.replicate 4 (.int 0)), (64, List.replicate 4 (.int 0)), (65, List.replicate 6 (.int 0)), (64, List.replicate 15 (.int 0)), (64, List.replicate 15 (.int 0)), (64, List.replicate 15 (.int 0)), (7, [.int 0, .ref (n + 71), .ref (n + 72)]), (70, [.ref (n + 73), .ref (n + 80), .ref (n + 87)]), (64, List.replicate 2 (.int 0)), (2, [.int 0, .int 0, .int 0, .int 0, .ref (n + 74), .ref (n + 75), .ref (n + 76), .ref (n + 77), .ref (n + 78), .ref (n + 79)]), (64, List.replicate 4 (.int 0)), (64, List.replicate 4 (.int 0)), (65, List.replicate 6 (.int 0)), (64, List.replicate 15 (.int 0)), (64, List.replicate 15 (.int 0)), (64, List.replicate 15 (.int 0)), (2, [.int 0, .int 0, .int 0, .int 0, .ref (n + 81), .ref (n + 82), .ref (n + 83), .ref (n + 84), .ref (n + 85), .ref (n + 86)]), (64, List.replicate 4 (.int 0)), (64, List.replicate 4 (.int 0)), (65, List.replicate 6 (.int 0)), (64, List.replicate 15 (.int 0)), (64, List.replicate 15 (.int 0)), (64, List.replicate 15 (.int 0)), (2, [.int 0, .int 0, .int 0, .int 0, .ref (n + 88), .ref (n + 89), .ref (n + 90), .ref (n + 91), .ref (n + 92), .ref (n + 93)]), (64, List.replicate 4 (.int 0)), (64, List.replicate 4 (.int 0)), (65, List.replicate 6 (.int 0)), (64, List.replicate 15 (.int 0)), (64, List.replicate 15 (.int 0)), (64, List.replicate 15 (.int 0)), (7, [.int 0, .ref (n + 95), .ref (n + 96)]), (70, [.ref (n + 97), .ref (n + 104), .ref (n + 111)]), (64, List.replicate 2 (.int 0)), (2, [.int 0, .int 0, .int 0, .int 0, .ref (n + 98), .ref (n + 99), .ref (n + 100), .ref (n + 101), .ref (n + 102), .ref (n + 103)]), (64, List.replicate 4 (.int 0)), (64, List.replicate 4 (.int 0)), (65, List.replicate 6 (.int 0)), (64, List.replicate 15 (.int 0)), (64, List.replicate 15 (.int 0)), (64, List.replicate 15 (.int 0)), (2, [.int 0, .int 0, .int 0, .int 0, .ref (n + 105), .ref (n + 106), .ref (n + 107), .ref (n + 108), .ref (n + 109), .ref (n + 110)]), (64, List.replicate 4 (.int 0)), (64, List.replicate 4 (.int 0)), (65, List.replicate 6 (.int 0)), (64, List.replicate 15 (.int 0)), (64, List.replicate 15 (.int 0)), (64, List.replicate 15 (.int 0)), (2, [.int 0, .int 0, .int 0, .int 0, .ref (n + 112), .ref (n + 113), .ref (n + 114), .ref (n + 115), .ref (n + 116), .ref (n + 117)]), (64, List.replicate 4 (.int 0)), (64, List.replicate 4 (.int 0)), (65, List.replicate 6 (.int 0)), (64, List.replicate 15 (.int 0)), (64, List.replicate 15 (.int 0)), (64, List.replicate 15 (.int 0)), (7, [.int 0, .ref (n + 119), .ref (n + 120)]), (70, [.ref (n + 121), .ref (n + 128), .ref (n + 135)]), (64, List.replicate 2 (.int 0)), (2, [.int 0, .int 0, .int 0, .int 0, .ref (n + 122), .ref (n + 123), .ref (n + 124), .ref (n + 125), .ref (n + 126), .ref (n + 127)]), (64, List.replicate 4 (.int 0)), (64, List.replicate 4 (.int 0)), (65, List.replicate 6 (.int 0)), (64, List.replicate 15 (.int 0)), (64, List.replicate 15 (.int 0)), (64, List.replicate 15 (.int 0)), (2, [.int 0, .int 0, .int 0, .int 0, .ref (n + 129), .ref (n + 130), .ref (n + 131), .ref (n + 132), .ref (n + 133), .ref (n + 134)]), (64, List.replicate 4 (.int 0)), (64, List.replicate 4 (.int 0)), (65, List.replicate 6 (.int 0)), (64, List.replicate 15 (.int 0)), (64, List.replicate 15 (.int 0)), (64, List.replicate 15 (.int 0)), (2, [.int 0, .int 0, .int 0, .int 0, .ref (n + 136), .ref (n + 137), .ref (n + 138), .ref (n + 139), .ref (n + 140), .ref (n + 141)]), (64, List.replicate 4 (.int 0)), (64, List.replicate 4 (.int 0)), (65, List.replicate 6 (.int 0)), (64, List.replicate 15 (.int 0)), (64, List.replicate 15 (.int 0)), (64, List.replicate 15 (.int 0)), (6, [.ref (n + 143), .ref (n + 144), .ref (n + 145), .ref (n + 146)]), (64, List.replicate 4 (.int 0)), (65, List.replicate 4 (.int 0)), (64, List.replicate 6 (.int 0)), (64, List.replicate 3 (.int 0)), (1, [.int 0, .int 0, .ref (n + 148), .ref (n + 149)]), (64, List.replicate 192 (.int 0)), (64, List.replicate 64 (.int 0))]) hn dBp_init_97 rfl rfl rfl kBag_init eBag_init lBp_53 iBag_init rfl rfl (Nat.le_of_ble_eq_true rfl) (fun P1 hp1 => cBag_init (n := n + 148) (by rw [nf_len hn]; rfl) ((nf_get hn 147).trans rfl) (by omega) hp1) rfl ?_
  refine QW.putfo (fs' := [.ref (n + 0), .ref (n + 14), .ref (n + 16), .ref (n + 21), .int 0, .int (-1), .ref (n + 142), .ref (n + 147), .null, .null, .null, .null, .null]) hn ha dBp_init_100 fBp_54 rfl (fun _ => rfl) (fun _ => rfl) rfl ?_
  refine QW.aload_n dBp_init_103 rfl rfl ?_
  refine QW.newN (k := 150) (x' := [(3, [.ref (n + 1), .int 0]), (68, [.ref (n + 2), .ref (n + 5), .ref (n + 8), .ref (n + 11)]), (9, [.int 0, .int 0, .ref (n + 3), .ref (n + 4)]), (65, List.replicate 3 (.int 0)), (64, List.replicate 24 (.int 0)), (9, [.int 0, .int 0, .ref (n + 6), .ref (n + 7)]), (65, List.replicate 3 (.int 0)), (64, List.replicate 24 (.int 0)), (9, [.int 0, .int 0, .ref (n + 9), .ref (n + 10)]), (65, List.replicate 3 (.int 0)), (64, List.replicate 24 (.int 0)), (9, [.int 0, .int 0, .ref (n + 12), .ref (n + 13)]), (65, List.replicate 3 (.int 0)), (64, List.replicate 24 (.int 0)), (10, [.ref (n + 15), .int 0]), (66, List.replicate 200 (.int 0)), (8, [.ref (n + 17)]), (11, [.ref (n + 18), .ref (n + 19), .ref (n + 20), .int 0, .int 0]), (64, List.replicate 201 (.int 0)), (64, List.replicate 201 (.int 0)), (64, List.replicate 201 (.int 0)), (69, [.ref (n + 22), .ref (n + 46), .ref (n + 70), .ref (n + 94), .ref (n + 118)]), (7, [.int 0, .ref (n + 23), .ref (n + 24)]), (70, [.ref (n + 25), .ref (n + 32), .ref (n + 39)]), (64, List.replicate 2 (.int 0)), (2, [.int 0, .int 0, .int 0, .int 0, .ref (n + 26), .ref (n + 27), .ref (n + 28), .ref (n + 29), .ref (n + 30), .ref (n + 31)]), (64, List.replicate 4 (.int 0)), (64, List.replicate 4 (.int 0)), (65, List.replicate 6 (.int 0)), (64, List.replicate 15 (.int 0)), (64, List.replicate 15 (.int 0)), (64, List.replicate 15 (.int 0)), (2, [.int 0, .int 0, .int 0, .int 0, .ref (n + 33), .ref (n + 34), .ref (n + 35), .ref (n + 36), .ref (n + 37), .ref (n + 38)]), (64, List.replicate 4 (.int 0)), (64, List.replicate 4 (.int 0)), (65, List.replicate 6 (.int 0)), (64, List.replicate 15 (.int 0)), (64, List.replicate 15 (.int 0)), (64, List.replicate 15 (.int 0)), (2, [.int 0, .int 0, .int 0, .int 0, .ref (n + 40), .ref (n + 41), .ref (n + 42), .ref (n + 43), .ref (n + 44), .ref (n + 45)]), (64, List.replicate 4 (.int 0)), (64, List.replicate 4 (.int 0)), (65, List.replicate 6 (.int 0)), (64, List.replicate 15 (.int 0)), (64, List.replicate 15 (.int 0)), (64, List.replicate 15 (.int 0)), (7, [.int 0, .ref (n + 47), .ref (n + 48)]), (70, [.ref (n + 49), .ref (n + 56), .ref (n + 63)]), (64, List.replicate 2 (.int 0)), (2, [.int 0, .int 0, .int 0, .int 0, .ref (n + 50), .ref (n + 51), .ref (n + 52), .ref (n + 53), .ref (n + 54), .ref (n + 55)]), (64, List.replicate 4 (.int 0)), (64, List.replicate 4 (.int 0)), (65, List.replicate 6 (.int 0)), (64, List.replicate 15 (.int 0)), (64, List.replicate 15 (.int 0)), (64, List.replicate 15 (.int 0)), (2, [.int 0, .int 0, .int 0, .int 0, .ref (n + 57), .ref (n + 58), .ref (n + 59), .ref (n + 60), .ref (n + 61), .ref (n + 62)]), (64, List.replicate 4 (.int 0)), (64, List.replicate 4 (.int 0)), (65, List.replicate 6 (.int 0)), (64, List.replicate 15 (.int 0)), (64, List.replicate 15 (.int 0)), (64, List.replicate 15 (.int 0)), (2, [.int 0, .int 0, .int 0, .int 0, .ref (n + 64), .ref (n + 65), .ref (n + 66), .ref (n + 67), .ref (n + 68), .ref (n + 69)]), (64, List.replicate 4 (.int 0)), (64, List.replicate 4 (.int 0)), (65, List.replicate 6 (.int 0)), (64, List.replicate 15 (.int 0)), (64, List.replicate 15 (.int 0)), (64, List.replicate 15 (.int 0)), (7, [.int 0, .ref (n + 71), .ref (n + 72)]), (70, [.ref (n + 73), .ref (n + 80), .ref (n + 87)]), (64, List.replicate 2 (.int 0)), (2, [.int 0, .int 0, .int 0, .int 0, .ref (n + 74), .ref (n + 75), .ref (n + 76), .ref (n + 77), .ref (n + 78), .ref (n + 79)]), (64, List.replicate 4 (.int 0)), (64, List.replicate 4 (.int 0)), (65, List.replicate 6 (.int 0)), (64, List.replicate 15 (.int 0)), (64, List.replicate 15 (.int 0)), (64, List.replicate 15 (.int 0)), (2, [.int 0, .int 0, .int 0, .int 0, .ref (n + 81), .ref (n + 82), .ref (n + 83), .ref (n + 84), .ref (n + 85), .ref (n + 86)]), (64, List.replicate 4 (.int 0)), (64, List.replicate 4 (.int 0)), (65, List.replicate 6 (.int 0)), (64, List.replicate 15 (.int 0)), (64, List.replicate 15 (.int 0)), (64, List.replicate 15 (.int 0)), (2, [.int 0, .int 0, .int 0, .int 0, .ref (n + 88), .ref (n + 89), .ref (n + 90), .ref (n + 91), .ref (n + 92), .ref (n + 93)]), (64, List.replicate 4 (.int 0)), (64, List.replicate 4 (.int 0)), (65, List.replicate 6 (.int 0)), (64, List.replicate 15 (.int 0)), (64, List.replicate 15 (.int 0)), (64, List.replicate 15 (.int 0)), (7, [.int 0, .ref (n + 95), .ref (n + 96)]), (70, [.ref (n + 97), .ref (n + 104), .ref (n + 111)]), (64, List.replicate 2 (.int 0)), (2, [.int 0, .int 0, .int 0, .int 0, .ref (n + 98), .ref (n + 99), .ref (n + 100), .ref (n + 101), .ref (n + 102), .ref (n + 103)]), (64, List.replicate 4 (.int 0)), (64, List.replicate 4 (.int 0)), (65, List.replicate 6 (.int 0)), (64, List.replicate 15 (.int 0)), (64, List.replicate 15 (.int 0)), (64, List.replicate 15 (.int 0)), (2, [.int 0, .int 0, .int 0, .int 0, .ref (n + 105), .ref (n + 106), .ref (n + 107), .ref (n + 108), .ref (n + 109), .ref (n + 110)]), (64, List.replicate 4 (.int 0)), (64, List.replicate 4 (.int 0)), (65, List.replicate 6 (.int 0)), (64, List.replicate 15 (.int 0)), (64, List.replicate 15 (.int 0)), (64, List.replicate 15 (.int 0)), (2, [.int 0, .int 0, .int 0, .int 0, .ref (n + 112), .ref (n + 113), .ref (n + 114), .ref (n + 115), .ref (n + 116), .ref (n + 117)]), (64, List.replicate 4 (.int 0)), (64, List.replicate 4 (.int 0)), (65, List.replicate 6 (.int 0)), (64, List.replicate 15 (.int 0)), (64, List.replicate 15 (.int 0)), (64, List.replicate 15 (.int 0)), (7, [.int 0, .ref (n + 119), .ref (n + 120)]), (70, [.ref (n + 121), .ref (n + 128), .ref (n + 135)]), (64, List.replicate 2 (.int 0)), (2, [.int 0, .int 0, .int 0, .int 0, .ref (n + 122), .ref (n + 123), .ref (n + 124), .ref (n + 125), .ref (n + 126), .ref (n + 127)]), (64, List.replicate 4 (.int 0)), (64, List.replicate 4 (.int 0)), (65, List.replicate 6 (.int 0)), (64, List.replicate 15 (.int 0)), (64, List.replicate 15 (.int 0)), (64, List.replicate 15 (.int 0)), (2, [.int 0, .int 0, .int 0, .int 0, .ref (n + 129), .ref (n + 130), .ref (n + 131), .ref (n + 132), .ref (n + 133), .ref (n + 134)]), (64, List.replicate 4 (.int 0)), (64, List.replicate 4 (.int 0)), (65, List.replicate 6 (.int 0)), (64, List.replicate 15 (.int 0)), (64, List.replicate 15 (.int 0)), (64, List.replicate 15 (.int 0)), (2, [.int 0, .int 0, .int 0, .int 0, .ref (n + 136), .ref (n + 137), .ref (n + 138), .ref (n + 139), .ref (n + 140), .ref (n + 141)]), (64, List.replicate 4 (.int 0)), (64, List.replicate 4 (.int 0)), (65, List.replicate 6 (.int 0)), (64, List.replicate 15 (.int 0)), (64, List.replicate 15 (.int 0)), (64, List.replicate 15 (.int 0)), (6, [.ref (n + 143), .ref (n + 144), .ref (n + 145), .ref (n + 146)]), (64, List.replicate 4 (.int 0)), (65, List.replicate 4 (.int 0)), (64, List.replicate 6 (.int 0)), (64, List.replicate 3 (.int 0)), (1, [.int 0, .int 0, .ref (n + 148), .ref (n + 149)]), (64, List.replicate 192 (.int 0)), (64, List.replicate 64 (.int 0)), (1, [.int 0, .int 0, .null, .null])]) hn dBp_init_104 nBp_51 rfl (by omega) rfl ?_
  refine QW.dup dBp_init_107 rfl ?_
  refine QW.ctorN (M2 := mBag_init) (k := 150) (C2 := (1, [.int 0, .int 0, .ref (n + 151), .ref (n + 152)])) (y := [(64, List.replicate 192 (.int 0)), (64, List.replicate 64 (.int 0))]) (x' := [(3, [.ref (n + 1), .int 0]), (68, [.ref (n + 2), .ref (n + 5), .ref (n + 8), .ref (n + 11)]), (9, [.int 0, .int 0, .ref (n + 3), .ref (n + 4)]), (65, List.replicate 3 (.int 0)), (64, List.replicate 24 (.int 0)), (9, [.int 0, .int 0, .ref (n + 6), .ref (n + 7)]), (65, List.replicate 3 (.int 0)), (64, List.replicate 24 (.int 0)), (9, [.int 0, .int 0, .ref (n + 9), .ref (n + 10)]), (65, List.replicate 3 (.int 0)), (64, List.replicate 24 (.int 0)), (9, [.int 0, .int 0, .ref (n + 12), .ref (n + 13)]), (65, List.replicate 3 (.int 0)), (64, List.replicate 24 (.int 0)), (10, [.ref (n + 15), .int 0]), (66, List.replicate 200 (.int 0)), (8, [.ref (n + 17)]), (11, [.ref (n + 18), .ref (n + 19), .ref (n + 20), .int 0, .int 0]), (64, List.replicate 201 (.int 0)), (64, List.replicate 201 (.int 0)), (64, List.replicate 201 (.int 0)), (69, [.ref (n + 22), .ref (n + 46), .ref (n + 70), .ref (n + 94), .ref (n + 118)]), (7, [.int 0, .ref (n + 23), .ref (n + 24)]), (70, [.ref (n + 25), .ref (n + 32), .ref (n + 39)]), (64, List.replicate 2 (.int 0)), (2, [.int 0, .int 0, .int 0, .int 0, .ref (n + 26), .ref (n + 27), .ref (n + 28), .ref (n + 29), .ref (n + 30), .ref (n + 31)]), (64, List.replicate 4 (.int 0)), (64, List.replicate 4 (.int 0)), (65, List.replicate 6 (.int 0)), (64, List.replicate 15 (.int 0)), (64, List.replicate 15 (.int 0)), (64, List.replicate 15 (.int 0)), (2, [.int 0, .int 0, .int 0, .int 0, .ref (n + 33), .ref (n + 34), .ref (n + 35), .ref (n + 36), .ref (n + 37), .ref (n + 38)]), (64, List.replicate 4 (.int 0)), (64, List.replicate 4 (.int 0)), (65, List.replicate 6 (.int 0)), (64, List.replicate 15 (.int 0)), (64, List.replicate 15 (.int 0)), (64, List.replicate 15 (.int 0)), (2, [.int 0, .int 0, .int 0, .int 0, .ref (n + 40), .ref (n + 41), .ref (n + 42), .ref (n + 43), .ref (n + 44), .ref (n + 45)]), (64, List.replicate 4 (.int 0)), (64, List.replicate 4 (.int 0)), (65, List.replicate 6 (.int 0)), (64, List.replicate 15 (.int 0)), (64, List.replicate 15 (.int 0)), (64, List.replicate 15 (.int 0)), (7, [.int 0, .ref (n + 47), .ref (n + 48)]), (70, [.ref (n + 49), .ref (n + 56), .ref (n + 63)]), (64, List.replicate 2 (.int 0)), (2, [.int 0, .int 0, .int 0, .int 0, .ref (n + 50), .ref (n + 51), .ref (n + 52), .ref (n + 53), .ref (n + 54), .ref (n + 55)]), (64, List.replicate 4 (.int 0)), (64, List.replicate 4 (.int 0)), (65, List.replicate 6 (.int 0)), (64, List.replicate 15 (.int 0)), (64, List.replicate 15 (.int 0)), (64, List.replicate 15 (.int 0)), (2, [.int 0, .int 0, .int 0, .int 0, .ref (n + 57), .ref (n + 58), .ref (n + 59), .ref (n + 60), .ref (n + 61), .ref (n + 62)]), (64, List.replicate 4 (.int 0)), (64, List.replicate 4 (.int 0)), (65, List.replicate 6 (.int 0)), (64, List.replicate 15 (.int 0)), (64, List.replicate 15 (.int 0)), (64, List.replicate 15 (.int 0)), (2, [.int 0, .int 0, .int 0, .int 0, .ref (n + 64), .ref (n + 65), .ref (n + 66), .ref (n + 67), .ref (n + 68), .ref (n + 69)]), (64, List.replicate 4 (.int 0)), (64, List.replicate 4 (.int 0)), (65, List.replicate 6 (.int 0)), (64, List.replicate 15 (.int 0)), (64, List.replicate 15 (.int 0)), (64, List.replicate 15 (.int 0)), (7, [.int 0, .ref (n + 71), .ref (n + 72)]), (70, [.ref (n + 73), .ref (n + 80), .ref (n + 87)]), (64, List.replicate 2 (.int 0)), (2, [.int 0, .int 0, .int 0, .int 0, .ref (n + 74), .ref (n + 75), .ref (n + 76), .ref (n + 77), .ref (n + 78), .ref (n + 79)]), (64, List.replicate 4 (.int 0)), (64, List.replicate 4 (.int 0)), (65, List.replicate 6 (.int 0)), (64, List.replicate 15 (.int 0)), (64, List.replicate 15 (.int 0)), (64, List.replicate 15 (.int 0)), (2, [.int 0, .int 0, .int 0, .int 0, .ref (n + 81), .ref (n + 82), .ref (n + 83), .ref (n + 84), .ref (n + 85), .ref (n + 86)]), (64, List.replicate 4 (.int 0)), (64, List.replicate 4 (.int 0)), (65, List.replicate 6 (.int 0)), (64, List.replicate 15 (.int 0)), (64, List.replicate 15 (.int 0)), (64, List.replicate 15 (.int 0)), (2, [.int 0, .int 0, .int 0, .int 0, .ref (n + 88), .ref (n + 89), .ref (n + 90), .ref (n + 91), .ref (n + 92), .ref (n + 93)]), (64, List.replicate 4 (.int 0)), (64, List.replicate 4 (.int 0)), (65, List.replicate 6 (.int 0)), (64, List.replicate 15 (.int 0)), (64, List.replicate 15 (.int 0)), (64, List.replicate 15 (.int 0)), (7, [.int 0, .ref (n + 95), .ref (n + 96)]), (70, [.ref (n + 97), .ref (n + 104), .ref (n + 111)]), (64, List.replicate 2 (.int 0)), (2, [.int 0, .int 0, .int 0, .int 0, .ref (n + 98), .ref (n + 99), .ref (n + 100), .ref (n + 101), .ref (n + 102), .ref (n + 103)]), (64, List.replicate 4 (.int 0)), (64, List.replicate 4 (.int 0)), (65, List.replicate 6 (.int 0)), (64, List.replicate 15 (.int 0)), (64, List.replicate 15 (.int 0)), (64, List.replicate 15 (.int 0)), (2, [.int 0, .int 0, .int 0, .int 0, .ref (n + 105), .ref (n + 106), .ref (n + 107), .ref (n + 108), .ref (n + 109), .ref (n + 110)]), (64, List.replicate 4 (.int 0)), (64, List.replicate 4 (.int 0)), (65, List.replicate 6 (.int 0)), (64, List.replicate 15 (.int 0)), (64, List.replicate 15 (.int 0)), (64, List.replicate 15 (.int 0)), (2, [.int 0, .int 0, .int 0, .int 0, .ref (n + 112), .ref (n + 113), .ref (n + 114), .ref (n + 115), .ref (n + 116), .ref (n + 117)]), (64, List.replicate 4 (.int 0)), (64, List.replicate 4 (.int 0)), (65, List.replicate 6 (.int 0)), (64, List.replicate 15 (.int 0)), (64, List.replicate 15 (.int 0)), (64, List.replicate 15 (.int 0)), (7, [.int 0, .ref (n + 119), .ref (n + 120)]), (70, [.ref (n + 121), .ref (n + 128), .ref (n + 135)]), (64, List.replicate 2 (.int 0)), (2, [.int 0, .int 0, .int 0, .int 0, .ref (n + 122), .ref (n + 123), .ref (n + 124), .ref (n + 125), .ref (n + 126), .ref (n + 127)]), (64, List.replicate 4 (.int 0)), (64, List.replicate 4 (.int 0)), (65, List.replicate 6 (.int 0)), (64, List.replicate 15 (.int 0)), (64, List.replicate 15 (.int 0)), (64, List.replicate 15 (.int 0)), (2, [.int 0, .int 0, .int 0, .int 0, .ref (n + 129), .ref (n + 130), .ref (n + 131), .ref (n + 132), .ref (n + 133), .ref (n + 134)]), (64, List.replicate 4 (.int 0)), (64, List.replicate 4 (.int 0)), (65, List.replicate 6 (.int 0)), (64, List.replicate 15 (.int 0)), (64, List.replicate 15 (.int 0)), (64, List.replicate 15 (.int 0)), (2, [.int 0, .int 0, .int 0, .int 0, .ref (n + 136), .ref (n + 137), .ref (n + 138), .ref (n + 139), .ref (n + 140), .ref (n + 141)]), (64, List.replicate 4 (.int 0)), (64, List.replicate 4 (.int 0)), (65, List.replicate 6 (.int 0)), (64, List.replicate 15 (.int 0)), (64, List.replicate 15 (.int 0)), (64, List.replicate 15 (.int 0)), (6, [.ref (n + 143), .ref (n + 144), .ref (n + 145), .ref (n + 146)]), (64, List.replicate 4 (.int 0)), (65, List.replicate 4 (.int 0)), (64, List.replicate 6 (.int 0)), (64, List.replicate 3 (.int 0)), (1, [.int 0, .int 0, .ref (n + 148), .ref (n + 149)]), (64, List.replicate 192 (.int 0)), (64, List.replicate 64 (.int 0)), (1, [.int 0, .int 0, .ref (n + 151), .ref (n + 152)]), (64, List.replicate 192 (.int 0)), (64, List.replicate 64 (.int 0))]) hn dBp_init_108 rfl rfl rfl kBag_init eBag_init lBp_53 iBag_init rfl rfl (Nat.le_of_ble_eq_true rfl) (fun P1 hp1 => cBag_init (n := n + 151) (by rw [nf_len hn]; rfl) ((nf_get hn 150).trans rfl) (by omega) hp1) rfl ?_
  refine QW.putfo (fs' := [.ref (n + 0), .ref (n + 14), .ref (n + 16), .ref (n + 21), .int 0, .int (-1), .ref (n + 142), .ref (n + 147), .ref (n + 150), .null, .null, .null, .null]) hn ha dBp_init_111 fBp_58 rfl (fun _ => rfl) (fun _ => rfl) rfl ?_
  refine QW.aload_n dBp_init_114 rfl rfl ?_
  refine QW.newN (k := 153) (x' := [(3, [.ref (n + 1), .int 0]), (68, [.ref (n + 2), .ref (n + 5), .ref (n + 8), .ref (n + 11)]), (9, [.int 0, .int 0, .ref (n + 3), .ref (n + 4)]), (65, List.replicate 3 (.int 0)), (64, List.replicate 24 (.int 0)), (9, [.int 0, .int 0, .ref (n + 6), .ref (n + 7)]), (65, List.replicate 3 (.int 0)), (64, List.replicate 24 (.int 0)), (9, [.int 0, .int 0, .ref (n + 9), .ref (n + 10)]), (65, List.replicate 3 (.int 0)), (64, List.replicate 24 (.int 0)), (9, [.int 0, .int 0, .ref (n + 12), .ref (n + 13)]), (65, List.replicate 3 (.int 0)), (64, List.replicate 24 (.int 0)), (10, [.ref (n + 15), .int 0]), (66, List.replicate 200 (.int 0)), (8, [.ref (n + 17)]), (11, [.ref (n + 18), .ref (n + 19), .ref (n + 20), .int 0, .int 0]), (64, List.replicate 201 (.int 0)), (64, List.replicate 201 (.int 0)), (64, List.replicate 201 (.int 0)), (69, [.ref (n + 22), .ref (n + 46), .ref (n + 70), .ref (n + 94), .ref (n + 118)]), (7, [.int 0, .ref (n + 23), .ref (n + 24)]), (70, [.ref (n + 25), .ref (n + 32), .ref (n + 39)]), (64, List.replicate 2 (.int 0)), (2, [.int 0, .int 0, .int 0, .int 0, .ref (n + 26), .ref (n + 27), .ref (n + 28), .ref (n + 29), .ref (n + 30), .ref (n + 31)]), (64, List.replicate 4 (.int 0)), (64, List.replicate 4 (.int 0)), (65, List.replicate 6 (.int 0)), (64, List.replicate 15 (.int 0)), (64, List.replicate 15 (.int 0)), (64, List.replicate 15 (.int 0)), (2, [.int 0, .int 0, .int 0, .int 0, .ref (n + 33), .ref (n + 34), .ref (n + 35), .ref (n + 36), .ref (n + 37), .ref (n + 38)]), (64, List.replicate 4 (.int 0)), (64, List.replicate 4 (.int 0)), (65, List.replicate 6 (.int 0)), (64, List.replicate 15 (.int 0)), (64, List.replicate 15 (.int 0)), (64, List.replicate 15 (.int 0)), (2, [.int 0, .int 0, .int 0, .int 0, .ref (n + 40), .ref (n + 41), .ref (n + 42), .ref (n + 43), .ref (n + 44), .ref (n + 45)]), (64, List.replicate 4 (.int 0)), (64, List.replicate 4 (.int 0)), (65, List.replicate 6 (.int 0)), (64, List.replicate 15 (.int 0)), (64, List.replicate 15 (.int 0)), (64, List.replicate 15 (.int 0)), (7, [.int 0, .ref (n + 47), .ref (n + 48)]), (70, [.ref (n + 49), .ref (n + 56), .ref (n + 63)]), (64, List.replicate 2 (.int 0)), (2, [.int 0, .int 0, .int 0, .int 0, .ref (n + 50), .ref (n + 51), .ref (n + 52), .ref (n + 53), .ref (n + 54), .ref (n + 55)]), (64, List.replicate 4 (.int 0)), (64, List.replicate 4 (.int 0)), (65, List.replicate 6 (.int 0)), (64, List.replicate 15 (.int 0)), (64, List.replicate 15 (.int 0)), (64, List.replicate 15 (.int 0)), (2, [.int 0, .int 0, .int 0, .int 0, .ref (n + 57), .ref (n + 58), .ref (n + 59), .ref (n + 60), .ref (n + 61), .ref (n + 62)]), (64, List.replicate 4 (.int 0)), (64, List.replicate 4 (.int 0)), (65, List.replicate 6 (.int 0)), (64, List.replicate 15 (.int 0)), (64, List.replicate 15 (.int 0)), (64, List.replicate 15 (.int 0)), (2, [.int 0, .int 0, .int 0, .int 0, .ref (n + 64), .ref (n + 65), .ref (n + 66), .ref (n + 67), .ref (n + 68), .ref (n + 69)]), (64, List.replicate 4 (.int 0)), (64, List.replicate 4 (.int 0)), (65, List.replicate 6 (.int 0)), (64, List.replicate 15 (.int 0)), (64, List.replicate 15 (.int 0)), (64, List.replicate 15 (.int 0)), (7, [.int 0, .ref (n + 71), .ref (n + 72)]), (70, [.ref (n + 73), .ref (n + 80), .ref (n + 87)]), (64, List.replicate 2 (.int 0)), (2, [.int 0, .int 0, .int 0, .int 0, .ref (n + 74), .ref (n + 75), .ref (n + 76), .ref (n + 77), .ref (n + 78), .ref (n + 79)]), (64, List.replicate 4 (.int 0)), (64, List.replicate 4 (.int 0)), (65, List.replicate 6 (.int 0)), (64, List.replicate 15 (.int 0)), (64, List.replicate 15 (.int 0)), (64, List.replicate 15 (.int 0)), (2, [.int 0, .int 0, .int 0, .int 0, .ref (n + 81), .ref (n + 82), .ref (n + 83), .ref (n + 84), .ref (n + 85), .ref (n + 86)]), (64, List.replicate 4 (.int 0)), (64, List.replicate 4 (.int 0)), (65, List.replicate 6 (.int 0)), (64, List.replicate 15 (.int 0)), (64, List.replicate 15 (.int 0)), (64, List.replicate 15 (.int 0)), (2, [.int 0, .int 0, .int 0, .int 0, .ref (n + 88), .ref (n + 89), .ref (n + 90), .ref (n + 91), .ref (n + 92), .ref (n + 93)]), (64, List.replicate 4 (.int 0)), (64, List.replicate 4 (.int 0)), (65, List.replicate 6 (.int 0)), (64, List.replicate 15 (.int 0)), (64, List.replicate 15 (.int 0)), (64, List.replicate 15 (.int 0)), (7, [.int 0, .ref (n + 95), .ref (n + 96)]), (70, [.ref (n + 97), .ref (n + 104), .ref (n + 111)]), (64, List.replicate 2 (.int 0)), (2, [.int 0, .int 0, .int 0, .int 0, .ref (n + 98), .ref (n + 99), .ref (n + 100), .ref (n + 101), .ref (n + 102), .ref (n + 103)]), (64, List.replicate 4 (.int 0)), (64, List.replicate 4 (.int 0)), (65, List.replicate 6 (.int 0)), (64, List.replicate 15 (.int 0)), (64, List.replicate 15 (.int 0)), (64, List.replicate 15 (.int 0)), (2, [.int 0, .int 0, .int 0, .int 0, .ref (n + 105), .ref (n + 106), .ref (n + 107), .ref (n + 108), .ref (n + 109), .ref (n + 110)]), (64, List.replicate 4 (.int 0)), (64, List.replicate 4 (.int 0)), (65, List.replicate 6 (.int 0)), (64, List.replicate 15 (.int 0)), (64, List.replicate 15 (.int 0)), (64, List.replicate 15 (.int 0)), (2, [.int 0, .int 0, .int 0, .int 0, .ref (n + 112), .ref (n + 113), .ref (n + 114), .ref (n + 115), .ref (n + 116), .ref (n + 117)]), (64, List.replicate 4 (.int 0)), (64, List.replicate 4 (.int 0)), (65, List.replicate 6 (.int 0)), (64, List.replicate 15 (.int 0)), (64, List.replicate 15 (.int 0)), (64, List.replicate 15 (.int 0)), (7, [.int 0, .ref (n + 119), .ref (n + 120)]), (70, [.ref (n + 121), .ref (n + 128), .ref (n + 135)]), (64, List.replicate 2 (.int 0)), (2, [.int 0, .int 0, .int 0, .int 0, .ref (n + 122), .ref (n + 123), .ref (n + 124), .ref (n + 125), .ref (n + 126), .ref (n + 127)]), (64, List.replicate 4 (.int 0)), (64, List.replicate 4 (.int 0)), (65, List.replicate 6 (.int 0)), (64, List.replicate 15 (.int 0)), (64, List.replicate 15 (.int 0)), (64, List.replicate 15 (.int 0)), (2, [.int 0, .int 0, .int 0, .int 0, .ref (n + 129), .ref (n + 130), .ref (n + 131), .ref (n + 132), .ref (n + 133), .ref (n + 134)]), (64, List.replicate 4 (.int 0)), (64, List.replicate 4 (.int 0)), (65, List.replicate 6 (.int 0)), (64, List.replicate 15 (.int 0)), (64, List.replicate 15 (.int 0)), (64, List.replicate 15 (.int 0)), (2, [.int 0, .int 0, .int 0, .int 0, .ref (n + 136), .ref (n + 137), .ref (n + 138), .ref (n + 139), .ref (n + 140), .ref (n + 141)]), (64, List.replicate 4 (.int 0)), (64, List.replicate 4 (.int 0)), (65, List.replicate 6 (.int 0)), (64, List.replicate 15 (.int 0)), (64, List.replicate 15 (.int 0)), (64, List.replicate 15 (.int 0)), (6, [.ref (n + 143), .ref (n + 144), .ref (n + 145), .ref (n + 146)]), (64, List.replicate 4 (.int 0)), (65, List.replicate 4 (.int 0)), (64, List.replicate 6 (.int 0)), (64, List.replicate 3 (.int 0)), (1, [.int 0, .int 0, .ref (n + 148), .ref (n + 149)]), (64, List.replicate 192 (.int 0)), (64, List.replicate 64 (.int 0)), (1, [.int 0, .int 0, .ref (n + 151), .ref (n + 152)]), (64, List.replicate 192 (.int 0)), (64, List.replicate 64 (.int 0)), (1, [.int 0, .int 0, .null, .null])]) hn dBp_init_115 nBp_51 rfl (by omega) rfl ?_
  refine QW.dup dBp_init_118 rfl ?_
  refine QW.ctorN (M2 := mBag_init) (k := 153) (C2 := (1, [.int 0, .int 0, .ref (n + 154), .ref (n + 155)])) (y := [(64, List.replicate 192 (.int 0)), (64, List.replicate 64 (.int 0))]) (x' := [(3, [.ref (n + 1), .int 0]), (68, [.ref (n + 2), .ref (n + 5), .ref (n + 8), .ref (n + 11)]), (9, [.int 0, .int 0, .ref (n + 3), .ref (n + 4)]), (65, List.replicate 3 (.int 0)), (64, List.replicate 24 (.int 0)), (9, [.int 0, .int 0, .ref (n + 6), .ref (n + 7)]), (65, List.replicate 3 (.int 0)), (64, List.replicate 24 (.int 0)), (9, [.int 0, .int 0, .ref (n + 9), .ref (n + 10)]), (65, List.replicate 3 (.int 0)), (64, List.replicate 24 (.int 0)), (9, [.int 0, .int 0, .ref (n + 12), .ref (n + 13)]), (65, List.replicate 3 (.int 0)), (64, List.replicate 24 (.int 0)), (10, [.ref (n + 15), .int 0]), (66, List.replicate 200 (.int 0)), (8, [.ref (n + 17)]), (11, [.ref (n + 18), .ref (n + 19), .ref (n + 20), .int 0, .int 0]), (64, List.replicate 201 (.int 0)), (64, List.replicate 201 (.int 0)), (64, List.replicate 201 (.int 0)), (69, [.ref (n + 22), .ref (n + 46), .ref (n + 70), .ref (n + 94), .ref (n + 118)]), (7, [.int 0, .ref (n + 23), .ref (n + 24)]), (70, [.ref (n + 25), .ref (n + 32), .ref (n + 39)]), (64, List.replicate 2 (.int 0)), (2, [.int 0, .int 0, .int 0, .int 0, .ref (n + 26), .ref (n + 27), .ref (n + 28), .ref (n + 29), .ref (n + 30), .ref (n + 31)]), (64, List.replicate 4 (.int 0)), (64, List.replicate 4 (.int 0)), (65, List.replicate 6 (.int 0)), (64, List.replicate 15 (.int 0)), (64, List.replicate 15 (.int 0)), (64, List.replicate 15 (.int 0)), (2, [.int 0, .int 0, .int 0, .int 0, .ref (n + 33), .ref (n + 34), .ref (n + 35), .ref (n + 36), .ref (n + 37), .ref (n + 38)]), (64, List.replicate 4 (.int 0)), (64, List.replicate 4 (.int 0)), (65, List.replicate 6 (.int 0)), (64, List.replicate 15 (.int 0)), (64, List.replicate 15 (.int 0)), (64, List.replicate 15 (.int 0)), (2, [.int 0, .int 0, .int 0, .int 0, .ref (n + 40), .ref (n + 41), .ref (n + 42), .ref (n + 43), .ref (n + 44), .ref (n + 45)]), (64, List.replicate 4 (.int 0)), (64, List.replicate 4 (.int 0)), (65, List.replicate 6 (.int 0)), (64, List.replicate 15 (.int 0)), (64, List.replicate 15 (.int 0)), (64, List.replicate 15 (.int 0)), (7, [.int 0, .ref (n + 47), .ref (n + 48)]), (70, [.ref (n + 49), .ref (n + 56), .ref (n + 63)]), (64, List.replicate 2 (.int 0)), (2, [.int 0, .int 0, .int 0, .int 0, .ref (n + 50), .ref (n + 51), .ref (n + 52), .ref (n + 53), .ref (n + 54), .ref (n + 55)]), (64, List.replicate 4 (.int 0)), (64, List.replicate 4 (.int 0)), (65, List.replicate 6 (.int 0)), (64, List.replicate 15 (.int 0)), (64, List.replicate 15 (.int 0)), (64, List.replicate 15 (.int 0)), (2, [.int 0, .int 0, .int 0, .int 0, .ref (n + 57), .ref (n + 58), .ref (n + 59), .ref (n + 60), .ref (n + 61), .ref (n + 62)]), (64, List.replicate 4 (.int 0)), (64, List.replicate 4 (.int 0)), (65, List.replicate 6 (.int 0)), (64, List.replicate 15 (.int 0)), (64, List.replicate 15 (.int 0)), (64, List.replicate 15 (.int 0)), (2, [.int 0, .int 0, .int 0, .int 0, .ref (n + 64), .ref (n + 65), .ref (n + 66), .ref (n + 67), .ref (n + 68), .ref (n + 69)]), (64, List.replicate 4 (.int 0)), (64, List.replicate 4 (.int 0)), (65, List.replicate 6 (.int 0)), (64, List.replicate 15 (.int 0)), (64, List.replicate 15 (.int 0)), (64, List.replicate 15 (.int 0)), (7, [.int 0, .ref (n + 71), .ref (n + 72)]), (70, [.ref (n + 73), .ref (n + 80), .ref (n + 87)]), (64, List.replicate 2 (.int 0)), (2, [.int 0, .int 0, .int 0, .int 0, .ref (n + 74), .ref (n + 75), .ref (n + 76), .ref (n + 77), .ref (n + 78), .ref (n + 79)]), (64, List.replicate 4 (.int 0)), (64, List.replicate 4 (.int 0)), (65, List.replicate 6 (.int 0)), (64, List.replicate 15 (.int 0)), (64, List.replicate 15 (.int 0)), (64, List.replicate 15 (.int 0)), (2, [.int 0, .int 0, .int 0, .int 0, .ref (n + 81), .ref (n + 82), .ref (n + 83), .ref (n + 84), .ref (n + 85), .ref (n + 86)]), (64, List.replicate 4 (.int 0)), (64, List.replicate 4 (.int 0)), (65, List.replicate 6 (.int 0)), (64, List.replicate 15 (.int 0)), (64, List.replicate 15 (.int 0)), (64, List.replicate 15 (.int 0)), (2, [.int 0, .int 0, .int 0, .int 0, .ref (n + 88), .ref (n + 89), .ref (n + 90), .ref (n + 91), .ref (n + 92), .ref (n + 93)]), (64, List.replicate 4 (.int 0)), (64, List.replicate 4 (.int 0)), (65, List.replicate 6 (.int 0)), (64, List.replicate 15 (.int 0)), (64, List.replicate 15 (.int 0)), (64, List.replicate 15 (.int 0)), (7, [.int 0, .ref (n + 95), .ref (n + 96)]), (70, [.ref (n + 97), .ref (n + 104), .ref (n + 111)]), (64, List.replicate 2 (.int 0)), (2, [.int 0, .int 0, .int 0, .int 0, .ref (n + 98), .ref (n + 99), .ref (n + 100), .ref (n + 101), .ref (n + 102), .ref (n + 103)]), (64, List.replicate 4 (.int 0)), (64, List.replicate 4 (.int 0)), (65, List.replicate 6 (.int 0)), (64, List.replicate 15 (.int 0)), (64, List.replicate 15 (.int 0)), (64, List.replicate 15 (.int 0)), (2, [.int 0, .int 0, .int 0, .int 0, .ref (n + 105), .ref (n + 106), .ref (n + 107), .ref (n + 108), .ref (n + 109), .ref (n + 110)]), (64, List.replicate 4 (.int 0)), (64, List.replicate 4 (.int 0)), (65, List.replicate 6 (.int 0)), (64, List.replicate 15 (.int 0)), (64, List.replicate 15 (.int 0)), (64, List.replicate 15 (.int 0)), (2, [.int 0, .int 0, .int 0, .int 0, .ref (n + 112), .ref (n + 113), .ref (n + 114), .ref (n + 115), .ref (n + 116), .ref (n + 117)]), (64, List.replicate 4 (.int 0)), (64, List.replicate 4 (.int 0)), (65, List.replicate 6 (.int 0)), (64, List.replicate 15 (.int 0)), (64, List.replicate 15 (.int 0)), (64, List.replicate 15 (.int 0)), (7, [.int 0, .ref (n + 119), .ref (n + 120)]), (70, [.ref (n + 121), .ref (n + 128), .ref (n + 135)]), (64, List.replicate 2 (.int 0)), (2, [.int 0, .int 0, .int 0, .int 0, .ref (n + 122), .ref (n + 123), .ref (n + 124), .ref (n + 125), .ref (n + 126), .ref (n + 127)]), (64, List.replicate 4 (.int 0)), (64, List.replicate 4 (.int 0)), (65, List.replicate 6 (.int 0)), (64, List.replicate 15 (.int 0)), (64, List.replicate 15 (.int 0)), (64, List.replicate 15 (.int 0)), (2, [.int 0, .int 0, .int 0, .int 0, .ref (n + 129), .ref (n + 130), .ref (n + 131), .ref (n + 132), .ref (n + 133), .ref (n + 134)]), (64, List.replicate 4 (.int 0)), (64, List.replicate 4 (.int 0)), (65, List.replicate 6 (.int 0)), (64, List.replicate 15 (.int 0)), (64, List.replicate 15 (.int 0)), (64, List.replicate 15 (.int 0)), (2, [.int 0, .int 0, .int 0, .int 0, .ref (n + 136), .ref (n + 137), .ref (n + 138), .ref (n + 139), .ref (n + 140), .ref (n + 141)]), (64, List.replicate 4 (.int 0)), (64, List.replicate 4 (.int 0)), (65, List.replicate 6 (.int 0)), (64, List.replicate 15 (.int 0)), (64, List.replicate 15 (.int 0)), (64, List.replicate 15 (.int 0)), (6, [.ref (n + 143), .ref (n + 144), .ref (n + 145), .ref (n + 146)]), (64, List.replicate 4 (.int 0)), (65, List.replicate 4 (.int 0)), (64, List.replicate 6 (.int 0)), (64, List.replicate 3 (.int 0)), (1, [.int 0, .int 0, .ref (n + 148), .ref (n + 149)]), (64, List.replicate 192 (.int 0)), (64, List.replicate 64 (.int 0)), (1, [.int 0, .int 0, .ref (n + 151), .ref (n + 152)]), (64, List.replicate 192 (.int 0)), (64, List.replicate 64 (.int 0)), (1, [.int 0, .int 0, .ref (n + 154), .ref (n + 155)]), (64, List.replicate 192 (.int 0)), (64, List.replicate 64 (.int 0))]) hn dBp_init_119 rfl rfl rfl kBag_init eBag_init lBp_53 iBag_init rfl rfl (Nat.le_of_ble_eq_true rfl) (fun P1 hp1 => cBag_init (n := n + 154) (by rw [nf_len hn]; rfl) ((nf_get hn 153).trans rfl) (by omega) hp1) rfl ?_
  refine QW.putFo (fs' := [.ref (n + 0), .ref (n + 14), .ref (n + 16), .ref (n + 21), .int 0, .int (-1), .ref (n + 142), .ref (n + 147), .ref (n + 150), .ref (n + 153), .null, .null, .null]) hn ha dBp_init_122 gBp_61 rfl rfl (fun _ => rfl) (fun _ => rfl) rfl ?_
  refine QW.aload_n dBp_init_125 rfl rfl ?_
  refine QW.newN (k := 156) (x' := [(3, [.ref (n + 1), .int 0]), (68, [.ref (n + 2), .ref (n + 5), .ref (n + 8), .ref (n + 11)]), (9, [.int 0, .int 0, .ref (n + 3), .ref (n + 4)]), (65, List.replicate 3 (.int 0)), (64, List.replicate 24 (.int 0)), (9, [.int 0, .int 0, .ref (n + 6), .ref (n + 7)]), (65, List.replicate 3 (.int 0)), (64, List.replicate 24 (.int 0)), (9, [.int 0, .int 0, .ref (n + 9), .ref (n + 10)]), (65, List.replicate 3 (.int 0)), (64, List.replicate 24 (.int 0)), (9, [.int 0, .int 0, .ref (n + 12), .ref (n + 13)]), (65, List.replicate 3 (.int 0)), (64, List.replicate 24 (.int 0)), (10, [.ref (n + 15), .int 0]), (66, List.replicate 200 (.int 0)), (8, [.ref (n + 17)]), (11, [.ref (n + 18), .ref (n + 19), .ref (n + 20), .int 0, .int 0]), (64, List.replicate 201 (.int 0)), (64, List.replicate 201 (.int 0)), (64, List.replicate 201 (.int 0)), (69, [.ref (n + 22), .ref (n + 46), .ref (n + 70), .ref (n + 94), .ref (n + 118)]), (7, [.int 0, .ref (n + 23), .ref (n + 24)]), (70, [.ref (n + 25), .ref (n + 32), .ref (n + 39)]), (64, List.replicate 2 (.int 0)), (2, [.int 0, .int 0, .int 0, .int 0, .ref (n + 26), .ref (n + 27), .ref (n + 28), .ref (n + 29), .ref (n + 30), .ref (n + 31)]), (64, List.replicate 4 (.int 0)), (64, List.replicate 4 (.int 0)), (65, List.replicate 6 (.int 0)), (64, List.replicate 15 (.int 0)), (64, List.replicate 15 (.int 0)), (64, List.replicate 15 (.int 0)), (2, [.int 0, .int 0, .int 0, .int 0, .ref (n + 33), .ref (n + 34), .ref (n + 35), .ref (n + 36), .ref (n + 37), .ref (n + 38)]), (64, List.replicate 4 (.int 0)), (64, List.replicate 4 (.int 0)), (65, List.replicate 6 (.int 0)), (64, List.replicate 15 (.int 0)), (64, List.replicate 15 (.int 0)), (64, List.replicate 15 (.int 0)), (2, [.int 0, .int 0, .int 0, .int 0, .ref (n + 40), .ref (n + 41), .ref (n + 42), .ref (n + 43), .ref (n + 44), .ref (n + 45)]), (64, List.replicate 4 (.int 0)), (64, List.replicate 4 (.int 0)), (65, List.replicate 6 (.int 0)), (64, List.replicate 15 (.int 0)), (64, List.replicate 15 (.int 0)), (64, List.replicate 15 (.int 0)), (7, [.int 0, .ref (n + 47), .ref (n + 48)]), (70, [.ref (n + 49), .ref (n + 56), .ref (n + 63)]), (64, List.replicate 2 (.int 0)), (2, [.int 0, .int 0, .int 0, .int 0, .ref (n + 50), .ref (n + 51), .ref (n + 52), .ref (n + 53), .ref (n + 54), .ref (n + 55)]), (64, List.replicate 4 (.int 0)), (64, List.replicate 4 (.int 0)), (65, List.replicate 6 (.int 0)), (64, List.replicate 15 (.int 0)), (64, List.replicate 15 (.int 0)), (64, List.replicate 15 (.int 0)), (2, [.int 0, .int 0, .int 0, .int 0, .ref (n + 57), .ref (n + 58), .ref (n + 59), .ref (n + 60), .ref (n + 61), .ref (n + 62)]), (64, List.replicate 4 (.int 0)), (64, List.replicate 4 (.int 0)), (65, List.replicate 6 (.int 0)), (64, List.replicate 15 (.int 0)), (64, List.replicate 15 (.int 0)), (64, List.replicate 15 (.int 0)), (2, [.int 0, .int 0, .int 0, .int 0, .ref (n + 64), .ref (n + 65), .ref (n + 66), .ref (n + 67), .ref (n + 68), .ref (n + 69)]), (64, List.replicate 4 (.int 0)), (64, List.replicate 4 (.int 0)), (65, List.replicate 6 (.int 0)), (64, List.replicate 15 (.int 0)), (64, List.replicate 15 (.int 0)), (64, List.replicate 15 (.int 0)), (7, [.int 0, .ref (n + 71), .ref (n + 72)]), (70, [.ref (n + 73), .ref (n + 80), .ref (n + 87)]), (64, List.replicate 2 (.int 0)), (2, [.int 0, .int 0, .int 0, .int 0, .ref (n + 74), .ref (n + 75), .ref (n + 76), .ref (n + 77), .ref (n + 78), .ref (n + 79)]), (64, List.replicate 4 (.int 0)), (64, List.replicate 4 (.int 0)), (65, List.replicate 6 (.int 0)), (64, List.replicate 15 (.int 0)), (64, List.replicate 15 (.int 0)), (64, List.replicate 15 (.int 0)), (2, [.int 0, .int 0, .int 0, .int 0, .ref (n + 81), .ref (n + 82), .ref (n + 83), .ref (n + 84), .ref (n + 85), .ref (n + 86)]), (64, List.replicate 4 (.int 0)), (64, List.replicate 4 (.int 0)), (65, List.replicate 6 (.int 0)), (64, List.replicate 15 (.int 0)), (64, List.replicate 15 (.int 0)), (64, List.replicate 15 (.int 0)), (2, [.int 0, .int 0, .int 0, .int 0, .ref (n + 88), .ref (n + 89), .ref (n + 90), .ref (n + 91), .ref (n + 92), .ref (n + 93)]), (64, List.replicate 4 (.int 0)), (64, List.replicate 4 (.int 0)), (65, List.replicate 6 (.int 0)), (64, List.replicate 15 (.int 0)), (64, List.replicate 15 (.int 0)), (64, List.replicate 15 (.int 0)), (7, [.int 0, .ref (n + 95), .ref (n + 96)]), (70, [.ref (n + 97), .ref (n + 104), .ref (n + 111)]), (64, List.replicate 2 (.int 0)), (2, [.int 0, .int 0, .int 0, .int 0, .ref (n + 98), .ref (n + 99), .ref (n + 100), .ref (n + 101), .ref (n + 102), .ref (n + 103)]), (64, List.replicate 4 (.int 0)), (64, List.replicate 4 (.int 0)), (65, List.replicate 6 (.int 0)), (64, List.replicate 15 (.int 0)), (64, List.replicate 15 (.int 0)), (64, List.replicate 15 (.int 0)), (2, [.int 0, .int 0, .int 0, .int 0, .ref (n + 105), .ref (n + 106), .ref (n + 107), .ref (n + 108), .ref (n + 109), .ref (n + 110)]), (64, List.replicate 4 (.int 0)), (64, List.replicate 4 (.int 0)), (65, List.replicate 6 (.int 0)), (64, List.replicate 15 (.int 0)), (64, List.replicate 15 (.int 0)), (64, List.replicate 15 (.int 0)), (2, [.int 0, .int 0, .int 0, .int 0, .ref (n + 112), .ref (n + 113), .ref (n + 114), .ref (n + 115), .ref (n + 116), .ref (n + 117)]), (64, List.replicate 4 (.int 0)), (64, List.replicate 4 (.int 0)), (65, List.replicate 6 (.int 0)), (64, List.replicate 15 (.int 0)), (64, List.replicate 15 (.int 0)), (64, List.replicate 15 (.int 0)), (7, [.int 0, .ref (n + 119), .ref (n + 120)]), (70, [.ref (n + 121), .ref (n + 128), .ref (n + 135)]), (64, List.replicate 2 (.int 0)), (2, [.int 0, .int 0, .int 0, .int 0, .ref (n + 122), .ref (n + 123), .ref (n + 124), .ref (n + 125), .ref (n + 126), .ref (n + 127)]), (64, List.replicate 4 (.int 0)), (64, List.replicate 4 (.int 0)), (65, List.replicate 6 (.int 0)), (64, List.replicate 15 (.int 0)), (64, List.replicate 15 (.int 0)), (64, List.replicate 15 (.int 0)), (2, [.int 0, .int 0, .int 0, .int 0, .ref (n + 129), .ref (n + 130), .ref (n + 131), .ref (n + 132), .ref (n + 133), .ref (n + 134)]), (64, List.replicate 4 (.int 0)), (64, List.replicate 4 (.int 0)), (65, List.replicate 6 (.int 0)), (64, List.replicate 15 (.int 0)), (64, List.replicate 15 (.int 0)), (64, List.replicate 15 (.int 0)), (2, [.int 0, .int 0, .int 0, .int 0, .ref (n + 136), .ref (n + 137), .ref (n + 138), .ref (n + 139), .ref (n + 140), .ref (n + 141)]), (64, List.replicate 4 (.int 0)), (64, List.replicate 4 (.int 0)), (65, List.replicate 6 (.int 0)), (64, List.replicate 15 (.int 0)), (64, List.replicate 15 (.int 0)), (64, List.replicate 15 (.int 0)), (6, [.ref (n + 143), .ref (n + 144), .ref (n + 145), .ref (n + 146)]), (64, List.replicate 4 (.int 0)), (65, List.replicate 4 (.int 0)), (64, List.replicate 6 (.int 0)), (64, List.replicate 3 (.int 0)), (1, [.int 0, .int 0, .ref (n + 148), .ref (n + 149)]), (64, List.replicate 192 (.int 0)), (64, List.replicate 64 (.int 0)), (1, [.int 0, .int 0, .ref (n + 151), .ref (n + 152)]), (64, List.replicate 192 (.int 0)), (64, List.replicate 64 (.int 0)), (1, [.int 0, .int 0, .ref (n + 154), .ref (n + 155)]), (64, List.replicate 192 (.int 0)), (64, List.replicate 64 (.int 0)), (4, [.int 0, .int 0, .int 0, .null, .int 0, .null, .null, .int 0, .null, .null, .null, .int 0, .null, .null, .null])]) hn dBp_init_126 nBp_64 rfl (by omega) rfl ?_
  refine QW.dup dBp_init_129 rfl ?_
  refine QW.ctorN (M2 := mNf_init) (k := 156) (C2 := (4, [.int 0, .int 0, .int 0, .ref (n + 157), .int 0, .ref (n + 158), .ref (n + 159), .int 0, .ref (n + 160), .ref (n + 161), .ref (n + 162), .int 0, .ref (n + 163), .ref (n + 164), .ref (n + 165)])) (y := [(64, List.replicate 3 (.int 0)), (64, List.replicate 6 (.int 0)), (64, List.replicate 6 (.int 0)), (64, List.replicate 4 (.int 0)), (64, List.replicate 4 (.int 0)), (64, List.replicate 4 (.int 0)), (64, List.replicate 15 (.int 0)), (64, List.replicate 27 (.int 0)), (64, List.replicate 27 (.int 0))]) (x' := [(3, [.ref (n + 1), .int 0]), (68, [.ref (n + 2), .ref (n + 5), .ref (n + 8), .ref (n + 11)]), (9, [.int 0, .int 0, .ref (n + 3), .ref (n + 4)]), (65, List.replicate 3 (.int 0)), (64, List.replicate 24 (.int 0)), (9, [.int 0, .int 0, .ref (n + 6), .ref (n + 7)]), (65, List.replicate 3 (.int 0)), (64, List.replicate 24 (.int 0)), (9, [.int 0, .int 0, .ref (n + 9), .ref (n + 10)]), (65, List.replicate 3 (.int 0)), (64, List.replicate 24 (.int 0)), (9, [.int 0, .int 0, .ref (n + 12), .ref (n + 13)]), (65, List.replicate 3 (.int 0)), (64, List.replicate 24 (.int 0)), (10, [.ref (n + 15), .int 0]), (66, List.replicate 200 (.int 0)), (8, [.ref (n + 17)]), (11, [.ref (n + 18), .ref (n + 19), .ref (n + 20), .int 0, .int 0]), (64, List.replicate 201 (.int 0)), (64, List.replicate 201 (.int 0)), (64, List.replicate 201 (.int 0)), (69, [.ref (n + 22), .ref (n + 46), .ref (n + 70), .ref (n + 94), .ref (n + 118)]), (7, [.int 0, .ref (n + 23), .ref (n + 24)]), (70, [.ref (n + 25), .ref (n + 32), .ref (n + 39)]), (64, List.replicate 2 (.int 0)), (2, [.int 0, .int 0, .int 0, .int 0, .ref (n + 26), .ref (n + 27), .ref (n + 28), .ref (n + 29), .ref (n + 30), .ref (n + 31)]), (64, List.replicate 4 (.int 0)), (64, List.replicate 4 (.int 0)), (65, List.replicate 6 (.int 0)), (64, List.replicate 15 (.int 0)), (64, List.replicate 15 (.int 0)), (64, List.replicate 15 (.int 0)), (2, [.int 0, .int 0, .int 0, .int 0, .ref (n + 33), .ref (n + 34), .ref (n + 35), .ref (n + 36), .ref (n + 37), .ref (n + 38)]), (64, List.replicate 4 (.int 0)), (64, List.replicate 4 (.int 0)), (65, List.replicate 6 (.int 0)), (64, List.replicate 15 (.int 0)), (64, List.replicate 15 (.int 0)), (64, List.replicate 15 (.int 0)), (2, [.int 0, .int 0, .int 0, .int 0, .ref (n + 40), .ref (n + 41), .ref (n + 42), .ref (n + 43), .ref (n + 44), .ref (n + 45)]), (64, List.replicate 4 (.int 0)), (64, List.replicate 4 (.int 0)), (65, List.replicate 6 (.int 0)), (64, List.replicate 15 (.int 0)), (64, List.replicate 15 (.int 0)), (64, List.replicate 15 (.int 0)), (7, [.int 0, .ref (n + 47), .ref (n + 48)]), (70, [.ref (n + 49), .ref (n + 56), .ref (n + 63)]), (64, List.replicate 2 (.int 0)), (2, [.int 0, .int 0, .int 0, .int 0, .ref (n + 50), .ref (n + 51), .ref (n + 52), .ref (n + 53), .ref (n + 54), .ref (n + 55)]), (64, List.replicate 4 (.int 0)), (64, List.replicate 4 (.int 0)), (65, List.replicate 6 (.int 0)), (64, List.replicate 15 (.int 0)), (64, List.replicate 15 (.int 0)), (64, List.replicate 15 (.int 0)), (2, [.int 0, .int 0, .int 0, .int 0, .ref (n + 57), .ref (n + 58), .ref (n + 59), .ref (n + 60), .ref (n + 61), .ref (n + 62)]), (64, List.replicate 4 (.int 0)), (64, List.replicate 4 (.int 0)), (65, List.replicate 6 (.int 0)), (64, List.replicate 15 (.int 0)), (64, List.replicate 15 (.int 0)), (64, List.replicate 15 (.int 0)), (2, [.int 0, .int 0, .int 0, .int 0, .ref (n + 64), .ref (n + 65), .ref (n + 66), .ref (n + 67), .ref (n + 68), .ref (n + 69)]), (64, List.replicate 4 (.int 0)), (64, List.replicate 4 (.int 0)), (65, List.replicate 6 (.int 0)), (64, List.replicate 15 (.int 0)), (64, List.replicate 15 (.int 0)), (64, List.replicate 15 (.int 0)), (7, [.int 0, .ref (n + 71), .ref (n + 72)]), (70, [.ref (n + 73), .ref (n + 80), .ref (n + 87)]), (64, List.replicate 2 (.int 0)), (2, [.int 0, .int 0, .int 0, .int 0, .ref (n + 74), .ref (n + 75), .ref (n + 76), .ref (n + 77), .ref (n + 78), .ref (n + 79)]), (64, List.replicate 4 (.int 0)), (64, List.replicate 4 (.int 0)), (65, List.replicate 6 (.int 0)), (64, List.replicate 15 (.int 0)), (64, List.replicate 15 (.int 0)), (64, List.replicate 15 (.int 0)), (2, [.int 0, .int 0, .int 0, .int 0, .ref (n + 81), .ref (n + 82), .ref (n + 83), .ref (n + 84), .ref (n + 85), .ref (n + 86)]), (64, List.replicate 4 (.int 0)), (64, List.replicate 4 (.int 0)), (65, List.replicate 6 (.int 0)), (64, List.replicate 15 (.int 0)), (64, List.replicate 15 (.int 0)), (64, List.replicate 15 (.int 0)), (2, [.int 0, .int 0, .int 0, .int 0, .ref (n + 88), .ref (n + 89), .ref (n + 90), .ref (n + 91), .ref (n + 92), .ref (n + 93)]), (64, List.replicate 4 (.int 0)), (64, List.replicate 4 (.int 0)), (65, List.replicate 6 (.int 0)), (64, List.replicate 15 (.int 0)), (64, List.replicate 15 (.int 0)), (64, List.replicate 15 (.int 0)), (7, [.int 0, .ref (n + 95), .ref (n + 96)]), (70, [.ref (n + 97), .ref (n + 104), .ref (n + 111)]), (64, List.replicate 2 (.int 0)), (2, [.int 0, .int 0, .int 0, .int 0, .ref (n + 98), .ref (n + 99), .ref (n + 100), .ref (n + 101), .ref (n + 102), .ref (n + 103)]), (64, List.replicate 4 (.int 0)), (64, List.replicate 4 (.int 0)), (65, List.replicate 6 (.int 0)), (64, List.replicate 15 (.int 0)), (64, List.replicate 15 (.int 0)), (64, List.replicate 15 (.int 0)), (2, [.int 0, .int 0, .int 0, .int 0, .ref (n + 105), .ref (n + 106), .ref (n + 107), .ref (n + 108), .ref (n + 109), .ref (n + 110)]), (64, List.replicate 4 (.int 0)), (64, List.replicate 4 (.int 0)), (65, List.replicate 6 (.int 0)), (64, List.replicate 15 (.int 0)), (64, List.replicate 15 (.int 0)), (64, List.replicate 15 (.int 0)), (2, [.int 0, .int 0, .int 0, .int 0, .ref (n + 112), .ref (n + 113), .ref (n + 114), .ref (n + 115), .ref (n + 116), .ref (n + 117)]), (64, List.replicate 4 (.int 0)), (64, List.replicate 4 (.int 0)), (65, List.replicate 6 (.int 0)), (64, List.replicate 15 (.int 0)), (64, List.replicate 15 (.int 0)), (64, List.replicate 15 (.int 0)), (7, [.int 0, .ref (n + 119), .ref (n + 120)]), (70, [.ref (n + 121), .ref (n + 128), .ref (n + 135)]), (64, List.replicate 2 (.int 0)), (2, [.int 0, .int 0, .int 0, .int 0, .ref (n + 122), .ref (n + 123), .ref (n + 124), .ref (n + 125), .ref (n + 126), .ref (n + 127)]), (64, List.replicate 4 (.int 0)), (64, List.replicate 4 (.int 0)), (65, List.replicate 6 (.int 0)), (64, List.replicate 15 (.int 0)), (64, List.replicate 15 (.int 0)), (64, List.replicate 15 (.int 0)), (2, [.int 0, .int 0, .int 0, .int 0, .ref (n + 129), .ref (n + 130), .ref (n + 131), .ref (n + 132), .ref (n + 133), .ref (n + 134)]), (64, List.replicate 4 (.int 0)), (64, List.replicate 4 (.int 0)), (65, List.replicate 6 (.int 0)), (64, List.replicate 15 (.int 0)), (64, List.replicate 15 (.int 0)), (64, List.replicate 15 (.int 0)), (2, [.int 0, .int 0, .int 0, .int 0, .ref (n + 136), .ref (n + 137), .ref (n + 138), .ref (n + 139), .ref (n + 140), .ref (n + 141)]), (64, List.replicate 4 (.int 0)), (64, List.replicate 4 (.int 0)), (65, List.replicate 6 (.int 0)), (64, List.replicate 15 (.int 0)), (64, List.replicate 15 (.int 0)), (64, List.replicate 15 (.int 0)), (6, [.ref (n + 143), .ref (n + 144), .ref (n + 145), .ref (n + 146)]), (64, List.replicate 4 (.int 0)), (65, List.replicate 4 (.int 0)), (64, List.replicate 6 (.int 0)), (64, List.replicate 3 (.int 0)), (1, [.int 0, .int 0, .ref (n + 148), .ref (n + 149)]), (64, List.replicate 192 (.int 0)), (64, List.replicate 64 (.int 0)), (1, [.int 0, .int 0, .ref (n + 151), .ref (n + 152)]), (64, List.replicate 192 (.int 0)), (64, List.replicate 64 (.int 0)), (1, [.int 0, .int 0, .ref (n + 154), .ref (n + 155)]), (64, List.replicate 192 (.int 0)), (64, List.replicate 64 (.int 0)), (4, [.int 0, .int 0, .int 0, .ref (n + 157), .int 0, .ref (n + 158), .ref (n + 159), .int 0, .ref (n + 160), .ref (n + 161), .ref (n + 162), .int 0, .ref (n + 163), .ref (n + 164), .ref (n + 165)]), (64, List.replicate 3 (.int 0)), (64, List.replicate 6 (.int 0)), (64, List.replicate 6 (.int 0)), (64, List.replicate 4 (.int 0)), (64, List.replicate 4 (.int 0)), (64, List.replicate 4 (.int 0)), (64, List.replicate 15 (.int 0)), (64, List.replicate 27 (.int 0)), (64, List.replicate 27 (.int 0))]) hn dBp_init_130 rfl rfl rfl kNf_init eNf_init lBp_66 iNf_init rfl rfl (Nat.le_of_ble_eq_true rfl) (fun P1 hp1 => cNf_init (n := n + 157) (by rw [nf_len hn]; rfl) ((nf_get hn 156).trans rfl) (by omega) hp1) rfl ?_
  refine QW.putFo (fs' := [.ref (n + 0), .ref (n + 14), .ref (n + 16), .ref (n + 21), .int 0, .int (-1), .ref (n + 142), .ref (n + 147), .ref (n + 150), .ref (n + 153), .ref (n + 156), .null, .null]) hn ha dBp_init_133 gBp_67 rfl rfl (fun _ => rfl) (fun _ => rfl) rfl ?_
  refine QW.aload_n dBp_init_136 rfl rfl ?_
  refine QW.newN (k := 166) (x' := [(3, [.ref (n + 1), .int 0]), (68, [.ref (n + 2), .ref (n + 5), .ref (n + 8), .ref (n + 11)]), (9, [.int 0, .int 0, .ref (n + 3), .ref (n + 4)]), (65, List.replicate 3 (.int 0)), (64, List.replicate 24 (.int 0)), (9, [.int 0, .int 0, .ref (n + 6), .ref (n + 7)]), (65, List.replicate 3 (.int 0)), (64, List.replicate 24 (.int 0)), (9, [.int 0, .int 0, .ref (n + 9), .ref (n + 10)]), (65, List.replicate 3 (.int 0)), (64, List.replicate 24 (.int 0)), (9, [.int 0, .int 0, .ref (n + 12), .ref (n + 13)]), (65, List.replicate 3 (.int 0)), (64, List.replicate 24 (.int 0)), (10, [.ref (n + 15), .int 0]), (66, List.replicate 200 (.int 0)), (8, [.ref (n + 17)]), (11, [.ref (n + 18), .ref (n + 19), .ref (n + 20), .int 0, .int 0]), (64, List.replicate 201 (.int 0)), (64, List.replicate 201 (.int 0)), (64, List.replicate 201 (.int 0)), (69, [.ref (n + 22), .ref (n + 46), .ref (n + 70), .ref (n + 94), .ref (n + 118)]), (7, [.int 0, .ref (n + 23), .ref (n + 24)]), (70, [.ref (n + 25), .ref (n + 32), .ref (n + 39)]), (64, List.replicate 2 (.int 0)), (2, [.int 0, .int 0, .int 0, .int 0, .ref (n + 26), .ref (n + 27), .ref (n + 28), .ref (n + 29), .ref (n + 30), .ref (n + 31)]), (64, List.replicate 4 (.int 0)), (64, List.replicate 4 (.int 0)), (65, List.replicate 6 (.int 0)), (64, List.replicate 15 (.int 0)), (64, List.replicate 15 (.int 0)), (64, List.replicate 15 (.int 0)), (2, [.int 0, .int 0, .int 0, .int 0, .ref (n + 33), .ref (n + 34), .ref (n + 35), .ref (n + 36), .ref (n + 37), .ref (n + 38)]), (64, List.replicate 4 (.int 0)), (64, List.replicate 4 (.int 0)), (65, List.replicate 6 (.int 0)), (64, List.replicate 15 (.int 0)), (64, List.replicate 15 (.int 0)), (64, List.replicate 15 (.int 0)), (2, [.int 0, .int 0, .int 0, .int 0, .ref (n + 40), .ref (n + 41), .ref (n + 42), .ref (n + 43), .ref (n + 44), .ref (n + 45)]), (64, List.replicate 4 (.int 0)), (64, List.replicate 4 (.int 0)), (65, List.replicate 6 (.int 0)), (64, List.replicate 15 (.int 0)), (64, List.replicate 15 (.int 0)), (64, List.replicate 15 (.int 0)), (7, [.int 0, .ref (n + 47), .ref (n + 48)]), (70, [.ref (n + 49), .ref (n + 56), .ref (n + 63)]), (64, List.replicate 2 (.int 0)), (2, [.int 0, .int 0, .int 0, .int 0, .ref (n + 50), .ref (n + 51), .ref (n + 52), .ref (n + 53), .ref (n + 54), .ref (n + 55)]), (64, List.replicate 4 (.int 0)), (64, List.replicate 4 (.int 0)), (65, List.replicate 6 (.int 0)), (64, List.replicate 15 (.int 0)), (64, List.replicate 15 (.int 0)), (64, List.replicate 15 (.int 0)), (2, [.int 0, .int 0, .int 0, .int 0, .ref (n + 57), .ref (n + 58), .ref (n + 59), .ref (n + 60), .ref (n + 61), .ref (n + 62)]), (64, List.replicate 4 (.int 0)), (64, List.replicate 4 (.int 0)), (65, List.replicate 6 (.int 0)), (64, List.replicate 15 (.int 0)), (64, List.replicate 15 (.int 0)), (64, List.replicate 15 (.int 0)), (2, [.int 0, .int 0, .int 0, .int 0, .ref (n + 64), .ref (n + 65), .ref (n + 66), .ref (n + 67), .ref (n + 68), .ref (n + 69)]), (64, List.replicate 4 (.int 0)), (64, List.replicate 4 (.int 0)), (65, List.replicate 6 (.int 0)), (64, List.replicate 15 (.int 0)), (64, List.replicate 15 (.int 0)), (64, List.replicate 15 (.int 0)), (7, [.int 0, .ref (n + 71), .ref (n + 72)]), (70, [.ref (n + 73), .ref (n + 80), .ref (n + 87)]), (64, List.replicate 2 (.int 0)), (2, [.int 0, .int 0, .int 0, .int 0, .ref (n + 74), .ref (n + 75), .ref (n + 76), .ref (n + 77), .ref (n + 78), .ref (n + 79)]), (64, List.replicate 4 (.int 0)), (64, List.replicate 4 (.int 0)), (65, List.replicate 6 (.int 0)), (64, List.replicate 15 (.int 0)), (64, List.replicate 15 (.int 0)), (64, List.replicate 15 (.int 0)), (2, [.int 0, .int 0, .int 0, .int 0, .ref (n + 81), .ref (n + 82), .ref (n + 83), .ref (n + 84), .ref (n + 85), .ref (n + 86)]), (64, List.replicate 4 (.int 0)), (64, List.replicate 4 (.int 0)), (65, List.replicate 6 (.int 0)), (64, List.replicate 15 (.int 0)), (64, List.replicate 15 (.int 0)), (64, List.replicate 15 (.int 0)), (2, [.int 0, .int 0, .int 0, .int 0, .ref (n + 88), .ref (n + 89), .ref (n + 90), .ref (n + 91), .ref (n + 92), .ref (n + 93)]), (64, List.replicate 4 (.int 0)), (64, List.replicate 4 (.int 0)), (65, List.replicate 6 (.int 0)), (64, List.replicate 15 (.int 0)), (64, List.replicate 15 (.int 0)), (64, List.replicate 15 (.int 0)), (7, [.int 0, .ref (n + 95), .ref (n + 96)]), (70, [.ref (n + 97), .ref (n + 104), .ref (n + 111)]), (64, List.replicate 2 (.int 0)), (2, [.int 0, .int 0, .int 0, .int 0, .ref (n + 98), .ref (n + 99), .ref (n + 100), .ref (n + 101), .ref (n + 102), .ref (n + 103)]), (64, List.replicate 4 (.int 0)), (64, List.replicate 4 (.int 0)), (65, List.replicate 6 (.int 0)), (64, List.replicate 15 (.int 0)), (64, List.replicate 15 (.int 0)), (64, List.replicate 15 (.int 0)), (2, [.int 0, .int 0, .int 0, .int 0, .ref (n + 105), .ref (n + 106), .ref (n + 107), .ref (n + 108), .ref (n + 109), .ref (n + 110)]), (64, List.replicate 4 (.int 0)), (64, List.replicate 4 (.int 0)), (65, List.replicate 6 (.int 0)), (64, List.replicate 15 (.int 0)), (64, List.replicate 15 (.int 0)), (64, List.replicate 15 (.int 0)), (2, [.int 0, .int 0, .int 0, .int 0, .ref (n + 112), .ref (n + 113), .ref (n + 114), .ref (n + 115), .ref (n + 116), .ref (n + 117)]), (64, List.replicate 4 (.int 0)), (64, List.replicate 4 (.int 0)), (65, List.replicate 6 (.int 0)), (64, List.replicate 15 (.int 0)), (64, List.replicate 15 (.int 0)), (64, List.replicate 15 (.int 0)), (7, [.int 0, .ref (n + 119), .ref (n + 120)]), (70, [.ref (n + 121), .ref (n + 128), .ref (n + 135)]), (64, List.replicate 2 (.int 0)), (2, [.int 0, .int 0, .int 0, .int 0, .ref (n + 122), .ref (n + 123), .ref (n + 124), .ref (n + 125), .ref (n + 126), .ref (n + 127)]), (64, List.replicate 4 (.int 0)), (64, List.replicate 4 (.int 0)), (65, List.replicate 6 (.int 0)), (64, List.replicate 15 (.int 0)), (64, List.replicate 15 (.int 0)), (64, List.replicate 15 (.int 0)), (2, [.int 0, .int 0, .int 0, .int 0, .ref (n + 129), .ref (n + 130), .ref (n + 131), .ref (n + 132), .ref (n + 133), .ref (n + 134)]), (64, List.replicate 4 (.int 0)), (64, List.replicate 4 (.int 0)), (65, List.replicate 6 (.int 0)), (64, List.replicate 15 (.int 0)), (64, List.replicate 15 (.int 0)), (64, List.replicate 15 (.int 0)), (2, [.int 0, .int 0, .int 0, .int 0, .ref (n + 136), .ref (n + 137), .ref (n + 138), .ref (n + 139), .ref (n + 140), .ref (n + 141)]), (64, List.replicate 4 (.int 0)), (64, List.replicate 4 (.int 0)), (65, List.replicate 6 (.int 0)), (64, List.replicate 15 (.int 0)), (64, List.replicate 15 (.int 0)), (64, List.replicate 15 (.int 0)), (6, [.ref (n + 143), .ref (n + 144), .ref (n + 145), .ref (n + 146)]), (64, List.replicate 4 (.int 0)), (65, List.replicate 4 (.int 0)), (64, List.replicate 6 (.int 0)), (64, List.replicate 3 (.int 0)), (1, [.int 0, .int 0, .ref (n + 148), .ref (n + 149)]), (64, List.replicate 192 (.int 0)), (64, List.replicate 64 (.int 0)), (1, [.int 0, .int 0, .ref (n + 151), .ref (n + 152)]), (64, List.replicate 192 (.int 0)), (64, List.replicate 64 (.int 0)), (1, [.int 0, .int 0, .ref (n + 154), .ref (n + 155)]), (64, List.replicate 192 (.int 0)), (64, List.replicate 64 (.int 0)), (4, [.int 0, .int 0, .int 0, .ref (n + 157), .int 0, .ref (n + 158), .ref (n + 159), .int 0, .ref (n + 160), .ref (n + 161), .ref (n + 162), .int 0, .ref (n + 163), .ref (n + 164), .ref (n + 165)]), (64, List.replicate 3 (.int 0)), (64, List.replicate 6 (.int 0)), (64, List.replicate 6 (.int 0)), (64, List.replicate 4 (.int 0)), (64, List.replicate 4 (.int 0)), (64, List.replicate 4 (.int 0)), (64, List.replicate 15 (.int 0)), (64, List.replicate 27 (.int 0)), (64, List.replicate 27 (.int 0)), (4, [.int 0, .int 0, .int 0, .null, .int 0, .null, .null, .int 0, .null, .null, .null, .int 0, .null, .null, .null])]) hn dBp_init_137 nBp_64 rfl (by omega) rfl ?_
  refine QW.dup dBp_init_140 rfl ?_
  refine QW.ctorN (M2 := mNf_init) (k := 166) (C2 := (4, [.int 0, .int 0, .int 0, .ref (n + 167), .int 0, .ref (n + 168), .ref (n + 169), .int 0, .ref (n + 170), .ref (n + 171), .ref (n + 172), .int 0, .ref (n + 173), .ref (n + 174), .ref (n + 175)])) (y := [(64, List.replicate 3 (.int 0)), (64, List.replicate 6 (.int 0)), (64, List.replicate 6 (.int 0)), (64, List.replicate 4 (.int 0)), (64, List.replicate 4 (.int 0)), (64, List.replicate 4 (.int 0)), (64, List.replicate 15 (.int 0)), (64, List.replicate 27 (.int 0)), (64, List.replicate 27 (.int 0))]) (x' := [(3, [.ref (n + 1), .int 0]), (68, [.ref (n + 2), .ref (n + 5), .ref (n + 8), .ref (n + 11)]), (9, [.int 0, .int 0, .ref (n + 3), .ref (n + 4)]), (65, List.replicate 3 (.int 0)), (64, List.replicate 24 (.int 0)), (9, [.int 0, .int 0, .ref (n + 6), .ref (n + 7)]), (65, List.replicate 3 (.int 0)), (64, List.replicate 24 (.int 0)), (9, [.int 0, .int 0, .ref (n + 9), .ref (n + 10)]), (65, List.replicate 3 (.int 0)), (64, List.replicate 24 (.int 0)), (9, [.int 0, .int 0, .ref (n + 12), .ref (n + 13)]), (65, List.replicate 3 (.int 0)), (64, List.replicate 24 (.int 0)), (10, [.ref (n + 15), .int 0]), (66, List.replicate 200 (.int 0)), (8, [.ref (n + 17)]), (11, [.ref (n + 18), .ref (n + 19), .ref (n + 20), .int 0, .int 0]), (64, List.replicate 201 (.int 0)), (64, List.replicate 201 (.int 0)), (64, List.replicate 201 (.int 0)), (69, [.ref (n + 22), .ref (n + 46), .ref (n + 70), .ref (n + 94), .ref (n + 118)]), (7, [.int 0, .ref (n + 23), .ref (n + 24)]), (70, [.ref (n + 25), .ref (n + 32), .ref (n + 39)]), (64, List.replicate 2 (.int 0)), (2, [.int 0, .int 0, .int 0, .int 0, .ref (n + 26), .ref (n + 27), .ref (n + 28), .ref (n + 29), .ref (n + 30), .ref (n + 31)]), (64, List.replicate 4 (.int 0)), (64, List.replicate 4 (.int 0)), (65, List.replicate 6 (.int 0)), (64, List.replicate 15 (.int 0)), (64, List.replicate 15 (.int 0)), (64, List.replicate 15 (.int 0)), (2, [.int 0, .int 0, .int 0, .int 0, .ref (n + 33), .ref (n + 34), .ref (n + 35), .ref (n + 36), .ref (n + 37), .ref (n + 38)]), (64, List.replicate 4 (.int 0)), (64, List.replicate 4 (.int 0)), (65, List.replicate 6 (.int 0)), (64, List.replicate 15 (.int 0)), (64, List.replicate 15 (.int 0)), (64, List.replicate 15 (.int 0)), (2, [.int 0, .int 0, .int 0, .int 0, .ref (n + 40), .ref (n + 41), .ref (n + 42), .ref (n + 43), .ref (n + 44), .ref (n + 45)]), (64, List.replicate 4 (.int 0)), (64, List.replicate 4 (.int 0)), (65, List.replicate 6 (.int 0)), (64, List.replicate 15 (.int 0)), (64, List.replicate 15 (.int 0)), (64, List.replicate 15 (.int 0)), (7, [.int 0, .ref (n + 47), .ref (n + 48)]), (70, [.ref (n + 49), .ref (n + 56), .ref (n + 63)]), (64, List.replicate 2 (.int 0)), (2, [.int 0, .int 0, .int 0, .int 0, .ref (n + 50), .ref (n + 51), .ref (n + 52), .ref (n + 53), .ref (n + 54), .ref (n + 55)]), (64, List.replicate 4 (.int 0)), (64, List.replicate 4 (.int 0)), (65, List.replicate 6 (.int 0)), (64, List.replicate 15 (.int 0)), (64, List.replicate 15 (.int 0)), (64, List.replicate 15 (.int 0)), (2, [.int 0, .int 0, .int 0, .int 0, .ref (n + 57), .ref (n + 58), .ref (n + 59), .ref (n + 60), .ref (n + 61), .ref (n + 62)]), (64, List.replicate 4 (.int 0)), (64, List.replicate 4 (.int 0)), (65, List.replicate 6 (.int 0)), (64, List.replicate 15 (.int 0)), (64, List.replicate 15 (.int 0)), (64, List.replicate 15 (.int 0)), (2, [.int 0, .int 0, .int 0, .int 0, .ref (n + 64), .ref (n + 65), .ref (n + 66), .ref (n + 67), .ref (n + 68), .ref (n + 69)]), (64, List.replicate 4 (.int 0)), (64, List.replicate 4 (.int 0)), (65, List.replicate 6 (.int 0)), (64, List.replicate 15 (.int 0)), (64, List.replicate 15 (.int 0)), (64, List.replicate 15 (.int 0)), (7, [.int 0, .ref (n + 71), .ref (n + 72)]), (70, [.ref (n + 73), .ref (n + 80), .ref (n + 87)]), (64, List.replicate 2 (.int 0)), (2, [.int 0, .int 0, .int 0, .int 0, .ref (n + 74), .ref (n + 75), .ref (n + 76), .ref (n + 77), .ref (n + 78), .ref (n + 79)]), (64, List.replicate 4 (.int 0)), (64, List.replicate 4 (.int 0)), (65, List.replicate 6 (.int 0)), (64, List.replicate 15 (.int 0)), (64, List.replicate 15 (.int 0)), (64, List.replicate 15 (.int 0)), (2, [.int 0, .int 0, .int 0, .int 0, .ref (n + 81), .ref (n + 82), .ref (n + 83), .ref (n + 84), .ref (n + 85), .ref (n + 86)]), (64, List.replicate 4 (.int 0)), (64, List.replicate 4 (.int 0)), (65, List.replicate 6 (.int 0)), (64, List.replicate 15 (.int 0)), (64, List.replicate 15 (.int 0)), (64, List.replicate 15 (.int 0)), (2, [.int 0, .int 0, .int 0, .int 0, .ref (n + 88), .ref (n + 89), .ref (n + 90), .ref (n + 91), .ref (n + 92), .ref (n + 93)]), (64, List.replicate 4 (.int 0)), (64, List.replicate 4 (.int 0)), (65, List.replicate 6 (.int 0)), (64, List.replicate 15 (.int 0)), (64, List.replicate 15 (.int 0)), (64, List.replicate 15 (.int 0)), (7, [.int 0, .ref (n + 95), .ref (n + 96)]), (70, [.ref (n + 97), .ref (n + 104), .ref (n + 111)]), (64, List.replicate 2 (.int 0)), (2, [.int 0, .int 0, .int 0, .int 0, .ref (n + 98), .ref (n + 99), .ref (n + 100), .ref (n + 101), .ref (n + 102), .ref (n + 103)]), (64, List.replicate 4 (.int 0)), (64, List.replicate 4 (.int 0)), (65, List.replicate 6 (.int 0)), (64, List.replicate 15 (.int 0)), (64, List.replicate 15 (.int 0)), (64, List.replicate 15 (.int 0)), (2, [.int 0, .int 0, .int 0, .int 0, .ref (n + 105), .ref (n + 106), .ref (n + 107), .ref (n + 108), .ref (n + 109), .ref (n + 110)]), (64, List.replicate 4 (.int 0)), (64, List.replicate 4 (.int 0)), (65, List.replicate 6 (.int 0)), (64, List.replicate 15 (.int 0)), (64, List.replicate 15 (.int 0)), (64, List.replicate 15 (.int 0)), (2, [.int 0, .int 0, .int 0, .int 0, .ref (n + 112), .ref (n + 113), .ref (n + 114), .ref (n + 115), .ref (n + 116), .ref (n + 117)]), (64, List.replicate 4 (.int 0)), (64, List.replicate 4 (.int 0)), (65, List.replicate 6 (.int 0)), (64, List.replicate 15 (.int 0)), (64, List.replicate 15 (.int 0)), (64, List.replicate 15 (.int 0)), (7, [.int 0, .ref (n + 119), .ref (n + 120)]), (70, [.ref (n + 121), .ref (n + 128), .ref (n + 135)]), (64, List.replicate 2 (.int 0)), (2, [.int 0, .int 0, .int 0, .int 0, .ref (n + 122), .ref (n + 123), .ref (n + 124), .ref (n + 125), .ref (n + 126), .ref (n + 127)]), (64, List.replicate 4 (.int 0)), (64, List.replicate 4 (.int 0)), (65, List.replicate 6 (.int 0)), (64, List.replicate 15 (.int 0)), (64, List.replicate 15 (.int 0)), (64, List.replicate 15 (.int 0)), (2, [.int 0, .int 0, .int 0, .int 0, .ref (n + 129), .ref (n + 130), .ref (n + 131), .ref (n + 132), .ref (n + 133), .ref (n + 134)]), (64, List.replicate 4 (.int 0)), (64, List.replicate 4 (.int 0)), (65, List.replicate 6 (.int 0)), (64, List.replicate 15 (.int 0)), (64, List.replicate 15 (.int 0)), (64, List.replicate 15 (.int 0)), (2, [.int 0, .int 0, .int 0, .int 0, .ref (n + 136), .ref (n + 137), .ref (n + 138), .ref (n + 139), .ref (n + 140), .ref (n + 141)]), (64, List.replicate 4 (.int 0)), (64, List.replicate 4 (.int 0)), (65, List.replicate 6 (.int 0)), (64, List.replicate 15 (.int 0)), (64, List.replicate 15 (.int 0)), (64, List.replicate 15 (.int 0)), (6, [.ref (n + 143), .ref (n + 144), .ref (n + 145), .ref (n + 146)]), (64, List.replicate 4 (.int 0)), (65, List.replicate 4 (.int 0)), (64, List.replicate 6 (.int 0)), (64, List.replicate 3 (.int 0)), (1, [.int 0, .int 0, .ref (n + 148), .ref (n + 149)]), (64, List.replicate 192 (.int 0)), (64, List.replicate 64 (.int 0)), (1, [.int 0, .int 0, .ref (n + 151), .ref (n + 152)]), (64, List.replicate 192 (.int 0)), (64, List.replicate 64 (.int 0)), (1, [.int 0, .int 0, .ref (n + 154), .ref (n + 155)]), (64, List.replicate 192 (.int 0)), (64, List.replicate 64 (.int 0)), (4, [.int 0, .int 0, .int 0, .ref (n + 157), .int 0, .ref (n + 158), .ref (n + 159), .int 0, .ref (n + 160), .ref (n + 161), .ref (n + 162), .int 0, .ref (n + 163), .ref (n + 164), .ref (n + 165)]), (64, List.replicate 3 (.int 0)), (64, List.replicate 6 (.int 0)), (64, List.replicate 6 (.int 0)), (64, List.replicate 4 (.int 0)), (64, List.replicate 4 (.int 0)), (64, List.replicate 4 (.int 0)), (64, List.replicate 15 (.int 0)), (64, List.replicate 27 (.int 0)), (64, List.replicate 27 (.int 0)), (4, [.int 0, .int 0, .int 0, .ref (n + 167), .int 0, .ref (n + 168), .ref (n + 169), .int 0, .ref (n + 170), .ref (n + 171), .ref (n + 172), .int 0, .ref (n + 173), .ref (n + 174), .ref (n + 175)]), (64, List.replicate 3 (.int 0)), (64, List.replicate 6 (.int 0)), (64, List.replicate 6 (.int 0)), (64, List.replicate 4 (.int 0)), (64, List.replicate 4 (.int 0)), (64, List.replicate 4 (.int 0)), (64, List.replicate 15 (.int 0)), (64, List.replicate 27 (.int 0)), (64, List.replicate 27 (.int 0))]) hn dBp_init_141 rfl rfl rfl kNf_init eNf_init lBp_66 iNf_init rfl rfl (Nat.le_of_ble_eq_true rfl) (fun P1 hp1 => cNf_init (n := n + 167) (by rw [nf_len hn]; rfl) ((nf_get hn 166).trans rfl) (by omega) hp1) rfl ?_
  refine QW.putFo (fs' := [.ref (n + 0), .ref (n + 14), .ref (n + 16), .ref (n + 21), .int 0, .int (-1), .ref (n + 142), .ref (n + 147), .ref (n + 150), .ref (n + 153), .ref (n + 156), .ref (n + 166), .null]) hn ha dBp_init_144 gBp_71 rfl rfl (fun _ => rfl) (fun _ => rfl) rfl ?_
  refine QW.aload_n dBp_init_147 rfl rfl ?_
  refine QW.newN (k := 176) (x' := [(3, [.ref (n + 1), .int 0]), (68, [.ref (n + 2), .ref (n + 5), .ref (n + 8), .ref (n + 11)]), (9, [.int 0, .int 0, .ref (n + 3), .ref (n + 4)]), (65, List.replicate 3 (.int 0)), (64, List.replicate 24 (.int 0)), (9, [.int 0, .int 0, .ref (n + 6), .ref (n + 7)]), (65, List.replicate 3 (.int 0)), (64, List.replicate 24 (.int 0)), (9, [.int 0, .int 0, .ref (n + 9), .ref (n + 10)]), (65, List.replicate 3 (.int 0)), (64, List.replicate 24 (.int 0)), (9, [.int 0, .int 0, .ref (n + 12), .ref (n + 13)]), (65, List.replicate 3 (.int 0)), (64, List.replicate 24 (.int 0)), (10, [.ref (n + 15), .int 0]), (66, List.replicate 200 (.int 0)), (8, [.ref (n + 17)]), (11, [.ref (n + 18), .ref (n + 19), .ref (n + 20), .int 0, .int 0]), (64, List.replicate 201 (.int 0)), (64, List.replicate 201 (.int 0)), (64, List.replicate 201 (.int 0)), (69, [.ref (n + 22), .ref (n + 46), .ref (n + 70), .ref (n + 94), .ref (n + 118)]), (7, [.int 0, .ref (n + 23), .ref (n + 24)]), (70, [.ref (n + 25), .ref (n + 32), .ref (n + 39)]), (64, List.replicate 2 (.int 0)), (2, [.int 0, .int 0, .int 0, .int 0, .ref (n + 26), .ref (n + 27), .ref (n + 28), .ref (n + 29), .ref (n + 30), .ref (n + 31)]), (64, List.replicate 4 (.int 0)), (64, List.replicate 4 (.int 0)), (65, List.replicate 6 (.int 0)), (64, List.replicate 15 (.int 0)), (64, List.replicate 15 (.int 0)), (64, List.replicate 15 (.int 0)), (2, [.int 0, .int 0, .int 0, .int 0, .ref (n + 33), .ref (n + 34), .ref (n + 35), .ref (n + 36), .ref (n + 37), .ref (n + 38)]), (64, List.replicate 4 (.int 0)), (64, List.replicate 4 (.int 0)), (65, List.replicate 6 (.int 0)), (64, List.replicate 15 (.int 0)), (64, List.replicate 15 (.int 0)), (64, List.replicate 15 (.int 0)), (2, [.int 0, .int 0, .int 0, .int 0, .ref (n + 40), .ref (n + 41), .ref (n + 42), .ref (n + 43), .ref (n + 44), .ref (n + 45)]), (64, List.replicate 4 (.int 0)), (64, List.replicate 4 (.int 0)), (65, List.replicate 6 (.int 0)), (64, List.replicate 15 (.int 0)), (64, List.replicate 15 (.int 0)), (64, List.replicate 15 (.int 0)), (7, [.int 0, .ref (n + 47), .ref (n + 48)]), (70, [.ref (n + 49), .ref (n + 56), .ref (n + 63)]), (64, List.replicate 2 (.int 0)), (2, [.int 0, .int 0, .int 0, .int 0, .ref (n + 50), .ref (n + 51), .ref (n + 52), .ref (n + 53), .ref (n + 54), .ref (n + 55)]), (64, List.replicate 4 (.int 0)), (64, List.replicate 4 (.int 0)), (65, List.replicate 6 (.int 0)), (64, List.replicate 15 (.int 0)), (64, List.replicate 15 (.int 0)), (64, List.replicate 15 (.int 0)), (2, [.int 0, .int 0, .int 0, .int 0, .ref (n + 57), .ref (n + 58), .ref (n + 59), .ref (n + 60), .ref (n + 61), .ref (n + 62)]), (64, List.replicate 4 (.int 0)), (64, List.replicate 4 (.int 0)), (65, List.replicate 6 (.int 0)), (64, List.replicate 15 (.int 0)), (64, List.replicate 15 (.int 0)), (64, List.replicate 15 (.int 0)), (2, [.int 0, .int 0, .int 0, .int 0, .ref (n + 64), .ref (n + 65), .ref (n + 66), .ref (n + 67), .ref (n + 68), .ref (n + 69)]), (64, List.replicate 4 (.int 0)), (64, List.replicate 4 (.int 0)), (65, List.replicate 6 (.int 0)), (64, List.replicate 15 (.int 0)), (64, List.replicate 15 (.int 0)), (64, List.replicate 15 (.int 0)), (7, [.int 0, .ref (n + 71), .ref (n + 72)]), (70, [.ref (n + 73), .ref (n + 80), .ref (n + 87)]), (64, List.replicate 2 (.int 0)), (2, [.int 0, .int 0, .int 0, .int 0, .ref (n + 74), .ref (n + 75), .ref (n + 76), .ref (n + 77), .ref (n + 78), .ref (n + 79)]), (64, List.replicate 4 (.int 0)), (64, List.replicate 4 (.int 0)), (65, List.replicate 6 (.int 0)), (64, List.replicate 15 (.int 0)), (64, List.replicate 15 (.int 0)), (64, List.replicate 15 (.int 0)), (2, [.int 0, .int 0, .int 0, .int 0, .ref (n + 81), .ref (n + 82), .ref (n + 83), .ref (n + 84), .ref (n + 85), .ref (n + 86)]), (64, List.replicate 4 (.int 0)), (64, List.replicate 4 (.int 0)), (65, List.replicate 6 (.int 0)), (64, List.replicate 15 (.int 0)), (64, List.replicate 15 (.int 0)), (64, List.replicate 15 (.int 0)), (2, [.int 0, .int 0, .int 0, .int 0, .ref (n + 88), .ref (n + 89), .ref (n + 90), .ref (n + 91), .ref (n + 92), .ref (n + 93)]), (64, List.replicate 4 (.int 0)), (64, List.replicate 4 (.int 0)), (65, List.replicate 6 (.int 0)), (64, List.replicate 15 (.int 0)), (64, List.replicate 15 (.int 0)), (64, List.replicate 15 (.int 0)), (7, [.int 0, .ref (n + 95), .ref (n + 96)]), (70, [.ref (n + 97), .ref (n + 104), .ref (n + 111)]), (64, List.replicate 2 (.int 0)), (2, [.int 0, .int 0, .int 0, .int 0, .ref (n + 98), .ref (n + 99), .ref (n + 100), .ref (n + 101), .ref (n + 102), .ref (n + 103)]), (64, List.replicate 4 (.int 0)), (64, List.replicate 4 (.int 0)), (65, List.replicate 6 (.int 0)), (64, List.replicate 15 (.int 0)), (64, List.replicate 15 (.int 0)), (64, List.replicate 15 (.int 0)), (2, [.int 0, .int 0, .int 0, .int 0, .ref (n + 105), .ref (n + 106), .ref (n + 107), .ref (n + 108), .ref (n + 109), .ref (n + 110)]), (64, List.replicate 4 (.int 0)), (64, List.replicate 4 (.int 0)), (65, List.replicate 6 (.int 0)), (64, List.replicate 15 (.int 0)), (64, List.replicate 15 (.int 0)), (64, List.replicate 15 (.int 0)), (2, [.int 0, .int 0, .int 0, .int 0, .ref (n + 112), .ref (n + 113), .ref (n + 114), .ref (n + 115), .ref (n + 116), .ref (n + 117)]), (64, List.replicate 4 (.int 0)), (64, List.replicate 4 (.int 0)), (65, List.replicate 6 (.int 0)), (64, List.replicate 15 (.int 0)), (64, List.replicate 15 (.int 0)), (64, List.replicate 15 (.int 0)), (7, [.int 0, .ref (n + 119), .ref (n + 120)]), (70, [.ref (n + 121), .ref (n + 128), .ref (n + 135)]), (64, List.replicate 2 (.int 0)), (2, [.int 0, .int 0, .int 0, .int 0, .ref (n + 122), .ref (n + 123), .ref (n + 124), .ref (n + 125), .ref (n + 126), .ref (n + 127)]), (64, List.replicate 4 (.int 0)), (64, List.replicate 4 (.int 0)), (65, List.replicate 6 (.int 0)), (64, List.replicate 15 (.int 0)), (64, List.replicate 15 (.int 0)), (64, List.replicate 15 (.int 0)), (2, [.int 0, .int 0, .int 0, .int 0, .ref (n + 129), .ref (n + 130), .ref (n + 131), .ref (n + 132), .ref (n + 133), .ref (n + 134)]), (64, List.replicate 4 (.int 0)), (64, List.replicate 4 (.int 0)), (65, List.replicate 6 (.int 0)), (64, List.replicate 15 (.int 0)), (64, List.replicate 15 (.int 0)), (64, List.replicate 15 (.int 0)), (2, [.int 0, .int 0, .int 0, .int 0, .ref (n + 136), .ref (n + 137), .ref (n + 138), .ref (n + 139), .ref (n + 140), .ref (n + 141)]), (64, List.replicate 4 (.int 0)), (64, List.replicate 4 (.int 0)), (65, List.replicate 6 (.int 0)), (64, List.replicate 15 (.int 0)), (64, List.replicate 15 (.int 0)), (64, List.replicate 15 (.int 0)), (6, [.ref (n + 143), .ref (n + 144), .ref (n + 145), .ref (n + 146)]), (64, List.replicate 4 (.int 0)), (65, List.replicate 4 (.int 0)), (64, List.replicate 6 (.int 0)), (64, List.replicate 3 (.int 0)), (1, [.int 0, .int 0, .ref (n + 148), .ref (n + 149)]), (64, List.replicate 192 (.int 0)), (64, List.replicate 64 (.int 0)), (1, [.int 0, .int 0, .ref (n + 151), .ref (n + 152)]), (64, List.replicate 192 (.int 0)), (64, List.replicate 64 (.int 0)), (1, [.int 0, .int 0, .ref (n + 154), .ref (n + 155)]), (64, List.replicate 192 (.int 0)), (64, List.replicate 64 (.int 0)), (4, [.int 0, .int 0, .int 0, .ref (n + 157), .int 0, .ref (n + 158), .ref (n + 159), .int 0, .ref (n + 160), .ref (n + 161), .ref (n + 162), .int 0, .ref (n + 163), .ref (n + 164), .ref (n + 165)]), (64, List.replicate 3 (.int 0)), (64, List.replicate 6 (.int 0)), (64, List.replicate 6 (.int 0)), (64, List.replicate 4 (.int 0)), (64, List.replicate 4 (.int 0)), (64, List.replicate 4 (.int 0)), (64, List.replicate 15 (.int 0)), (64, List.replicate 27 (.int 0)), (64, List.replicate 27 (.int 0)), (4, [.int 0, .int 0, .int 0, .ref (n + 167), .int 0, .ref (n + 168), .ref (n + 169), .int 0, .ref (n + 170), .ref (n + 171), .ref (n + 172), .int 0, .ref (n + 173), .ref (n + 174), .ref (n + 175)]), (64, List.replicate 3 (.int 0)), (64, List.replicate 6 (.int 0)), (64, List.replicate 6 (.int 0)), (64, List.replicate 4 (.int 0)), (64, List.replicate 4 (.int 0)), (64, List.replicate 4 (.int 0)), (64, List.replicate 15 (.int 0)), (64, List.replicate 27 (.int 0)), (64, List.replicate 27 (.int 0)), (5, [.null, .null])]) hn dBp_init_148 nBp_74 rfl (by omega) rfl ?_
  refine QW.dup dBp_init_151 rfl ?_
  refine QW.ctorN (M2 := mPg_init) (k := 176) (C2 := (5, [.ref (n + 177), .ref (n + 178)])) (y := [(64, List.replicate 4 (.int 0)), (65, List.replicate 4 (.int 0))]) (x' := [(3, [.ref (n + 1), .int 0]), (68, [.ref (n + 2), .ref (n + 5), .ref (n + 8), .ref (n + 11)]), (9, [.int 0, .int 0, .ref (n + 3), .ref (n + 4)]), (65, List.replicate 3 (.int 0)), (64, List.replicate 24 (.int 0)), (9, [.int 0, .int 0, .ref (n + 6), .ref (n + 7)]), (65, List.replicate 3 (.int 0)), (64, List.replicate 24 (.int 0)), (9, [.int 0, .int 0, .ref (n + 9), .ref (n + 10)]), (65, List.replicate 3 (.int 0)), (64, List.replicate 24 (.int 0)), (9, [.int 0, .int 0, .ref (n + 12), .ref (n + 13)]), (65, List.replicate 3 (.int 0)), (64, List.replicate 24 (.int 0)), (10, [.ref (n + 15), .int 0]), (66, List.replicate 200 (.int 0)), (8, [.ref (n + 17)]), (11, [.ref (n + 18), .ref (n + 19), .ref (n + 20), .int 0, .int 0]), (64, List.replicate 201 (.int 0)), (64, List.replicate 201 (.int 0)), (64, List.replicate 201 (.int 0)), (69, [.ref (n + 22), .ref (n + 46), .ref (n + 70), .ref (n + 94), .ref (n + 118)]), (7, [.int 0, .ref (n + 23), .ref (n + 24)]), (70, [.ref (n + 25), .ref (n + 32), .ref (n + 39)]), (64, List.replicate 2 (.int 0)), (2, [.int 0, .int 0, .int 0, .int 0, .ref (n + 26), .ref (n + 27), .ref (n + 28), .ref (n + 29), .ref (n + 30), .ref (n + 31)]), (64, List.replicate 4 (.int 0)), (64, List.replicate 4 (.int 0)), (65, List.replicate 6 (.int 0)), (64, List.replicate 15 (.int 0)), (64, List.replicate 15 (.int 0)), (64, List.replicate 15 (.int 0)), (2, [.int 0, .int 0, .int 0, .int 0, .ref (n + 33), .ref (n + 34), .ref (n + 35), .ref (n + 36), .ref (n + 37), .ref (n + 38)]), (64, List.replicate 4 (.int 0)), (64, List.replicate 4 (.int 0)), (65, List.replicate 6 (.int 0)), (64, List.replicate 15 (.int 0)), (64, List.replicate 15 (.int 0)), (64, List.replicate 15 (.int 0)), (2, [.int 0, .int 0, .int 0, .int 0, .ref (n + 40), .ref (n + 41), .ref (n + 42), .ref (n + 43), .ref (n + 44), .ref (n + 45)]), (64, List.replicate 4 (.int 0)), (64, List.replicate 4 (.int 0)), (65, List.replicate 6 (.int 0)), (64, List.replicate 15 (.int 0)), (64, List.replicate 15 (.int 0)), (64, List.replicate 15 (.int 0)), (7, [.int 0, .ref (n + 47), .ref (n + 48)]), (70, [.ref (n + 49), .ref (n + 56), .ref (n + 63)]), (64, List.replicate 2 (.int 0)), (2, [.int 0, .int 0, .int 0, .int 0, .ref (n + 50), .ref (n + 51), .ref (n + 52), .ref (n + 53), .ref (n + 54), .ref (n + 55)]), (64, List.replicate 4 (.int 0)), (64, List.replicate 4 (.int 0)), (65, List.replicate 6 (.int 0)), (64, List.replicate 15 (.int 0)), (64, List.replicate 15 (.int 0)), (64, List.replicate 15 (.int 0)), (2, [.int 0, .int 0, .int 0, .int 0, .ref (n + 57), .ref (n + 58), .ref (n + 59), .ref (n + 60), .ref (n + 61), .ref (n + 62)]), (64, List.replicate 4 (.int 0)), (64, List.replicate 4 (.int 0)), (65, List.replicate 6 (.int 0)), (64, List.replicate 15 (.int 0)), (64, List.replicate 15 (.int 0)), (64, List.replicate 15 (.int 0)), (2, [.int 0, .int 0, .int 0, .int 0, .ref (n + 64), .ref (n + 65), .ref (n + 66), .ref (n + 67), .ref (n + 68), .ref (n + 69)]), (64, List.replicate 4 (.int 0)), (64, List.replicate 4 (.int 0)), (65, List.replicate 6 (.int 0)), (64, List.replicate 15 (.int 0)), (64, List.replicate 15 (.int 0)), (64, List.replicate 15 (.int 0)), (7, [.int 0, .ref (n + 71), .ref (n + 72)]), (70, [.ref (n + 73), .ref (n + 80), .ref (n + 87)]), (64, List.replicate 2 (.int 0)), (2, [.int 0, .int 0, .int 0, .int 0, .ref (n + 74), .ref (n + 75), .ref (n + 76), .ref (n + 77), .ref (n + 78), .ref (n + 79)]), (64, List.replicate 4 (.int 0)), (64, List.replicate 4 (.int 0)), (65, List.replicate 6 (.int 0)), (64, List.replicate 15 (.int 0)), (64, List.replicate 15 (.int 0)), (64, List.replicate 15 (.int 0)), (2, [.int 0, .int 0, .int 0, .int 0, .ref (n + 81), .ref (n + 82), .ref (n + 83), .ref (n + 84), .ref (n + 85), .ref (n + 86)]), (64, List.replicate 4 (.int 0)), (64, List.replicate 4 (.int 0)), (65, List.replicate 6 (.int 0)), (64, List.replicate 15 (.int 0)), (64, List.replicate 15 (.int 0)), (64, List.replicate 15 (.int 0)), (2, [.int 0, .int 0, .int 0, .int 0, .ref (n + 88), .ref (n + 89), .ref (n + 90), .ref (n + 91), .ref (n + 92), .ref (n + 93)]), (64, List.replicate 4 (.int 0)), (64, List.replicate 4 (.int 0)), (65, List.replicate 6 (.int 0)), (64, List.replicate 15 (.int 0)), (64, List.replicate 15 (.int 0)), (64, List.replicate 15 (.int 0)), (7, [.int 0, .ref (n + 95), .ref (n + 96)]), (70, [.ref (n + 97), .ref (n + 104), .ref (n + 111)]), (64, List.replicate 2 (.int 0)), (2, [.int 0, .int 0, .int 0, .int 0, .ref (n + 98), .ref (n + 99), .ref (n + 100), .ref (n + 101), .ref (n + 102), .ref (n + 103)]), (64, List.replicate 4 (.int 0)), (64, List.replicate 4 (.int 0)), (65, List.replicate 6 (.int 0)), (64, List.replicate 15 (.int 0)), (64, List.replicate 15 (.int 0)), (64, List.replicate 15 (.int 0)), (2, [.int 0, .int 0, .int 0, .int 0, .ref (n + 105), .ref (n + 106), .ref (n + 107), .ref (n + 108), .ref (n + 109), .ref (n + 110)]), (64, List.replicate 4 (.int 0)), (64, List.replicate 4 (.int 0)), (65, List.replicate 6 (.int 0)), (64, List.replicate 15 (.int 0)), (64, List.replicate 15 (.int 0)), (64, List.replicate 15 (.int 0)), (2, [.int 0, .int 0, .int 0, .int 0, .ref (n + 112), .ref (n + 113), .ref (n + 114), .ref (n + 115), .ref (n + 116), .ref (n + 117)]), (64, List.replicate 4 (.int 0)), (64, List.replicate 4 (.int 0)), (65, List.replicate 6 (.int 0)), (64, List.replicate 15 (.int 0)), (64, List.replicate 15 (.int 0)), (64, List.replicate 15 (.int 0)), (7, [.int 0, .ref (n + 119), .ref (n + 120)]), (70, [.ref (n + 121), .ref (n + 128), .ref (n + 135)]), (64, List.replicate 2 (.int 0)), (2, [.int 0, .int 0, .int 0, .int 0, .ref (n + 122), .ref (n + 123), .ref (n + 124), .ref (n + 125), .ref (n + 126), .ref (n + 127)]), (64, List.replicate 4 (.int 0)), (64, List.replicate 4 (.int 0)), (65, List.replicate 6 (.int 0)), (64, List.replicate 15 (.int 0)), (64, List.replicate 15 (.int 0)), (64, List.replicate 15 (.int 0)), (2, [.int 0, .int 0, .int 0, .int 0, .ref (n + 129), .ref (n + 130), .ref (n + 131), .ref (n + 132), .ref (n + 133), .ref (n + 134)]), (64, List.replicate 4 (.int 0)), (64, List.replicate 4 (.int 0)), (65, List.replicate 6 (.int 0)), (64, List.replicate 15 (.int 0)), (64, List.replicate 15 (.int 0)), (64, List.replicate 15 (.int 0)), (2, [.int 0, .int 0, .int 0, .int 0, .ref (n + 136), .ref (n + 137), .ref (n + 138), .ref (n + 139), .ref (n + 140), .ref (n + 141)]), (64, List.replicate 4 (.int 0)), (64, List.replicate 4 (.int 0)), (65, List.replicate 6 (.int 0)), (64, List.replicate 15 (.int 0)), (64, List.replicate 15 (.int 0)), (64, List.replicate 15 (.int 0)), (6, [.ref (n + 143), .ref (n + 144), .ref (n + 145), .ref (n + 146)]), (64, List.replicate 4 (.int 0)), (65, List.replicate 4 (.int 0)), (64, List.replicate 6 (.int 0)), (64, List.replicate 3 (.int 0)), (1, [.int 0, .int 0, .ref (n + 148), .ref (n + 149)]), (64, List.replicate 192 (.int 0)), (64, List.replicate 64 (.int 0)), (1, [.int 0, .int 0, .ref (n + 151), .ref (n + 152)]), (64, List.replicate 192 (.int 0)), (64, List.replicate 64 (.int 0)), (1, [.int 0, .int 0, .ref (n + 154), .ref (n + 155)]), (64, List.replicate 192 (.int 0)), (64, List.replicate 64 (.int 0)), (4, [.int 0, .int 0, .int 0, .ref (n + 157), .int 0, .ref (n + 158), .ref (n + 159), .int 0, .ref (n + 160), .ref (n + 161), .ref (n + 162), .int 0, .ref (n + 163), .ref (n + 164), .ref (n + 165)]), (64, List.replicate 3 (.int 0)), (64, List.replicate 6 (.int 0)), (64, List.replicate 6 (.int 0)), (64, List.replicate 4 (.int 0)), (64, List.replicate 4 (.int 0)), (64, List.replicate 4 (.int 0)), (64, List.replicate 15 (.int 0)), (64, List.replicate 27 (.int 0)), (64, List.replicate 27 (.int 0)), (4, [.int 0, .int 0, .int 0, .ref (n + 167), .int 0, .ref (n + 168), .ref (n + 169), .int 0, .ref (n + 170), .ref (n + 171), .ref (n + 172), .int 0, .ref (n + 173), .ref (n + 174), .ref (n + 175)]), (64, List.replicate 3 (.int 0)), (64, List.replicate 6 (.int 0)), (64, List.replicate 6 (.int 0)), (64, List.replicate 4 (.int 0)), (64, List.replicate 4 (.int 0)), (64, List.replicate 4 (.int 0)), (64, List.replicate 15 (.int 0)), (64, List.replicate 27 (.int 0)), (64, List.replicate 27 (.int 0)), (5, [.ref (n + 177), .ref (n + 178)]), (64, List.replicate 4 (.int 0)), (65, List.replicate 4 (.int 0))]) hn dBp_init_152 rfl rfl rfl kPg_init ePg_init lBp_76 iPg_init rfl rfl (Nat.le_of_ble_eq_true rfl) (fun P1 hp1 => cPg_init (n := n + 177) (by rw [nf_len hn]; rfl) ((nf_get hn 176).trans rfl) (by omega) hp1) rfl ?_
  refine QW.putFo (fs' := [.ref (n + 0), .ref (n + 14), .ref (n + 16), .ref (n + 21), .int 0, .int (-1), .ref (n + 142), .ref (n + 147), .ref (n + 150), .ref (n + 153), .ref (n + 156), .ref (n + 166), .ref (n + 176)]) hn ha dBp_init_155 gBp_77 rfl rfl (fun _ => rfl) (fun _ => rfl) rfl ?_
  exact QW.vret dBp_init_158 rfl hp
theorem dMo_init_0 : decode mMo_init.2.1 0 = .ok (.aload_n 0, 1) := by decide +kernel
theorem dMo_init_1 : decode mMo_init.2.1 1 = .ok (.invokespecial 1, 3) := by decide +kernel
theorem dMo_init_4 : decode mMo_init.2.1 4 = .ok (.aload_n 0, 1) := by decide +kernel
theorem dMo_init_5 : decode mMo_init.2.1 5 = .ok (.iconst 4, 1) := by decide +kernel
theorem dMo_init_6 : decode mMo_init.2.1 6 = .ok (.newarray .int, 2) := by decide +kernel
theorem dMo_init_8 : decode mMo_init.2.1 8 = .ok (.putfield 7, 3) := by decide +kernel
theorem dMo_init_11 : decode mMo_init.2.1 11 = .ok (.aload_n 0, 1) := by decide +kernel
theorem dMo_init_12 : decode mMo_init.2.1 12 = .ok (.iconst 4, 1) := by decide +kernel
theorem dMo_init_13 : decode mMo_init.2.1 13 = .ok (.newarray .int, 2) := by decide +kernel
theorem dMo_init_15 : decode mMo_init.2.1 15 = .ok (.putfield 13, 3) := by decide +kernel
theorem dMo_init_18 : decode mMo_init.2.1 18 = .ok (.aload_n 0, 1) := by decide +kernel
theorem dMo_init_19 : decode mMo_init.2.1 19 = .ok (.bipush 96, 2) := by decide +kernel
theorem dMo_init_21 : decode mMo_init.2.1 21 = .ok (.newarray .int, 2) := by decide +kernel
theorem dMo_init_23 : decode mMo_init.2.1 23 = .ok (.putfield 16, 3) := by decide +kernel
theorem dMo_init_26 : decode mMo_init.2.1 26 = .ok (.aload_n 0, 1) := by decide +kernel
theorem dMo_init_27 : decode mMo_init.2.1 27 = .ok (.bipush 12, 2) := by decide +kernel
theorem dMo_init_29 : decode mMo_init.2.1 29 = .ok (.newarray .boolean, 2) := by decide +kernel
theorem dMo_init_31 : decode mMo_init.2.1 31 = .ok (.putfield 19, 3) := by decide +kernel
theorem dMo_init_34 : decode mMo_init.2.1 34 = .ok (.aload_n 0, 1) := by decide +kernel
theorem dMo_init_35 : decode mMo_init.2.1 35 = .ok (.sipush 200, 3) := by decide +kernel
theorem dMo_init_38 : decode mMo_init.2.1 38 = .ok (.newarray .char, 2) := by decide +kernel
theorem dMo_init_40 : decode mMo_init.2.1 40 = .ok (.putfield 23, 3) := by decide +kernel
theorem dMo_init_43 : decode mMo_init.2.1 43 = .ok (.aload_n 0, 1) := by decide +kernel
theorem dMo_init_44 : decode mMo_init.2.1 44 = .ok (.iconst (-1), 1) := by decide +kernel
theorem dMo_init_45 : decode mMo_init.2.1 45 = .ok (.putfield 27, 3) := by decide +kernel
theorem dMo_init_48 : decode mMo_init.2.1 48 = .ok (.aload_n 0, 1) := by decide +kernel
theorem dMo_init_49 : decode mMo_init.2.1 49 = .ok (.iconst 5, 1) := by decide +kernel
theorem dMo_init_50 : decode mMo_init.2.1 50 = .ok (.newarray .int, 2) := by decide +kernel
theorem dMo_init_52 : decode mMo_init.2.1 52 = .ok (.putfield 31, 3) := by decide +kernel
theorem dMo_init_55 : decode mMo_init.2.1 55 = .ok (.aload_n 0, 1) := by decide +kernel
theorem dMo_init_56 : decode mMo_init.2.1 56 = .ok (.bipush 10, 2) := by decide +kernel
theorem dMo_init_58 : decode mMo_init.2.1 58 = .ok (.newarray .int, 2) := by decide +kernel
theorem dMo_init_60 : decode mMo_init.2.1 60 = .ok (.putfield 34, 3) := by decide +kernel
theorem dMo_init_63 : decode mMo_init.2.1 63 = .ok (.aload_n 0, 1) := by decide +kernel
theorem dMo_init_64 : decode mMo_init.2.1 64 = .ok (.bipush 15, 2) := by decide +kernel
theorem dMo_init_66 : decode mMo_init.2.1 66 = .ok (.newarray .boolean, 2) := by decide +kernel
theorem dMo_init_68 : decode mMo_init.2.1 68 = .ok (.putfield 37, 3) := by decide +kernel
theorem dMo_init_71 : decode mMo_init.2.1 71 = .ok (.aload_n 0, 1) := by decide +kernel
theorem dMo_init_72 : decode mMo_init.2.1 72 = .ok (.bipush 15, 2) := by decide +kernel
theorem dMo_init_74 : decode mMo_init.2.1 74 = .ok (.newarray .int, 2) := by decide +kernel
theorem dMo_init_76 : decode mMo_init.2.1 76 = .ok (.putfield 40, 3) := by decide +kernel
theorem dMo_init_79 : decode mMo_init.2.1 79 = .ok (.aload_n 0, 1) := by decide +kernel
theorem dMo_init_80 : decode mMo_init.2.1 80 = .ok (.bipush 45, 2) := by decide +kernel
theorem dMo_init_82 : decode mMo_init.2.1 82 = .ok (.newarray .int, 2) := by decide +kernel
theorem dMo_init_84 : decode mMo_init.2.1 84 = .ok (.putfield 43, 3) := by decide +kernel
theorem dMo_init_87 : decode mMo_init.2.1 87 = .ok (.aload_n 0, 1) := by decide +kernel
theorem dMo_init_88 : decode mMo_init.2.1 88 = .ok (.bipush 15, 2) := by decide +kernel
theorem dMo_init_90 : decode mMo_init.2.1 90 = .ok (.newarray .int, 2) := by decide +kernel
theorem dMo_init_92 : decode mMo_init.2.1 92 = .ok (.putfield 46, 3) := by decide +kernel
theorem dMo_init_95 : decode mMo_init.2.1 95 = .ok (.aload_n 0, 1) := by decide +kernel
theorem dMo_init_96 : decode mMo_init.2.1 96 = .ok (.bipush 60, 2) := by decide +kernel
theorem dMo_init_98 : decode mMo_init.2.1 98 = .ok (.newarray .int, 2) := by decide +kernel
theorem dMo_init_100 : decode mMo_init.2.1 100 = .ok (.putfield 49, 3) := by decide +kernel
theorem dMo_init_103 : decode mMo_init.2.1 103 = .ok (.aload_n 0, 1) := by decide +kernel
theorem dMo_init_104 : decode mMo_init.2.1 104 = .ok (.bipush 60, 2) := by decide +kernel
theorem dMo_init_106 : decode mMo_init.2.1 106 = .ok (.newarray .int, 2) := by decide +kernel
theorem dMo_init_108 : decode mMo_init.2.1 108 = .ok (.putfield 52, 3) := by decide +kernel
theorem dMo_init_111 : decode mMo_init.2.1 111 = .ok (.aload_n 0, 1) := by decide +kernel
theorem dMo_init_112 : decode mMo_init.2.1 112 = .ok (.bipush 15, 2) := by decide +kernel
theorem dMo_init_114 : decode mMo_init.2.1 114 = .ok (.newarray .int, 2) := by decide +kernel
theorem dMo_init_116 : decode mMo_init.2.1 116 = .ok (.putfield 55, 3) := by decide +kernel
theorem dMo_init_119 : decode mMo_init.2.1 119 = .ok (.aload_n 0, 1) := by decide +kernel
theorem dMo_init_120 : decode mMo_init.2.1 120 = .ok (.bipush 90, 2) := by decide +kernel
theorem dMo_init_122 : decode mMo_init.2.1 122 = .ok (.newarray .int, 2) := by decide +kernel
theorem dMo_init_124 : decode mMo_init.2.1 124 = .ok (.putfield 58, 3) := by decide +kernel
theorem dMo_init_127 : decode mMo_init.2.1 127 = .ok (.aload_n 0, 1) := by decide +kernel
theorem dMo_init_128 : decode mMo_init.2.1 128 = .ok (.bipush 90, 2) := by decide +kernel
theorem dMo_init_130 : decode mMo_init.2.1 130 = .ok (.newarray .int, 2) := by decide +kernel
theorem dMo_init_132 : decode mMo_init.2.1 132 = .ok (.putfield 61, 3) := by decide +kernel
theorem dMo_init_135 : decode mMo_init.2.1 135 = .ok (.aload_n 0, 1) := by decide +kernel
theorem dMo_init_136 : decode mMo_init.2.1 136 = .ok (.bipush 90, 2) := by decide +kernel
theorem dMo_init_138 : decode mMo_init.2.1 138 = .ok (.newarray .boolean, 2) := by decide +kernel
theorem dMo_init_140 : decode mMo_init.2.1 140 = .ok (.putfield 64, 3) := by decide +kernel
theorem dMo_init_143 : decode mMo_init.2.1 143 = .ok (.aload_n 0, 1) := by decide +kernel
theorem dMo_init_144 : decode mMo_init.2.1 144 = .ok (.sipush 192, 3) := by decide +kernel
theorem dMo_init_147 : decode mMo_init.2.1 147 = .ok (.newarray .int, 2) := by decide +kernel
theorem dMo_init_149 : decode mMo_init.2.1 149 = .ok (.putfield 67, 3) := by decide +kernel
theorem dMo_init_152 : decode mMo_init.2.1 152 = .ok (.aload_n 0, 1) := by decide +kernel
theorem dMo_init_153 : decode mMo_init.2.1 153 = .ok (.bipush 64, 2) := by decide +kernel
theorem dMo_init_155 : decode mMo_init.2.1 155 = .ok (.newarray .int, 2) := by decide +kernel
theorem dMo_init_157 : decode mMo_init.2.1 157 = .ok (.putfield 70, 3) := by decide +kernel
theorem dMo_init_160 : decode mMo_init.2.1 160 = .ok (.aload_n 0, 1) := by decide +kernel
theorem dMo_init_161 : decode mMo_init.2.1 161 = .ok (.sipush 192, 3) := by decide +kernel
theorem dMo_init_164 : decode mMo_init.2.1 164 = .ok (.newarray .int, 2) := by decide +kernel
theorem dMo_init_166 : decode mMo_init.2.1 166 = .ok (.putfield 73, 3) := by decide +kernel
theorem dMo_init_169 : decode mMo_init.2.1 169 = .ok (.aload_n 0, 1) := by decide +kernel
theorem dMo_init_170 : decode mMo_init.2.1 170 = .ok (.bipush 64, 2) := by decide +kernel
theorem dMo_init_172 : decode mMo_init.2.1 172 = .ok (.newarray .int, 2) := by decide +kernel
theorem dMo_init_174 : decode mMo_init.2.1 174 = .ok (.putfield 76, 3) := by decide +kernel
theorem dMo_init_177 : decode mMo_init.2.1 177 = .ok (.aload_n 0, 1) := by decide +kernel
theorem dMo_init_178 : decode mMo_init.2.1 178 = .ok (.sipush 192, 3) := by decide +kernel
theorem dMo_init_181 : decode mMo_init.2.1 181 = .ok (.newarray .int, 2) := by decide +kernel
theorem dMo_init_183 : decode mMo_init.2.1 183 = .ok (.putfield 79, 3) := by decide +kernel
theorem dMo_init_186 : decode mMo_init.2.1 186 = .ok (.aload_n 0, 1) := by decide +kernel
theorem dMo_init_187 : decode mMo_init.2.1 187 = .ok (.bipush 64, 2) := by decide +kernel
theorem dMo_init_189 : decode mMo_init.2.1 189 = .ok (.newarray .int, 2) := by decide +kernel
theorem dMo_init_191 : decode mMo_init.2.1 191 = .ok (.putfield 82, 3) := by decide +kernel
theorem dMo_init_194 : decode mMo_init.2.1 194 = .ok (.aload_n 0, 1) := by decide +kernel
theorem dMo_init_195 : decode mMo_init.2.1 195 = .ok (.iconst 4, 1) := by decide +kernel
theorem dMo_init_196 : decode mMo_init.2.1 196 = .ok (.newarray .int, 2) := by decide +kernel
theorem dMo_init_198 : decode mMo_init.2.1 198 = .ok (.putfield 85, 3) := by decide +kernel
theorem dMo_init_201 : decode mMo_init.2.1 201 = .ok (.aload_n 0, 1) := by decide +kernel
theorem dMo_init_202 : decode mMo_init.2.1 202 = .ok (.iconst 3, 1) := by decide +kernel
theorem dMo_init_203 : decode mMo_init.2.1 203 = .ok (.newarray .int, 2) := by decide +kernel
theorem dMo_init_205 : decode mMo_init.2.1 205 = .ok (.putfield 88, 3) := by decide +kernel
theorem dMo_init_208 : decode mMo_init.2.1 208 = .ok (.aload_n 0, 1) := by decide +kernel
theorem dMo_init_209 : decode mMo_init.2.1 209 = .ok (.bipush 64, 2) := by decide +kernel
theorem dMo_init_211 : decode mMo_init.2.1 211 = .ok (.newarray .int, 2) := by decide +kernel
theorem dMo_init_213 : decode mMo_init.2.1 213 = .ok (.putfield 91, 3) := by decide +kernel
theorem dMo_init_216 : decode mMo_init.2.1 216 = .ok (.aload_n 0, 1) := by decide +kernel
theorem dMo_init_217 : decode mMo_init.2.1 217 = .ok (.bipush 64, 2) := by decide +kernel
theorem dMo_init_219 : decode mMo_init.2.1 219 = .ok (.newarray .int, 2) := by decide +kernel
theorem dMo_init_221 : decode mMo_init.2.1 221 = .ok (.putfield 94, 3) := by decide +kernel
theorem dMo_init_224 : decode mMo_init.2.1 224 = .ok (.aload_n 0, 1) := by decide +kernel
theorem dMo_init_225 : decode mMo_init.2.1 225 = .ok (.iconst 2, 1) := by decide +kernel
theorem dMo_init_226 : decode mMo_init.2.1 226 = .ok (.newarray .int, 2) := by decide +kernel
theorem dMo_init_228 : decode mMo_init.2.1 228 = .ok (.putfield 97, 3) := by decide +kernel
theorem dMo_init_231 : decode mMo_init.2.1 231 = .ok (.aload_n 0, 1) := by decide +kernel
theorem dMo_init_232 : decode mMo_init.2.1 232 = .ok (.bipush 8, 2) := by decide +kernel
theorem dMo_init_234 : decode mMo_init.2.1 234 = .ok (.newarray .int, 2) := by decide +kernel
theorem dMo_init_236 : decode mMo_init.2.1 236 = .ok (.putfield 100, 3) := by decide +kernel
theorem dMo_init_239 : decode mMo_init.2.1 239 = .ok (.aload_n 0, 1) := by decide +kernel
theorem dMo_init_240 : decode mMo_init.2.1 240 = .ok (.iconst 4, 1) := by decide +kernel
theorem dMo_init_241 : decode mMo_init.2.1 241 = .ok (.newarray .int, 2) := by decide +kernel
theorem dMo_init_243 : decode mMo_init.2.1 243 = .ok (.putfield 103, 3) := by decide +kernel
theorem dMo_init_246 : decode mMo_init.2.1 246 = .ok (.return_, 1) := by decide +kernel
set_option maxRecDepth 20000 in
theorem cMo_init {d a n : Nat} {h : qH} {P : qE → Prop} (hn : h.length = n) (h0 : h[a]? = some (12, [.int 0, .int 0, .null, .null, .null, .null, .int 0, .null, .int 0, .int 0, .int 0, .int 0, .int 0, .int 0, .null, .null, .null, .null, .null, .null, .null, .null, .null, .null, .null, .null, .int 0, .null, .null, .int 0, .null, .null, .int 0, .int 0, .int 0, .null, .null, .null, .null, .null, .null, .null, .null, .null])) (hcap : n + 30 ≤ qCap) (hp : P (.inl none, h.set a (12, [.int 0, .int 0, .ref (n + 0), .ref (n + 1), .ref (n + 2), .ref (n + 3), .int 0, .ref (n + 4), .int (-1), .int 0, .int 0, .int 0, .int 0, .int 0, .ref (n + 5), .ref (n + 6), .ref (n + 7), .ref (n + 8), .ref (n + 9), .ref (n + 10), .ref (n + 11), .ref (n + 12), .ref (n + 13), .ref (n + 14), .ref (n + 15), .ref (n + 16), .int 0, .ref (n + 17), .ref (n + 18), .int 0, .ref (n + 19), .ref (n + 20), .int 0, .int 0, .int 0, .ref (n + 21), .ref (n + 22), .ref (n + 23), .ref (n + 24), .ref (n + 25), .ref (n + 26), .ref (n + 27), .ref (n + 28), .ref (n + 29)]) ++ [(64, List.replicate 4 (.int 0)), (64, List.replicate 4 (.int 0)), (64, List.replicate 96 (.int 0)), (65, List.replicate 12 (.int 0)), (66, List.replicate 200 (.int 0)), (64, List.replicate 5 (.int 0)), (64, List.replicate 10 (.int 0)), (65, List.replicate 15 (.int 0)), (64, List.replicate 15 (.int 0)), (64, List.replicate 45 (.int 0)), (64, List.replicate 15 (.int 0)), (64, List.replicate 60 (.int 0)), (64, List.replicate 60 (.int 0)), (64, List.replicate 15 (.int 0)), (64, List.replicate 90 (.int 0)), (64, List.replicate 90 (.int 0)), (65, List.replicate 90 (.int 0)), (64, List.replicate 192 (.int 0)), (64, List.replicate 64 (.int 0)), (64, List.replicate 192 (.int 0)), (64, List.replicate 64 (.int 0)), (64, List.replicate 192 (.int 0)), (64, List.replicate 64 (.int 0)), (64, List.replicate 4 (.int 0)), (64, List.replicate 3 (.int 0)), (64, List.replicate 64 (.int 0)), (64, List.replicate 64 (.int 0)), (64, List.replicate 2 (.int 0)), (64, List.replicate 8 (.int 0)), (64, List.replicate 4 (.int 0))])) : QW d mMo_init 0 (qen 1 [.ref a]) [] h P := by
  have ha : a < n := by rw [← hn]; exact (List.getElem?_eq_some_iff.mp h0).1
  refine QW.hq (h' := h.set a (12, [.int 0, .int 0, .null, .null, .null, .null, .int 0, .null, .int 0, .int 0, .int 0, .int 0, .int 0, .int 0, .null, .null, .null, .null, .null, .null, .null, .null, .null, .null, .null, .null, .int 0, .null, .null, .int 0, .null, .null, .int 0, .int 0, .int 0, .null, .null, .null, .null, .null, .null, .null, .null, .null]) ++ []) (by rw [List.append_nil]; exact (q_self h0).symm) ?_
  show QW d mMo_init 0 [.val (.ref a)] [] _ P
  refine QW.aload_n dMo_init_0 rfl rfl ?_
  refine QW.objInit dMo_init_1 oMo_1 q_oi q_oc rfl (Nat.le_of_ble_eq_true rfl) ?_
  refine QW.aload_n dMo_init_4 rfl rfl ?_
  refine QW.iconst (v := 4) dMo_init_5 (by decide) ?_
  refine QW.newaN (t := 64) (N := 4) (k := 0) (v := .int 0) (x' := [(64, List.replicate 4 (.int 0))]) hn dMo_init_6 rfl (by decide) (by decide) q_ac_int (by decide) (by decide) (by decide) rfl rfl (by omega) rfl ?_
  refine QW.putFo (fs' := [.int 0, .int 0, .ref (n + 0), .null, .null, .null, .int 0, .null, .int 0, .int 0, .int 0, .int 0, .int 0, .int 0, .null, .null, .null, .null, .null, .null, .null, .null, .null, .null, .null, .null, .int 0, .null, .null, .int 0, .null, .null, .int 0, .int 0, .int 0, .null, .null, .null, .null, .null, .null, .null, .null, .null]) hn ha dMo_init_8 gMo_7 rfl rfl (fun _ => rfl) (fun _ => rfl) rfl ?_
  refine QW.aload_n dMo_init_11 rfl rfl ?_
  refine QW.iconst (v := 4) dMo_init_12 (by decide) ?_
  refine QW.newaN (t := 64) (N := 4) (k := 1) (v := .int 0) (x' := [(64, List.replicate 4 (.int 0)), (64, List.replicate 4 (.int 0))]) hn dMo_init_13 rfl (by decide) (by decide) q_ac_int (by decide) (by decide) (by decide) rfl rfl (by omega) rfl ?_
  refine QW.putFo (fs' := [.int 0, .int 0, .ref (n + 0), .ref (n + 1), .null, .null, .int 0, .null, .int 0, .int 0, .int 0, .int 0, .int 0, .int 0, .null, .null, .null, .null, .null, .null, .null, .null, .null, .null, .null, .null, .int 0, .null, .null, .int 0, .null, .null, .int 0, .int 0, .int 0, .null, .null, .null, .null, .null, .null, .null, .null, .null]) hn ha dMo_init_15 gMo_13 rfl rfl (fun _ => rfl) (fun _ => rfl) rfl ?_
  refine QW.aload_n dMo_init_18 rfl rfl ?_
  refine QW.bipush (v := 96) dMo_init_19 (by decide) ?_
  refine QW.newaN (t := 64) (N := 96) (k := 2) (v := .int 0) (x' := [(64, List.replicate 4 (.int 0)), (64, List.replicate 4 (.int 0)), (64, List.replicate 96 (.int 0))]) hn dMo_init_21 rfl (by decide) (by decide) q_ac_int (by decide) (by decide) (by decide) rfl rfl (by omega) rfl ?_
  refine QW.putFo (fs' := [.int 0, .int 0, .ref (n + 0), .ref (n + 1), .ref (n + 2), .null, .int 0, .null, .int 0, .int 0, .int 0, .int 0, .int 0, .int 0, .null, .null, .null, .null, .null, .null, .null, .null, .null, .null, .null, .null, .int 0, .null, .null, .int 0, .null, .null, .int 0, .int 0, .int 0, .null, .null, .null, .null, .null, .null, .null, .null, .null]) hn ha dMo_init_23 gMo_16 rfl rfl (fun _ => rfl) (fun _ => rfl) rfl ?_
  refine QW.aload_n dMo_init_26 rfl rfl ?_
  refine QW.bipush (v := 12) dMo_init_27 (by decide) ?_
  refine QW.newaN (t := 65) (N := 12) (k := 3) (v := .int 0) (x' := [(64, List.replicate 4 (.int 0)), (64, List.replicate 4 (.int 0)), (64, List.replicate 96 (.int 0)), (65, List.replicate 12 (.int 0))]) hn dMo_init_29 rfl (by decide) (by decide) q_ac_boolean (by decide) (by decide) (by decide) rfl rfl (by omega) rfl ?_
  refine QW.putFo (fs' := [.int 0, .int 0, .ref (n + 0), .ref (n + 1), .ref (n + 2), .ref (n + 3), .int 0, .null, .int 0, .int 0, .int 0, .int 0, .int 0, .int 0, .null, .null, .null, .null, .null, .null, .null, .null, .null, .null, .null, .null, .int 0, .null, .null, .int 0, .null, .null, .int 0, .int 0, .int 0, .null, .null, .null, .null, .null, .null, .null, .null, .null]) hn ha dMo_init_31 gMo_19 rfl rfl (fun _ => rfl) (fun _ => rfl) rfl ?_
  refine QW.aload_n dMo_init_34 rfl rfl ?_
  refine QW.sipush (v := 200) dMo_init_35 (by decide) ?_
  refine QW.newaN (t := 66) (N := 200) (k := 4) (v := .int 0) (x' := [(64, List.replicate 4 (.int 0)), (64, List.replicate 4 (.int 0)), (64, List.replicate 96 (.int 0)), (65, List.replicate 12 (.int 0)), (66, List.replicate 200 (.int 0))]) hn dMo_init_38 rfl (by decide) (by decide) q_ac_char (by decide) (by decide) (by decide) rfl rfl (by omega) rfl ?_
  refine QW.putFo (fs' := [.int 0, .int 0, .ref (n + 0), .ref (n + 1), .ref (n + 2), .ref (n + 3), .int 0, .ref (n + 4), .int 0, .int 0, .int 0, .int 0, .int 0, .int 0, .null, .null, .null, .null, .null, .null, .null, .null, .null, .null, .null, .null, .int 0, .null, .null, .int 0, .null, .null, .int 0, .int 0, .int 0, .null, .null, .null, .null, .null, .null, .null, .null, .null]) hn ha dMo_init_40 gMo_23 rfl rfl (fun _ => rfl) (fun _ => rfl) rfl ?_
  refine QW.aload_n dMo_init_43 rfl rfl ?_
  refine QW.iconst (v := (-1)) dMo_init_44 (by decide) ?_
  refine QW.putfo (fs' := [.int 0, .int 0, .ref (n + 0), .ref (n + 1), .ref (n + 2), .ref (n + 3), .int 0, .ref (n + 4), .int (-1), .int 0, .int 0, .int 0, .int 0, .int 0, .null, .null, .null, .null, .null, .null, .null, .null, .null, .null, .null, .null, .int 0, .null, .null, .int 0, .null, .null, .int 0, .int 0, .int 0, .null, .null, .null, .null, .null, .null, .null, .null, .null]) hn ha dMo_init_45 fMo_27 rfl (fun _ => rfl) (fun _ => rfl) rfl ?_
  refine QW.aload_n dMo_init_48 rfl rfl ?_
  refine QW.iconst (v := 5) dMo_init_49 (by decide) ?_
  refine QW.newaN (t := 64) (N := 5) (k := 5) (v := .int 0) (x' := [(64, List.replicate 4 (.int 0)), (64, List.replicate 4 (.int 0)), (64, List.replicate 96 (.int 0)), (65, List.replicate 12 (.int 0)), (66, List.replicate 200 (.int 0)), (64, List.replicate 5 (.int 0))]) hn dMo_init_50 rfl (by decide) (by decide) q_ac_int (by decide) (by decide) (by decide) rfl rfl (by omega) rfl ?_
  refine QW.putFo (fs' := [.int 0, .int 0, .ref (n + 0), .ref (n + 1), .ref (n + 2), .ref (n + 3), .int 0, .ref (n + 4), .int (-1), .int 0, .int 0, .int 0, .int 0, .int 0, .ref (n + 5), .null, .null, .null, .null, .null, .null, .null, .null, .null, .null, .null, .int 0, .null, .null, .int 0, .null, .null, .int 0, .int 0, .int 0, .null, .null, .null, .null, .null, .null, .null, .null, .null]) hn ha dMo_init_52 gMo_31 rfl rfl (fun _ => rfl) (fun _ => rfl) rfl ?_
  refine QW.aload_n dMo_init_55 rfl rfl ?_
  refine QW.bipush (v := 10) dMo_init_56 (by decide) ?_
  refine QW.newaN (t := 64) (N := 10) (k := 6) (v := .int 0) (x' := [(64, List.replicate 4 (.int 0)), (64, List.replicate 4 (.int 0)), (64, List.replicate 96 (.int 0)), (65, List.replicate 12 (.int 0)), (66, List.replicate 200 (.int 0)), (64, List.replicate 5 (.int 0)), (64, List.replicate 10 (.int 0))]) hn dMo_init_58 rfl (by decide) (by decide) q_ac_int (by decide) (by decide) (by decide) rfl rfl (by omega) rfl ?_
  refine QW.putFo (fs' := [.int 0, .int 0, .ref (n + 0), .ref (n + 1), .ref (n + 2), .ref (n + 3), .int 0, .ref (n + 4), .int (-1), .int 0, .int 0, .int 0, .int 0, .int 0, .ref (n + 5), .ref (n + 6), .null, .null, .null, .null, .null, .null, .null, .null, .null, .null, .int 0, .null, .null, .int 0, .null, .null, .int 0, .int 0, .int 0, .null, .null, .null, .null, .null, .null, .null, .null, .null]) hn ha dMo_init_60 gMo_34 rfl rfl (fun _ => rfl) (fun _ => rfl) rfl ?_
  refine QW.aload_n dMo_init_63 rfl rfl ?_
  refine QW.bipush (v := 15) dMo_init_64 (by decide) ?_
  refine QW.newaN (t := 65) (N := 15) (k := 7) (v := .int 0) (x' := [(64, List.replicate 4 (.int 0)), (64, List.replicate 4 (.int 0)), (64, List.replicate 96 (.int 0)), (65, List.replicate 12 (.int 0)), (66, List.replicate 200 (.int 0)), (64, List.replicate 5 (.int 0)), (64, List.replicate 10 (.int 0)), (65, List.replicate 15 (.int 0))]) hn dMo_init_66 rfl (by decide) (by decide) q_ac_boolean (by decide) (by decide) (by decide) rfl rfl (by omega) rfl ?_
  refine QW.putFo (fs' := [.int 0, .int 0, .ref (n + 0), .ref (n + 1), .ref (n + 2), .ref (n + 3), .int 0, .ref (n + 4), .int (-1), .int 0, .int 0, .int 0, .int 0, .int 0, .ref (n + 5), .ref (n + 6), .ref (n + 7), .null, .null, .null, .null, .null, .null, .null, .null, .null, .int 0, .null, .null, .int 0, .null, .null, .int 0, .int 0, .int 0, .null, .null, .null, .null, .null, .null, .null, .null, .null]) hn ha dMo_init_68 gMo_37 rfl rfl (fun _ => rfl) (fun _ => rfl) rfl ?_
  refine QW.aload_n dMo_init_71 rfl rfl ?_
  refine QW.bipush (v := 15) dMo_init_72 (by decide) ?_
  refine QW.newaN (t := 64) (N := 15) (k := 8) (v := .int 0) (x' := [(64, List.replicate 4 (.int 0)), (64, List.replicate 4 (.int 0)), (64, List.replicate 96 (.int 0)), (65, List.replicate 12 (.int 0)), (66, List.replicate 200 (.int 0)), (64, List.replicate 5 (.int 0)), (64, List.replicate 10 (.int 0)), (65, List.replicate 15 (.int 0)), (64, List.replicate 15 (.int 0))]) hn dMo_init_74 rfl (by decide) (by decide) q_ac_int (by decide) (by decide) (by decide) rfl rfl (by omega) rfl ?_
  refine QW.putFo (fs' := [.int 0, .int 0, .ref (n + 0), .ref (n + 1), .ref (n + 2), .ref (n + 3), .int 0, .ref (n + 4), .int (-1), .int 0, .int 0, .int 0, .int 0, .int 0, .ref (n + 5), .ref (n + 6), .ref (n + 7), .ref (n + 8), .null, .null, .null, .null, .null, .null, .null, .null, .int 0, .null, .null, .int 0, .null, .null, .int 0, .int 0, .int 0, .null, .null, .null, .null, .null, .null, .null, .null, .null]) hn ha dMo_init_76 gMo_40 rfl rfl (fun _ => rfl) (fun _ => rfl) rfl ?_
  refine QW.aload_n dMo_init_79 rfl rfl ?_
  refine QW.bipush (v := 45) dMo_init_80 (by decide) ?_
  refine QW.newaN (t := 64) (N := 45) (k := 9) (v := .int 0) (x' := [(64, List.replicate 4 (.int 0)), (64, List.replicate 4 (.int 0)), (64, List.replicate 96 (.int 0)), (65, List.replicate 12 (.int 0)), (66, List.replicate 200 (.int 0)), (64, List.replicate 5 (.int 0)), (64, List.replicate 10 (.int 0)), (65, List.replicate 15 (.int 0)), (64, List.replicate 15 (.int 0)), (64, List.replicate 45 (.int 0))]) hn dMo_init_82 rfl (by decide) (by decide) q_ac_int (by decide) (by decide) (by decide) rfl rfl (by omega) rfl ?_
  refine QW.putFo (fs' := [.int 0, .int 0, .ref (n + 0), .ref (n + 1), .ref (n + 2), .ref (n + 3), .int 0, .ref (n + 4), .int (-1), .int 0, .int 0, .int 0, .int 0, .int 0, .ref (n + 5), .ref (n + 6), .ref (n + 7), .ref (n + 8), .ref (n + 9), .null, .null, .null, .null, .null, .null, .null, .int 0, .null, .null, .int 0, .null, .null, .int 0, .int 0, .int 0, .null, .null, .null, .null, .null, .null, .null, .null, .null]) hn ha dMo_init_84 gMo_43 rfl rfl (fun _ => rfl) (fun _ => rfl) rfl ?_
  refine QW.aload_n dMo_init_87 rfl rfl ?_
  refine QW.bipush (v := 15) dMo_init_88 (by decide) ?_
  refine QW.newaN (t := 64) (N := 15) (k := 10) (v := .int 0) (x' := [(64, List.replicate 4 (.int 0)), (64, List.replicate 4 (.int 0)), (64, List.replicate 96 (.int 0)), (65, List.replicate 12 (.int 0)), (66, List.replicate 200 (.int 0)), (64, List.replicate 5 (.int 0)), (64, List.replicate 10 (.int 0)), (65, List.replicate 15 (.int 0)), (64, List.replicate 15 (.int 0)), (64, List.replicate 45 (.int 0)), (64, List.replicate 15 (.int 0))]) hn dMo_init_90 rfl (by decide) (by decide) q_ac_int (by decide) (by decide) (by decide) rfl rfl (by omega) rfl ?_
  refine QW.putFo (fs' := [.int 0, .int 0, .ref (n + 0), .ref (n + 1), .ref (n + 2), .ref (n + 3), .int 0, .ref (n + 4), .int (-1), .int 0, .int 0, .int 0, .int 0, .int 0, .ref (n + 5), .ref (n + 6), .ref (n + 7), .ref (n + 8), .ref (n + 9), .ref (n + 10), .null, .null, .null, .null, .null, .null, .int 0, .null, .null, .int 0, .null, .null, .int 0, .int 0, .int 0, .null, .null, .null, .null, .null, .null, .null, .null, .null]) hn ha dMo_init_92 gMo_46 rfl rfl (fun _ => rfl) (fun _ => rfl) rfl ?_
  refine QW.aload_n dMo_init_95 rfl rfl ?_
  refine QW.bipush (v := 60) dMo_init_96 (by decide) ?_
  refine QW.newaN (t := 64) (N := 60) (k := 11) (v := .int 0) (x' := [(64, List.replicate 4 (.int 0)), (64, List.replicate 4 (.int 0)), (64, List.replicate 96 (.int 0)), (65, List.replicate 12 (.int 0)), (66, List.replicate 200 (.int 0)), (64, List.replicate 5 (.int 0)), (64, List.replicate 10 (.int 0)), (65, List.replicate 15 (.int 0)), (64, List.replicate 15 (.int 0)), (64, List.replicate 45 (.int 0)), (64, List.replicate 15 (.int 0)), (64, List.replicate 60 (.int 0))]) hn dMo_init_98 rfl (by decide) (by decide) q_ac_int (by decide) (by decide) (by decide) rfl rfl (by omega) rfl ?_
  refine QW.putFo (fs' := [.int 0, .int 0, .ref (n + 0), .ref (n + 1), .ref (n + 2), .ref (n + 3), .int 0, .ref (n + 4), .int (-1), .int 0, .int 0, .int 0, .int 0, .int 0, .ref (n + 5), .ref (n + 6), .ref (n + 7), .ref (n + 8), .ref (n + 9), .ref (n + 10), .ref (n + 11), .null, .null, .null, .null, .null, .int 0, .null, .null, .int 0, .null, .null, .int 0, .int 0, .int 0, .null, .null, .null, .null, .null, .null, .null, .null, .null]) hn ha dMo_init_100 gMo_49 rfl rfl (fun _ => rfl) (fun _ => rfl) rfl ?_
  refine QW.aload_n dMo_init_103 rfl rfl ?_
  refine QW.bipush (v := 60) dMo_init_104 (by decide) ?_
  refine QW.newaN (t := 64) (N := 60) (k := 12) (v := .int 0) (x' := [(64, List.replicate 4 (.int 0)), (64, List.replicate 4 (.int 0)), (64, List.replicate 96 (.int 0)), (65, List.replicate 12 (.int 0)), (66, List.replicate 200 (.int 0)), (64, List.replicate 5 (.int 0)), (64, List.replicate 10 (.int 0)), (65, List.replicate 15 (.int 0)), (64, List.replicate 15 (.int 0)), (64, List.replicate 45 (.int 0)), (64, List.replicate 15 (.int 0)), (64, List.replicate 60 (.int 0)), (64, List.replicate 60 (.int 0))]) hn dMo_init_106 rfl (by decide) (by decide) q_ac_int (by decide) (by decide) (by decide) rfl rfl (by omega) rfl ?_
  refine QW.putFo (fs' := [.int 0, .int 0, .ref (n + 0), .ref (n + 1), .ref (n + 2), .ref (n + 3), .int 0, .ref (n + 4), .int (-1), .int 0, .int 0, .int 0, .int 0, .int 0, .ref (n + 5), .ref (n + 6), .ref (n + 7), .ref (n + 8), .ref (n + 9), .ref (n + 10), .ref (n + 11), .ref (n + 12), .null, .null, .null, .null, .int 0, .null, .null, .int 0, .null, .null, .int 0, .int 0, .int 0, .null, .null, .null, .null, .null, .null, .null, .null, .null]) hn ha dMo_init_108 gMo_52 rfl rfl (fun _ => rfl) (fun _ => rfl) rfl ?_
  refine QW.aload_n dMo_init_111 rfl rfl ?_
  refine QW.bipush (v := 15) dMo_init_112 (by decide) ?_
  refine QW.newaN (t := 64) (N := 15) (k := 13) (v := .int 0) (x' := [(64, List.replicate 4 (.int 0)), (64, List.replicate 4 (.int 0)), (64, List.replicate 96 (.int 0)), (65, List.replicate 12 (.int 0)), (66, List.replicate 200 (.int 0)), (64, List.replicate 5 (.int 0)), (64, List.replicate 10 (.int 0)), (65, List.replicate 15 (.int 0)), (64, List.replicate 15 (.int 0)), (64, List.replicate 45 (.int 0)), (64, List.replicate 15 (.int 0)), (64, List.replicate 60 (.int 0)), (64, List.replicate 60 (.int 0)), (64, List.replicate 15 (.int 0))]) hn dMo_init_114 rfl (by decide) (by decide) q_ac_int (by decide) (by decide) (by decide) rfl rfl (by omega) rfl ?_
  refine QW.putFo (fs' := [.int 0, .int 0, .ref (n + 0), .ref (n + 1), .ref (n + 2), .ref (n + 3), .int 0, .ref (n + 4), .int (-1), .int 0, .int 0, .int 0, .int 0, .int 0, .ref (n + 5), .ref (n + 6), .ref (n + 7), .ref (n + 8), .ref (n + 9), .ref (n + 10), .ref (n + 11), .ref (n + 12), .ref (n + 13), .null, .null, .null, .int 0, .null, .null, .int 0, .null, .null, .int 0, .int 0, .int 0, .null, .null, .null, .null, .null, .null, .null, .null, .null]) hn ha dMo_init_116 gMo_55 rfl rfl (fun _ => rfl) (fun _ => rfl) rfl ?_
  refine QW.aload_n dMo_init_119 rfl rfl ?_
  refine QW.bipush (v := 90) dMo_init_120 (by decide) ?_
  refine QW.newaN (t := 64) (N := 90) (k := 14) (v := .int 0) (x' := [(64, List.replicate 4 (.int 0)), (64, List.replicate 4 (.int 0)), (64, List.replicate 96 (.int 0)), (65, List.replicate 12 (.int 0)), (66, List.replicate 200 (.int 0)), (64, List.replicate 5 (.int 0)), (64, List.replicate 10 (.int 0)), (65, List.replicate 15 (.int 0)), (64, List.replicate 15 (.int 0)), (64, List.replicate 45 (.int 0)), (64, List.replicate 15 (.int 0)), (64, List.replicate 60 (.int 0)), (64, List.replicate 60 (.int 0)), (64, List.replicate 15 (.int 0)), (64, List.replicate 90 (.int 0))]) hn dMo_init_122 rfl (by decide) (by decide) q_ac_int (by decide) (by decide) (by decide) rfl rfl (by omega) rfl ?_
  refine QW.putFo (fs' := [.int 0, .int 0, .ref (n + 0), .ref (n + 1), .ref (n + 2), .ref (n + 3), .int 0, .ref (n + 4), .int (-1), .int 0, .int 0, .int 0, .int 0, .int 0, .ref (n + 5), .ref (n + 6), .ref (n + 7), .ref (n + 8), .ref (n + 9), .ref (n + 10), .ref (n + 11), .ref (n + 12), .ref (n + 13), .ref (n + 14), .null, .null, .int 0, .null, .null, .int 0, .null, .null, .int 0, .int 0, .int 0, .null, .null, .null, .null, .null, .null, .null, .null, .null]) hn ha dMo_init_124 gMo_58 rfl rfl (fun _ => rfl) (fun _ => rfl) rfl ?_
  refine QW.aload_n dMo_init_127 rfl rfl ?_
  refine QW.bipush (v := 90) dMo_init_128 (by decide) ?_
  refine QW.newaN (t := 64) (N := 90) (k := 15) (v := .int 0) (x' := [(64, List.replicate 4 (.int 0)), (64, List.replicate 4 (.int 0)), (64, List.replicate 96 (.int 0)), (65, List.replicate 12 (.int 0)), (66, List.replicate 200 (.int 0)), (64, List.replicate 5 (.int 0)), (64, List.replicate 10 (.int 0)), (65, List.replicate 15 (.int 0)), (64, List.replicate 15 (.int 0)), (64, List.replicate 45 (.int 0)), (64, List.replicate 15 (.int 0)), (64, List.replicate 60 (.int 0)), (64, List.replicate 60 (.int 0)), (64, List.replicate 15 (.int 0)), (64, List.replicate 90 (.int 0)), (64, List.replicate 90 (.int 0))]) hn dMo_init_130 rfl (by decide) (by decide) q_ac_int (by decide) (by decide) (by decide) rfl rfl (by omega) rfl ?_
  refine QW.putFo (fs' := [.int 0, .int 0, .ref (n + 0), .ref (n + 1), .ref (n + 2), .ref (n + 3), .int 0, .ref (n + 4), .int (-1), .int 0, .int 0, .int 0, .int 0, .int 0, .ref (n + 5), .ref (n + 6), .ref (n + 7), .ref (n + 8), .ref (n + 9), .ref (n + 10), .ref (n + 11), .ref (n + 12), .ref (n + 13), .ref (n + 14), .ref (n + 15), .null, .int 0, .null, .null, .int 0, .null, .null, .int 0, .int 0, .int 0, .null, .null, .null, .null, .null, .null, .null, .null, .null]) hn ha dMo_init_132 gMo_61 rfl rfl (fun _ => rfl) (fun _ => rfl) rfl ?_
  refine QW.aload_n dMo_init_135 rfl rfl ?_
  refine QW.bipush (v := 90) dMo_init_136 (by decide) ?_
  refine QW.newaN (t := 65) (N := 90) (k := 16) (v := .int 0) (x' := [(64, List.replicate 4 (.int 0)), (64, List.replicate 4 (.int 0)), (64, List.replicate 96 (.int 0)), (65, List.replicate 12 (.int 0)), (66, List.replicate 200 (.int 0)), (64, List.replicate 5 (.int 0)), (64, List.replicate 10 (.int 0)), (65, List.replicate 15 (.int 0)), (64, List.replicate 15 (.int 0)), (64, List.replicate 45 (.int 0)), (64, List.replicate 15 (.int 0)), (64, List.replicate 60 (.int 0)), (64, List.replicate 60 (.int 0)), (64, List.replicate 15 (.int 0)), (64, List.replicate 90 (.int 0)), (64, List.replicate 90 (.int 0)), (65, List.replicate 90 (.int 0))]) hn dMo_init_138 rfl (by decide) (by decide) q_ac_boolean (by decide) (by decide) (by decide) rfl rfl (by omega) rfl ?_
  refine QW.putFo (fs' := [.int 0, .int 0, .ref (n + 0), .ref (n + 1), .ref (n + 2), .ref (n + 3), .int 0, .ref (n + 4), .int (-1), .int 0, .int 0, .int 0, .int 0, .int 0, .ref (n + 5), .ref (n + 6), .ref (n + 7), .ref (n + 8), .ref (n + 9), .ref (n + 10), .ref (n + 11), .ref (n + 12), .ref (n + 13), .ref (n + 14), .ref (n + 15), .ref (n + 16), .int 0, .null, .null, .int 0, .null, .null, .int 0, .int 0, .int 0, .null, .null, .null, .null, .null, .null, .null, .null, .null]) hn ha dMo_init_140 gMo_64 rfl rfl (fun _ => rfl) (fun _ => rfl) rfl ?_
  refine QW.aload_n dMo_init_143 rfl rfl ?_
  refine QW.sipush (v := 192) dMo_init_144 (by decide) ?_
  refine QW.newaN (t := 64) (N := 192) (k := 17) (v := .int 0) (x' := [(64, List.replicate 4 (.int 0)), (64, List.replicate 4 (.int 0)), (64, List.replicate 96 (.int 0)), (65, List.replicate 12 (.int 0)), (66, List.replicate 200 (.int 0)), (64, List.replicate 5 (.int 0)), (64, List.replicate 10 (.int 0)), (65, List.replicate 15 (.int 0)), (64, List.replicate 15 (.int 0)), (64, List.replicate 45 (.int 0)), (64, List.replicate 15 (.int 0)), (64, List.replicate 60 (.int 0)), (64, List.replicate 60 (.int 0)), (64, List.replicate 15 (.int 0)), (64, List.replicate 90 (.int 0)), (64, List.replicate 90 (.int 0)), (65, List.replicate 90 (.int 0)), (64, List.replicate 192 (.int 0))]) hn dMo_init_147 rfl (by decide) (by decide) q_ac_int (by decide) (by decide) (by decide) rfl rfl (by omega) rfl ?_
  refine QW.putFo (fs' := [.int 0, .int 0, .ref (n + 0), .ref (n + 1), .ref (n + 2), .ref (n + 3), .int 0, .ref (n + 4), .int (-1), .int 0, .int 0, .int 0, .int 0, .int 0, .ref (n + 5), .ref (n + 6), .ref (n + 7), .ref (n + 8), .ref (n + 9), .ref (n + 10), .ref (n + 11), .ref (n + 12), .ref (n + 13), .ref (n + 14), .ref (n + 15), .ref (n + 16), .int 0, .ref (n + 17), .null, .int 0, .null, .null, .int 0, .int 0, .int 0, .null, .null, .null, .null, .null, .null, .null, .null, .null]) hn ha dMo_init_149 gMo_67 rfl rfl (fun _ => rfl) (fun _ => rfl) rfl ?_
  refine QW.aload_n dMo_init_152 rfl rfl ?_
  refine QW.bipush (v := 64) dMo_init_153 (by decide) ?_
  refine QW.newaN (t := 64) (N := 64) (k := 18) (v := .int 0) (x' := [(64, List.replicate 4 (.int 0)), (64, List.replicate 4 (.int 0)), (64, List.replicate 96 (.int 0)), (65, List.replicate 12 (.int 0)), (66, List.replicate 200 (.int 0)), (64, List.replicate 5 (.int 0)), (64, List.replicate 10 (.int 0)), (65, List.replicate 15 (.int 0)), (64, List.replicate 15 (.int 0)), (64, List.replicate 45 (.int 0)), (64, List.replicate 15 (.int 0)), (64, List.replicate 60 (.int 0)), (64, List.replicate 60 (.int 0)), (64, List.replicate 15 (.int 0)), (64, List.replicate 90 (.int 0)), (64, List.replicate 90 (.int 0)), (65, List.replicate 90 (.int 0)), (64, List.replicate 192 (.int 0)), (64, List.replicate 64 (.int 0))]) hn dMo_init_155 rfl (by decide) (by decide) q_ac_int (by decide) (by decide) (by decide) rfl rfl (by omega) rfl ?_
  refine QW.putFo (fs' := [.int 0, .int 0, .ref (n + 0), .ref (n + 1), .ref (n + 2), .ref (n + 3), .int 0, .ref (n + 4), .int (-1), .int 0, .int 0, .int 0, .int 0, .int 0, .ref (n + 5), .ref (n + 6), .ref (n + 7), .ref (n + 8), .ref (n + 9), .ref (n + 10), .ref (n + 11), .ref (n + 12), .ref (n + 13), .ref (n + 14), .ref (n + 15), .ref (n + 16), .int 0, .ref (n + 17), .ref (n + 18), .int 0, .null, .null, .int 0, .int 0, .int 0, .null, .null, .null, .null, .null, .null, .null, .null, .null]) hn ha dMo_init_157 gMo_70 rfl rfl (fun _ => rfl) (fun _ => rfl) rfl ?_
  refine QW.aload_n dMo_init_160 rfl rfl ?_
  refine QW.sipush (v := 192) dMo_init_161 (by decide) ?_
  refine QW.newaN (t := 64) (N := 192) (k := 19) (v := .int 0) (x' := [(64, List.replicate 4 (.int 0)), (64, List.replicate 4 (.int 0)), (64, List.replicate 96 (.int 0)), (65, List.replicate 12 (.int 0)), (66, List.replicate 200 (.int 0)), (64, List.replicate 5 (.int 0)), (64, List.replicate 10 (.int 0)), (65, List.replicate 15 (.int 0)), (64, List.replicate 15 (.int 0)), (64, List.replicate 45 (.int 0)), (64, List.replicate 15 (.int 0)), (64, List.replicate 60 (.int 0)), (64, List.replicate 60 (.int 0)), (64, List.replicate 15 (.int 0)), (64, List.replicate 90 (.int 0)), (64, List.replicate 90 (.int 0)), (65, List.replicate 90 (.int 0)), (64, List.replicate 192 (.int 0)), (64, List.replicate 64 (.int 0)), (64, List.replicate 192 (.int 0))]) hn dMo_init_164 rfl (by decide) (by decide) q_ac_int (by decide) (by decide) (by decide) rfl rfl (by omega) rfl ?_
  refine QW.putFo (fs' := [.int 0, .int 0, .ref (n + 0), .ref (n + 1), .ref (n + 2), .ref (n + 3), .int 0, .ref (n + 4), .int (-1), .int 0, .int 0, .int 0, .int 0, .int 0, .ref (n + 5), .ref (n + 6), .ref (n + 7), .ref (n + 8), .ref (n + 9), .ref (n + 10), .ref (n + 11), .ref (n + 12), .ref (n + 13), .ref (n + 14), .ref (n + 15), .ref (n + 16), .int 0, .ref (n + 17), .ref (n + 18), .int 0, .ref (n + 19), .null, .int 0, .int 0, .int 0, .null, .null, .null, .null, .null, .null, .null, .null, .null]) hn ha dMo_init_166 gMo_73 rfl rfl (fun _ => rfl) (fun _ => rfl) rfl ?_
  refine QW.aload_n dMo_init_169 rfl rfl ?_
  refine QW.bipush (v := 64) dMo_init_170 (by decide) ?_
  refine QW.newaN (t := 64) (N := 64) (k := 20) (v := .int 0) (x' := [(64, List.replicate 4 (.int 0)), (64, List.replicate 4 (.int 0)), (64, List.replicate 96 (.int 0)), (65, List.replicate 12 (.int 0)), (66, List.replicate 200 (.int 0)), (64, List.replicate 5 (.int 0)), (64, List.replicate 10 (.int 0)), (65, List.replicate 15 (.int 0)), (64, List.replicate 15 (.int 0)), (64, List.replicate 45 (.int 0)), (64, List.replicate 15 (.int 0)), (64, List.replicate 60 (.int 0)), (64, List.replicate 60 (.int 0)), (64, List.replicate 15 (.int 0)), (64, List.replicate 90 (.int 0)), (64, List.replicate 90 (.int 0)), (65, List.replicate 90 (.int 0)), (64, List.replicate 192 (.int 0)), (64, List.replicate 64 (.int 0)), (64, List.replicate 192 (.int 0)), (64, List.replicate 64 (.int 0))]) hn dMo_init_172 rfl (by decide) (by decide) q_ac_int (by decide) (by decide) (by decide) rfl rfl (by omega) rfl ?_
  refine QW.putFo (fs' := [.int 0, .int 0, .ref (n + 0), .ref (n + 1), .ref (n + 2), .ref (n + 3), .int 0, .ref (n + 4), .int (-1), .int 0, .int 0, .int 0, .int 0, .int 0, .ref (n + 5), .ref (n + 6), .ref (n + 7), .ref (n + 8), .ref (n + 9), .ref (n + 10), .ref (n + 11), .ref (n + 12), .ref (n + 13), .ref (n + 14), .ref (n + 15), .ref (n + 16), .int 0, .ref (n + 17), .ref (n + 18), .int 0, .ref (n + 19), .ref (n + 20), .int 0, .int 0, .int 0, .null, .null, .null, .null, .null, .null, .null, .null, .null]) hn ha dMo_init_174 gMo_76 rfl rfl (fun _ => rfl) (fun _ => rfl) rfl ?_
  refine QW.aload_n dMo_init_177 rfl rfl ?_
  refine QW.sipush (v := 192) dMo_init_178 (by decide) ?_
  refine QW.newaN (t := 64) (N := 192) (k := 21) (v := .int 0) (x' := [(64, List.replicate 4 (.int 0)), (64, List.replicate 4 (.int 0)), (64, List.replicate 96 (.int 0)), (65, List.replicate 12 (.int 0)), (66, List.replicate 200 (.int 0)), (64, List.replicate 5 (.int 0)), (64, List.replicate 10 (.int 0)), (65, List.replicate 15 (.int 0)), (64, List.replicate 15 (.int 0)), (64, List.replicate 45 (.int 0)), (64, List.replicate 15 (.int 0)), (64, List.replicate 60 (.int 0)), (64, List.replicate 60 (.int 0)), (64, List.replicate 15 (.int 0)), (64, List.replicate 90 (.int 0)), (64, List.replicate 90 (.int 0)), (65, List.replicate 90 (.int 0)), (64, List.replicate 192 (.int 0)), (64, List.replicate 64 (.int 0)), (64, List.replicate 192 (.int 0)), (64, List.replicate 64 (.int 0)), (64, List.replicate 192 (.int 0))]) hn dMo_init_181 rfl (by decide) (by decide) q_ac_int (by decide) (by decide) (by decide) rfl rfl (by omega) rfl ?_
  refine QW.putFo (fs' := [.int 0, .int 0, .ref (n + 0), .ref (n + 1), .ref (n + 2), .ref (n + 3), .int 0, .ref (n + 4), .int (-1), .int 0, .int 0, .int 0, .int 0, .int 0, .ref (n + 5), .ref (n + 6), .ref (n + 7), .ref (n + 8), .ref (n + 9), .ref (n + 10), .ref (n + 11), .ref (n + 12), .ref (n + 13), .ref (n + 14), .ref (n + 15), .ref (n + 16), .int 0, .ref (n + 17), .ref (n + 18), .int 0, .ref (n + 19), .ref (n + 20), .int 0, .int 0, .int 0, .ref (n + 21), .null, .null, .null, .null, .null, .null, .null, .null]) hn ha dMo_init_183 gMo_79 rfl rfl (fun _ => rfl) (fun _ => rfl) rfl ?_
  refine QW.aload_n dMo_init_186 rfl rfl ?_
  refine QW.bipush (v := 64) dMo_init_187 (by decide) ?_
  refine QW.newaN (t := 64) (N := 64) (k := 22) (v := .int 0) (x' := [(64, List.replicate 4 (.int 0)), (64, List.replicate 4 (.int 0)), (64, List.replicate 96 (.int 0)), (65, List.replicate 12 (.int 0)), (66, List.replicate 200 (.int 0)), (64, List.replicate 5 (.int 0)), (64, List.replicate 10 (.int 0)), (65, List.replicate 15 (.int 0)), (64, List.replicate 15 (.int 0)), (64, List.replicate 45 (.int 0)), (64, List.replicate 15 (.int 0)), (64, List.replicate 60 (.int 0)), (64, List.replicate 60 (.int 0)), (64, List.replicate 15 (.int 0)), (64, List.replicate 90 (.int 0)), (64, List.replicate 90 (.int 0)), (65, List.replicate 90 (.int 0)), (64, List.replicate 192 (.int 0)), (64, List.replicate 64 (.int 0)), (64, List.replicate 192 (.int 0)), (64, List.replicate 64 (.int 0)), (64, List.replicate 192 (.int 0)), (64, List.replicate 64 (.int 0))]) hn dMo_init_189 rfl (by decide) (by decide) q_ac_int (by decide) (by decide) (by decide) rfl rfl (by omega) rfl ?_
  refine QW.putFo (fs' := [.int 0, .int 0, .ref (n + 0), .ref (n + 1), .ref (n + 2), .ref (n + 3), .int 0, .ref (n + 4), .int (-1), .int 0, .int 0, .int 0, .int 0, .int 0, .ref (n + 5), .ref (n + 6), .ref (n + 7), .ref (n + 8), .ref (n + 9), .ref (n + 10), .ref (n + 11), .ref (n + 12), .ref (n + 13), .ref (n + 14), .ref (n + 15), .ref (n + 16), .int 0, .ref (n + 17), .ref (n + 18), .int 0, .ref (n + 19), .ref (n + 20), .int 0, .int 0, .int 0, .ref (n + 21), .ref (n + 22), .null, .null, .null, .null, .null, .null, .null]) hn ha dMo_init_191 gMo_82 rfl rfl (fun _ => rfl) (fun _ => rfl) rfl ?_
  refine QW.aload_n dMo_init_194 rfl rfl ?_
  refine QW.iconst (v := 4) dMo_init_195 (by decide) ?_
  refine QW.newaN (t := 64) (N := 4) (k := 23) (v := .int 0) (x' := [(64, List.replicate 4 (.int 0)), (64, List.replicate 4 (.int 0)), (64, List.replicate 96 (.int 0)), (65, List.replicate 12 (.int 0)), (66, List.replicate 200 (.int 0)), (64, List.replicate 5 (.int 0)), (64, List.replicate 10 (.int 0)), (65, List.replicate 15 (.int 0)), (64, List.replicate 15 (.int 0)), (64, List.replicate 45 (.int 0)), (64, List.replicate 15 (.int 0)), (64, List.replicate 60 (.int 0)), (64, List.replicate 60 (.int 0)), (64, List.replicate 15 (.int 0)), (64, List.replicate 90 (.int 0)), (64, List.replicate 90 (.int 0)), (65, List.replicate 90 (.int 0)), (64, List.replicate 192 (.int 0)), (64, List.replicate 64 (.int 0)), (64, List.replicate 192 (.int 0)), (64, List.replicate 64 (.int 0)), (64, List.replicate 192 (.int 0)), (64, List.replicate 64 (.int 0)), (64, List.replicate 4 (.int 0))]) hn dMo_init_196 rfl (by decide) (by decide) q_ac_int (by decide) (by decide) (by decide) rfl rfl (by omega) rfl ?_
  refine QW.putFo (fs' := [.int 0, .int 0, .ref (n + 0), .ref (n + 1), .ref (n + 2), .ref (n + 3), .int 0, .ref (n + 4), .int (-1), .int 0, .int 0, .int 0, .int 0, .int 0, .ref (n + 5), .ref (n + 6), .ref (n + 7), .ref (n + 8), .ref (n + 9), .ref (n + 10), .ref (n + 11), .ref (n + 12), .ref (n + 13), .ref (n + 14), .ref (n + 15), .ref (n + 16), .int 0, .ref (n + 17), .ref (n + 18), .int 0, .ref (n + 19), .ref (n + 20), .int 0, .int 0, .int 0, .ref (n + 21), .ref (n + 22), .ref (n + 23), .null, .null, .null, .null, .null, .null]) hn ha dMo_init_198 gMo_85 rfl rfl (fun _ => rfl) (fun _ => rfl) rfl ?_
  refine QW.aload_n dMo_init_201 rfl rfl ?_
  refine QW.iconst (v := 3) dMo_init_202 (by decide) ?_
  refine QW.newaN (t := 64) (N := 3) (k := 24) (v := .int 0) (x' := [(64, List.replicate 4 (.int 0)), (64, List.replicate 4 (.int 0)), (64, List.replicate 96 (.int 0)), (65, List.replicate 12 (.int 0)), (66, List.replicate 200 (.int 0)), (64, List.replicate 5 (.int 0)), (64, List.replicate 10 (.int 0)), (65, List.replicate 15 (.int 0)), (64, List.replicate 15 (.int 0)), (64, List.replicate 45 (.int 0)), (64, List.replicate 15 (.int 0)), (64, List.replicate 60 (.int 0)), (64, List.replicate 60 (.int 0)), (64, List.replicate 15 (.int 0)), (64, List.replicate 90 (.int 0)), (64, List.replicate 90 (.int 0)), (65, List.replicate 90 (.int 0)), (64, List.replicate 192 (.int 0)), (64, List.replicate 64 (.int 0)), (64, List.replicate 192 (.int 0)), (64, List.replicate 64 (.int 0)), (64, List.replicate 192 (.int 0)), (64, List.replicate 64 (.int 0)), (64, List.replicate 4 (.int 0)), (64, List.replicate 3 (.int 0))]) hn dMo_init_203 rfl (by decide) (by decide) q_ac_int (by decide) (by decide) (by decide) rfl rfl (by omega) rfl ?_
  refine QW.putFo (fs' := [.int 0, .int 0, .ref (n + 0), .ref (n + 1), .ref (n + 2), .ref (n + 3), .int 0, .ref (n + 4), .int (-1), .int 0, .int 0, .int 0, .int 0, .int 0, .ref (n + 5), .ref (n + 6), .ref (n + 7), .ref (n + 8), .ref (n + 9), .ref (n + 10), .ref (n + 11), .ref (n + 12), .ref (n + 13), .ref (n + 14), .ref (n + 15), .ref (n + 16), .int 0, .ref (n + 17), .ref (n + 18), .int 0, .ref (n + 19), .ref (n + 20), .int 0, .int 0, .int 0, .ref (n + 21), .ref (n + 22), .ref (n + 23), .ref (n + 24), .null, .null, .null, .null, .null]) hn ha dMo_init_205 gMo_88 rfl rfl (fun _ => rfl) (fun _ => rfl) rfl ?_
  refine QW.aload_n dMo_init_208 rfl rfl ?_
  refine QW.bipush (v := 64) dMo_init_209 (by decide) ?_
  refine QW.newaN (t := 64) (N := 64) (k := 25) (v := .int 0) (x' := [(64, List.replicate 4 (.int 0)), (64, List.replicate 4 (.int 0)), (64, List.replicate 96 (.int 0)), (65, List.replicate 12 (.int 0)), (66, List.replicate 200 (.int 0)), (64, List.replicate 5 (.int 0)), (64, List.replicate 10 (.int 0)), (65, List.replicate 15 (.int 0)), (64, List.replicate 15 (.int 0)), (64, List.replicate 45 (.int 0)), (64, List.replicate 15 (.int 0)), (64, List.replicate 60 (.int 0)), (64, List.replicate 60 (.int 0)), (64, List.replicate 15 (.int 0)), (64, List.replicate 90 (.int 0)), (64, List.replicate 90 (.int 0)), (65, List.replicate 90 (.int 0)), (64, List.replicate 192 (.int 0)), (64, List.replicate 64 (.int 0)), (64, List.replicate 192 (.int 0)), (64, List.replicate 64 (.int 0)), (64, List.replicate 192 (.int 0)), (64, List.replicate 64 (.int 0)), (64, List.replicate 4 (.int 0)), (64, List.replicate 3 (.int 0)), (64, List.replicate 64 (.int 0))]) hn dMo_init_211 rfl (by decide) (by decide) q_ac_int (by decide) (by decide) (by decide) rfl rfl (by omega) rfl ?_
  refine QW.putFo (fs' := [.int 0, .int 0, .ref (n + 0), .ref (n + 1), .ref (n + 2), .ref (n + 3), .int 0, .ref (n + 4), .int (-1), .int 0, .int 0, .int 0, .int 0, .int 0, .ref (n + 5), .ref (n + 6), .ref (n + 7), .ref (n + 8), .ref (n + 9), .ref (n + 10), .ref (n + 11), .ref (n + 12), .ref (n + 13), .ref (n + 14), .ref (n + 15), .ref (n + 16), .int 0, .ref (n + 17), .ref (n + 18), .int 0, .ref (n + 19), .ref (n + 20), .int 0, .int 0, .int 0, .ref (n + 21), .ref (n + 22), .ref (n + 23), .ref (n + 24), .ref (n + 25), .null, .null, .null, .null]) hn ha dMo_init_213 gMo_91 rfl rfl (fun _ => rfl) (fun _ => rfl) rfl ?_
  refine QW.aload_n dMo_init_216 rfl rfl ?_
  refine QW.bipush (v := 64) dMo_init_217 (by decide) ?_
  refine QW.newaN (t := 64) (N := 64) (k := 26) (v := .int 0) (x' := [(64, List.replicate 4 (.int 0)), (64, List.replicate 4 (.int 0)), (64, List.replicate 96 (.int 0)), (65, List.replicate 12 (.int 0)), (66, List.replicate 200 (.int 0)), (64, List.replicate 5 (.int 0)), (64, List.replicate 10 (.int 0)), (65, List.replicate 15 (.int 0)), (64, List.replicate 15 (.int 0)), (64, List.replicate 45 (.int 0)), (64, List.replicate 15 (.int 0)), (64, List.replicate 60 (.int 0)), (64, List.replicate 60 (.int 0)), (64, List.replicate 15 (.int 0)), (64, List.replicate 90 (.int 0)), (64, List.replicate 90 (.int 0)), (65, List.replicate 90 (.int 0)), (64, List.replicate 192 (.int 0)), (64, List.replicate 64 (.int 0)), (64, List.replicate 192 (.int 0)), (64, List.replicate 64 (.int 0)), (64, List.replicate 192 (.int 0)), (64, List.replicate 64 (.int 0)), (64, List.replicate 4 (.int 0)), (64, List.replicate 3 (.int 0)), (64, List.replicate 64 (.int 0)), (64, List.replicate 64 (.int 0))]) hn dMo_init_219 rfl (by decide) (by decide) q_ac_int (by decide) (by decide) (by decide) rfl rfl (by omega) rfl ?_
  refine QW.putFo (fs' := [.int 0, .int 0, .ref (n + 0), .ref (n + 1), .ref (n + 2), .ref (n + 3), .int 0, .ref (n + 4), .int (-1), .int 0, .int 0, .int 0, .int 0, .int 0, .ref (n + 5), .ref (n + 6), .ref (n + 7), .ref (n + 8), .ref (n + 9), .ref (n + 10), .ref (n + 11), .ref (n + 12), .ref (n + 13), .ref (n + 14), .ref (n + 15), .ref (n + 16), .int 0, .ref (n + 17), .ref (n + 18), .int 0, .ref (n + 19), .ref (n + 20), .int 0, .int 0, .int 0, .ref (n + 21), .ref (n + 22), .ref (n + 23), .ref (n + 24), .ref (n + 25), .ref (n + 26), .null, .null, .null]) hn ha dMo_init_221 gMo_94 rfl rfl (fun _ => rfl) (fun _ => rfl) rfl ?_
  refine QW.aload_n dMo_init_224 rfl rfl ?_
  refine QW.iconst (v := 2) dMo_init_225 (by decide) ?_
  refine QW.newaN (t := 64) (N := 2) (k := 27) (v := .int 0) (x' := [(64, List.replicate 4 (.int 0)), (64, List.replicate 4 (.int 0)), (64, List.replicate 96 (.int 0)), (65, List.replicate 12 (.int 0)), (66, List.replicate 200 (.int 0)), (64, List.replicate 5 (.int 0)), (64, List.replicate 10 (.int 0)), (65, List.replicate 15 (.int 0)), (64, List.replicate 15 (.int 0)), (64, List.replicate 45 (.int 0)), (64, List.replicate 15 (.int 0)), (64, List.replicate 60 (.int 0)), (64, List.replicate 60 (.int 0)), (64, List.replicate 15 (.int 0)), (64, List.replicate 90 (.int 0)), (64, List.replicate 90 (.int 0)), (65, List.replicate 90 (.int 0)), (64, List.replicate 192 (.int 0)), (64, List.replicate 64 (.int 0)), (64, List.replicate 192 (.int 0)), (64, List.replicate 64 (.int 0)), (64, List.replicate 192 (.int 0)), (64, List.replicate 64 (.int 0)), (64, List.replicate 4 (.int 0)), (64, List.replicate 3 (.int 0)), (64, List.replicate 64 (.int 0)), (64, List.replicate 64 (.int 0)), (64, List.replicate 2 (.int 0))]) hn dMo_init_226 rfl (by decide) (by decide) q_ac_int (by decide) (by decide) (by decide) rfl rfl (by omega) rfl ?_
  refine QW.putFo (fs' := [.int 0, .int 0, .ref (n + 0), .ref (n + 1), .ref (n + 2), .ref (n + 3), .int 0, .ref (n + 4), .int (-1), .int 0, .int 0, .int 0, .int 0, .int 0, .ref (n + 5), .ref (n + 6), .ref (n + 7), .ref (n + 8), .ref (n + 9), .ref (n + 10), .ref (n + 11), .ref (n + 12), .ref (n + 13), .ref (n + 14), .ref (n + 15), .ref (n + 16), .int 0, .ref (n + 17), .ref (n + 18), .int 0, .ref (n + 19), .ref (n + 20), .int 0, .int 0, .int 0, .ref (n + 21), .ref (n + 22), .ref (n + 23), .ref (n + 24), .ref (n + 25), .ref (n + 26), .ref (n + 27), .null, .null]) hn ha dMo_init_228 gMo_97 rfl rfl (fun _ => rfl) (fun _ => rfl) rfl ?_
  refine QW.aload_n dMo_init_231 rfl rfl ?_
  refine QW.bipush (v := 8) dMo_init_232 (by decide) ?_
  refine QW.newaN (t := 64) (N := 8) (k := 28) (v := .int 0) (x' := [(64, List.replicate 4 (.int 0)), (64, List.replicate 4 (.int 0)), (64, List.replicate 96 (.int 0)), (65, List.replicate 12 (.int 0)), (66, List.replicate 200 (.int 0)), (64, List.replicate 5 (.int 0)), (64, List.replicate 10 (.int 0)), (65, List.replicate 15 (.int 0)), (64, List.replicate 15 (.int 0)), (64, List.replicate 45 (.int 0)), (64, List.replicate 15 (.int 0)), (64, List.replicate 60 (.int 0)), (64, List.replicate 60 (.int 0)), (64, List.replicate 15 (.int 0)), (64, List.replicate 90 (.int 0)), (64, List.replicate 90 (.int 0)), (65, List.replicate 90 (.int 0)), (64, List.replicate 192 (.int 0)), (64, List.replicate 64 (.int 0)), (64, List.replicate 192 (.int 0)), (64, List.replicate 64 (.int 0)), (64, List.replicate 192 (.int 0)), (64, List.replicate 64 (.int 0)), (64, List.replicate 4 (.int 0)), (64, List.replicate 3 (.int 0)), (64, List.replicate 64 (.int 0)), (64, List.replicate 64 (.int 0)), (64, List.replicate 2 (.int 0)), (64, List.replicate 8 (.int 0))]) hn dMo_init_234 rfl (by decide) (by decide) q_ac_int (by decide) (by decide) (by decide) rfl rfl (by omega) rfl ?_
  refine QW.putFo (fs' := [.int 0, .int 0, .ref (n + 0), .ref (n + 1), .ref (n + 2), .ref (n + 3), .int 0, .ref (n + 4), .int (-1), .int 0, .int 0, .int 0, .int 0, .int 0, .ref (n + 5), .ref (n + 6), .ref (n + 7), .ref (n + 8), .ref (n + 9), .ref (n + 10), .ref (n + 11), .ref (n + 12), .ref (n + 13), .ref (n + 14), .ref (n + 15), .ref (n + 16), .int 0, .ref (n + 17), .ref (n + 18), .int 0, .ref (n + 19), .ref (n + 20), .int 0, .int 0, .int 0, .ref (n + 21), .ref (n + 22), .ref (n + 23), .ref (n + 24), .ref (n + 25), .ref (n + 26), .ref (n + 27), .ref (n + 28), .null]) hn ha dMo_init_236 gMo_100 rfl rfl (fun _ => rfl) (fun _ => rfl) rfl ?_
  refine QW.aload_n dMo_init_239 rfl rfl ?_
  refine QW.iconst (v := 4) dMo_init_240 (by decide) ?_
  refine QW.newaN (t := 64) (N := 4) (k := 29) (v := .int 0) (x' := [(64, List.replicate 4 (.int 0)), (64, List.replicate 4 (.int 0)), (64, List.replicate 96 (.int 0)), (65, List.replicate 12 (.int 0)), (66, List.replicate 200 (.int 0)), (64, List.replicate 5 (.int 0)), (64, List.replicate 10 (.int 0)), (65, List.replicate 15 (.int 0)), (64, List.replicate 15 (.int 0)), (64, List.replicate 45 (.int 0)), (64, List.replicate 15 (.int 0)), (64, List.replicate 60 (.int 0)), (64, List.replicate 60 (.int 0)), (64, List.replicate 15 (.int 0)), (64, List.replicate 90 (.int 0)), (64, List.replicate 90 (.int 0)), (65, List.replicate 90 (.int 0)), (64, List.replicate 192 (.int 0)), (64, List.replicate 64 (.int 0)), (64, List.replicate 192 (.int 0)), (64, List.replicate 64 (.int 0)), (64, List.replicate 192 (.int 0)), (64, List.replicate 64 (.int 0)), (64, List.replicate 4 (.int 0)), (64, List.replicate 3 (.int 0)), (64, List.replicate 64 (.int 0)), (64, List.replicate 64 (.int 0)), (64, List.replicate 2 (.int 0)), (64, List.replicate 8 (.int 0)), (64, List.replicate 4 (.int 0))]) hn dMo_init_241 rfl (by decide) (by decide) q_ac_int (by decide) (by decide) (by decide) rfl rfl (by omega) rfl ?_
  refine QW.putFo (fs' := [.int 0, .int 0, .ref (n + 0), .ref (n + 1), .ref (n + 2), .ref (n + 3), .int 0, .ref (n + 4), .int (-1), .int 0, .int 0, .int 0, .int 0, .int 0, .ref (n + 5), .ref (n + 6), .ref (n + 7), .ref (n + 8), .ref (n + 9), .ref (n + 10), .ref (n + 11), .ref (n + 12), .ref (n + 13), .ref (n + 14), .ref (n + 15), .ref (n + 16), .int 0, .ref (n + 17), .ref (n + 18), .int 0, .ref (n + 19), .ref (n + 20), .int 0, .int 0, .int 0, .ref (n + 21), .ref (n + 22), .ref (n + 23), .ref (n + 24), .ref (n + 25), .ref (n + 26), .ref (n + 27), .ref (n + 28), .ref (n + 29)]) hn ha dMo_init_243 gMo_103 rfl rfl (fun _ => rfl) (fun _ => rfl) rfl ?_
  exact QW.vret dMo_init_246 rfl hp
end
section
abbrev mLa_law : qM := (x, code, maxLocals, ret, [])
theorem q_ac_byte : Cond.arrayClass .byte ∈ lw_tbl := q_tw 485 (by decide +kernel)
theorem q_cls : ∀ (t : Nat) (r : vw_C), classes[t]? = some r → (∃ n, Cond.instantiable r.1 n ∈ lw_tbl) ∧ ∀ w ∈ u_ws r.1 r.2.1 r.2.2, w ∈ lw_tbl
  | 0, _, h => by cases h; exact ⟨⟨13, q_tw 29 (by decide +kernel)⟩, zcBp.2.2⟩
  | 1, _, h => by cases h; exact ⟨⟨4, q_tw 230 (by decide +kernel)⟩, zcBag.2.2⟩
  | 2, _, h => by cases h; exact ⟨⟨10, q_tw 139 (by decide +kernel)⟩, zcBl.2.2⟩
  | 3, _, h => by cases h; exact ⟨⟨2, q_tw 37 (by decide +kernel)⟩, zcCat.2.2⟩
  | 4, _, h => by cases h; exact ⟨⟨15, q_tw 253 (by decide +kernel)⟩, zcNf.2.2⟩
  | 5, _, h => by cases h; exact ⟨⟨2, q_tw 318 (by decide +kernel)⟩, zcPg.2.2⟩
  | 6, _, h => by cases h; exact ⟨⟨4, q_tw 211 (by decide +kernel)⟩, zcPlan.2.2⟩
  | 7, _, h => by cases h; exact ⟨⟨3, q_tw 132 (by decide +kernel)⟩, zcQu.2.2⟩
  | 8, _, h => by cases h; exact ⟨⟨1, q_tw 99 (by decide +kernel)⟩, zcRd.2.2⟩
  | 9, _, h => by cases h; exact ⟨⟨4, q_tw 44 (by decide +kernel)⟩, zcTab.2.2⟩
  | 10, _, h => by cases h; exact ⟨⟨2, q_tw 83 (by decide +kernel)⟩, zcTxt.2.2⟩
  | 11, _, h => by cases h; exact ⟨⟨5, q_tw 105 (by decide +kernel)⟩, zcTok.2.2⟩
  | 12, _, h => by cases h; exact ⟨⟨44, q_tw 1061 (by decide +kernel)⟩, zcMo.2.2⟩
  | 13, _, h => by cases h; exact ⟨⟨13, q_tw 29 (by decide +kernel)⟩, fun w hw => by cases hw⟩
  | 14, _, h => by cases h; exact ⟨⟨13, q_tw 29 (by decide +kernel)⟩, fun w hw => by cases hw⟩
  | 15, _, h => by cases h; exact ⟨⟨13, q_tw 29 (by decide +kernel)⟩, fun w hw => by cases hw⟩
  | 16, _, h => by cases h; exact ⟨⟨13, q_tw 29 (by decide +kernel)⟩, fun w hw => by cases hw⟩
  | 17, _, h => by cases h; exact ⟨⟨13, q_tw 29 (by decide +kernel)⟩, fun w hw => by cases hw⟩
  | 18, _, h => by cases h; exact ⟨⟨13, q_tw 29 (by decide +kernel)⟩, fun w hw => by cases hw⟩
  | 19, _, h => by cases h; exact ⟨⟨13, q_tw 29 (by decide +kernel)⟩, fun w hw => by cases hw⟩
  | 20, _, h => by cases h; exact ⟨⟨6, q_tw 418 (by decide +kernel)⟩, fun w hw => by cases hw⟩
  | 21, _, h => by cases h; exact ⟨⟨6, q_tw 487 (by decide +kernel)⟩, fun w hw => by cases hw⟩
  | 22, _, h => by cases h; exact ⟨⟨6, q_tw 892 (by decide +kernel)⟩, fun w hw => by cases hw⟩
  | 23, _, h => by cases h; exact ⟨⟨6, q_tw 920 (by decide +kernel)⟩, fun w hw => by cases hw⟩
  | t + 24, _, h => by cases h
def R_law : String := "BagPlannerLaw"
def lw_P (b : Addr) (xs : List Int32) (args : Array Value) (s : State) : Prop := args = #[.ref b] ∧ s.IntsAt b xs ∧ xs.length ≤ 2560 ∧ (Jvm.Cond.and given_1 narrow_1).before args s = true
def lw_Q (_ : Array Value) (s : State) (o : Outcome) (t : State) : Prop := o = .returned (some (.int 1)) ∧ Framed s o t [] 601024 7293034
def lw_Z (below : List Frame) (a : Array Value) (s : State) : State → Prop := fun t => ∃ o, t.status = .running ∧ Ended t below o ∧ lw_Q a s o t
theorem q_arr0 {s : State} {a : Array Value} (hts : ∀ w ∈ lw_tbl, w.before a s = true) {t : Nat} {ty : FieldType} (h : qar t = some ty) (h80 : t ≠ 80) : ∃ cA : ClassId, (∃ (kA : Class) (comp : ClassId), s.vm.classes[cA]? = some kA ∧ kA.kind = .array comp ty) ∧ va_RA s cA ty := by
  have prim : ∀ ty : FieldType, Cond.arrayClass ty ∈ lw_tbl → (∀ C, ty ≠ .object C) → ∃ cA : ClassId, (∃ (kA : Class) (comp : ClassId), s.vm.classes[cA]? = some kA ∧ kA.kind = .array comp ty) ∧ va_RA s cA ty := by
    intro ty hw hne
    obtain ⟨c, k, comp, f1, f2, f3⟩ := Cond.arrayClass_spec (hts _ hw)
    refine ⟨c, ⟨k, comp, f2, f3⟩, ?_⟩
    cases ty <;> first | exact f1 | exact absurd rfl (hne _)
  have obj : ∀ C : String, Cond.arrayOver (.object C) ∈ lw_tbl → ∃ cA : ClassId, (∃ (kA : Class) (comp : ClassId), s.vm.classes[cA]? = some kA ∧ kA.kind = .array comp (.object C)) ∧ va_RA s cA (.object C) := by
    intro C hw
    obtain ⟨comp, c, k, h1, h2, h3, h4, h5⟩ := Cond.arrayOver_spec (hts _ hw)
    exact ⟨c, ⟨k, comp, h3, h4⟩, k, comp, h3, h4, h1, h5⟩
  unfold qar at h
  split at h
  · cases h; exact prim _ q_ac_int (fun C e => by cases e)
  · cases h; exact prim _ q_ac_boolean (fun C e => by cases e)
  · cases h; exact prim _ q_ac_char (fun C e => by cases e)
  · cases h; exact prim _ q_ac_long (fun C e => by cases e)
  · cases h; exact obj _ q_ao_Table
  · cases h; exact obj _ q_ao_Question
  · cases h; exact obj _ q_ao_Block
  · exact absurd rfl h80
  · cases h; exact prim _ q_ac_byte (fun C e => by cases e)
  · cases h
def q_ad (b n : Nat) : Nat → Nat
  | 0 => b
  | i + 1 => n + i
theorem q_start {p : Program} {l : Launch} {e : Env} {s : State} {m : MethodId} {below : List Frame} {meth : Method} {c : Code} {b : Nat} {xs : List Int32} {scr : Cell} (hfl : l.stackTraces = false) (h1 : p.tables.exec = Jvm.exec) (h2 : c.code = code) (h3 : meth.sig.returnType = ret) (h4 : c.maxLocals = 7) (h5 : s.vm.findClass "BagPlannerLaw" = some m.cls) (h6 : ∀ w ∈ lw_tbl, w.before #[Value.ref b] s = true) (h7 : s.heap[b]? = some scr) (h8 : s.isArrayOf scr .int) (h9 : scr.vm ≠ .unknown) (h10 : scr.slots.toList = xs.map Value.int)
    (h11 : meth.locks = false) (h12 : (Jvm.Cond.and given_1 narrow_1).before #[Value.ref b] s = true) (h13 : c.exceptionTable.toList = []) (h14 : meth.name = "law")
    (hQ : QW 40 mLa_law 0 (qen 7 [.ref 0]) [] [(80, xs.map Value.int)] (fun r => r.1 = .inl (some (.int 1)))) : W p l e room_1 s m #[Value.ref b] below meth c s.heap [] 0 0 (lw_Z below #[Value.ref b] s) (entryFrame m ([Value.ref b] : List Value).toArray 7) := by
  have hbl : b < s.heap.size := (Array.getElem?_eq_some_iff.mp h7).1
  have hD : ∀ t : Nat, ∃ q : ClassId × (Nat → Nat), (∀ r, classes[t]? = some r → u_Kn s r.1 r.2.1 r.2.2 q.1 q.2) ∧ (∀ ty, qar t = some ty → (∃ (kA : Class) (comp : ClassId), s.vm.classes[q.1]? = some kA ∧ kA.kind = .array comp ty) ∧ (t < 80 → va_RA s q.1 ty)) ∧ (t = 80 → q.1 = scr.cls) := by
    intro t
    by_cases ht : t < 24
    · have hq : qar t = none := by
        unfold qar
        split <;> first | omega | rfl
      obtain ⟨r, hr⟩ : ∃ r, classes[t]? = some r := ⟨_, List.getElem?_eq_getElem (show t < classes.length from ht)⟩
      obtain ⟨⟨n, g1⟩, g2⟩ := q_cls t r hr
      obtain ⟨cC, iS, hk⟩ := u_known (ws := lw_tbl) h6 g2 (h6 _ g1)
      exact ⟨(cC, iS), fun r' hr' => (by cases hr.symm.trans hr'; exact hk), fun ty hty => (by rw [hq] at hty; cases hty), fun h => by omega⟩
    · have hcl : classes[t]? = none := List.getElem?_eq_none (show classes.length ≤ t from Nat.le_of_not_lt ht)
      by_cases h80 : t = 80
      · subst h80
        obtain ⟨-, kA, hkA, comp, hkind⟩ := h8
        exact ⟨(scr.cls, fun _ => 0), fun r hr => (by rw [hcl] at hr; cases hr), fun ty hty => (by cases hty; exact ⟨⟨kA, comp, hkA, hkind⟩, fun h => absurd h (by decide)⟩), fun _ => rfl⟩
      · cases hq : qar t with
        | none => exact ⟨(0, fun _ => 0), fun r hr => (by rw [hcl] at hr; cases hr), fun ty hty => (by cases hty), fun h => absurd h h80⟩
        | some ty =>
          obtain ⟨cA, g1, g2⟩ := q_arr0 h6 hq h80
          exact ⟨(cA, fun _ => 0), fun r hr => (by rw [hcl] at hr; cases hr), fun ty' hty => (by cases hty; exact ⟨g1, fun _ => g2⟩), fun h => absurd h h80⟩
  obtain ⟨dd, hdd⟩ := Classical.axiomOfChoice hD
  let A : qA := (q_ad b s.heap.size, (fun t => (dd t).1, fun t => (dd t).2), 1)
  have hA : qad A := by
    refine ⟨fun i hi => ?_, fun i j hij hj => ?_⟩
    · cases i with
      | zero => exact absurd (show 1 ≤ 0 from hi) (by decide)
      | succ i => rfl
    · cases j with
      | zero => exact absurd hij (Nat.not_lt_zero _)
      | succ j =>
        cases i with
        | zero => exact Nat.lt_of_lt_of_le hbl (Nat.le_add_right _ _)
        | succ i => exact Nat.add_lt_add_left (Nat.lt_of_succ_lt_succ hij) _
  have hns : scr.vm.isStatics = false := by
    have h := h8.1
    cases hv : scr.vm <;> first | rfl | exact absurd hv (h _)
  have hsl : scr.slots = ((xs.map Value.int).map (qv A.1)).toArray := by
    have e1 : (xs.map Value.int).map (qv A.1) = xs.map Value.int := by
      rw [List.map_map]
      rfl
    rw [e1, ← h10]
  have hr : qhr A [(80, xs.map Value.int)] s.heap := by
    refine ⟨rfl, Nat.le_refl _, fun i q hq => ?_⟩
    cases i with
    | zero =>
      cases hq
      exact ⟨⟨scr, h7, ((hdd 80).2.2 rfl).symm, h9, hns, fun h => absurd (show qown 80 = true from h) (by decide), fun h => absurd (show 80 < 64 from h) (by decide), fun _ => hsl⟩, fun h => absurd (show qown 80 = true from h) (by decide)⟩
    | succ i => cases hq
  have hG : qGl l s #[Value.ref b] A := ⟨h6, hfl, hA, rfl, fun t r h => (hdd t).1 r h, fun t ty h => ((hdd t).2.1 ty h).1, fun t ty h h80 => ((hdd t).2.1 ty h).2 h80, h12⟩
  have I : qIn l s #[Value.ref b] A mLa_law 40 1 p room_1 s m meth c := ⟨h1, h2, h4, h3, h11, h14, h5, by rw [h13]; rfl, State.WarmedH.refl s, fun q _ => rfl, fun q cell hq hc => absurd (Array.getElem?_eq_some_iff.mp hc).1 (Nat.not_lt.mpr hq), rfl, Nat.le_refl _, by decide, by decide, by decide, by decide, hG⟩
  have S : qSt A s 1 [(80, xs.map Value.int)] s.heap [] := ⟨hr, fun q _ => rfl, (fun q hq => by cases hq), Nat.le_refl _, show 1 ≤ qCap by decide⟩
  have K := hQ (e := e) (args := #[Value.ref b]) (below := below) I S
  intro T hT X
  have en : entryFrame m ([Value.ref b] : List Value).toArray 7 = F0 m 0 (qls A.1 (qen 7 [.ref 0])) (qvs A.1 []) := qen_entry A.1 m 7 [.ref 0]
  rw [en]
  obtain ⟨t, a1, r, b1, b2, b3, b4, L, b5, b6⟩ := K T hT X
  rw [b1] at b3
  refine ⟨t, a1, _, b2, b3, rfl, ⟨_, rfl⟩, b4, b5.weaken (fun y hy hlt => ?_) ?_ ?_⟩
  · exact absurd hlt (Nat.not_lt.mpr (b6.2.2.1 y hy))
  · have := b6.2.2.2.2
    have e1 : qCap = 20000 := rfl
    omega
  · have := b6.2.2.2.2
    have e1 : qCap = 20000 := rfl
    omega
end
section
def shp : List (Nat × List (Option Nat)) := [(0, [some 14, some 28, some 30, some 35, none, none, some 156, some 161, some 164, some 167, some 170, some 180, some 190]), (3, [some 15, none]), (68, [some 16, some 19, some 22, some 25]), (9, [none, none, some 17, some 18]), (65, List.replicate 3 none), (64, List.replicate 24 none), (9, [none, none, some 20, some 21]), (65, List.replicate 3 none), (64, List.replicate 24 none), (9, [none, none, some 23, some 24]), (65, List.replicate 3 none), (64, List.replicate 24 none), (9, [none, none, some 26, some 27]), (65, List.replicate 3 none), (64, List.replicate 24 none), (10, [some 29, none]), (66, List.replicate 200 none), (8, [some 31]), (11, [some 32, some 33, some 34, none, none]), (64, List.replicate 201 none), (64, List.replicate 201 none), (64, List.replicate 201 none), (69, [some 36, some 60, some 84, some 108, some 132]), (7, [none, some 37, some 38]), (70, [some 39, some 46, some 53]), (64, List.replicate 2 none), (2, [none, none, none, none, some 40, some 41, some 42, some 43, some 44, some 45]), (64, List.replicate 4 none), (64, List.replicate 4 none), (65, List.replicate 6 none), (64, List.replicate 15 none), (64, List.replicate 15 none), (64, List.replicate 15 none), (2, [none, none, none, none, some 47, some 48, some 49, some 50, some 51, some 52]), (64, List.replicate 4 none), (64, List.replicate 4 none), (65, List.replicate 6 none), (64, List.replicate 15 none), (64, List.replicate 15 none), (64, List.replicate 15 none), (2, [none, none, none, none, some 54, some 55, some 56, some 57, some 58, some 59]), (64, List.replicate 4 none), (64, List.replicate 4 none), (65, List.replicate 6 none), (64, List.replicate 15 none), (64, List.replicate 15 none), (64, List.replicate 15 none), (7, [none, some 61, some 62]), (70, [some 63, some 70, some 77]), (64, List.replicate 2 none), (2, [none, none, none, none, some 64, some 65, some 66, some 67, some 68, some 69]), (64, List.replicate 4 none), (64, List.replicate 4 none), (65, List.replicate 6 none), (64, List.replicate 15 none), (64, List.replicate 15 none), (64, List.replicate 15 none), (2, [none, none, none, none, some 71, some 72, some 73, some 74, some 75, some 76]), (64, List.replicate 4 none), (64, List.replicate 4 none), (65, List.replicate 6 none), (64, List.replicate 15 none), (64, List.replicate 15 none), (64, List.replicate 15 none), (2, [none, none, none, none, some 78, some 79, some 80, some 81, some 82, some 83]), (64, List.replicate 4 none), (64, List.replicate 4 none), (65, List.replicate 6 none), (64, List.replicate 15 none), (64, List.replicate 15 none), (64, List.replicate 15 none), (7, [none, some 85, some 86]), (70, [some 87, some 94, some 101]), (64, List.replicate 2 none), (2, [none, none, none, none, some 88, some 89, some 90, some 91, some 92, some 93]), (64, List.replicate 4 none), (64, List.replicate 4 none), (65, List.replicate 6 none), (64, List.replicate 15 none), (64, List.replicate 15 none), (64, List.replicate 15 none), (2, [none, none, none, none, some 95, some 96, some 97, some 98, some 99, some 100]), (64, List.replicate 4 none), (64, List.replicate 4 none), (65, List.replicate 6 none), (64, List.replicate 15 none), (64, List.replicate 15 none), (64, List.replicate 15 none), (2, [none, none, none, none, some 102, some 103, some 104, some 105, some 106, some 107]), (64, List.replicate 4 none), (64, List.replicate 4 none), (65, List.replicate 6 none), (64, List.replicate 15 none), (64, List.replicate 15 none), (64, List.replicate 15 none), (7, [none, some 109, some 110]), (70, [some 111, some 118, some 125]), (64, List.replicate 2 none), (2, [none, none, none, none, some 112, some 113, some 114, some 115, some 116, some 117]), (64, List.replicate 4 none), (64, List.replicate 4 none), (65, List.replicate 6 none), (64, List.replicate 15 none), (64, List.replicate 15 none), (64, List.replicate 15 none), (2, [none, none, none, none, some 119, some 120, some 121, some 122, some 123, some 124]), (64, List.replicate 4 none), (64, List.replicate 4 none), (65, List.replicate 6 none), (64, List.replicate 15 none), (64, List.replicate 15 none), (64, List.replicate 15 none), (2, [none, none, none, none, some 126, some 127, some 128, some 129, some 130, some 131]), (64, List.replicate 4 none), (64, List.replicate 4 none), (65, List.replicate 6 none), (64, List.replicate 15 none), (64, List.replicate 15 none), (64, List.replicate 15 none), (7, [none, some 133, some 134]), (70, [some 135, some 142, some 149]), (64, List.replicate 2 none), (2, [none, none, none, none, some 136, some 137, some 138, some 139, some 140, some 141]), (64, List.replicate 4 none), (64, List.replicate 4 none), (65, List.replicate 6 none), (64, List.replicate 15 none), (64, List.replicate 15 none), (64, List.replicate 15 none), (2, [none, none, none, none, some 143, some 144, some 145, some 146, some 147, some 148]), (64, List.replicate 4 none), (64, List.replicate 4 none), (65, List.replicate 6 none), (64, List.replicate 15 none), (64, List.replicate 15 none), (64, List.replicate 15 none), (2, [none, none, none, none, some 150, some 151, some 152, some 153, some 154, some 155]), (64, List.replicate 4 none), (64, List.replicate 4 none), (65, List.replicate 6 none), (64, List.replicate 15 none), (64, List.replicate 15 none), (64, List.replicate 15 none), (6, [some 157, some 158, some 159, some 160]), (64, List.replicate 4 none), (65, List.replicate 4 none), (64, List.replicate 6 none), (64, List.replicate 3 none), (1, [none, none, some 162, some 163]), (64, List.replicate 192 none), (64, List.replicate 64 none), (1, [none, none, some 165, some 166]), (64, List.replicate 192 none), (64, List.replicate 64 none), (1, [none, none, some 168, some 169]), (64, List.replicate 192 none), (64, List.replicate 64 none), (4, [none, none, none, some 171, none, some 172, some 173, none, some 174, some 175, some 176, none, some 177, some 178, some 179]), (64, List.replicate 3 none), (64, List.replicate 6 none), (64, List.replicate 6 none), (64, List.replicate 4 none), (64, List.replicate 4 none), (64, List.replicate 4 none), (64, List.replicate 15 none), (64, List.replicate 27 none), (64, List.replicate 27 none), (4, [none, none, none, some 181, none, some 182, some 183, none, some 184, some 185, some 186, none, some 187, some 188, some 189]), (64, List.replicate 3 none), (64, List.replicate 6 none), (64, List.replicate 6 none), (64, List.replicate 4 none), (64, List.replicate 4 none), (64, List.replicate 4 none), (64, List.replicate 15 none), (64, List.replicate 27 none), (64, List.replicate 27 none), (5, [some 191, some 192]), (64, List.replicate 4 none), (65, List.replicate 4 none), (12, [none, none, some 194, some 195, some 196, some 197, none, some 198, none, none, none, none, none, none, some 199, some 200, some 201, some 202, some 203, some 204, some 205, some 206, some 207, some 208, some 209, some 210, none, some 211, some 212, none, some 213, some 214, none, none, none, some 215, some 216, some 217, some 218, some 219, some 220, some 221, some 222, some 223]), (64, List.replicate 4 none), (64, List.replicate 4 none), (64, List.replicate 96 none), (65, List.replicate 12 none), (66, List.replicate 200 none), (64, List.replicate 5 none), (64, List.replicate 10 none), (65, List.replicate 15 none), (64, List.replicate 15 none), (64, List.replicate 45 none), (64, List.replicate 15 none), (64, List.replicate 60 none), (64, List.replicate 60 none), (64, List.replicate 15 none), (64, List.replicate 90 none), (64, List.replicate 90 none), (65, List.replicate 90 none), (64, List.replicate 192 none), (64, List.replicate 64 none), (64, List.replicate 192 none), (64, List.replicate 64 none), (64, List.replicate 192 none), (64, List.replicate 64 none), (64, List.replicate 4 none), (64, List.replicate 3 none), (64, List.replicate 64 none), (64, List.replicate 64 none), (64, List.replicate 2 none), (64, List.replicate 8 none), (64, List.replicate 4 none)]
def swp (sw : Bool) (r : Nat) : Nat := match sw with
  | false => r
  | true => if r = 161 then 164 else if r = 164 then 161 else r
def slv (mem : Nat → Int32) (sw : Bool) : Nat → List (Option Nat) → List Value
  | _, [] => []
  | k, none :: r => .int (mem k) :: slv mem sw (k + 1) r
  | k, some i :: r => .ref (swp sw i) :: slv mem sw (k + 1) r
def sce (mem : Nat → Nat → Int32) (sw : Bool) : Nat → List (Nat × List (Option Nat)) → qH
  | _, [] => []
  | i, s :: r => (s.1, slv (mem i) sw 0 s.2) :: sce mem sw (i + 1) r
def hpo (X : qH) (mem : Nat → Nat → Int32) (sw : Bool) (o : Int64) (e : List Nat) : qH := X ++ (sce mem sw 13 shp ++ ((67, [.long o]) :: e.map (fun t => (t, []))))
def mup (mem : Nat → Nat → Int32) (i k : Nat) (v : Int32) : Nat → Nat → Int32 := fun j => if j = i then (fun q => if q = k then v else mem i q) else mem j
theorem mup_at (mem : Nat → Nat → Int32) (i k : Nat) (v : Int32) : mup mem i k v i k = v := by simp [mup]
theorem mup_sl {mem : Nat → Nat → Int32} {i k q : Nat} {v : Int32} (h : q ≠ k) : mup mem i k v i q = mem i q := by simp [mup, h]
theorem mup_ce {mem : Nat → Nat → Int32} {i k j : Nat} {v : Int32} (h : j ≠ i) : mup mem i k v j = mem j := by simp [mup, h]
theorem slv_len (m : Nat → Int32) (sw : Bool) : ∀ (l : List (Option Nat)) (k : Nat), (slv m sw k l).length = l.length
  | [], _ => rfl
  | none :: r, k => by show (slv m sw (k + 1) r).length + 1 = _; rw [slv_len m sw r]; rfl
  | some i :: r, k => by show (slv m sw (k + 1) r).length + 1 = _; rw [slv_len m sw r]; rfl
theorem slv_int (m : Nat → Int32) (sw : Bool) : ∀ (l : List (Option Nat)) (b k : Nat), l[k]? = some none → (slv m sw b l)[k]? = some (.int (m (b + k)))
  | [], _, _, h => by cases h
  | none :: r, b, 0, _ => rfl
  | some i :: r, b, 0, h => by cases h
  | none :: r, b, k + 1, h => by
    show (slv m sw (b + 1) r)[k]? = _
    rw [slv_int m sw r (b + 1) k h, Nat.add_assoc, Nat.add_comm 1 k]
  | some i :: r, b, k + 1, h => by
    show (slv m sw (b + 1) r)[k]? = _
    rw [slv_int m sw r (b + 1) k h, Nat.add_assoc, Nat.add_comm 1 k]
theorem slv_ref (m : Nat → Int32) (sw : Bool) {i : Nat} : ∀ (l : List (Option Nat)) (b k : Nat), l[k]? = some (some i) → (slv m sw b l)[k]? = some (.ref (swp sw i))
  | [], _, _, h => by cases h
  | none :: r, b, 0, h => by cases h
  | some j :: r, b, 0, h => by cases h; rfl
  | none :: r, b, k + 1, h => slv_ref m sw r (b + 1) k h
  | some j :: r, b, k + 1, h => slv_ref m sw r (b + 1) k h
theorem slv_congr (m m' : Nat → Int32) (sw : Bool) : ∀ (l : List (Option Nat)) (b : Nat), (∀ k, k < l.length → m (b + k) = m' (b + k)) → slv m sw b l = slv m' sw b l
  | [], _, _ => rfl
  | none :: r, b, h => by
    show Value.int (m b) :: _ = Value.int (m' b) :: _
    have h0 := h 0 (Nat.succ_pos _)
    rw [Nat.add_zero] at h0
    rw [h0, slv_congr m m' sw r (b + 1) (fun k hk => by have := h (k + 1) (Nat.succ_lt_succ hk); rwa [Nat.add_assoc, Nat.add_comm 1 k])]
  | some i :: r, b, h => by
    show Value.ref _ :: _ = Value.ref _ :: _
    rw [slv_congr m m' sw r (b + 1) (fun k hk => by have := h (k + 1) (Nat.succ_lt_succ hk); rwa [Nat.add_assoc, Nat.add_comm 1 k])]
theorem slv_set (m : Nat → Int32) (sw : Bool) (v : Int32) : ∀ (l : List (Option Nat)) (b k : Nat), l[k]? = some none → (slv m sw b l).set k (.int v) = slv (fun q => if q = b + k then v else m q) sw b l
  | [], _, _, h => by cases h
  | some i :: r, b, 0, h => by cases h
  | none :: r, b, 0, _ => by
    show Value.int v :: slv m sw (b + 1) r = Value.int (if b = b + 0 then v else m b) :: _
    rw [if_pos (Nat.add_zero b).symm]
    congr 1
    refine slv_congr _ _ sw r (b + 1) (fun k _ => ?_)
    rw [if_neg (by omega)]
  | none :: r, b, k + 1, h => by
    show Value.int (m b) :: (slv m sw (b + 1) r).set k (.int v) = Value.int (if b = b + (k + 1) then v else m b) :: _
    rw [if_neg (by omega), slv_set m sw v r (b + 1) k h, Nat.add_assoc, Nat.add_comm 1 k]
  | some i :: r, b, k + 1, h => by
    show Value.ref _ :: (slv m sw (b + 1) r).set k (.int v) = Value.ref _ :: _
    rw [slv_set m sw v r (b + 1) k h, Nat.add_assoc, Nat.add_comm 1 k]
theorem sce_len (mem : Nat → Nat → Int32) (sw : Bool) : ∀ (l : List (Nat × List (Option Nat))) (i : Nat), (sce mem sw i l).length = l.length
  | [], _ => rfl
  | s :: r, i => by show (sce mem sw (i + 1) r).length + 1 = _; rw [sce_len mem sw r]; rfl
theorem sce_get (mem : Nat → Nat → Int32) (sw : Bool) {s : Nat × List (Option Nat)} : ∀ (l : List (Nat × List (Option Nat))) (b j : Nat), l[j]? = some s → (sce mem sw b l)[j]? = some (s.1, slv (mem (b + j)) sw 0 s.2)
  | [], _, _, h => by cases h
  | t :: r, b, 0, h => by cases h; rfl
  | t :: r, b, j + 1, h => by
    show (sce mem sw (b + 1) r)[j]? = _
    rw [sce_get mem sw r (b + 1) j h, Nat.add_assoc, Nat.add_comm 1 j]
theorem sce_congr (m m' : Nat → Nat → Int32) (sw : Bool) : ∀ (l : List (Nat × List (Option Nat))) (b : Nat), (∀ j, m (b + j) = m' (b + j)) → sce m sw b l = sce m' sw b l
  | [], _, _ => rfl
  | s :: r, b, h => by
    show (s.1, slv (m b) sw 0 s.2) :: _ = (s.1, slv (m' b) sw 0 s.2) :: _
    have h0 := h 0
    rw [Nat.add_zero] at h0
    rw [h0, sce_congr m m' sw r (b + 1) (fun j => by have := h (j + 1); rwa [Nat.add_assoc, Nat.add_comm 1 j])]
theorem sce_set (mem : Nat → Nat → Int32) (sw : Bool) (v : Int32) {s : Nat × List (Option Nat)} {k : Nat} (hk : s.2[k]? = some none) : ∀ (l : List (Nat × List (Option Nat))) (b j : Nat), l[j]? = some s → (sce mem sw b l).set j (s.1, (slv (mem (b + j)) sw 0 s.2).set k (.int v)) = sce (mup mem (b + j) k v) sw b l
  | [], _, _, h => by cases h
  | t :: r, b, 0, h => by
    cases h
    show (s.1, (slv (mem (b + 0)) sw 0 s.2).set k (.int v)) :: sce mem sw (b + 1) r = (s.1, slv (mup mem (b + 0) k v b) sw 0 s.2) :: _
    rw [slv_set _ sw v s.2 0 k hk]
    congr 1
    · congr 2
      funext q
      simp [mup]
    · refine sce_congr _ _ sw r (b + 1) (fun j => (mup_ce (by omega)).symm)
  | t :: r, b, j + 1, h => by
    show (t.1, slv (mem b) sw 0 t.2) :: (sce mem sw (b + 1) r).set j _ = (t.1, slv (mup mem (b + (j + 1)) k v b) sw 0 t.2) :: _
    have e1 : b + (j + 1) = b + 1 + j := by omega
    rw [e1, sce_set mem sw v hk r (b + 1) j h, mup_ce (show b ≠ b + 1 + j by omega)]
section HPO
variable {X : qH} {mem : Nat → Nat → Int32} {sw : Bool} {o : Int64} {e : List Nat} {j k : Nat} {s : Nat × List (Option Nat)}
theorem hpo_get (hX : X.length = 13) (hj : shp[j]? = some s) : (hpo X mem sw o e)[13 + j]? = some (s.1, slv (mem (13 + j)) sw 0 s.2) := by
  have h1 := sce_get mem sw shp 13 j hj
  have h2 := q_apr X (sce mem sw 13 shp ++ ((67, [.long o]) :: e.map (fun t => (t, [])))) j
  rw [hX] at h2
  exact h2.trans (q_apl h1)
theorem hpo_set (hX : X.length = 13) (hj : shp[j]? = some s) (hk : s.2[k]? = some none) (v : Int32) : (hpo X mem sw o e).set (13 + j) (s.1, (slv (mem (13 + j)) sw 0 s.2).set k (.int v)) = hpo X (mup mem (13 + j) k v) sw o e := by
  unfold hpo
  rw [List.set_append_right _ _ (by omega), hX, Nat.add_sub_cancel_left, q_sap (sce_get mem sw shp 13 j hj), sce_set mem sw v hk shp 13 j hj]
theorem hpo_len (hX : X.length = 13) : (hpo X mem sw o e).length = 224 + 1 + e.length := by
  unfold hpo
  rw [List.length_append, List.length_append, List.length_cons, List.length_map, sce_len, hX]
  have : shp.length = 224 - 13 := by decide +kernel
  omega
end HPO
end
section
def sh (i : Nat) : Option (Nat × List (Option Nat)) := if 13 ≤ i then shp[i - 13]? else none
theorem rep_get {n k : Nat} (h : k < n) : (List.replicate n (none : Option Nat))[k]? = some none := by simp [h]
section MW
variable {d : Nat} {M : qM} {pc : Nat} {ls : List Slot} {st : List Value} {P : qE → Prop} {X : qH} {mem : Nat → Nat → Int32} {sw : Bool} {o : Int64} {e : List Nat} {i k ct : Nat} {sl : List (Option Nat)}
theorem sh_get (hX : X.length = 13) {s : Nat × List (Option Nat)} (hs : sh i = some s) : (hpo X mem sw o e)[i]? = some (s.1, slv (mem i) sw 0 s.2) := by
  unfold sh at hs
  split at hs
  · have h1 := hpo_get (mem := mem) (sw := sw) (o := o) (e := e) hX hs
    rwa [show 13 + (i - 13) = i by omega] at h1
  · cases hs
theorem sh_set (hX : X.length = 13) {s : Nat × List (Option Nat)} (hs : sh i = some s) (hk : s.2[k]? = some none) (v : Int32) : (hpo X mem sw o e).set i (s.1, (slv (mem i) sw 0 s.2).set k (.int v)) = hpo X (mup mem i k v) sw o e := by
  unfold sh at hs
  split at hs
  · have h1 := hpo_set (mem := mem) (sw := sw) (o := o) (e := e) hX hs hk v
    rwa [show 13 + (i - 13) = i by omega] at h1
  · cases hs
theorem slv_i (hk : sl[k]? = some none) : (slv (mem i) sw 0 sl)[k]? = some (.int (mem i k)) := by
  have h1 := slv_int (mem i) sw sl 0 k hk
  rwa [Nat.zero_add] at h1
theorem MW.geti {idx N : Nat} {t : FieldType} {fin : Bool} (hX : X.length = 13) (hd : decode M.2.1 pc = .ok (.getfield idx, 3)) (hf : qfl M.1.cls idx ct k N t fin) (hs : sh i = some (ct, sl)) (hk : sl[k]? = some none) (kk : QW d M (pc + 3) ls (.int (mem i k) :: st) (hpo X mem sw o e) P) : QW d M pc ls (.ref i :: st) (hpo X mem sw o e) P :=
  QW.getf hd hf (sh_get hX hs) (slv_i hk) kk
theorem MW.getr {idx N r r' : Nat} {t : FieldType} {fin : Bool} (hX : X.length = 13) (hd : decode M.2.1 pc = .ok (.getfield idx, 3)) (hf : qfl M.1.cls idx ct k N t fin) (hs : sh i = some (ct, sl)) (hk : sl[k]? = some (some r)) (hr : swp sw r = r') (kk : QW d M (pc + 3) ls (.ref r' :: st) (hpo X mem sw o e) P) : QW d M pc ls (.ref i :: st) (hpo X mem sw o e) P := by
  subst hr
  exact QW.getf hd hf (sh_get hX hs) (slv_ref (mem i) sw sl 0 k hk) kk
theorem MW.puti {idx N : Nat} {v : Int32} (hX : X.length = 13) (hd : decode M.2.1 pc = .ok (.putfield idx, 3)) (hf : qfl M.1.cls idx ct k N .int false) (hs : sh i = some (ct, sl)) (hl : sl.length = N) (hk : sl[k]? = some none) (kk : QW d M (pc + 3) ls st (hpo X (mup mem i k v) sw o e) P) : QW d M pc ls (.int v :: .ref i :: st) (hpo X mem sw o e) P := by
  refine QW.putf hd hf (sh_get hX hs) (by rw [slv_len]; exact hl) (fun _ => rfl) (fun _ => rfl) ?_
  rw [sh_set hX hs hk]
  exact kk
theorem MW.putz {idx N : Nat} {v : Int32} (hX : X.length = 13) (hd : decode M.2.1 pc = .ok (.putfield idx, 3)) (hf : qfl M.1.cls idx ct k N .boolean false) (hs : sh i = some (ct, sl)) (hl : sl.length = N) (hk : sl[k]? = some none) (hv : narrow .boolean (.int v) = .int v) (hfit : fits .boolean (.int v) = true) (kk : QW d M (pc + 3) ls st (hpo X (mup mem i k v) sw o e) P) : QW d M pc ls (.int v :: .ref i :: st) (hpo X mem sw o e) P := by
  refine QW.putf hd hf (sh_get hX hs) (by rw [slv_len]; exact hl) (fun _ => hv) (fun _ => hfit) ?_
  rw [sh_set hX hs hk]
  exact kk
theorem MW.iald {x : Int32} (hX : X.length = 13) (hd : decode M.2.1 pc = .ok (.iaload, 1)) (hs : sh i = some (64, sl)) (h0 : ¬ x < 0) (hk : sl[x.toNatClampNeg]? = some none) (kk : QW d M (pc + 1) ls (.int (mem i x.toNatClampNeg) :: st) (hpo X mem sw o e) P) : QW d M pc ls (.int x :: .ref i :: st) (hpo X mem sw o e) P :=
  QW.iald hd (sh_get hX hs) rfl (Nat.le_of_ble_eq_true rfl) h0 (slv_i hk) kk
theorem MW.zald {x : Int32} (hX : X.length = 13) (hd : decode M.2.1 pc = .ok (.baload, 1)) (hs : sh i = some (65, sl)) (h0 : ¬ x < 0) (hk : sl[x.toNatClampNeg]? = some none) (kk : QW d M (pc + 1) ls (.int (mem i x.toNatClampNeg) :: st) (hpo X mem sw o e) P) : QW d M pc ls (.int x :: .ref i :: st) (hpo X mem sw o e) P :=
  QW.zald hd (sh_get hX hs) rfl (Nat.le_of_ble_eq_true rfl) h0 (slv_i hk) kk
theorem MW.cald {x : Int32} (hX : X.length = 13) (hd : decode M.2.1 pc = .ok (.caload, 1)) (hs : sh i = some (66, sl)) (h0 : ¬ x < 0) (hk : sl[x.toNatClampNeg]? = some none) (kk : QW d M (pc + 1) ls (.int (mem i x.toNatClampNeg) :: st) (hpo X mem sw o e) P) : QW d M pc ls (.int x :: .ref i :: st) (hpo X mem sw o e) P :=
  QW.cald hd (sh_get hX hs) rfl (Nat.le_of_ble_eq_true rfl) h0 (slv_i hk) kk
theorem MW.aald {x : Int32} {cn : String} {r r' : Nat} (hX : X.length = 13) (hd : decode M.2.1 pc = .ok (.aaload, 1)) (hs : sh i = some (ct, sl)) (ht : qar ct = some (.object cn)) (h64 : 64 ≤ ct) (h0 : ¬ x < 0) (hk : sl[x.toNatClampNeg]? = some (some r)) (hr : swp sw r = r') (kk : QW d M (pc + 1) ls (.ref r' :: st) (hpo X mem sw o e) P) : QW d M pc ls (.int x :: .ref i :: st) (hpo X mem sw o e) P := by
  subst hr
  exact QW.aald hd (sh_get hX hs) ht h64 h0 (slv_ref (mem i) sw sl 0 _ hk) kk
theorem MW.alen {v : Int32} {ty : FieldType} (hX : X.length = 13) (hd : decode M.2.1 pc = .ok (.arraylength, 1)) (hs : sh i = some (ct, sl)) (ht : qar ct = some ty) (h64 : 64 ≤ ct) (hv : Int32.ofNat sl.length = v) (kk : QW d M (pc + 1) ls (.int v :: st) (hpo X mem sw o e) P) : QW d M pc ls (.ref i :: st) (hpo X mem sw o e) P :=
  QW.alen hd (sh_get hX hs) ht h64 (by rw [slv_len]; exact hv) kk
theorem MW.iast {x v : Int32} (hX : X.length = 13) (hd : decode M.2.1 pc = .ok (.iastore, 1)) (hs : sh i = some (64, sl)) (h0 : ¬ x < 0) (hk : sl[x.toNatClampNeg]? = some none) (kk : QW d M (pc + 1) ls st (hpo X (mup mem i x.toNatClampNeg v) sw o e) P) : QW d M pc ls (.int v :: .int x :: .ref i :: st) (hpo X mem sw o e) P := by
  refine QW.iast hd (sh_get hX hs) rfl (Nat.le_of_ble_eq_true rfl) rfl h0 (slv_i hk) ?_
  rw [sh_set (s := (64, sl)) hX hs hk]
  exact kk
theorem MW.zast {x v : Int32} (hX : X.length = 13) (hd : decode M.2.1 pc = .ok (.bastore, 1)) (hs : sh i = some (65, sl)) (h0 : ¬ x < 0) (hk : sl[x.toNatClampNeg]? = some none) (hv : narrow .boolean (.int v) = .int v) (kk : QW d M (pc + 1) ls st (hpo X (mup mem i x.toNatClampNeg v) sw o e) P) : QW d M pc ls (.int v :: .int x :: .ref i :: st) (hpo X mem sw o e) P := by
  refine QW.zast hd (sh_get hX hs) rfl (Nat.le_of_ble_eq_true rfl) rfl h0 (slv_i hk) hv ?_
  rw [sh_set (s := (65, sl)) hX hs hk]
  exact kk
theorem MW.cast {x v : Int32} (hX : X.length = 13) (hd : decode M.2.1 pc = .ok (.castore, 1)) (hs : sh i = some (66, sl)) (h0 : ¬ x < 0) (hk : sl[x.toNatClampNeg]? = some none) (hv : narrow .char (.int v) = .int v) (kk : QW d M (pc + 1) ls st (hpo X (mup mem i x.toNatClampNeg v) sw o e) P) : QW d M pc ls (.int v :: .int x :: .ref i :: st) (hpo X mem sw o e) P := by
  refine QW.cast hd (sh_get hX hs) rfl (Nat.le_of_ble_eq_true rfl) rfl h0 (slv_i hk) hv ?_
  rw [sh_set (s := (66, sl)) hX hs hk]
  exact kk
theorem hpo_new {X : qH} {mem : Nat → Nat → Int32} {sw : Bool} {o : Int64} {e : List Nat} {t : Nat} : hpo X mem sw o e ++ [(t, [])] = hpo X mem sw o (e ++ [t]) := by
  unfold hpo
  simp
theorem MW.thr {ia ib ic : Nat} {cls : String} {names : List String} (hX : X.length = 13) (hx : qthr M.1.cls ia ib ic ct cls names) (hd0 : decode M.2.1 pc = .ok (.new ia, 3)) (hd3 : decode M.2.1 (pc + 3) = .ok (.dup, 1)) (hd4 : decode M.2.1 (pc + 4) = .ok (.ldc ib, 2)) (hd6 : decode M.2.1 (pc + 6) = .ok (.invokespecial ic, 3)) (hd9 : decode M.2.1 (pc + 9) = .ok (.athrow, 1))
    (hno : M.2.2.2.2 = []) (hc : e.length < 10000) (hls : ls.length = M.2.2.1) (hp : P (.inr (225 + e.length), hpo X mem sw o (e ++ [ct]))) : QW d M pc ls [] (hpo X mem sw o e) P := by
  have hl : (hpo X mem sw o e).length = 225 + e.length := hpo_len hX
  refine QW.thr hx hd0 hd3 hd4 hd6 hd9 hno (by rw [hl]; have : qCap = 20000 := rfl; omega) hls ?_
  rw [hl, hpo_new]
  exact hp
theorem MW.callV {M2 : qM} {idx b : Nat} {as rest : List Value} {q : vw_C} {P1 : qE → Prop} (hX : X.length = 13) (hd : decode M.2.1 pc = .ok (.invokevirtual idx, 3)) (hm : qme M2) (hl : qlk M.1.cls idx M2) (hi : Cond.instanceMethod M2.1 ∈ lw_tbl) (hse : Cond.selects M2.1.cls M2.1 M2.1 ∈ lw_tbl) (hn : qnp M2 = some as.length) (hst : st = as.reverse ++ .ref b :: rest) (hs : sh b = some (ct, sl)) (hq : classes[ct]? = some q) (hqc : q.1 = M2.1.cls) (hls : ls.length = M.2.2.1) (hw : (rest.map fun v => v.category).sum ≤ 20)
    (hC : QW d M2 0 (qen M2.2.2.1 (.ref b :: as)) [] (hpo X mem sw o e) P1) (hr : ∀ v h', P1 (.inl v, h') → QW (d + 1) M (pc + 3) ls (v.toList ++ rest) h' P) (ht : ∀ a h', P1 (.inr a, h') → QT (d + 1) M pc ls a h' P) : QW (d + 1) M pc ls st (hpo X mem sw o e) P :=
  QW.callV hd hm hl hi hse hn hst (sh_get hX hs) hq hqc hls hw hC hr ht
end MW
end
section
def inx (x : Int32) (n : Nat) : Prop := ¬ x < 0 ∧ x.toNatClampNeg < n
def qfr (w : Slot) : Prop := w = .unset ∨ (∃ x, w = .val (.int x)) ∨ (∃ r, w = .val (.ref r))
theorem swp_ne {sw : Bool} {r : Nat} (h1 : r ≠ 161) (h2 : r ≠ 164) : swp sw r = r := by cases sw <;> simp [swp, h1, h2]
def kTab (t : Nat) : Prop := sh t = some (9, [none, none, some (t + 1), some (t + 2)]) ∧ sh (t + 1) = some (65, List.replicate 3 none) ∧ sh (t + 2) = some (64, List.replicate 24 none) ∧ (∀ sw, swp sw (t + 1) = t + 1) ∧ (∀ sw, swp sw (t + 2) = t + 2)
theorem kTab_0 {t : Nat} (h : kTab t) : sh t = some (9, [none, none, some (t + 1), some (t + 2)]) := h.1
theorem kTab_1 {t : Nat} (h : kTab t) : sh (t + 1) = some (65, List.replicate 3 none) := h.2.1
theorem kTab_2 {t : Nat} (h : kTab t) : sh (t + 2) = some (64, List.replicate 24 none) := h.2.2.1
theorem kTab_s1 {t : Nat} (h : kTab t) : (∀ sw, swp sw (t + 1) = t + 1) := h.2.2.2.1
theorem kTab_s2 {t : Nat} (h : kTab t) : (∀ sw, swp sw (t + 2) = t + 2) := h.2.2.2.2
def kBl (t : Nat) : Prop := sh t = some (2, [none, none, none, none, some (t + 1), some (t + 2), some (t + 3), some (t + 4), some (t + 5), some (t + 6)]) ∧ sh (t + 1) = some (64, List.replicate 4 none) ∧ sh (t + 2) = some (64, List.replicate 4 none) ∧ sh (t + 3) = some (65, List.replicate 6 none) ∧ sh (t + 4) = some (64, List.replicate 15 none) ∧ sh (t + 5) = some (64, List.replicate 15 none) ∧ sh (t + 6) = some (64, List.replicate 15 none) ∧ (∀ sw, swp sw (t + 1) = t + 1) ∧ (∀ sw, swp sw (t + 2) = t + 2) ∧ (∀ sw, swp sw (t + 3) = t + 3) ∧ (∀ sw, swp sw (t + 4) = t + 4) ∧ (∀ sw, swp sw (t + 5) = t + 5) ∧ (∀ sw, swp sw (t + 6) = t + 6)
theorem kBl_0 {t : Nat} (h : kBl t) : sh t = some (2, [none, none, none, none, some (t + 1), some (t + 2), some (t + 3), some (t + 4), some (t + 5), some (t + 6)]) := h.1
theorem kBl_1 {t : Nat} (h : kBl t) : sh (t + 1) = some (64, List.replicate 4 none) := h.2.1
theorem kBl_2 {t : Nat} (h : kBl t) : sh (t + 2) = some (64, List.replicate 4 none) := h.2.2.1
theorem kBl_3 {t : Nat} (h : kBl t) : sh (t + 3) = some (65, List.replicate 6 none) := h.2.2.2.1
theorem kBl_4 {t : Nat} (h : kBl t) : sh (t + 4) = some (64, List.replicate 15 none) := h.2.2.2.2.1
theorem kBl_5 {t : Nat} (h : kBl t) : sh (t + 5) = some (64, List.replicate 15 none) := h.2.2.2.2.2.1
theorem kBl_6 {t : Nat} (h : kBl t) : sh (t + 6) = some (64, List.replicate 15 none) := h.2.2.2.2.2.2.1
theorem kBl_s1 {t : Nat} (h : kBl t) : (∀ sw, swp sw (t + 1) = t + 1) := h.2.2.2.2.2.2.2.1
theorem kBl_s2 {t : Nat} (h : kBl t) : (∀ sw, swp sw (t + 2) = t + 2) := h.2.2.2.2.2.2.2.2.1
theorem kBl_s3 {t : Nat} (h : kBl t) : (∀ sw, swp sw (t + 3) = t + 3) := h.2.2.2.2.2.2.2.2.2.1
theorem kBl_s4 {t : Nat} (h : kBl t) : (∀ sw, swp sw (t + 4) = t + 4) := h.2.2.2.2.2.2.2.2.2.2.1
theorem kBl_s5 {t : Nat} (h : kBl t) : (∀ sw, swp sw (t + 5) = t + 5) := h.2.2.2.2.2.2.2.2.2.2.2.1
theorem kBl_s6 {t : Nat} (h : kBl t) : (∀ sw, swp sw (t + 6) = t + 6) := h.2.2.2.2.2.2.2.2.2.2.2.2
def kBag (t : Nat) : Prop := sh t = some (1, [none, none, some (t + 1), some (t + 2)]) ∧ sh (t + 1) = some (64, List.replicate 192 none) ∧ sh (t + 2) = some (64, List.replicate 64 none) ∧ (∀ sw, swp sw (t + 1) = t + 1) ∧ (∀ sw, swp sw (t + 2) = t + 2)
theorem kBag_0 {t : Nat} (h : kBag t) : sh t = some (1, [none, none, some (t + 1), some (t + 2)]) := h.1
theorem kBag_1 {t : Nat} (h : kBag t) : sh (t + 1) = some (64, List.replicate 192 none) := h.2.1
theorem kBag_2 {t : Nat} (h : kBag t) : sh (t + 2) = some (64, List.replicate 64 none) := h.2.2.1
theorem kBag_s1 {t : Nat} (h : kBag t) : (∀ sw, swp sw (t + 1) = t + 1) := h.2.2.2.1
theorem kBag_s2 {t : Nat} (h : kBag t) : (∀ sw, swp sw (t + 2) = t + 2) := h.2.2.2.2
def kNf (t : Nat) : Prop := sh t = some (4, [none, none, none, some (t + 1), none, some (t + 2), some (t + 3), none, some (t + 4), some (t + 5), some (t + 6), none, some (t + 7), some (t + 8), some (t + 9)]) ∧ sh (t + 1) = some (64, List.replicate 3 none) ∧ sh (t + 2) = some (64, List.replicate 6 none) ∧ sh (t + 3) = some (64, List.replicate 6 none) ∧ sh (t + 4) = some (64, List.replicate 4 none) ∧ sh (t + 5) = some (64, List.replicate 4 none) ∧ sh (t + 6) = some (64, List.replicate 4 none) ∧ sh (t + 7) = some (64, List.replicate 15 none) ∧ sh (t + 8) = some (64, List.replicate 27 none) ∧ sh (t + 9) = some (64, List.replicate 27 none) ∧ (∀ sw, swp sw (t + 1) = t + 1) ∧ (∀ sw, swp sw (t + 2) = t + 2) ∧ (∀ sw, swp sw (t + 3) = t + 3) ∧ (∀ sw, swp sw (t + 4) = t + 4) ∧ (∀ sw, swp sw (t + 5) = t + 5) ∧ (∀ sw, swp sw (t + 6) = t + 6) ∧ (∀ sw, swp sw (t + 7) = t + 7) ∧ (∀ sw, swp sw (t + 8) = t + 8) ∧ (∀ sw, swp sw (t + 9) = t + 9)
theorem kNf_0 {t : Nat} (h : kNf t) : sh t = some (4, [none, none, none, some (t + 1), none, some (t + 2), some (t + 3), none, some (t + 4), some (t + 5), some (t + 6), none, some (t + 7), some (t + 8), some (t + 9)]) := h.1
theorem kNf_1 {t : Nat} (h : kNf t) : sh (t + 1) = some (64, List.replicate 3 none) := h.2.1
theorem kNf_2 {t : Nat} (h : kNf t) : sh (t + 2) = some (64, List.replicate 6 none) := h.2.2.1
theorem kNf_3 {t : Nat} (h : kNf t) : sh (t + 3) = some (64, List.replicate 6 none) := h.2.2.2.1
theorem kNf_4 {t : Nat} (h : kNf t) : sh (t + 4) = some (64, List.replicate 4 none) := h.2.2.2.2.1
theorem kNf_5 {t : Nat} (h : kNf t) : sh (t + 5) = some (64, List.replicate 4 none) := h.2.2.2.2.2.1
theorem kNf_6 {t : Nat} (h : kNf t) : sh (t + 6) = some (64, List.replicate 4 none) := h.2.2.2.2.2.2.1
theorem kNf_7 {t : Nat} (h : kNf t) : sh (t + 7) = some (64, List.replicate 15 none) := h.2.2.2.2.2.2.2.1
theorem kNf_8 {t : Nat} (h : kNf t) : sh (t + 8) = some (64, List.replicate 27 none) := h.2.2.2.2.2.2.2.2.1
theorem kNf_9 {t : Nat} (h : kNf t) : sh (t + 9) = some (64, List.replicate 27 none) := h.2.2.2.2.2.2.2.2.2.1
theorem kNf_s1 {t : Nat} (h : kNf t) : (∀ sw, swp sw (t + 1) = t + 1) := h.2.2.2.2.2.2.2.2.2.2.1
theorem kNf_s2 {t : Nat} (h : kNf t) : (∀ sw, swp sw (t + 2) = t + 2) := h.2.2.2.2.2.2.2.2.2.2.2.1
theorem kNf_s3 {t : Nat} (h : kNf t) : (∀ sw, swp sw (t + 3) = t + 3) := h.2.2.2.2.2.2.2.2.2.2.2.2.1
theorem kNf_s4 {t : Nat} (h : kNf t) : (∀ sw, swp sw (t + 4) = t + 4) := h.2.2.2.2.2.2.2.2.2.2.2.2.2.1
theorem kNf_s5 {t : Nat} (h : kNf t) : (∀ sw, swp sw (t + 5) = t + 5) := h.2.2.2.2.2.2.2.2.2.2.2.2.2.2.1
theorem kNf_s6 {t : Nat} (h : kNf t) : (∀ sw, swp sw (t + 6) = t + 6) := h.2.2.2.2.2.2.2.2.2.2.2.2.2.2.2.1
theorem kNf_s7 {t : Nat} (h : kNf t) : (∀ sw, swp sw (t + 7) = t + 7) := h.2.2.2.2.2.2.2.2.2.2.2.2.2.2.2.2.1
theorem kNf_s8 {t : Nat} (h : kNf t) : (∀ sw, swp sw (t + 8) = t + 8) := h.2.2.2.2.2.2.2.2.2.2.2.2.2.2.2.2.2.1
theorem kNf_s9 {t : Nat} (h : kNf t) : (∀ sw, swp sw (t + 9) = t + 9) := h.2.2.2.2.2.2.2.2.2.2.2.2.2.2.2.2.2.2
def kQu (t : Nat) : Prop := sh t = some (7, [none, some (t + 1), some (t + 2)]) ∧ sh (t + 1) = some (70, [some (t + 3), some (t + 10), some (t + 17)]) ∧ sh (t + 2) = some (64, List.replicate 2 none) ∧ (∀ sw, swp sw (t + 1) = t + 1) ∧ (∀ sw, swp sw (t + 2) = t + 2) ∧ (∀ k, k < 3 → kBl (t + 3 + 7 * k) ∧ ∀ sw, swp sw (t + 3 + 7 * k) = t + 3 + 7 * k)
theorem kQu_0 {t : Nat} (h : kQu t) : sh t = some (7, [none, some (t + 1), some (t + 2)]) := h.1
theorem kQu_1 {t : Nat} (h : kQu t) : sh (t + 1) = some (70, [some (t + 3), some (t + 10), some (t + 17)]) := h.2.1
theorem kQu_2 {t : Nat} (h : kQu t) : sh (t + 2) = some (64, List.replicate 2 none) := h.2.2.1
theorem kQu_s1 {t : Nat} (h : kQu t) : (∀ sw, swp sw (t + 1) = t + 1) := h.2.2.2.1
theorem kQu_s2 {t : Nat} (h : kQu t) : (∀ sw, swp sw (t + 2) = t + 2) := h.2.2.2.2.1
theorem kQu_b {t : Nat} (h : kQu t) : (∀ k, k < 3 → kBl (t + 3 + 7 * k) ∧ ∀ sw, swp sw (t + 3 + 7 * k) = t + 3 + 7 * k) := h.2.2.2.2.2
theorem kTab_at : ∀ {k : Nat}, k < 4 → kTab (16 + 3 * k)
  | 0, _ => ⟨rfl, rfl, rfl, fun sw => by cases sw <;> rfl, fun sw => by cases sw <;> rfl⟩
  | 1, _ => ⟨rfl, rfl, rfl, fun sw => by cases sw <;> rfl, fun sw => by cases sw <;> rfl⟩
  | 2, _ => ⟨rfl, rfl, rfl, fun sw => by cases sw <;> rfl, fun sw => by cases sw <;> rfl⟩
  | 3, _ => ⟨rfl, rfl, rfl, fun sw => by cases sw <;> rfl, fun sw => by cases sw <;> rfl⟩
  | k + 4, h => absurd h (by omega)
theorem kQu_at : ∀ {k : Nat}, k < 5 → kQu (36 + 24 * k)
  | 0, _ => ⟨rfl, rfl, rfl, fun sw => by cases sw <;> rfl, fun sw => by cases sw <;> rfl, fun j hj => match j, hj with
    | 0, _ => ⟨⟨rfl, rfl, rfl, rfl, rfl, rfl, rfl, fun sw => by cases sw <;> rfl, fun sw => by cases sw <;> rfl, fun sw => by cases sw <;> rfl, fun sw => by cases sw <;> rfl, fun sw => by cases sw <;> rfl, fun sw => by cases sw <;> rfl⟩, fun sw => by cases sw <;> rfl⟩
    | 1, _ => ⟨⟨rfl, rfl, rfl, rfl, rfl, rfl, rfl, fun sw => by cases sw <;> rfl, fun sw => by cases sw <;> rfl, fun sw => by cases sw <;> rfl, fun sw => by cases sw <;> rfl, fun sw => by cases sw <;> rfl, fun sw => by cases sw <;> rfl⟩, fun sw => by cases sw <;> rfl⟩
    | 2, _ => ⟨⟨rfl, rfl, rfl, rfl, rfl, rfl, rfl, fun sw => by cases sw <;> rfl, fun sw => by cases sw <;> rfl, fun sw => by cases sw <;> rfl, fun sw => by cases sw <;> rfl, fun sw => by cases sw <;> rfl, fun sw => by cases sw <;> rfl⟩, fun sw => by cases sw <;> rfl⟩
    | j + 3, h => absurd h (by omega)⟩
  | 1, _ => ⟨rfl, rfl, rfl, fun sw => by cases sw <;> rfl, fun sw => by cases sw <;> rfl, fun j hj => match j, hj with
    | 0, _ => ⟨⟨rfl, rfl, rfl, rfl, rfl, rfl, rfl, fun sw => by cases sw <;> rfl, fun sw => by cases sw <;> rfl, fun sw => by cases sw <;> rfl, fun sw => by cases sw <;> rfl, fun sw => by cases sw <;> rfl, fun sw => by cases sw <;> rfl⟩, fun sw => by cases sw <;> rfl⟩
    | 1, _ => ⟨⟨rfl, rfl, rfl, rfl, rfl, rfl, rfl, fun sw => by cases sw <;> rfl, fun sw => by cases sw <;> rfl, fun sw => by cases sw <;> rfl, fun sw => by cases sw <;> rfl, fun sw => by cases sw <;> rfl, fun sw => by cases sw <;> rfl⟩, fun sw => by cases sw <;> rfl⟩
    | 2, _ => ⟨⟨rfl, rfl, rfl, rfl, rfl, rfl, rfl, fun sw => by cases sw <;> rfl, fun sw => by cases sw <;> rfl, fun sw => by cases sw <;> rfl, fun sw => by cases sw <;> rfl, fun sw => by cases sw <;> rfl, fun sw => by cases sw <;> rfl⟩, fun sw => by cases sw <;> rfl⟩
    | j + 3, h => absurd h (by omega)⟩
  | 2, _ => ⟨rfl, rfl, rfl, fun sw => by cases sw <;> rfl, fun sw => by cases sw <;> rfl, fun j hj => match j, hj with
    | 0, _ => ⟨⟨rfl, rfl, rfl, rfl, rfl, rfl, rfl, fun sw => by cases sw <;> rfl, fun sw => by cases sw <;> rfl, fun sw => by cases sw <;> rfl, fun sw => by cases sw <;> rfl, fun sw => by cases sw <;> rfl, fun sw => by cases sw <;> rfl⟩, fun sw => by cases sw <;> rfl⟩
    | 1, _ => ⟨⟨rfl, rfl, rfl, rfl, rfl, rfl, rfl, fun sw => by cases sw <;> rfl, fun sw => by cases sw <;> rfl, fun sw => by cases sw <;> rfl, fun sw => by cases sw <;> rfl, fun sw => by cases sw <;> rfl, fun sw => by cases sw <;> rfl⟩, fun sw => by cases sw <;> rfl⟩
    | 2, _ => ⟨⟨rfl, rfl, rfl, rfl, rfl, rfl, rfl, fun sw => by cases sw <;> rfl, fun sw => by cases sw <;> rfl, fun sw => by cases sw <;> rfl, fun sw => by cases sw <;> rfl, fun sw => by cases sw <;> rfl, fun sw => by cases sw <;> rfl⟩, fun sw => by cases sw <;> rfl⟩
    | j + 3, h => absurd h (by omega)⟩
  | 3, _ => ⟨rfl, rfl, rfl, fun sw => by cases sw <;> rfl, fun sw => by cases sw <;> rfl, fun j hj => match j, hj with
    | 0, _ => ⟨⟨rfl, rfl, rfl, rfl, rfl, rfl, rfl, fun sw => by cases sw <;> rfl, fun sw => by cases sw <;> rfl, fun sw => by cases sw <;> rfl, fun sw => by cases sw <;> rfl, fun sw => by cases sw <;> rfl, fun sw => by cases sw <;> rfl⟩, fun sw => by cases sw <;> rfl⟩
    | 1, _ => ⟨⟨rfl, rfl, rfl, rfl, rfl, rfl, rfl, fun sw => by cases sw <;> rfl, fun sw => by cases sw <;> rfl, fun sw => by cases sw <;> rfl, fun sw => by cases sw <;> rfl, fun sw => by cases sw <;> rfl, fun sw => by cases sw <;> rfl⟩, fun sw => by cases sw <;> rfl⟩
    | 2, _ => ⟨⟨rfl, rfl, rfl, rfl, rfl, rfl, rfl, fun sw => by cases sw <;> rfl, fun sw => by cases sw <;> rfl, fun sw => by cases sw <;> rfl, fun sw => by cases sw <;> rfl, fun sw => by cases sw <;> rfl, fun sw => by cases sw <;> rfl⟩, fun sw => by cases sw <;> rfl⟩
    | j + 3, h => absurd h (by omega)⟩
  | 4, _ => ⟨rfl, rfl, rfl, fun sw => by cases sw <;> rfl, fun sw => by cases sw <;> rfl, fun j hj => match j, hj with
    | 0, _ => ⟨⟨rfl, rfl, rfl, rfl, rfl, rfl, rfl, fun sw => by cases sw <;> rfl, fun sw => by cases sw <;> rfl, fun sw => by cases sw <;> rfl, fun sw => by cases sw <;> rfl, fun sw => by cases sw <;> rfl, fun sw => by cases sw <;> rfl⟩, fun sw => by cases sw <;> rfl⟩
    | 1, _ => ⟨⟨rfl, rfl, rfl, rfl, rfl, rfl, rfl, fun sw => by cases sw <;> rfl, fun sw => by cases sw <;> rfl, fun sw => by cases sw <;> rfl, fun sw => by cases sw <;> rfl, fun sw => by cases sw <;> rfl, fun sw => by cases sw <;> rfl⟩, fun sw => by cases sw <;> rfl⟩
    | 2, _ => ⟨⟨rfl, rfl, rfl, rfl, rfl, rfl, rfl, fun sw => by cases sw <;> rfl, fun sw => by cases sw <;> rfl, fun sw => by cases sw <;> rfl, fun sw => by cases sw <;> rfl, fun sw => by cases sw <;> rfl, fun sw => by cases sw <;> rfl⟩, fun sw => by cases sw <;> rfl⟩
    | j + 3, h => absurd h (by omega)⟩
  | k + 5, h => absurd h (by omega)
theorem kBag_161' : kBag 161 := ⟨rfl, rfl, rfl, fun sw => by cases sw <;> rfl, fun sw => by cases sw <;> rfl⟩
theorem kBag_164' : kBag 164 := ⟨rfl, rfl, rfl, fun sw => by cases sw <;> rfl, fun sw => by cases sw <;> rfl⟩
theorem kBag_167' : kBag 167 := ⟨rfl, rfl, rfl, fun sw => by cases sw <;> rfl, fun sw => by cases sw <;> rfl⟩
theorem kNf_170' : kNf 170 := ⟨rfl, rfl, rfl, rfl, rfl, rfl, rfl, rfl, rfl, rfl, fun sw => by cases sw <;> rfl, fun sw => by cases sw <;> rfl, fun sw => by cases sw <;> rfl, fun sw => by cases sw <;> rfl, fun sw => by cases sw <;> rfl, fun sw => by cases sw <;> rfl, fun sw => by cases sw <;> rfl, fun sw => by cases sw <;> rfl, fun sw => by cases sw <;> rfl⟩
theorem kNf_180' : kNf 180 := ⟨rfl, rfl, rfl, rfl, rfl, rfl, rfl, rfl, rfl, rfl, fun sw => by cases sw <;> rfl, fun sw => by cases sw <;> rfl, fun sw => by cases sw <;> rfl, fun sw => by cases sw <;> rfl, fun sw => by cases sw <;> rfl, fun sw => by cases sw <;> rfl, fun sw => by cases sw <;> rfl, fun sw => by cases sw <;> rfl, fun sw => by cases sw <;> rfl⟩
theorem kBag_sw161 {sw : Bool} : kBag (swp sw 161) := by cases sw <;> first | exact kBag_161' | exact kBag_164'
theorem kBag_sw164 {sw : Bool} : kBag (swp sw 164) := by cases sw <;> first | exact kBag_161' | exact kBag_164'
theorem sw_tab {sw : Bool} {k : Nat} (h : k < 4) : swp sw (16 + 3 * k) = 16 + 3 * k := swp_ne (by omega) (by omega)
theorem sw_qu {sw : Bool} {k : Nat} (h : k < 5) : swp sw (36 + 24 * k) = 36 + 24 * k := swp_ne (by omega) (by omega)
theorem el_tab : ∀ {k : Nat}, k < 4 → ([some 16, some 19, some 22, some 25] : List (Option Nat))[k]? = some (some (16 + 3 * k))
  | 0, _ => rfl
  | 1, _ => rfl
  | 2, _ => rfl
  | 3, _ => rfl
  | k + 4, h => absurd h (by omega)
theorem el_qu : ∀ {k : Nat}, k < 5 → ([some 36, some 60, some 84, some 108, some 132] : List (Option Nat))[k]? = some (some (36 + 24 * k))
  | 0, _ => rfl
  | 1, _ => rfl
  | 2, _ => rfl
  | 3, _ => rfl
  | 4, _ => rfl
  | k + 5, h => absurd h (by omega)
theorem el_bl {t : Nat} : ∀ {k : Nat}, k < 3 → ([some (t + 3), some (t + 10), some (t + 17)] : List (Option Nat))[k]? = some (some (t + 3 + 7 * k))
  | 0, _ => rfl
  | 1, _ => rfl
  | 2, _ => rfl
  | k + 3, h => absurd h (by omega)
section MW2
variable {d : Nat} {M : qM} {pc : Nat} {ls : List Slot} {st : List Value} {P : qE → Prop} {X : qH} {mem : Nat → Nat → Int32} {sw : Bool} {o : Int64} {e : List Nat} {i k ct : Nat} {sl : List (Option Nat)}
def qcl (d : Nat) (M : qM) (pc pc' : Nat) (ls : List Slot) (rest : List Value) (P : qE → Prop) : qE → Prop := fun r => (∀ v, r.1 = .inl v → QW (d + 1) M pc' ls (v.toList ++ rest) r.2 P) ∧ (∀ a, r.1 = .inr a → QT (d + 1) M pc ls a r.2 P)
theorem qcl_i {pc' : Nat} {rest : List Value} {v : Value} {h : qH} (k : QW (d + 1) M pc' ls (v :: rest) h P) : qcl d M pc pc' ls rest P (.inl (some v), h) := ⟨fun w hw => by cases hw; exact k, fun a ha => by cases ha⟩
theorem qcl_v {pc' : Nat} {rest : List Value} {h : qH} (k : QW (d + 1) M pc' ls rest h P) : qcl d M pc pc' ls rest P (.inl none, h) := ⟨fun w hw => by cases hw; exact k, fun a ha => by cases ha⟩
theorem qcl_x {pc' a : Nat} {rest : List Value} {h : qH} (hno : M.2.2.2.2 = []) (k : P (.inr a, h)) : qcl d M pc pc' ls rest P (.inr a, h) := ⟨fun w hw => (by cases hw), fun b hb => (by cases hb; exact QT.leave0 hno k)⟩
theorem MW.iinc {n : Int} {q : Nat} {x c : Int32} {ls' : List Slot} (hd : decode M.2.1 pc = .ok (.iinc q n, 3)) (hc : Int32.ofInt n = c) (hl : ls[q]? = some (.val (.int x))) (hs : qsto ls q (.int (x + c)) = some ls') {h : qH} (kk : QW d M (pc + 3) ls' st h P) : QW d M pc ls st h P := by
  subst hc
  exact QW.iinc hd hl hs kk
theorem MW.calV {M2 : qM} {idx b pc' : Nat} {as rest : List Value} {q : vw_C} (hX : X.length = 13) (hd : decode M.2.1 pc = .ok (.invokevirtual idx, 3)) (hm : qme M2) (hl : qlk M.1.cls idx M2) (hi : Cond.instanceMethod M2.1 ∈ lw_tbl) (hse : Cond.selects M2.1.cls M2.1 M2.1 ∈ lw_tbl) (hn : qnp M2 = some as.length) (hst : st = as.reverse ++ .ref b :: rest) (hs : sh b = some (ct, sl)) (hq : classes[ct]? = some q) (hqc : q.1 = M2.1.cls) (hls : ls.length = M.2.2.1) (hw : (rest.map fun v => v.category).sum ≤ 20) (hp : pc + 3 = pc')
    (hC : QW d M2 0 (qen M2.2.2.1 (.ref b :: as)) [] (hpo X mem sw o e) (qcl d M pc pc' ls rest P)) : QW (d + 1) M pc ls st (hpo X mem sw o e) P := by
  subst hp
  exact MW.callV hX hd hm hl hi hse hn hst hs hq hqc hls hw hC (fun v h' z => z.1 v rfl) (fun a h' z => z.2 a rfl)
theorem MW.calS {M2 : qM} {idx pc' : Nat} {as rest : List Value} {h : qH} (hd : decode M.2.1 pc = .ok (.invokestatic idx, 3)) (hm : qme M2) (hl : qlk M.1.cls idx M2) (hs : Cond.static M2.1 ∈ lw_tbl) (hn : qnp M2 = some as.length) (hst : st = as.reverse ++ rest) (hls : ls.length = M.2.2.1) (hw : (rest.map fun v => v.category).sum ≤ 20) (hp : pc + 3 = pc')
    (hC : QW d M2 0 (qen M2.2.2.1 as) [] h (qcl d M pc pc' ls rest P)) : QW (d + 1) M pc ls st h P := by
  subst hp
  exact QW.callS hd hm hl hs hn hst hls hw hC (fun v h' z => z.1 v rfl) (fun a h' z => z.2 a rfl)
end MW2
end
section
section BLK
variable {d : Nat} {P : qE → Prop} {X : qH} {mem : Nat → Nat → Int32} {sw : Bool} {o : Int64} {e : List Nat}
theorem dBp_table_0 : decode mBp_table.2.1 0 = .ok (.iload_n 1, 1) := by decide +kernel
theorem dBp_table_1 : decode mBp_table.2.1 1 = .ok (.iconst 1, 1) := by decide +kernel
theorem dBp_table_2 : decode mBp_table.2.1 2 = .ok (.if_icmp .lt 8, 3) := by decide +kernel
theorem dBp_table_5 : decode mBp_table.2.1 5 = .ok (.iload_n 1, 1) := by decide +kernel
theorem dBp_table_6 : decode mBp_table.2.1 6 = .ok (.iconst 3, 1) := by decide +kernel
theorem dBp_table_7 : decode mBp_table.2.1 7 = .ok (.if_icmp .le 13, 3) := by decide +kernel
theorem dBp_table_10 : decode mBp_table.2.1 10 = .ok (.new 81, 3) := by decide +kernel
theorem dBp_table_13 : decode mBp_table.2.1 13 = .ok (.dup, 1) := by decide +kernel
theorem dBp_table_14 : decode mBp_table.2.1 14 = .ok (.ldc 83, 2) := by decide +kernel
theorem dBp_table_16 : decode mBp_table.2.1 16 = .ok (.invokespecial 85, 3) := by decide +kernel
theorem dBp_table_19 : decode mBp_table.2.1 19 = .ok (.athrow, 1) := by decide +kernel
theorem dBp_table_20 : decode mBp_table.2.1 20 = .ok (.aload_n 0, 1) := by decide +kernel
theorem dBp_table_21 : decode mBp_table.2.1 21 = .ok (.getfield 12, 3) := by decide +kernel
theorem dBp_table_24 : decode mBp_table.2.1 24 = .ok (.getfield 88, 3) := by decide +kernel
theorem dBp_table_27 : decode mBp_table.2.1 27 = .ok (.iconst 4, 1) := by decide +kernel
theorem dBp_table_28 : decode mBp_table.2.1 28 = .ok (.if_icmp .lt 13, 3) := by decide +kernel
theorem dBp_table_31 : decode mBp_table.2.1 31 = .ok (.new 91, 3) := by decide +kernel
theorem dBp_table_34 : decode mBp_table.2.1 34 = .ok (.dup, 1) := by decide +kernel
theorem dBp_table_35 : decode mBp_table.2.1 35 = .ok (.ldc 93, 2) := by decide +kernel
theorem dBp_table_37 : decode mBp_table.2.1 37 = .ok (.invokespecial 95, 3) := by decide +kernel
theorem dBp_table_40 : decode mBp_table.2.1 40 = .ok (.athrow, 1) := by decide +kernel
theorem dBp_table_41 : decode mBp_table.2.1 41 = .ok (.aload_n 0, 1) := by decide +kernel
theorem dBp_table_42 : decode mBp_table.2.1 42 = .ok (.getfield 12, 3) := by decide +kernel
theorem dBp_table_45 : decode mBp_table.2.1 45 = .ok (.iload_n 1, 1) := by decide +kernel
theorem dBp_table_46 : decode mBp_table.2.1 46 = .ok (.invokevirtual 96, 3) := by decide +kernel
theorem dBp_table_49 : decode mBp_table.2.1 49 = .ok (.ireturn, 1) := by decide +kernel
def lBp_table_10 (a1 : Int32) : List Slot := [.val (.ref 13), .val (.int a1)]
def lBp_table_49 (a1 : Int32) : List Slot := [.val (.ref 13), .val (.int a1)]
theorem bBp_table_0 {a1 : Int32} (hX : X.length = 13) (k1 : (a1 < 1) → QW (d + 1) mBp_table 10 (lBp_table_10 a1) [] (hpo X mem sw o e) P) (k2 : (¬ a1 < 1) → (a1 ≤ 3) → ((mem 14 1) < 4) → QW d mCat_make 0 (qen 2 [.ref 14, .int a1]) [] (hpo X mem sw o e) (qcl d mBp_table 46 49 (lBp_table_49 a1) [] P)) (c3 : e.length < 10000) (k4 : (¬ a1 < 1) → (a1 ≤ 3) → (¬ (mem 14 1) < 4) → P (.inr (225 + e.length), hpo X mem sw o (e ++ [21]))) (k5 : (¬ a1 < 1) → (¬ a1 ≤ 3) → QW (d + 1) mBp_table 10 (lBp_table_10 a1) [] (hpo X mem sw o e) P) : QW (d + 1) mBp_table 0 (qen 2 [.ref 13, .int a1]) [] (hpo X mem sw o e) P := by
  show QW (d + 1) mBp_table 0 [.val (.ref 13), .val (.int a1)] [] (hpo X mem sw o e) P
  refine QW.iload_n dBp_table_0 rfl rfl ?_
  refine QW.iconst (v := 1) dBp_table_1 (by decide) ?_
  refine QW.icmp_lt (tgt := 10) dBp_table_2 (by decide) (fun z0 => ?_) (fun z0 => ?_)
  · exact (k1 z0)
  · refine QW.iload_n dBp_table_5 rfl rfl ?_
    refine QW.iconst (v := 3) dBp_table_6 (by decide) ?_
    refine QW.icmp_le (tgt := 20) dBp_table_7 (by decide) (fun z1 => ?_) (fun z1 => ?_)
    · refine QW.aload_n dBp_table_20 rfl rfl ?_
      refine MW.getr (r' := 14) hX dBp_table_21 fBp_12 rfl rfl (by cases sw <;> rfl) ?_
      refine MW.geti hX dBp_table_24 fBp_88 rfl rfl ?_
      refine QW.iconst (v := 4) dBp_table_27 (by decide) ?_
      refine QW.icmp_lt (tgt := 41) dBp_table_28 (by decide) (fun z2 => ?_) (fun z2 => ?_)
      · refine QW.aload_n dBp_table_41 rfl rfl ?_
        refine MW.getr (r' := 14) hX dBp_table_42 fBp_12 rfl rfl (by cases sw <;> rfl) ?_
        refine QW.iload_n dBp_table_45 rfl rfl ?_
        exact MW.calV (as := [.int a1]) (rest := []) hX dBp_table_46 eCat_make lBp_96 iCat_make vCat_make rfl rfl rfl rfl rfl rfl (Nat.le_of_ble_eq_true rfl) rfl (k2 z0 z1 z2)
      · exact MW.thr hX tBp_93_95 dBp_table_31 dBp_table_34 dBp_table_35 dBp_table_37 dBp_table_40 rfl c3 rfl (k4 z0 z1 z2)
    · exact (k5 z0 z1)
theorem bBp_table_10 {a1 : Int32} (hX : X.length = 13) (c1 : e.length < 10000) (k2 : P (.inr (225 + e.length), hpo X mem sw o (e ++ [20]))) : QW d mBp_table 10 (lBp_table_10 a1) [] (hpo X mem sw o e) P := by
  show QW d mBp_table 10 [.val (.ref 13), .val (.int a1)] [] (hpo X mem sw o e) P
  exact MW.thr hX tBp_83_85 dBp_table_10 dBp_table_13 dBp_table_14 dBp_table_16 dBp_table_19 rfl c1 rfl k2
theorem bBp_table_49 {a1 : Int32} {s0 : Int32} (hX : X.length = 13) (k1 : P (.inl (some (.int s0)), (hpo X mem sw o e))) : QW d mBp_table 49 (lBp_table_49 a1) [.int s0] (hpo X mem sw o e) P := by
  show QW d mBp_table 49 [.val (.ref 13), .val (.int a1)] [.int s0] (hpo X mem sw o e) P
  exact QW.iret dBp_table_49 rfl rfl k1
theorem dBp_key_0 : decode mBp_key.2.1 0 = .ok (.aload_n 0, 1) := by decide +kernel
theorem dBp_key_1 : decode mBp_key.2.1 1 = .ok (.iload_n 1, 1) := by decide +kernel
theorem dBp_key_2 : decode mBp_key.2.1 2 = .ok (.iload_n 2, 1) := by decide +kernel
theorem dBp_key_3 : decode mBp_key.2.1 3 = .ok (.invokevirtual 100, 3) := by decide +kernel
theorem dBp_key_6 : decode mBp_key.2.1 6 = .ok (.astore_n 3, 1) := by decide +kernel
theorem dBp_key_7 : decode mBp_key.2.1 7 = .ok (.aload_n 3, 1) := by decide +kernel
theorem dBp_key_8 : decode mBp_key.2.1 8 = .ok (.iload_n 2, 1) := by decide +kernel
theorem dBp_key_9 : decode mBp_key.2.1 9 = .ok (.invokevirtual 104, 3) := by decide +kernel
theorem dBp_key_12 : decode mBp_key.2.1 12 = .ok (.ifCond .eq 13, 3) := by decide +kernel
theorem dBp_key_15 : decode mBp_key.2.1 15 = .ok (.new 91, 3) := by decide +kernel
theorem dBp_key_18 : decode mBp_key.2.1 18 = .ok (.dup, 1) := by decide +kernel
theorem dBp_key_19 : decode mBp_key.2.1 19 = .ok (.ldc 110, 2) := by decide +kernel
theorem dBp_key_21 : decode mBp_key.2.1 21 = .ok (.invokespecial 95, 3) := by decide +kernel
theorem dBp_key_24 : decode mBp_key.2.1 24 = .ok (.athrow, 1) := by decide +kernel
theorem dBp_key_25 : decode mBp_key.2.1 25 = .ok (.aload_n 3, 1) := by decide +kernel
theorem dBp_key_26 : decode mBp_key.2.1 26 = .ok (.getfield 112, 3) := by decide +kernel
theorem dBp_key_29 : decode mBp_key.2.1 29 = .ok (.iload_n 2, 1) := by decide +kernel
theorem dBp_key_30 : decode mBp_key.2.1 30 = .ok (.iconst 1, 1) := by decide +kernel
theorem dBp_key_31 : decode mBp_key.2.1 31 = .ok (.bastore, 1) := by decide +kernel
theorem dBp_key_32 : decode mBp_key.2.1 32 = .ok (.return_, 1) := by decide +kernel
def lBp_key_6 (a1 : Int32) (a2 : Int32) : List Slot := [.val (.ref 13), .val (.int a1), .val (.int a2), .unset]
def lBp_key_12 (a1 : Int32) (a2 : Int32) (r3 : Nat) : List Slot := [.val (.ref 13), .val (.int a1), .val (.int a2), .val (.ref r3)]
theorem bBp_key_0 {a1 : Int32} {a2 : Int32} (hX : X.length = 13) (k1 : QW d mBp_tableWithColumn 0 (qen 3 [.ref 13, .int a1, .int a2]) [] (hpo X mem sw o e) (qcl d mBp_key 3 6 (lBp_key_6 a1 a2) [] P)) : QW (d + 1) mBp_key 0 (qen 4 [.ref 13, .int a1, .int a2]) [] (hpo X mem sw o e) P := by
  show QW (d + 1) mBp_key 0 [.val (.ref 13), .val (.int a1), .val (.int a2), .unset] [] (hpo X mem sw o e) P
  refine QW.aload_n dBp_key_0 rfl rfl ?_
  refine QW.iload_n dBp_key_1 rfl rfl ?_
  refine QW.iload_n dBp_key_2 rfl rfl ?_
  exact MW.calV (as := [.int a1, .int a2]) (rest := []) hX dBp_key_3 eBp_tableWithColumn lBp_100 iBp_tableWithColumn vBp_tableWithColumn rfl rfl rfl rfl rfl rfl (Nat.le_of_ble_eq_true rfl) rfl k1
theorem bBp_key_6 {a1 : Int32} {a2 : Int32} {q0 : Nat} (hX : X.length = 13) (hq0 : kTab q0) (k1 : QW d mTab_hasTwins 0 (qen 4 [.ref q0, .int a2]) [] (hpo X mem sw o e) (qcl d mBp_key 9 12 (lBp_key_12 a1 a2 q0) [] P)) : QW (d + 1) mBp_key 6 (lBp_key_6 a1 a2) [.ref q0] (hpo X mem sw o e) P := by
  show QW (d + 1) mBp_key 6 [.val (.ref 13), .val (.int a1), .val (.int a2), .unset] [.ref q0] (hpo X mem sw o e) P
  refine QW.astore_n (ls' := [.val (.ref 13), .val (.int a1), .val (.int a2), .val (.ref q0)]) dBp_key_6 rfl rfl ?_
  refine QW.aload_n dBp_key_7 rfl rfl ?_
  refine QW.iload_n dBp_key_8 rfl rfl ?_
  exact MW.calV (as := [.int a2]) (rest := []) hX dBp_key_9 eTab_hasTwins lBp_104 iTab_hasTwins vTab_hasTwins rfl rfl (kTab_0 hq0) rfl rfl rfl (Nat.le_of_ble_eq_true rfl) rfl k1
theorem bBp_key_12 {a1 : Int32} {a2 : Int32} {r3 : Nat} {s0 : Int32} (hX : X.length = 13) (hr3 : kTab r3) (h1 : (s0 = 0) → inx a2 3) (k2 : (s0 = 0) → P (.inl none, (hpo X (mup mem (r3 + 1) (Int32.toNatClampNeg a2) 1) sw o e))) (c3 : e.length < 10000) (k4 : (¬ s0 = 0) → P (.inr (225 + e.length), hpo X mem sw o (e ++ [21]))) : QW d mBp_key 12 (lBp_key_12 a1 a2 r3) [.int s0] (hpo X mem sw o e) P := by
  show QW d mBp_key 12 [.val (.ref 13), .val (.int a1), .val (.int a2), .val (.ref r3)] [.int s0] (hpo X mem sw o e) P
  refine QW.if_eq (tgt := 25) dBp_key_12 (by decide) (fun z0 => ?_) (fun z0 => ?_)
  · refine QW.aload_n dBp_key_25 rfl rfl ?_
    refine MW.getr (r' := (r3 + 1)) hX dBp_key_26 fBp_112 (kTab_0 hr3) rfl (kTab_s1 hr3 _) ?_
    refine QW.iload_n dBp_key_29 rfl rfl ?_
    refine QW.iconst (v := 1) dBp_key_30 (by decide) ?_
    refine MW.zast hX dBp_key_31 (kTab_1 hr3) (h1 z0).1 (rep_get (h1 z0).2) rfl ?_
    exact QW.vret dBp_key_32 rfl (k2 z0)
  · exact MW.thr hX tBp_110_95 dBp_key_15 dBp_key_18 dBp_key_19 dBp_key_21 dBp_key_24 rfl c3 rfl (k4 z0)
theorem dBp_insert_0 : decode mBp_insert.2.1 0 = .ok (.aload_n 0, 1) := by decide +kernel
theorem dBp_insert_1 : decode mBp_insert.2.1 1 = .ok (.getfield 12, 3) := by decide +kernel
theorem dBp_insert_4 : decode mBp_insert.2.1 4 = .ok (.iload_n 1, 1) := by decide +kernel
theorem dBp_insert_5 : decode mBp_insert.2.1 5 = .ok (.invokevirtual 116, 3) := by decide +kernel
theorem dBp_insert_8 : decode mBp_insert.2.1 8 = .ok (.ifCond .ne 13, 3) := by decide +kernel
theorem dBp_insert_11 : decode mBp_insert.2.1 11 = .ok (.new 81, 3) := by decide +kernel
theorem dBp_insert_14 : decode mBp_insert.2.1 14 = .ok (.dup, 1) := by decide +kernel
theorem dBp_insert_15 : decode mBp_insert.2.1 15 = .ok (.ldc 119, 2) := by decide +kernel
theorem dBp_insert_17 : decode mBp_insert.2.1 17 = .ok (.invokespecial 85, 3) := by decide +kernel
theorem dBp_insert_20 : decode mBp_insert.2.1 20 = .ok (.athrow, 1) := by decide +kernel
theorem dBp_insert_21 : decode mBp_insert.2.1 21 = .ok (.aload_n 0, 1) := by decide +kernel
theorem dBp_insert_22 : decode mBp_insert.2.1 22 = .ok (.getfield 12, 3) := by decide +kernel
theorem dBp_insert_25 : decode mBp_insert.2.1 25 = .ok (.getfield 121, 3) := by decide +kernel
theorem dBp_insert_28 : decode mBp_insert.2.1 28 = .ok (.iload_n 1, 1) := by decide +kernel
theorem dBp_insert_29 : decode mBp_insert.2.1 29 = .ok (.aaload, 1) := by decide +kernel
theorem dBp_insert_30 : decode mBp_insert.2.1 30 = .ok (.astore 5, 2) := by decide +kernel
theorem dBp_insert_32 : decode mBp_insert.2.1 32 = .ok (.aload 5, 2) := by decide +kernel
theorem dBp_insert_34 : decode mBp_insert.2.1 34 = .ok (.getfield 125, 3) := by decide +kernel
theorem dBp_insert_37 : decode mBp_insert.2.1 37 = .ok (.bipush 8, 2) := by decide +kernel
theorem dBp_insert_39 : decode mBp_insert.2.1 39 = .ok (.if_icmp .lt 13, 3) := by decide +kernel
theorem dBp_insert_42 : decode mBp_insert.2.1 42 = .ok (.new 91, 3) := by decide +kernel
theorem dBp_insert_45 : decode mBp_insert.2.1 45 = .ok (.dup, 1) := by decide +kernel
theorem dBp_insert_46 : decode mBp_insert.2.1 46 = .ok (.ldc 128, 2) := by decide +kernel
theorem dBp_insert_48 : decode mBp_insert.2.1 48 = .ok (.invokespecial 95, 3) := by decide +kernel
theorem dBp_insert_51 : decode mBp_insert.2.1 51 = .ok (.athrow, 1) := by decide +kernel
theorem dBp_insert_52 : decode mBp_insert.2.1 52 = .ok (.aload 5, 2) := by decide +kernel
theorem dBp_insert_54 : decode mBp_insert.2.1 54 = .ok (.iload_n 2, 1) := by decide +kernel
theorem dBp_insert_55 : decode mBp_insert.2.1 55 = .ok (.iload_n 3, 1) := by decide +kernel
theorem dBp_insert_56 : decode mBp_insert.2.1 56 = .ok (.iload 4, 2) := by decide +kernel
theorem dBp_insert_58 : decode mBp_insert.2.1 58 = .ok (.invokevirtual 130, 3) := by decide +kernel
theorem dBp_insert_61 : decode mBp_insert.2.1 61 = .ok (.ifCond .eq 13, 3) := by decide +kernel
theorem dBp_insert_64 : decode mBp_insert.2.1 64 = .ok (.new 91, 3) := by decide +kernel
theorem dBp_insert_67 : decode mBp_insert.2.1 67 = .ok (.dup, 1) := by decide +kernel
theorem dBp_insert_68 : decode mBp_insert.2.1 68 = .ok (.ldc 134, 2) := by decide +kernel
theorem dBp_insert_70 : decode mBp_insert.2.1 70 = .ok (.invokespecial 95, 3) := by decide +kernel
theorem dBp_insert_73 : decode mBp_insert.2.1 73 = .ok (.athrow, 1) := by decide +kernel
theorem dBp_insert_74 : decode mBp_insert.2.1 74 = .ok (.aload 5, 2) := by decide +kernel
theorem dBp_insert_76 : decode mBp_insert.2.1 76 = .ok (.iload_n 2, 1) := by decide +kernel
theorem dBp_insert_77 : decode mBp_insert.2.1 77 = .ok (.iload_n 3, 1) := by decide +kernel
theorem dBp_insert_78 : decode mBp_insert.2.1 78 = .ok (.iload 4, 2) := by decide +kernel
theorem dBp_insert_80 : decode mBp_insert.2.1 80 = .ok (.invokevirtual 136, 3) := by decide +kernel
theorem dBp_insert_83 : decode mBp_insert.2.1 83 = .ok (.ireturn, 1) := by decide +kernel
def lBp_insert_8 (a1 : Int32) (a2 : Int32) (a3 : Int32) (a4 : Int32) : List Slot := [.val (.ref 13), .val (.int a1), .val (.int a2), .val (.int a3), .val (.int a4), .unset]
def lBp_insert_61 (a1 : Int32) (a2 : Int32) (a3 : Int32) (a4 : Int32) (r5 : Nat) : List Slot := [.val (.ref 13), .val (.int a1), .val (.int a2), .val (.int a3), .val (.int a4), .val (.ref r5)]
def lBp_insert_83 (a1 : Int32) (a2 : Int32) (a3 : Int32) (a4 : Int32) (r5 : Nat) : List Slot := [.val (.ref 13), .val (.int a1), .val (.int a2), .val (.int a3), .val (.int a4), .val (.ref r5)]
theorem bBp_insert_0 {a1 : Int32} {a2 : Int32} {a3 : Int32} {a4 : Int32} (hX : X.length = 13) (k1 : QW d mCat_has 0 (qen 2 [.ref 14, .int a1]) [] (hpo X mem sw o e) (qcl d mBp_insert 5 8 (lBp_insert_8 a1 a2 a3 a4) [] P)) : QW (d + 1) mBp_insert 0 (qen 6 [.ref 13, .int a1, .int a2, .int a3, .int a4]) [] (hpo X mem sw o e) P := by
  show QW (d + 1) mBp_insert 0 [.val (.ref 13), .val (.int a1), .val (.int a2), .val (.int a3), .val (.int a4), .unset] [] (hpo X mem sw o e) P
  refine QW.aload_n dBp_insert_0 rfl rfl ?_
  refine MW.getr (r' := 14) hX dBp_insert_1 fBp_12 rfl rfl (by cases sw <;> rfl) ?_
  refine QW.iload_n dBp_insert_4 rfl rfl ?_
  exact MW.calV (as := [.int a1]) (rest := []) hX dBp_insert_5 eCat_has lBp_116 iCat_has vCat_has rfl rfl rfl rfl rfl rfl (Nat.le_of_ble_eq_true rfl) rfl k1
theorem bBp_insert_8 {a1 : Int32} {a2 : Int32} {a3 : Int32} {a4 : Int32} {s0 : Int32} (hX : X.length = 13) (h1 : (¬ s0 = 0) → inx a1 4) (k2 : (¬ s0 = 0) → ((mem (16 + 3 * (Int32.toNatClampNeg a1)) 1) < 8) → QW d mTab_breaksKey 0 (qen 4 [.ref (16 + 3 * (Int32.toNatClampNeg a1)), .int a2, .int a3, .int a4]) [] (hpo X mem sw o e) (qcl d mBp_insert 58 61 (lBp_insert_61 a1 a2 a3 a4 (16 + 3 * (Int32.toNatClampNeg a1))) [] P)) (c3 : e.length < 10000) (k4 : (¬ s0 = 0) → (¬ (mem (16 + 3 * (Int32.toNatClampNeg a1)) 1) < 8) → P (.inr (225 + e.length), hpo X mem sw o (e ++ [21]))) (c5 : e.length < 10000) (k6 : (s0 = 0) → P (.inr (225 + e.length), hpo X mem sw o (e ++ [20]))) : QW (d + 1) mBp_insert 8 (lBp_insert_8 a1 a2 a3 a4) [.int s0] (hpo X mem sw o e) P := by
  show QW (d + 1) mBp_insert 8 [.val (.ref 13), .val (.int a1), .val (.int a2), .val (.int a3), .val (.int a4), .unset] [.int s0] (hpo X mem sw o e) P
  refine QW.if_ne (tgt := 21) dBp_insert_8 (by decide) (fun z0 => ?_) (fun z0 => ?_)
  · refine QW.aload_n dBp_insert_21 rfl rfl ?_
    refine MW.getr (r' := 14) hX dBp_insert_22 fBp_12 rfl rfl (by cases sw <;> rfl) ?_
    refine MW.getr (r' := 15) hX dBp_insert_25 fBp_121 rfl rfl (by cases sw <;> rfl) ?_
    refine QW.iload_n dBp_insert_28 rfl rfl ?_
    refine MW.aald (r' := (16 + 3 * (Int32.toNatClampNeg a1))) hX dBp_insert_29 rfl rfl (Nat.le_of_ble_eq_true rfl) (h1 z0).1 (el_tab (h1 z0).2) (sw_tab (h1 z0).2) ?_
    refine QW.astore (ls' := [.val (.ref 13), .val (.int a1), .val (.int a2), .val (.int a3), .val (.int a4), .val (.ref (16 + 3 * (Int32.toNatClampNeg a1)))]) dBp_insert_30 rfl ?_
    refine QW.aload dBp_insert_32 rfl ?_
    refine MW.geti hX dBp_insert_34 fBp_125 (kTab_0 (kTab_at (h1 z0).2)) rfl ?_
    refine QW.bipush (v := 8) dBp_insert_37 (by decide) ?_
    refine QW.icmp_lt (tgt := 52) dBp_insert_39 (by decide) (fun z1 => ?_) (fun z1 => ?_)
    · refine QW.aload dBp_insert_52 rfl ?_
      refine QW.iload_n dBp_insert_54 rfl rfl ?_
      refine QW.iload_n dBp_insert_55 rfl rfl ?_
      refine QW.iload dBp_insert_56 rfl ?_
      exact MW.calV (as := [.int a2, .int a3, .int a4]) (rest := []) hX dBp_insert_58 eTab_breaksKey lBp_130 iTab_breaksKey vTab_breaksKey rfl rfl (kTab_0 (kTab_at (h1 z0).2)) rfl rfl rfl (Nat.le_of_ble_eq_true rfl) rfl (k2 z0 z1)
    · exact MW.thr hX tBp_128_95 dBp_insert_42 dBp_insert_45 dBp_insert_46 dBp_insert_48 dBp_insert_51 rfl c3 rfl (k4 z0 z1)
  · exact MW.thr hX tBp_119_85 dBp_insert_11 dBp_insert_14 dBp_insert_15 dBp_insert_17 dBp_insert_20 rfl c5 rfl (k6 z0)
theorem bBp_insert_61 {a1 : Int32} {a2 : Int32} {a3 : Int32} {a4 : Int32} {r5 : Nat} {s0 : Int32} (hX : X.length = 13) (hr5 : kTab r5) (k1 : (s0 = 0) → QW d mTab_append 0 (qen 5 [.ref r5, .int a2, .int a3, .int a4]) [] (hpo X mem sw o e) (qcl d mBp_insert 80 83 (lBp_insert_83 a1 a2 a3 a4 r5) [] P)) (c2 : e.length < 10000) (k3 : (¬ s0 = 0) → P (.inr (225 + e.length), hpo X mem sw o (e ++ [21]))) : QW (d + 1) mBp_insert 61 (lBp_insert_61 a1 a2 a3 a4 r5) [.int s0] (hpo X mem sw o e) P := by
  show QW (d + 1) mBp_insert 61 [.val (.ref 13), .val (.int a1), .val (.int a2), .val (.int a3), .val (.int a4), .val (.ref r5)] [.int s0] (hpo X mem sw o e) P
  refine QW.if_eq (tgt := 74) dBp_insert_61 (by decide) (fun z0 => ?_) (fun z0 => ?_)
  · refine QW.aload dBp_insert_74 rfl ?_
    refine QW.iload_n dBp_insert_76 rfl rfl ?_
    refine QW.iload_n dBp_insert_77 rfl rfl ?_
    refine QW.iload dBp_insert_78 rfl ?_
    exact MW.calV (as := [.int a2, .int a3, .int a4]) (rest := []) hX dBp_insert_80 eTab_append lBp_136 iTab_append vTab_append rfl rfl (kTab_0 hr5) rfl rfl rfl (Nat.le_of_ble_eq_true rfl) rfl (k1 z0)
  · exact MW.thr hX tBp_134_95 dBp_insert_64 dBp_insert_67 dBp_insert_68 dBp_insert_70 dBp_insert_73 rfl c2 rfl (k3 z0)
theorem bBp_insert_83 {a1 : Int32} {a2 : Int32} {a3 : Int32} {a4 : Int32} {r5 : Nat} {s0 : Int32} (hX : X.length = 13) (hr5 : kTab r5) (k1 : P (.inl (some (.int s0)), (hpo X mem sw o e))) : QW d mBp_insert 83 (lBp_insert_83 a1 a2 a3 a4 r5) [.int s0] (hpo X mem sw o e) P := by
  show QW d mBp_insert 83 [.val (.ref 13), .val (.int a1), .val (.int a2), .val (.int a3), .val (.int a4), .val (.ref r5)] [.int s0] (hpo X mem sw o e) P
  exact QW.iret dBp_insert_83 rfl rfl k1
theorem dBp_delete_0 : decode mBp_delete.2.1 0 = .ok (.aload_n 0, 1) := by decide +kernel
theorem dBp_delete_1 : decode mBp_delete.2.1 1 = .ok (.iload_n 1, 1) := by decide +kernel
theorem dBp_delete_2 : decode mBp_delete.2.1 2 = .ok (.iload_n 2, 1) := by decide +kernel
theorem dBp_delete_3 : decode mBp_delete.2.1 3 = .ok (.invokevirtual 100, 3) := by decide +kernel
theorem dBp_delete_6 : decode mBp_delete.2.1 6 = .ok (.iload_n 2, 1) := by decide +kernel
theorem dBp_delete_7 : decode mBp_delete.2.1 7 = .ok (.iload_n 3, 1) := by decide +kernel
theorem dBp_delete_8 : decode mBp_delete.2.1 8 = .ok (.invokevirtual 140, 3) := by decide +kernel
theorem dBp_delete_11 : decode mBp_delete.2.1 11 = .ok (.ireturn, 1) := by decide +kernel
def lBp_delete_6 (a1 : Int32) (a2 : Int32) (a3 : Int32) : List Slot := [.val (.ref 13), .val (.int a1), .val (.int a2), .val (.int a3)]
def lBp_delete_11 (a1 : Int32) (a2 : Int32) (a3 : Int32) : List Slot := [.val (.ref 13), .val (.int a1), .val (.int a2), .val (.int a3)]
theorem bBp_delete_0 {a1 : Int32} {a2 : Int32} {a3 : Int32} (hX : X.length = 13) (k1 : QW d mBp_tableWithColumn 0 (qen 3 [.ref 13, .int a1, .int a2]) [] (hpo X mem sw o e) (qcl d mBp_delete 3 6 (lBp_delete_6 a1 a2 a3) [] P)) : QW (d + 1) mBp_delete 0 (qen 4 [.ref 13, .int a1, .int a2, .int a3]) [] (hpo X mem sw o e) P := by
  show QW (d + 1) mBp_delete 0 [.val (.ref 13), .val (.int a1), .val (.int a2), .val (.int a3)] [] (hpo X mem sw o e) P
  refine QW.aload_n dBp_delete_0 rfl rfl ?_
  refine QW.iload_n dBp_delete_1 rfl rfl ?_
  refine QW.iload_n dBp_delete_2 rfl rfl ?_
  exact MW.calV (as := [.int a1, .int a2]) (rest := []) hX dBp_delete_3 eBp_tableWithColumn lBp_100 iBp_tableWithColumn vBp_tableWithColumn rfl rfl rfl rfl rfl rfl (Nat.le_of_ble_eq_true rfl) rfl k1
theorem bBp_delete_6 {a1 : Int32} {a2 : Int32} {a3 : Int32} {q0 : Nat} (hX : X.length = 13) (hq0 : kTab q0) (k1 : QW d mTab_takeOut 0 (qen 5 [.ref q0, .int a2, .int a3]) [] (hpo X mem sw o e) (qcl d mBp_delete 8 11 (lBp_delete_11 a1 a2 a3) [] P)) : QW (d + 1) mBp_delete 6 (lBp_delete_6 a1 a2 a3) [.ref q0] (hpo X mem sw o e) P := by
  show QW (d + 1) mBp_delete 6 [.val (.ref 13), .val (.int a1), .val (.int a2), .val (.int a3)] [.ref q0] (hpo X mem sw o e) P
  refine QW.iload_n dBp_delete_6 rfl rfl ?_
  refine QW.iload_n dBp_delete_7 rfl rfl ?_
  exact MW.calV (as := [.int a2, .int a3]) (rest := []) hX dBp_delete_8 eTab_takeOut lBp_140 iTab_takeOut vTab_takeOut rfl rfl (kTab_0 hq0) rfl rfl rfl (Nat.le_of_ble_eq_true rfl) rfl k1
theorem bBp_delete_11 {a1 : Int32} {a2 : Int32} {a3 : Int32} {s0 : Int32} (hX : X.length = 13) (k1 : P (.inl (some (.int s0)), (hpo X mem sw o e))) : QW d mBp_delete 11 (lBp_delete_11 a1 a2 a3) [.int s0] (hpo X mem sw o e) P := by
  show QW d mBp_delete 11 [.val (.ref 13), .val (.int a1), .val (.int a2), .val (.int a3)] [.int s0] (hpo X mem sw o e) P
  exact QW.iret dBp_delete_11 rfl rfl k1
theorem dBp_write_0 : decode mBp_write.2.1 0 = .ok (.aload_n 0, 1) := by decide +kernel
theorem dBp_write_1 : decode mBp_write.2.1 1 = .ok (.getfield 19, 3) := by decide +kernel
theorem dBp_write_4 : decode mBp_write.2.1 4 = .ok (.lload_n 1, 1) := by decide +kernel
theorem dBp_write_5 : decode mBp_write.2.1 5 = .ok (.invokevirtual 144, 3) := by decide +kernel
theorem dBp_write_8 : decode mBp_write.2.1 8 = .ok (.ireturn, 1) := by decide +kernel
def lBp_write_8 (a1 : Int64) : List Slot := [.val (.ref 13), .val (.long a1), .second]
theorem bBp_write_0 {a1 : Int64} (hX : X.length = 13) (k1 : QW d mTxt_append 0 (qen 6 [.ref 28, .long a1]) [] (hpo X mem sw o e) (qcl d mBp_write 5 8 (lBp_write_8 a1) [] P)) : QW (d + 1) mBp_write 0 (qen 3 [.ref 13, .long a1]) [] (hpo X mem sw o e) P := by
  show QW (d + 1) mBp_write 0 [.val (.ref 13), .val (.long a1), .second] [] (hpo X mem sw o e) P
  refine QW.aload_n dBp_write_0 rfl rfl ?_
  refine MW.getr (r' := 28) hX dBp_write_1 fBp_19 rfl rfl (by cases sw <;> rfl) ?_
  refine QW.lload_n dBp_write_4 rfl rfl ?_
  exact MW.calV (as := [.long a1]) (rest := []) hX dBp_write_5 eTxt_append lBp_144 iTxt_append vTxt_append rfl rfl rfl rfl rfl rfl (Nat.le_of_ble_eq_true rfl) rfl k1
theorem bBp_write_8 {a1 : Int64} {s0 : Int32} (hX : X.length = 13) (h1 : narrow .boolean (.int s0) = .int s0) (k2 : P (.inl (some (.int s0)), (hpo X mem sw o e))) : QW d mBp_write 8 (lBp_write_8 a1) [.int s0] (hpo X mem sw o e) P := by
  show QW d mBp_write 8 [.val (.ref 13), .val (.long a1), .second] [.int s0] (hpo X mem sw o e) P
  exact QW.iret dBp_write_8 rfl h1 k2
theorem dBp_wipe_0 : decode mBp_wipe.2.1 0 = .ok (.aload_n 0, 1) := by decide +kernel
theorem dBp_wipe_1 : decode mBp_wipe.2.1 1 = .ok (.getfield 19, 3) := by decide +kernel
theorem dBp_wipe_4 : decode mBp_wipe.2.1 4 = .ok (.invokevirtual 147, 3) := by decide +kernel
theorem dBp_wipe_7 : decode mBp_wipe.2.1 7 = .ok (.ireturn, 1) := by decide +kernel
def lBp_wipe_7  : List Slot := [.val (.ref 13)]
theorem bBp_wipe_0 (hX : X.length = 13) (k1 : QW d mTxt_clear 0 (qen 2 [.ref 28]) [] (hpo X mem sw o e) (qcl d mBp_wipe 4 7 lBp_wipe_7 [] P)) : QW (d + 1) mBp_wipe 0 (qen 1 [.ref 13]) [] (hpo X mem sw o e) P := by
  show QW (d + 1) mBp_wipe 0 [.val (.ref 13)] [] (hpo X mem sw o e) P
  refine QW.aload_n dBp_wipe_0 rfl rfl ?_
  refine MW.getr (r' := 28) hX dBp_wipe_1 fBp_19 rfl rfl (by cases sw <;> rfl) ?_
  exact MW.calV (as := []) (rest := []) hX dBp_wipe_4 eTxt_clear lBp_147 iTxt_clear vTxt_clear rfl rfl rfl rfl rfl rfl (Nat.le_of_ble_eq_true rfl) rfl k1
theorem bBp_wipe_7 {s0 : Int32} (hX : X.length = 13) (k1 : P (.inl (some (.int s0)), (hpo X mem sw o e))) : QW d mBp_wipe 7 (lBp_wipe_7) [.int s0] (hpo X mem sw o e) P := by
  show QW d mBp_wipe 7 [.val (.ref 13)] [.int s0] (hpo X mem sw o e) P
  exact QW.iret dBp_wipe_7 rfl rfl k1
theorem dBp_place_0 : decode mBp_place.2.1 0 = .ok (.aload_n 0, 1) := by decide +kernel
theorem dBp_place_1 : decode mBp_place.2.1 1 = .ok (.getfield 41, 3) := by decide +kernel
theorem dBp_place_4 : decode mBp_place.2.1 4 = .ok (.ireturn, 1) := by decide +kernel
theorem bBp_place_0 (hX : X.length = 13) (k1 : P (.inl (some (.int (mem 13 5))), (hpo X mem sw o e))) : QW d mBp_place 0 (qen 1 [.ref 13]) [] (hpo X mem sw o e) P := by
  show QW d mBp_place 0 [.val (.ref 13)] [] (hpo X mem sw o e) P
  refine QW.aload_n dBp_place_0 rfl rfl ?_
  refine MW.geti hX dBp_place_1 fBp_41 rfl rfl ?_
  exact QW.iret dBp_place_4 rfl rfl k1
theorem dBp_forget_0 : decode mBp_forget.2.1 0 = .ok (.aload_n 0, 1) := by decide +kernel
theorem dBp_forget_1 : decode mBp_forget.2.1 1 = .ok (.getfield 37, 3) := by decide +kernel
theorem dBp_forget_4 : decode mBp_forget.2.1 4 = .ok (.istore_n 1, 1) := by decide +kernel
theorem dBp_forget_5 : decode mBp_forget.2.1 5 = .ok (.aload_n 0, 1) := by decide +kernel
theorem dBp_forget_6 : decode mBp_forget.2.1 6 = .ok (.iconst 0, 1) := by decide +kernel
theorem dBp_forget_7 : decode mBp_forget.2.1 7 = .ok (.putfield 37, 3) := by decide +kernel
theorem dBp_forget_10 : decode mBp_forget.2.1 10 = .ok (.iload_n 1, 1) := by decide +kernel
theorem dBp_forget_11 : decode mBp_forget.2.1 11 = .ok (.ireturn, 1) := by decide +kernel
theorem bBp_forget_0 (hX : X.length = 13) (k1 : P (.inl (some (.int (mem 13 4))), (hpo X (mup mem 13 4 0) sw o e))) : QW d mBp_forget 0 (qen 2 [.ref 13]) [] (hpo X mem sw o e) P := by
  show QW d mBp_forget 0 [.val (.ref 13), .unset] [] (hpo X mem sw o e) P
  refine QW.aload_n dBp_forget_0 rfl rfl ?_
  refine MW.geti hX dBp_forget_1 fBp_37 rfl rfl ?_
  refine QW.istore_n (ls' := [.val (.ref 13), .val (.int (mem 13 4))]) dBp_forget_4 rfl rfl ?_
  refine QW.aload_n dBp_forget_5 rfl rfl ?_
  refine QW.iconst (v := 0) dBp_forget_6 (by decide) ?_
  refine MW.puti hX dBp_forget_7 fBp_37 rfl rfl rfl ?_
  refine QW.iload_n dBp_forget_10 rfl rfl ?_
  exact QW.iret dBp_forget_11 rfl rfl k1
theorem dBp_tableWithColumn_0 : decode mBp_tableWithColumn.2.1 0 = .ok (.aload_n 0, 1) := by decide +kernel
theorem dBp_tableWithColumn_1 : decode mBp_tableWithColumn.2.1 1 = .ok (.getfield 12, 3) := by decide +kernel
theorem dBp_tableWithColumn_4 : decode mBp_tableWithColumn.2.1 4 = .ok (.iload_n 1, 1) := by decide +kernel
theorem dBp_tableWithColumn_5 : decode mBp_tableWithColumn.2.1 5 = .ok (.invokevirtual 116, 3) := by decide +kernel
theorem dBp_tableWithColumn_8 : decode mBp_tableWithColumn.2.1 8 = .ok (.ifCond .eq 19, 3) := by decide +kernel
theorem dBp_tableWithColumn_11 : decode mBp_tableWithColumn.2.1 11 = .ok (.aload_n 0, 1) := by decide +kernel
theorem dBp_tableWithColumn_12 : decode mBp_tableWithColumn.2.1 12 = .ok (.getfield 12, 3) := by decide +kernel
theorem dBp_tableWithColumn_15 : decode mBp_tableWithColumn.2.1 15 = .ok (.getfield 121, 3) := by decide +kernel
theorem dBp_tableWithColumn_18 : decode mBp_tableWithColumn.2.1 18 = .ok (.iload_n 1, 1) := by decide +kernel
theorem dBp_tableWithColumn_19 : decode mBp_tableWithColumn.2.1 19 = .ok (.aaload, 1) := by decide +kernel
theorem dBp_tableWithColumn_20 : decode mBp_tableWithColumn.2.1 20 = .ok (.iload_n 2, 1) := by decide +kernel
theorem dBp_tableWithColumn_21 : decode mBp_tableWithColumn.2.1 21 = .ok (.invokevirtual 215, 3) := by decide +kernel
theorem dBp_tableWithColumn_24 : decode mBp_tableWithColumn.2.1 24 = .ok (.ifCond .ne 13, 3) := by decide +kernel
theorem dBp_tableWithColumn_27 : decode mBp_tableWithColumn.2.1 27 = .ok (.new 81, 3) := by decide +kernel
theorem dBp_tableWithColumn_30 : decode mBp_tableWithColumn.2.1 30 = .ok (.dup, 1) := by decide +kernel
theorem dBp_tableWithColumn_31 : decode mBp_tableWithColumn.2.1 31 = .ok (.ldc 218, 2) := by decide +kernel
theorem dBp_tableWithColumn_33 : decode mBp_tableWithColumn.2.1 33 = .ok (.invokespecial 85, 3) := by decide +kernel
theorem dBp_tableWithColumn_36 : decode mBp_tableWithColumn.2.1 36 = .ok (.athrow, 1) := by decide +kernel
theorem dBp_tableWithColumn_37 : decode mBp_tableWithColumn.2.1 37 = .ok (.aload_n 0, 1) := by decide +kernel
theorem dBp_tableWithColumn_38 : decode mBp_tableWithColumn.2.1 38 = .ok (.getfield 12, 3) := by decide +kernel
theorem dBp_tableWithColumn_41 : decode mBp_tableWithColumn.2.1 41 = .ok (.getfield 121, 3) := by decide +kernel
theorem dBp_tableWithColumn_44 : decode mBp_tableWithColumn.2.1 44 = .ok (.iload_n 1, 1) := by decide +kernel
theorem dBp_tableWithColumn_45 : decode mBp_tableWithColumn.2.1 45 = .ok (.aaload, 1) := by decide +kernel
theorem dBp_tableWithColumn_46 : decode mBp_tableWithColumn.2.1 46 = .ok (.areturn, 1) := by decide +kernel
def lBp_tableWithColumn_8 (a1 : Int32) (a2 : Int32) : List Slot := [.val (.ref 13), .val (.int a1), .val (.int a2)]
def lBp_tableWithColumn_24 (a1 : Int32) (a2 : Int32) : List Slot := [.val (.ref 13), .val (.int a1), .val (.int a2)]
def lBp_tableWithColumn_27 (a1 : Int32) (a2 : Int32) : List Slot := [.val (.ref 13), .val (.int a1), .val (.int a2)]
theorem bBp_tableWithColumn_0 {a1 : Int32} {a2 : Int32} (hX : X.length = 13) (k1 : QW d mCat_has 0 (qen 2 [.ref 14, .int a1]) [] (hpo X mem sw o e) (qcl d mBp_tableWithColumn 5 8 (lBp_tableWithColumn_8 a1 a2) [] P)) : QW (d + 1) mBp_tableWithColumn 0 (qen 3 [.ref 13, .int a1, .int a2]) [] (hpo X mem sw o e) P := by
  show QW (d + 1) mBp_tableWithColumn 0 [.val (.ref 13), .val (.int a1), .val (.int a2)] [] (hpo X mem sw o e) P
  refine QW.aload_n dBp_tableWithColumn_0 rfl rfl ?_
  refine MW.getr (r' := 14) hX dBp_tableWithColumn_1 fBp_12 rfl rfl (by cases sw <;> rfl) ?_
  refine QW.iload_n dBp_tableWithColumn_4 rfl rfl ?_
  exact MW.calV (as := [.int a1]) (rest := []) hX dBp_tableWithColumn_5 eCat_has lBp_116 iCat_has vCat_has rfl rfl rfl rfl rfl rfl (Nat.le_of_ble_eq_true rfl) rfl k1
theorem bBp_tableWithColumn_8 {a1 : Int32} {a2 : Int32} {s0 : Int32} (hX : X.length = 13) (k1 : (s0 = 0) → QW (d + 1) mBp_tableWithColumn 27 (lBp_tableWithColumn_27 a1 a2) [] (hpo X mem sw o e) P) (h2 : (¬ s0 = 0) → inx a1 4) (k3 : (¬ s0 = 0) → QW d mTab_hasColumn 0 (qen 2 [.ref (16 + 3 * (Int32.toNatClampNeg a1)), .int a2]) [] (hpo X mem sw o e) (qcl d mBp_tableWithColumn 21 24 (lBp_tableWithColumn_24 a1 a2) [] P)) : QW (d + 1) mBp_tableWithColumn 8 (lBp_tableWithColumn_8 a1 a2) [.int s0] (hpo X mem sw o e) P := by
  show QW (d + 1) mBp_tableWithColumn 8 [.val (.ref 13), .val (.int a1), .val (.int a2)] [.int s0] (hpo X mem sw o e) P
  refine QW.if_eq (tgt := 27) dBp_tableWithColumn_8 (by decide) (fun z0 => ?_) (fun z0 => ?_)
  · exact (k1 z0)
  · refine QW.aload_n dBp_tableWithColumn_11 rfl rfl ?_
    refine MW.getr (r' := 14) hX dBp_tableWithColumn_12 fBp_12 rfl rfl (by cases sw <;> rfl) ?_
    refine MW.getr (r' := 15) hX dBp_tableWithColumn_15 fBp_121 rfl rfl (by cases sw <;> rfl) ?_
    refine QW.iload_n dBp_tableWithColumn_18 rfl rfl ?_
    refine MW.aald (r' := (16 + 3 * (Int32.toNatClampNeg a1))) hX dBp_tableWithColumn_19 rfl rfl (Nat.le_of_ble_eq_true rfl) (h2 z0).1 (el_tab (h2 z0).2) (sw_tab (h2 z0).2) ?_
    refine QW.iload_n dBp_tableWithColumn_20 rfl rfl ?_
    exact MW.calV (as := [.int a2]) (rest := []) hX dBp_tableWithColumn_21 eTab_hasColumn lBp_215 iTab_hasColumn vTab_hasColumn rfl rfl (kTab_0 (kTab_at (h2 z0).2)) rfl rfl rfl (Nat.le_of_ble_eq_true rfl) rfl (k3 z0)
theorem bBp_tableWithColumn_24 {a1 : Int32} {a2 : Int32} {s0 : Int32} (hX : X.length = 13) (h1 : (¬ s0 = 0) → inx a1 4) (k2 : (¬ s0 = 0) → P (.inl (some (.ref (16 + 3 * (Int32.toNatClampNeg a1)))), (hpo X mem sw o e))) (k3 : (s0 = 0) → QW d mBp_tableWithColumn 27 (lBp_tableWithColumn_27 a1 a2) [] (hpo X mem sw o e) P) : QW d mBp_tableWithColumn 24 (lBp_tableWithColumn_24 a1 a2) [.int s0] (hpo X mem sw o e) P := by
  show QW d mBp_tableWithColumn 24 [.val (.ref 13), .val (.int a1), .val (.int a2)] [.int s0] (hpo X mem sw o e) P
  refine QW.if_ne (tgt := 37) dBp_tableWithColumn_24 (by decide) (fun z0 => ?_) (fun z0 => ?_)
  · refine QW.aload_n dBp_tableWithColumn_37 rfl rfl ?_
    refine MW.getr (r' := 14) hX dBp_tableWithColumn_38 fBp_12 rfl rfl (by cases sw <;> rfl) ?_
    refine MW.getr (r' := 15) hX dBp_tableWithColumn_41 fBp_121 rfl rfl (by cases sw <;> rfl) ?_
    refine QW.iload_n dBp_tableWithColumn_44 rfl rfl ?_
    refine MW.aald (r' := (16 + 3 * (Int32.toNatClampNeg a1))) hX dBp_tableWithColumn_45 rfl rfl (Nat.le_of_ble_eq_true rfl) (h1 z0).1 (el_tab (h1 z0).2) (sw_tab (h1 z0).2) ?_
    exact QW.aret dBp_tableWithColumn_46 rfl (k2 z0)
  · exact (k3 z0)
theorem bBp_tableWithColumn_27 {a1 : Int32} {a2 : Int32} (hX : X.length = 13) (c1 : e.length < 10000) (k2 : P (.inr (225 + e.length), hpo X mem sw o (e ++ [20]))) : QW d mBp_tableWithColumn 27 (lBp_tableWithColumn_27 a1 a2) [] (hpo X mem sw o e) P := by
  show QW d mBp_tableWithColumn 27 [.val (.ref 13), .val (.int a1), .val (.int a2)] [] (hpo X mem sw o e) P
  exact MW.thr hX tBp_218_85 dBp_tableWithColumn_27 dBp_tableWithColumn_30 dBp_tableWithColumn_31 dBp_tableWithColumn_33 dBp_tableWithColumn_36 rfl c1 rfl k2
theorem dCat_has_0 : decode mCat_has.2.1 0 = .ok (.iload_n 1, 1) := by decide +kernel
theorem dCat_has_1 : decode mCat_has.2.1 1 = .ok (.ifCond .lt 15, 3) := by decide +kernel
theorem dCat_has_4 : decode mCat_has.2.1 4 = .ok (.iload_n 1, 1) := by decide +kernel
theorem dCat_has_5 : decode mCat_has.2.1 5 = .ok (.aload_n 0, 1) := by decide +kernel
theorem dCat_has_6 : decode mCat_has.2.1 6 = .ok (.getfield 18, 3) := by decide +kernel
theorem dCat_has_9 : decode mCat_has.2.1 9 = .ok (.if_icmp .ge 7, 3) := by decide +kernel
theorem dCat_has_12 : decode mCat_has.2.1 12 = .ok (.iconst 1, 1) := by decide +kernel
theorem dCat_has_13 : decode mCat_has.2.1 13 = .ok (.goto 4, 3) := by decide +kernel
theorem dCat_has_16 : decode mCat_has.2.1 16 = .ok (.iconst 0, 1) := by decide +kernel
theorem dCat_has_17 : decode mCat_has.2.1 17 = .ok (.ireturn, 1) := by decide +kernel
theorem bCat_has_0 {a1 : Int32} (hX : X.length = 13) (k1 : (a1 < 0) → P (.inl (some (.int 0)), (hpo X mem sw o e))) (k2 : (¬ a1 < 0) → ((mem 14 1) ≤ a1) → P (.inl (some (.int 0)), (hpo X mem sw o e))) (k3 : (¬ a1 < 0) → (¬ (mem 14 1) ≤ a1) → P (.inl (some (.int 1)), (hpo X mem sw o e))) : QW d mCat_has 0 (qen 2 [.ref 14, .int a1]) [] (hpo X mem sw o e) P := by
  show QW d mCat_has 0 [.val (.ref 14), .val (.int a1)] [] (hpo X mem sw o e) P
  refine QW.iload_n dCat_has_0 rfl rfl ?_
  refine QW.if_lt (tgt := 16) dCat_has_1 (by decide) (fun z0 => ?_) (fun z0 => ?_)
  · refine QW.iconst (v := 0) dCat_has_16 (by decide) ?_
    exact QW.iret dCat_has_17 rfl rfl (k1 z0)
  · refine QW.iload_n dCat_has_4 rfl rfl ?_
    refine QW.aload_n dCat_has_5 rfl rfl ?_
    refine MW.geti hX dCat_has_6 fCat_18 rfl rfl ?_
    refine QW.icmp_ge (tgt := 16) dCat_has_9 (by decide) (fun z1 => ?_) (fun z1 => ?_)
    · refine QW.iconst (v := 0) dCat_has_16 (by decide) ?_
      exact QW.iret dCat_has_17 rfl rfl (k2 z0 z1)
    · refine QW.iconst (v := 1) dCat_has_12 (by decide) ?_
      refine QW.goto (tgt := 17) dCat_has_13 (by decide) ?_
      exact QW.iret dCat_has_17 rfl rfl (k3 z0 z1)
theorem dCat_make_0 : decode mCat_make.2.1 0 = .ok (.aload_n 0, 1) := by decide +kernel
theorem dCat_make_1 : decode mCat_make.2.1 1 = .ok (.getfield 11, 3) := by decide +kernel
theorem dCat_make_4 : decode mCat_make.2.1 4 = .ok (.aload_n 0, 1) := by decide +kernel
theorem dCat_make_5 : decode mCat_make.2.1 5 = .ok (.getfield 18, 3) := by decide +kernel
theorem dCat_make_8 : decode mCat_make.2.1 8 = .ok (.aaload, 1) := by decide +kernel
theorem dCat_make_9 : decode mCat_make.2.1 9 = .ok (.iload_n 1, 1) := by decide +kernel
theorem dCat_make_10 : decode mCat_make.2.1 10 = .ok (.putfield 22, 3) := by decide +kernel
theorem dCat_make_13 : decode mCat_make.2.1 13 = .ok (.aload_n 0, 1) := by decide +kernel
theorem dCat_make_14 : decode mCat_make.2.1 14 = .ok (.dup, 1) := by decide +kernel
theorem dCat_make_15 : decode mCat_make.2.1 15 = .ok (.getfield 18, 3) := by decide +kernel
theorem dCat_make_18 : decode mCat_make.2.1 18 = .ok (.iconst 1, 1) := by decide +kernel
theorem dCat_make_19 : decode mCat_make.2.1 19 = .ok (.iadd, 1) := by decide +kernel
theorem dCat_make_20 : decode mCat_make.2.1 20 = .ok (.putfield 18, 3) := by decide +kernel
theorem dCat_make_23 : decode mCat_make.2.1 23 = .ok (.aload_n 0, 1) := by decide +kernel
theorem dCat_make_24 : decode mCat_make.2.1 24 = .ok (.getfield 18, 3) := by decide +kernel
theorem dCat_make_27 : decode mCat_make.2.1 27 = .ok (.iconst 1, 1) := by decide +kernel
theorem dCat_make_28 : decode mCat_make.2.1 28 = .ok (.isub, 1) := by decide +kernel
theorem dCat_make_29 : decode mCat_make.2.1 29 = .ok (.ireturn, 1) := by decide +kernel
theorem bCat_make_0 {a1 : Int32} (hX : X.length = 13) (h1 : inx (mem 14 1) 4) (k2 : P (.inl (some (.int (((mup (mup mem (16 + 3 * (Int32.toNatClampNeg (mem 14 1))) 0 a1) 14 1 (((mup mem (16 + 3 * (Int32.toNatClampNeg (mem 14 1))) 0 a1) 14 1) + 1)) 14 1) - 1))), (hpo X (mup (mup mem (16 + 3 * (Int32.toNatClampNeg (mem 14 1))) 0 a1) 14 1 (((mup mem (16 + 3 * (Int32.toNatClampNeg (mem 14 1))) 0 a1) 14 1) + 1)) sw o e))) : QW d mCat_make 0 (qen 2 [.ref 14, .int a1]) [] (hpo X mem sw o e) P := by
  show QW d mCat_make 0 [.val (.ref 14), .val (.int a1)] [] (hpo X mem sw o e) P
  refine QW.aload_n dCat_make_0 rfl rfl ?_
  refine MW.getr (r' := 15) hX dCat_make_1 fCat_11 rfl rfl (by cases sw <;> rfl) ?_
  refine QW.aload_n dCat_make_4 rfl rfl ?_
  refine MW.geti hX dCat_make_5 fCat_18 rfl rfl ?_
  refine MW.aald (r' := (16 + 3 * (Int32.toNatClampNeg (mem 14 1)))) hX dCat_make_8 rfl rfl (Nat.le_of_ble_eq_true rfl) h1.1 (el_tab h1.2) (sw_tab h1.2) ?_
  refine QW.iload_n dCat_make_9 rfl rfl ?_
  refine MW.puti hX dCat_make_10 fCat_22 (kTab_0 (kTab_at h1.2)) rfl rfl ?_
  refine QW.aload_n dCat_make_13 rfl rfl ?_
  refine QW.dup dCat_make_14 rfl ?_
  refine MW.geti hX dCat_make_15 fCat_18 rfl rfl ?_
  refine QW.iconst (v := 1) dCat_make_18 (by decide) ?_
  refine QW.iadd dCat_make_19 ?_
  refine MW.puti hX dCat_make_20 fCat_18 rfl rfl rfl ?_
  refine QW.aload_n dCat_make_23 rfl rfl ?_
  refine MW.geti hX dCat_make_24 fCat_18 rfl rfl ?_
  refine QW.iconst (v := 1) dCat_make_27 (by decide) ?_
  refine QW.isub dCat_make_28 ?_
  exact QW.iret dCat_make_29 rfl rfl k2
theorem bTab_hasColumn_0 {t : Nat} {a1 : Int32} (hX : X.length = 13) (ht : kTab t) (k1 : (a1 < 0) → P (.inl (some (.int 0)), (hpo X mem sw o e))) (k2 : (¬ a1 < 0) → ((mem t 0) ≤ a1) → P (.inl (some (.int 0)), (hpo X mem sw o e))) (k3 : (¬ a1 < 0) → (¬ (mem t 0) ≤ a1) → P (.inl (some (.int 1)), (hpo X mem sw o e))) : QW d mTab_hasColumn 0 (qen 2 [.ref t, .int a1]) [] (hpo X mem sw o e) P := by
  show QW d mTab_hasColumn 0 [.val (.ref t), .val (.int a1)] [] (hpo X mem sw o e) P
  refine QW.iload_n dTab_hasColumn_0 rfl rfl ?_
  refine QW.if_lt (tgt := 16) dTab_hasColumn_1 (by decide) (fun z0 => ?_) (fun z0 => ?_)
  · refine QW.iconst (v := 0) dTab_hasColumn_16 (by decide) ?_
    exact QW.iret dTab_hasColumn_17 rfl rfl (k1 z0)
  · refine QW.iload_n dTab_hasColumn_4 rfl rfl ?_
    refine QW.aload_n dTab_hasColumn_5 rfl rfl ?_
    refine MW.geti hX dTab_hasColumn_6 fTab_19 (kTab_0 ht) rfl ?_
    refine QW.icmp_ge (tgt := 16) dTab_hasColumn_9 (by decide) (fun z1 => ?_) (fun z1 => ?_)
    · refine QW.iconst (v := 0) dTab_hasColumn_16 (by decide) ?_
      exact QW.iret dTab_hasColumn_17 rfl rfl (k2 z0 z1)
    · refine QW.iconst (v := 1) dTab_hasColumn_12 (by decide) ?_
      refine QW.goto (tgt := 17) dTab_hasColumn_13 (by decide) ?_
      exact QW.iret dTab_hasColumn_17 rfl rfl (k3 z0 z1)
theorem dTab_cell_0 : decode mTab_cell.2.1 0 = .ok (.aload_n 0, 1) := by decide +kernel
theorem dTab_cell_1 : decode mTab_cell.2.1 1 = .ok (.getfield 15, 3) := by decide +kernel
theorem dTab_cell_4 : decode mTab_cell.2.1 4 = .ok (.iload_n 1, 1) := by decide +kernel
theorem dTab_cell_5 : decode mTab_cell.2.1 5 = .ok (.iconst 3, 1) := by decide +kernel
theorem dTab_cell_6 : decode mTab_cell.2.1 6 = .ok (.imul, 1) := by decide +kernel
theorem dTab_cell_7 : decode mTab_cell.2.1 7 = .ok (.iload_n 2, 1) := by decide +kernel
theorem dTab_cell_8 : decode mTab_cell.2.1 8 = .ok (.iadd, 1) := by decide +kernel
theorem dTab_cell_9 : decode mTab_cell.2.1 9 = .ok (.iaload, 1) := by decide +kernel
theorem dTab_cell_10 : decode mTab_cell.2.1 10 = .ok (.ireturn, 1) := by decide +kernel
theorem bTab_cell_0 {t : Nat} {a1 : Int32} {a2 : Int32} (hX : X.length = 13) (ht : kTab t) (h1 : inx ((a1 * 3) + a2) 24) (k2 : P (.inl (some (.int (mem (t + 2) (Int32.toNatClampNeg ((a1 * 3) + a2))))), (hpo X mem sw o e))) : QW d mTab_cell 0 (qen 3 [.ref t, .int a1, .int a2]) [] (hpo X mem sw o e) P := by
  show QW d mTab_cell 0 [.val (.ref t), .val (.int a1), .val (.int a2)] [] (hpo X mem sw o e) P
  refine QW.aload_n dTab_cell_0 rfl rfl ?_
  refine MW.getr (r' := (t + 2)) hX dTab_cell_1 fTab_15 (kTab_0 ht) rfl (kTab_s2 ht _) ?_
  refine QW.iload_n dTab_cell_4 rfl rfl ?_
  refine QW.iconst (v := 3) dTab_cell_5 (by decide) ?_
  refine QW.imul dTab_cell_6 ?_
  refine QW.iload_n dTab_cell_7 rfl rfl ?_
  refine QW.iadd dTab_cell_8 ?_
  refine MW.iald hX dTab_cell_9 (kTab_2 ht) h1.1 (rep_get h1.2) ?_
  exact QW.iret dTab_cell_10 rfl rfl k2
theorem dTab_hasTwins_0 : decode mTab_hasTwins.2.1 0 = .ok (.iconst 0, 1) := by decide +kernel
theorem dTab_hasTwins_1 : decode mTab_hasTwins.2.1 1 = .ok (.istore_n 2, 1) := by decide +kernel
theorem dTab_hasTwins_2 : decode mTab_hasTwins.2.1 2 = .ok (.iload_n 2, 1) := by decide +kernel
theorem dTab_hasTwins_3 : decode mTab_hasTwins.2.1 3 = .ok (.aload_n 0, 1) := by decide +kernel
theorem dTab_hasTwins_4 : decode mTab_hasTwins.2.1 4 = .ok (.getfield 23, 3) := by decide +kernel
theorem dTab_hasTwins_7 : decode mTab_hasTwins.2.1 7 = .ok (.if_icmp .ge 44, 3) := by decide +kernel
theorem dTab_hasTwins_10 : decode mTab_hasTwins.2.1 10 = .ok (.iload_n 2, 1) := by decide +kernel
theorem dTab_hasTwins_11 : decode mTab_hasTwins.2.1 11 = .ok (.iconst 1, 1) := by decide +kernel
theorem dTab_hasTwins_12 : decode mTab_hasTwins.2.1 12 = .ok (.iadd, 1) := by decide +kernel
theorem dTab_hasTwins_13 : decode mTab_hasTwins.2.1 13 = .ok (.istore_n 3, 1) := by decide +kernel
theorem dTab_hasTwins_14 : decode mTab_hasTwins.2.1 14 = .ok (.iload_n 3, 1) := by decide +kernel
theorem dTab_hasTwins_15 : decode mTab_hasTwins.2.1 15 = .ok (.aload_n 0, 1) := by decide +kernel
theorem dTab_hasTwins_16 : decode mTab_hasTwins.2.1 16 = .ok (.getfield 23, 3) := by decide +kernel
theorem dTab_hasTwins_19 : decode mTab_hasTwins.2.1 19 = .ok (.if_icmp .ge 26, 3) := by decide +kernel
theorem dTab_hasTwins_22 : decode mTab_hasTwins.2.1 22 = .ok (.aload_n 0, 1) := by decide +kernel
theorem dTab_hasTwins_23 : decode mTab_hasTwins.2.1 23 = .ok (.iload_n 2, 1) := by decide +kernel
theorem dTab_hasTwins_24 : decode mTab_hasTwins.2.1 24 = .ok (.iload_n 1, 1) := by decide +kernel
theorem dTab_hasTwins_25 : decode mTab_hasTwins.2.1 25 = .ok (.invokevirtual 26, 3) := by decide +kernel
theorem dTab_hasTwins_28 : decode mTab_hasTwins.2.1 28 = .ok (.aload_n 0, 1) := by decide +kernel
theorem dTab_hasTwins_29 : decode mTab_hasTwins.2.1 29 = .ok (.iload_n 3, 1) := by decide +kernel
theorem dTab_hasTwins_30 : decode mTab_hasTwins.2.1 30 = .ok (.iload_n 1, 1) := by decide +kernel
theorem dTab_hasTwins_31 : decode mTab_hasTwins.2.1 31 = .ok (.invokevirtual 26, 3) := by decide +kernel
theorem dTab_hasTwins_34 : decode mTab_hasTwins.2.1 34 = .ok (.if_icmp .ne 5, 3) := by decide +kernel
theorem dTab_hasTwins_37 : decode mTab_hasTwins.2.1 37 = .ok (.iconst 1, 1) := by decide +kernel
theorem dTab_hasTwins_38 : decode mTab_hasTwins.2.1 38 = .ok (.ireturn, 1) := by decide +kernel
theorem dTab_hasTwins_39 : decode mTab_hasTwins.2.1 39 = .ok (.iinc 3 1, 3) := by decide +kernel
theorem dTab_hasTwins_42 : decode mTab_hasTwins.2.1 42 = .ok (.goto (-28), 3) := by decide +kernel
theorem dTab_hasTwins_45 : decode mTab_hasTwins.2.1 45 = .ok (.iinc 2 1, 3) := by decide +kernel
theorem dTab_hasTwins_48 : decode mTab_hasTwins.2.1 48 = .ok (.goto (-46), 3) := by decide +kernel
theorem dTab_hasTwins_51 : decode mTab_hasTwins.2.1 51 = .ok (.iconst 0, 1) := by decide +kernel
theorem dTab_hasTwins_52 : decode mTab_hasTwins.2.1 52 = .ok (.ireturn, 1) := by decide +kernel
def lTab_hasTwins_2 (a1 : Int32) (a2 : Int32) (w3 : Slot) (t : Nat) : List Slot := [.val (.ref t), .val (.int a1), .val (.int a2), w3]
def lTab_hasTwins_14 (a1 : Int32) (a2 : Int32) (a3 : Int32) (t : Nat) : List Slot := [.val (.ref t), .val (.int a1), .val (.int a2), .val (.int a3)]
def lTab_hasTwins_28 (a1 : Int32) (a2 : Int32) (a3 : Int32) (t : Nat) : List Slot := [.val (.ref t), .val (.int a1), .val (.int a2), .val (.int a3)]
def lTab_hasTwins_34 (a1 : Int32) (a2 : Int32) (a3 : Int32) (t : Nat) : List Slot := [.val (.ref t), .val (.int a1), .val (.int a2), .val (.int a3)]
theorem bTab_hasTwins_0 {t : Nat} {a1 : Int32} (hX : X.length = 13) (ht : kTab t) (k1 : QW d mTab_hasTwins 2 (lTab_hasTwins_2 a1 0 .unset t) [] (hpo X mem sw o e) P) : QW d mTab_hasTwins 0 (qen 4 [.ref t, .int a1]) [] (hpo X mem sw o e) P := by
  show QW d mTab_hasTwins 0 [.val (.ref t), .val (.int a1), .unset, .unset] [] (hpo X mem sw o e) P
  refine QW.iconst (v := 0) dTab_hasTwins_0 (by decide) ?_
  refine QW.istore_n (ls' := [.val (.ref t), .val (.int a1), .val (.int 0), .unset]) dTab_hasTwins_1 rfl rfl ?_
  exact k1
theorem bTab_hasTwins_2 {t : Nat} {a1 : Int32} {a2 : Int32} {w3 : Slot} (hX : X.length = 13) (ht : kTab t) (hw3 : qfr w3) (k1 : ((mem t 1) ≤ a2) → P (.inl (some (.int 0)), (hpo X mem sw o e))) (k2 : (¬ (mem t 1) ≤ a2) → QW d mTab_hasTwins 14 (lTab_hasTwins_14 a1 a2 (a2 + 1) t) [] (hpo X mem sw o e) P) : QW d mTab_hasTwins 2 (lTab_hasTwins_2 a1 a2 w3 t) [] (hpo X mem sw o e) P := by
  show QW d mTab_hasTwins 2 [.val (.ref t), .val (.int a1), .val (.int a2), w3] [] (hpo X mem sw o e) P
  refine QW.iload_n dTab_hasTwins_2 rfl rfl ?_
  refine QW.aload_n dTab_hasTwins_3 rfl rfl ?_
  refine MW.geti hX dTab_hasTwins_4 fTab_23 (kTab_0 ht) rfl ?_
  refine QW.icmp_ge (tgt := 51) dTab_hasTwins_7 (by decide) (fun z0 => ?_) (fun z0 => ?_)
  · refine QW.iconst (v := 0) dTab_hasTwins_51 (by decide) ?_
    exact QW.iret dTab_hasTwins_52 rfl rfl (k1 z0)
  · refine QW.iload_n dTab_hasTwins_10 rfl rfl ?_
    refine QW.iconst (v := 1) dTab_hasTwins_11 (by decide) ?_
    refine QW.iadd dTab_hasTwins_12 ?_
    refine QW.istore_n (ls' := [.val (.ref t), .val (.int a1), .val (.int a2), .val (.int (a2 + 1))]) dTab_hasTwins_13 rfl (by rcases hw3 with z | ⟨_, z⟩ | ⟨_, z⟩ <;> subst z <;> rfl) ?_
    exact (k2 z0)
theorem bTab_hasTwins_14 {t : Nat} {a1 : Int32} {a2 : Int32} {a3 : Int32} (hX : X.length = 13) (ht : kTab t) (k1 : ((mem t 1) ≤ a3) → QW (d + 1) mTab_hasTwins 2 (lTab_hasTwins_2 a1 (a2 + 1) (.val (.int a3)) t) [] (hpo X mem sw o e) P) (k2 : (¬ (mem t 1) ≤ a3) → QW d mTab_cell 0 (qen 3 [.ref t, .int a2, .int a1]) [] (hpo X mem sw o e) (qcl d mTab_hasTwins 25 28 (lTab_hasTwins_28 a1 a2 a3 t) [] P)) : QW (d + 1) mTab_hasTwins 14 (lTab_hasTwins_14 a1 a2 a3 t) [] (hpo X mem sw o e) P := by
  show QW (d + 1) mTab_hasTwins 14 [.val (.ref t), .val (.int a1), .val (.int a2), .val (.int a3)] [] (hpo X mem sw o e) P
  refine QW.iload_n dTab_hasTwins_14 rfl rfl ?_
  refine QW.aload_n dTab_hasTwins_15 rfl rfl ?_
  refine MW.geti hX dTab_hasTwins_16 fTab_23 (kTab_0 ht) rfl ?_
  refine QW.icmp_ge (tgt := 45) dTab_hasTwins_19 (by decide) (fun z0 => ?_) (fun z0 => ?_)
  · refine MW.iinc (c := 1) (ls' := [.val (.ref t), .val (.int a1), .val (.int (a2 + 1)), .val (.int a3)]) dTab_hasTwins_45 (by decide) rfl rfl ?_
    refine QW.goto (tgt := 2) dTab_hasTwins_48 (by decide) ?_
    exact (k1 z0)
  · refine QW.aload_n dTab_hasTwins_22 rfl rfl ?_
    refine QW.iload_n dTab_hasTwins_23 rfl rfl ?_
    refine QW.iload_n dTab_hasTwins_24 rfl rfl ?_
    exact MW.calV (as := [.int a2, .int a1]) (rest := []) hX dTab_hasTwins_25 eTab_cell lTab_26 iTab_cell vTab_cell rfl rfl (kTab_0 ht) rfl rfl rfl (Nat.le_of_ble_eq_true rfl) rfl (k2 z0)
theorem bTab_hasTwins_28 {t : Nat} {a1 : Int32} {a2 : Int32} {a3 : Int32} {s0 : Int32} (hX : X.length = 13) (ht : kTab t) (k1 : QW d mTab_cell 0 (qen 3 [.ref t, .int a3, .int a1]) [] (hpo X mem sw o e) (qcl d mTab_hasTwins 31 34 (lTab_hasTwins_34 a1 a2 a3 t) [.int s0] P)) : QW (d + 1) mTab_hasTwins 28 (lTab_hasTwins_28 a1 a2 a3 t) [.int s0] (hpo X mem sw o e) P := by
  show QW (d + 1) mTab_hasTwins 28 [.val (.ref t), .val (.int a1), .val (.int a2), .val (.int a3)] [.int s0] (hpo X mem sw o e) P
  refine QW.aload_n dTab_hasTwins_28 rfl rfl ?_
  refine QW.iload_n dTab_hasTwins_29 rfl rfl ?_
  refine QW.iload_n dTab_hasTwins_30 rfl rfl ?_
  exact MW.calV (as := [.int a3, .int a1]) (rest := [.int s0]) hX dTab_hasTwins_31 eTab_cell lTab_26 iTab_cell vTab_cell rfl rfl (kTab_0 ht) rfl rfl rfl (Nat.le_of_ble_eq_true rfl) rfl k1
theorem bTab_hasTwins_34 {t : Nat} {a1 : Int32} {a2 : Int32} {a3 : Int32} {s1 : Int32} {s0 : Int32} (hX : X.length = 13) (ht : kTab t) (k1 : (¬ s0 = s1) → QW d mTab_hasTwins 14 (lTab_hasTwins_14 a1 a2 (a3 + 1) t) [] (hpo X mem sw o e) P) (k2 : (s0 = s1) → P (.inl (some (.int 1)), (hpo X mem sw o e))) : QW d mTab_hasTwins 34 (lTab_hasTwins_34 a1 a2 a3 t) [.int s1, .int s0] (hpo X mem sw o e) P := by
  show QW d mTab_hasTwins 34 [.val (.ref t), .val (.int a1), .val (.int a2), .val (.int a3)] [.int s1, .int s0] (hpo X mem sw o e) P
  refine QW.icmp_ne (tgt := 39) dTab_hasTwins_34 (by decide) (fun z0 => ?_) (fun z0 => ?_)
  · refine MW.iinc (c := 1) (ls' := [.val (.ref t), .val (.int a1), .val (.int a2), .val (.int (a3 + 1))]) dTab_hasTwins_39 (by decide) rfl rfl ?_
    refine QW.goto (tgt := 14) dTab_hasTwins_42 (by decide) ?_
    exact (k1 z0)
  · refine QW.iconst (v := 1) dTab_hasTwins_37 (by decide) ?_
    exact QW.iret dTab_hasTwins_38 rfl rfl (k2 z0)
theorem dTab_breaksKey_0 : decode mTab_breaksKey.2.1 0 = .ok (.aload_n 0, 1) := by decide +kernel
theorem dTab_breaksKey_1 : decode mTab_breaksKey.2.1 1 = .ok (.iconst 0, 1) := by decide +kernel
theorem dTab_breaksKey_2 : decode mTab_breaksKey.2.1 2 = .ok (.iload_n 1, 1) := by decide +kernel
theorem dTab_breaksKey_3 : decode mTab_breaksKey.2.1 3 = .ok (.invokevirtual 30, 3) := by decide +kernel
theorem dTab_breaksKey_6 : decode mTab_breaksKey.2.1 6 = .ok (.ifCond .ne 21, 3) := by decide +kernel
theorem dTab_breaksKey_9 : decode mTab_breaksKey.2.1 9 = .ok (.aload_n 0, 1) := by decide +kernel
theorem dTab_breaksKey_10 : decode mTab_breaksKey.2.1 10 = .ok (.iconst 1, 1) := by decide +kernel
theorem dTab_breaksKey_11 : decode mTab_breaksKey.2.1 11 = .ok (.iload_n 2, 1) := by decide +kernel
theorem dTab_breaksKey_12 : decode mTab_breaksKey.2.1 12 = .ok (.invokevirtual 30, 3) := by decide +kernel
theorem dTab_breaksKey_15 : decode mTab_breaksKey.2.1 15 = .ok (.ifCond .ne 12, 3) := by decide +kernel
theorem dTab_breaksKey_18 : decode mTab_breaksKey.2.1 18 = .ok (.aload_n 0, 1) := by decide +kernel
theorem dTab_breaksKey_19 : decode mTab_breaksKey.2.1 19 = .ok (.iconst 2, 1) := by decide +kernel
theorem dTab_breaksKey_20 : decode mTab_breaksKey.2.1 20 = .ok (.iload_n 3, 1) := by decide +kernel
theorem dTab_breaksKey_21 : decode mTab_breaksKey.2.1 21 = .ok (.invokevirtual 30, 3) := by decide +kernel
theorem dTab_breaksKey_24 : decode mTab_breaksKey.2.1 24 = .ok (.ifCond .eq 7, 3) := by decide +kernel
theorem dTab_breaksKey_27 : decode mTab_breaksKey.2.1 27 = .ok (.iconst 1, 1) := by decide +kernel
theorem dTab_breaksKey_28 : decode mTab_breaksKey.2.1 28 = .ok (.goto 4, 3) := by decide +kernel
theorem dTab_breaksKey_31 : decode mTab_breaksKey.2.1 31 = .ok (.iconst 0, 1) := by decide +kernel
theorem dTab_breaksKey_32 : decode mTab_breaksKey.2.1 32 = .ok (.ireturn, 1) := by decide +kernel
def lTab_breaksKey_6 (a1 : Int32) (a2 : Int32) (a3 : Int32) (t : Nat) : List Slot := [.val (.ref t), .val (.int a1), .val (.int a2), .val (.int a3)]
def lTab_breaksKey_15 (a1 : Int32) (a2 : Int32) (a3 : Int32) (t : Nat) : List Slot := [.val (.ref t), .val (.int a1), .val (.int a2), .val (.int a3)]
def lTab_breaksKey_24 (a1 : Int32) (a2 : Int32) (a3 : Int32) (t : Nat) : List Slot := [.val (.ref t), .val (.int a1), .val (.int a2), .val (.int a3)]
def lTab_breaksKey_27 (a1 : Int32) (a2 : Int32) (a3 : Int32) (t : Nat) : List Slot := [.val (.ref t), .val (.int a1), .val (.int a2), .val (.int a3)]
theorem bTab_breaksKey_0 {t : Nat} {a1 : Int32} {a2 : Int32} {a3 : Int32} (hX : X.length = 13) (ht : kTab t) (k1 : QW d mTab_isTaken 0 (qen 4 [.ref t, .int 0, .int a1]) [] (hpo X mem sw o e) (qcl d mTab_breaksKey 3 6 (lTab_breaksKey_6 a1 a2 a3 t) [] P)) : QW (d + 1) mTab_breaksKey 0 (qen 4 [.ref t, .int a1, .int a2, .int a3]) [] (hpo X mem sw o e) P := by
  show QW (d + 1) mTab_breaksKey 0 [.val (.ref t), .val (.int a1), .val (.int a2), .val (.int a3)] [] (hpo X mem sw o e) P
  refine QW.aload_n dTab_breaksKey_0 rfl rfl ?_
  refine QW.iconst (v := 0) dTab_breaksKey_1 (by decide) ?_
  refine QW.iload_n dTab_breaksKey_2 rfl rfl ?_
  exact MW.calV (as := [.int 0, .int a1]) (rest := []) hX dTab_breaksKey_3 eTab_isTaken lTab_30 iTab_isTaken vTab_isTaken rfl rfl (kTab_0 ht) rfl rfl rfl (Nat.le_of_ble_eq_true rfl) rfl k1
theorem bTab_breaksKey_6 {t : Nat} {a1 : Int32} {a2 : Int32} {a3 : Int32} {s0 : Int32} (hX : X.length = 13) (ht : kTab t) (k1 : (¬ s0 = 0) → QW (d + 1) mTab_breaksKey 27 (lTab_breaksKey_27 a1 a2 a3 t) [] (hpo X mem sw o e) P) (k2 : (s0 = 0) → QW d mTab_isTaken 0 (qen 4 [.ref t, .int 1, .int a2]) [] (hpo X mem sw o e) (qcl d mTab_breaksKey 12 15 (lTab_breaksKey_15 a1 a2 a3 t) [] P)) : QW (d + 1) mTab_breaksKey 6 (lTab_breaksKey_6 a1 a2 a3 t) [.int s0] (hpo X mem sw o e) P := by
  show QW (d + 1) mTab_breaksKey 6 [.val (.ref t), .val (.int a1), .val (.int a2), .val (.int a3)] [.int s0] (hpo X mem sw o e) P
  refine QW.if_ne (tgt := 27) dTab_breaksKey_6 (by decide) (fun z0 => ?_) (fun z0 => ?_)
  · exact (k1 z0)
  · refine QW.aload_n dTab_breaksKey_9 rfl rfl ?_
    refine QW.iconst (v := 1) dTab_breaksKey_10 (by decide) ?_
    refine QW.iload_n dTab_breaksKey_11 rfl rfl ?_
    exact MW.calV (as := [.int 1, .int a2]) (rest := []) hX dTab_breaksKey_12 eTab_isTaken lTab_30 iTab_isTaken vTab_isTaken rfl rfl (kTab_0 ht) rfl rfl rfl (Nat.le_of_ble_eq_true rfl) rfl (k2 z0)
theorem bTab_breaksKey_15 {t : Nat} {a1 : Int32} {a2 : Int32} {a3 : Int32} {s0 : Int32} (hX : X.length = 13) (ht : kTab t) (k1 : (¬ s0 = 0) → QW (d + 1) mTab_breaksKey 27 (lTab_breaksKey_27 a1 a2 a3 t) [] (hpo X mem sw o e) P) (k2 : (s0 = 0) → QW d mTab_isTaken 0 (qen 4 [.ref t, .int 2, .int a3]) [] (hpo X mem sw o e) (qcl d mTab_breaksKey 21 24 (lTab_breaksKey_24 a1 a2 a3 t) [] P)) : QW (d + 1) mTab_breaksKey 15 (lTab_breaksKey_15 a1 a2 a3 t) [.int s0] (hpo X mem sw o e) P := by
  show QW (d + 1) mTab_breaksKey 15 [.val (.ref t), .val (.int a1), .val (.int a2), .val (.int a3)] [.int s0] (hpo X mem sw o e) P
  refine QW.if_ne (tgt := 27) dTab_breaksKey_15 (by decide) (fun z0 => ?_) (fun z0 => ?_)
  · exact (k1 z0)
  · refine QW.aload_n dTab_breaksKey_18 rfl rfl ?_
    refine QW.iconst (v := 2) dTab_breaksKey_19 (by decide) ?_
    refine QW.iload_n dTab_breaksKey_20 rfl rfl ?_
    exact MW.calV (as := [.int 2, .int a3]) (rest := []) hX dTab_breaksKey_21 eTab_isTaken lTab_30 iTab_isTaken vTab_isTaken rfl rfl (kTab_0 ht) rfl rfl rfl (Nat.le_of_ble_eq_true rfl) rfl (k2 z0)
theorem bTab_breaksKey_24 {t : Nat} {a1 : Int32} {a2 : Int32} {a3 : Int32} {s0 : Int32} (hX : X.length = 13) (ht : kTab t) (k1 : (s0 = 0) → P (.inl (some (.int 0)), (hpo X mem sw o e))) (k2 : (¬ s0 = 0) → QW d mTab_breaksKey 27 (lTab_breaksKey_27 a1 a2 a3 t) [] (hpo X mem sw o e) P) : QW d mTab_breaksKey 24 (lTab_breaksKey_24 a1 a2 a3 t) [.int s0] (hpo X mem sw o e) P := by
  show QW d mTab_breaksKey 24 [.val (.ref t), .val (.int a1), .val (.int a2), .val (.int a3)] [.int s0] (hpo X mem sw o e) P
  refine QW.if_eq (tgt := 31) dTab_breaksKey_24 (by decide) (fun z0 => ?_) (fun z0 => ?_)
  · refine QW.iconst (v := 0) dTab_breaksKey_31 (by decide) ?_
    exact QW.iret dTab_breaksKey_32 rfl rfl (k1 z0)
  · exact (k2 z0)
theorem bTab_breaksKey_27 {t : Nat} {a1 : Int32} {a2 : Int32} {a3 : Int32} (hX : X.length = 13) (ht : kTab t) (k1 : P (.inl (some (.int 1)), (hpo X mem sw o e))) : QW d mTab_breaksKey 27 (lTab_breaksKey_27 a1 a2 a3 t) [] (hpo X mem sw o e) P := by
  show QW d mTab_breaksKey 27 [.val (.ref t), .val (.int a1), .val (.int a2), .val (.int a3)] [] (hpo X mem sw o e) P
  refine QW.iconst (v := 1) dTab_breaksKey_27 (by decide) ?_
  refine QW.goto (tgt := 32) dTab_breaksKey_28 (by decide) ?_
  exact QW.iret dTab_breaksKey_32 rfl rfl k1
theorem dTab_isTaken_0 : decode mTab_isTaken.2.1 0 = .ok (.aload_n 0, 1) := by decide +kernel
theorem dTab_isTaken_1 : decode mTab_isTaken.2.1 1 = .ok (.getfield 9, 3) := by decide +kernel
theorem dTab_isTaken_4 : decode mTab_isTaken.2.1 4 = .ok (.iload_n 1, 1) := by decide +kernel
theorem dTab_isTaken_5 : decode mTab_isTaken.2.1 5 = .ok (.baload, 1) := by decide +kernel
theorem dTab_isTaken_6 : decode mTab_isTaken.2.1 6 = .ok (.ifCond .ne 5, 3) := by decide +kernel
theorem dTab_isTaken_9 : decode mTab_isTaken.2.1 9 = .ok (.iconst 0, 1) := by decide +kernel
theorem dTab_isTaken_10 : decode mTab_isTaken.2.1 10 = .ok (.ireturn, 1) := by decide +kernel
theorem dTab_isTaken_11 : decode mTab_isTaken.2.1 11 = .ok (.iconst 0, 1) := by decide +kernel
theorem dTab_isTaken_12 : decode mTab_isTaken.2.1 12 = .ok (.istore_n 3, 1) := by decide +kernel
theorem dTab_isTaken_13 : decode mTab_isTaken.2.1 13 = .ok (.iload_n 3, 1) := by decide +kernel
theorem dTab_isTaken_14 : decode mTab_isTaken.2.1 14 = .ok (.aload_n 0, 1) := by decide +kernel
theorem dTab_isTaken_15 : decode mTab_isTaken.2.1 15 = .ok (.getfield 23, 3) := by decide +kernel
theorem dTab_isTaken_18 : decode mTab_isTaken.2.1 18 = .ok (.if_icmp .ge 21, 3) := by decide +kernel
theorem dTab_isTaken_21 : decode mTab_isTaken.2.1 21 = .ok (.aload_n 0, 1) := by decide +kernel
theorem dTab_isTaken_22 : decode mTab_isTaken.2.1 22 = .ok (.iload_n 3, 1) := by decide +kernel
theorem dTab_isTaken_23 : decode mTab_isTaken.2.1 23 = .ok (.iload_n 1, 1) := by decide +kernel
theorem dTab_isTaken_24 : decode mTab_isTaken.2.1 24 = .ok (.invokevirtual 26, 3) := by decide +kernel
theorem dTab_isTaken_27 : decode mTab_isTaken.2.1 27 = .ok (.iload_n 2, 1) := by decide +kernel
theorem dTab_isTaken_28 : decode mTab_isTaken.2.1 28 = .ok (.if_icmp .ne 5, 3) := by decide +kernel
theorem dTab_isTaken_31 : decode mTab_isTaken.2.1 31 = .ok (.iconst 1, 1) := by decide +kernel
theorem dTab_isTaken_32 : decode mTab_isTaken.2.1 32 = .ok (.ireturn, 1) := by decide +kernel
theorem dTab_isTaken_33 : decode mTab_isTaken.2.1 33 = .ok (.iinc 3 1, 3) := by decide +kernel
theorem dTab_isTaken_36 : decode mTab_isTaken.2.1 36 = .ok (.goto (-23), 3) := by decide +kernel
theorem dTab_isTaken_39 : decode mTab_isTaken.2.1 39 = .ok (.iconst 0, 1) := by decide +kernel
theorem dTab_isTaken_40 : decode mTab_isTaken.2.1 40 = .ok (.ireturn, 1) := by decide +kernel
def lTab_isTaken_13 (a1 : Int32) (a2 : Int32) (a3 : Int32) (t : Nat) : List Slot := [.val (.ref t), .val (.int a1), .val (.int a2), .val (.int a3)]
def lTab_isTaken_27 (a1 : Int32) (a2 : Int32) (a3 : Int32) (t : Nat) : List Slot := [.val (.ref t), .val (.int a1), .val (.int a2), .val (.int a3)]
theorem bTab_isTaken_0 {t : Nat} {a1 : Int32} {a2 : Int32} (hX : X.length = 13) (ht : kTab t) (h1 : inx a1 3) (k2 : (¬ (mem (t + 1) (Int32.toNatClampNeg a1)) = 0) → QW d mTab_isTaken 13 (lTab_isTaken_13 a1 a2 0 t) [] (hpo X mem sw o e) P) (k3 : ((mem (t + 1) (Int32.toNatClampNeg a1)) = 0) → P (.inl (some (.int 0)), (hpo X mem sw o e))) : QW d mTab_isTaken 0 (qen 4 [.ref t, .int a1, .int a2]) [] (hpo X mem sw o e) P := by
  show QW d mTab_isTaken 0 [.val (.ref t), .val (.int a1), .val (.int a2), .unset] [] (hpo X mem sw o e) P
  refine QW.aload_n dTab_isTaken_0 rfl rfl ?_
  refine MW.getr (r' := (t + 1)) hX dTab_isTaken_1 fTab_9 (kTab_0 ht) rfl (kTab_s1 ht _) ?_
  refine QW.iload_n dTab_isTaken_4 rfl rfl ?_
  refine MW.zald hX dTab_isTaken_5 (kTab_1 ht) h1.1 (rep_get h1.2) ?_
  refine QW.if_ne (tgt := 11) dTab_isTaken_6 (by decide) (fun z0 => ?_) (fun z0 => ?_)
  · refine QW.iconst (v := 0) dTab_isTaken_11 (by decide) ?_
    refine QW.istore_n (ls' := [.val (.ref t), .val (.int a1), .val (.int a2), .val (.int 0)]) dTab_isTaken_12 rfl rfl ?_
    exact (k2 z0)
  · refine QW.iconst (v := 0) dTab_isTaken_9 (by decide) ?_
    exact QW.iret dTab_isTaken_10 rfl rfl (k3 z0)
theorem bTab_isTaken_13 {t : Nat} {a1 : Int32} {a2 : Int32} {a3 : Int32} (hX : X.length = 13) (ht : kTab t) (k1 : ((mem t 1) ≤ a3) → P (.inl (some (.int 0)), (hpo X mem sw o e))) (k2 : (¬ (mem t 1) ≤ a3) → QW d mTab_cell 0 (qen 3 [.ref t, .int a3, .int a1]) [] (hpo X mem sw o e) (qcl d mTab_isTaken 24 27 (lTab_isTaken_27 a1 a2 a3 t) [] P)) : QW (d + 1) mTab_isTaken 13 (lTab_isTaken_13 a1 a2 a3 t) [] (hpo X mem sw o e) P := by
  show QW (d + 1) mTab_isTaken 13 [.val (.ref t), .val (.int a1), .val (.int a2), .val (.int a3)] [] (hpo X mem sw o e) P
  refine QW.iload_n dTab_isTaken_13 rfl rfl ?_
  refine QW.aload_n dTab_isTaken_14 rfl rfl ?_
  refine MW.geti hX dTab_isTaken_15 fTab_23 (kTab_0 ht) rfl ?_
  refine QW.icmp_ge (tgt := 39) dTab_isTaken_18 (by decide) (fun z0 => ?_) (fun z0 => ?_)
  · refine QW.iconst (v := 0) dTab_isTaken_39 (by decide) ?_
    exact QW.iret dTab_isTaken_40 rfl rfl (k1 z0)
  · refine QW.aload_n dTab_isTaken_21 rfl rfl ?_
    refine QW.iload_n dTab_isTaken_22 rfl rfl ?_
    refine QW.iload_n dTab_isTaken_23 rfl rfl ?_
    exact MW.calV (as := [.int a3, .int a1]) (rest := []) hX dTab_isTaken_24 eTab_cell lTab_26 iTab_cell vTab_cell rfl rfl (kTab_0 ht) rfl rfl rfl (Nat.le_of_ble_eq_true rfl) rfl (k2 z0)
theorem bTab_isTaken_27 {t : Nat} {a1 : Int32} {a2 : Int32} {a3 : Int32} {s0 : Int32} (hX : X.length = 13) (ht : kTab t) (k1 : (¬ s0 = a2) → QW d mTab_isTaken 13 (lTab_isTaken_13 a1 a2 (a3 + 1) t) [] (hpo X mem sw o e) P) (k2 : (s0 = a2) → P (.inl (some (.int 1)), (hpo X mem sw o e))) : QW d mTab_isTaken 27 (lTab_isTaken_27 a1 a2 a3 t) [.int s0] (hpo X mem sw o e) P := by
  show QW d mTab_isTaken 27 [.val (.ref t), .val (.int a1), .val (.int a2), .val (.int a3)] [.int s0] (hpo X mem sw o e) P
  refine QW.iload_n dTab_isTaken_27 rfl rfl ?_
  refine QW.icmp_ne (tgt := 33) dTab_isTaken_28 (by decide) (fun z0 => ?_) (fun z0 => ?_)
  · refine MW.iinc (c := 1) (ls' := [.val (.ref t), .val (.int a1), .val (.int a2), .val (.int (a3 + 1))]) dTab_isTaken_33 (by decide) rfl rfl ?_
    refine QW.goto (tgt := 13) dTab_isTaken_36 (by decide) ?_
    exact (k1 z0)
  · refine QW.iconst (v := 1) dTab_isTaken_31 (by decide) ?_
    exact QW.iret dTab_isTaken_32 rfl rfl (k2 z0)
theorem dTab_append_0 : decode mTab_append.2.1 0 = .ok (.aload_n 0, 1) := by decide +kernel
theorem dTab_append_1 : decode mTab_append.2.1 1 = .ok (.getfield 23, 3) := by decide +kernel
theorem dTab_append_4 : decode mTab_append.2.1 4 = .ok (.iconst 3, 1) := by decide +kernel
theorem dTab_append_5 : decode mTab_append.2.1 5 = .ok (.imul, 1) := by decide +kernel
theorem dTab_append_6 : decode mTab_append.2.1 6 = .ok (.istore 4, 2) := by decide +kernel
theorem dTab_append_8 : decode mTab_append.2.1 8 = .ok (.aload_n 0, 1) := by decide +kernel
theorem dTab_append_9 : decode mTab_append.2.1 9 = .ok (.getfield 15, 3) := by decide +kernel
theorem dTab_append_12 : decode mTab_append.2.1 12 = .ok (.iload 4, 2) := by decide +kernel
theorem dTab_append_14 : decode mTab_append.2.1 14 = .ok (.iload_n 1, 1) := by decide +kernel
theorem dTab_append_15 : decode mTab_append.2.1 15 = .ok (.iastore, 1) := by decide +kernel
theorem dTab_append_16 : decode mTab_append.2.1 16 = .ok (.aload_n 0, 1) := by decide +kernel
theorem dTab_append_17 : decode mTab_append.2.1 17 = .ok (.getfield 15, 3) := by decide +kernel
theorem dTab_append_20 : decode mTab_append.2.1 20 = .ok (.iload 4, 2) := by decide +kernel
theorem dTab_append_22 : decode mTab_append.2.1 22 = .ok (.iconst 1, 1) := by decide +kernel
theorem dTab_append_23 : decode mTab_append.2.1 23 = .ok (.iadd, 1) := by decide +kernel
theorem dTab_append_24 : decode mTab_append.2.1 24 = .ok (.iload_n 2, 1) := by decide +kernel
theorem dTab_append_25 : decode mTab_append.2.1 25 = .ok (.iastore, 1) := by decide +kernel
theorem dTab_append_26 : decode mTab_append.2.1 26 = .ok (.aload_n 0, 1) := by decide +kernel
theorem dTab_append_27 : decode mTab_append.2.1 27 = .ok (.getfield 15, 3) := by decide +kernel
theorem dTab_append_30 : decode mTab_append.2.1 30 = .ok (.iload 4, 2) := by decide +kernel
theorem dTab_append_32 : decode mTab_append.2.1 32 = .ok (.iconst 2, 1) := by decide +kernel
theorem dTab_append_33 : decode mTab_append.2.1 33 = .ok (.iadd, 1) := by decide +kernel
theorem dTab_append_34 : decode mTab_append.2.1 34 = .ok (.iload_n 3, 1) := by decide +kernel
theorem dTab_append_35 : decode mTab_append.2.1 35 = .ok (.iastore, 1) := by decide +kernel
theorem dTab_append_36 : decode mTab_append.2.1 36 = .ok (.aload_n 0, 1) := by decide +kernel
theorem dTab_append_37 : decode mTab_append.2.1 37 = .ok (.dup, 1) := by decide +kernel
theorem dTab_append_38 : decode mTab_append.2.1 38 = .ok (.getfield 23, 3) := by decide +kernel
theorem dTab_append_41 : decode mTab_append.2.1 41 = .ok (.iconst 1, 1) := by decide +kernel
theorem dTab_append_42 : decode mTab_append.2.1 42 = .ok (.iadd, 1) := by decide +kernel
theorem dTab_append_43 : decode mTab_append.2.1 43 = .ok (.putfield 23, 3) := by decide +kernel
theorem dTab_append_46 : decode mTab_append.2.1 46 = .ok (.aload_n 0, 1) := by decide +kernel
theorem dTab_append_47 : decode mTab_append.2.1 47 = .ok (.getfield 23, 3) := by decide +kernel
theorem dTab_append_50 : decode mTab_append.2.1 50 = .ok (.ireturn, 1) := by decide +kernel
theorem bTab_append_0 {t : Nat} {a1 : Int32} {a2 : Int32} {a3 : Int32} (hX : X.length = 13) (ht : kTab t) (h1 : inx ((mem t 1) * 3) 24) (h2 : inx (((mem t 1) * 3) + 1) 24) (h3 : inx (((mem t 1) * 3) + 2) 24) (k4 : P (.inl (some (.int ((mup (mup (mup (mup mem (t + 2) (Int32.toNatClampNeg ((mem t 1) * 3)) a1) (t + 2) (Int32.toNatClampNeg (((mem t 1) * 3) + 1)) a2) (t + 2) (Int32.toNatClampNeg (((mem t 1) * 3) + 2)) a3) t 1 (((mup (mup (mup mem (t + 2) (Int32.toNatClampNeg ((mem t 1) * 3)) a1) (t + 2) (Int32.toNatClampNeg (((mem t 1) * 3) + 1)) a2) (t + 2) (Int32.toNatClampNeg (((mem t 1) * 3) + 2)) a3) t 1) + 1)) t 1))), (hpo X (mup (mup (mup (mup mem (t + 2) (Int32.toNatClampNeg ((mem t 1) * 3)) a1) (t + 2) (Int32.toNatClampNeg (((mem t 1) * 3) + 1)) a2) (t + 2) (Int32.toNatClampNeg (((mem t 1) * 3) + 2)) a3) t 1 (((mup (mup (mup mem (t + 2) (Int32.toNatClampNeg ((mem t 1) * 3)) a1) (t + 2) (Int32.toNatClampNeg (((mem t 1) * 3) + 1)) a2) (t + 2) (Int32.toNatClampNeg (((mem t 1) * 3) + 2)) a3) t 1) + 1)) sw o e))) : QW d mTab_append 0 (qen 5 [.ref t, .int a1, .int a2, .int a3]) [] (hpo X mem sw o e) P := by
  show QW d mTab_append 0 [.val (.ref t), .val (.int a1), .val (.int a2), .val (.int a3), .unset] [] (hpo X mem sw o e) P
  refine QW.aload_n dTab_append_0 rfl rfl ?_
  refine MW.geti hX dTab_append_1 fTab_23 (kTab_0 ht) rfl ?_
  refine QW.iconst (v := 3) dTab_append_4 (by decide) ?_
  refine QW.imul dTab_append_5 ?_
  refine QW.istore (ls' := [.val (.ref t), .val (.int a1), .val (.int a2), .val (.int a3), .val (.int ((mem t 1) * 3))]) dTab_append_6 rfl ?_
  refine QW.aload_n dTab_append_8 rfl rfl ?_
  refine MW.getr (r' := (t + 2)) hX dTab_append_9 fTab_15 (kTab_0 ht) rfl (kTab_s2 ht _) ?_
  refine QW.iload dTab_append_12 rfl ?_
  refine QW.iload_n dTab_append_14 rfl rfl ?_
  refine MW.iast hX dTab_append_15 (kTab_2 ht) h1.1 (rep_get h1.2) ?_
  refine QW.aload_n dTab_append_16 rfl rfl ?_
  refine MW.getr (r' := (t + 2)) hX dTab_append_17 fTab_15 (kTab_0 ht) rfl (kTab_s2 ht _) ?_
  refine QW.iload dTab_append_20 rfl ?_
  refine QW.iconst (v := 1) dTab_append_22 (by decide) ?_
  refine QW.iadd dTab_append_23 ?_
  refine QW.iload_n dTab_append_24 rfl rfl ?_
  refine MW.iast hX dTab_append_25 (kTab_2 ht) h2.1 (rep_get h2.2) ?_
  refine QW.aload_n dTab_append_26 rfl rfl ?_
  refine MW.getr (r' := (t + 2)) hX dTab_append_27 fTab_15 (kTab_0 ht) rfl (kTab_s2 ht _) ?_
  refine QW.iload dTab_append_30 rfl ?_
  refine QW.iconst (v := 2) dTab_append_32 (by decide) ?_
  refine QW.iadd dTab_append_33 ?_
  refine QW.iload_n dTab_append_34 rfl rfl ?_
  refine MW.iast hX dTab_append_35 (kTab_2 ht) h3.1 (rep_get h3.2) ?_
  refine QW.aload_n dTab_append_36 rfl rfl ?_
  refine QW.dup dTab_append_37 rfl ?_
  refine MW.geti hX dTab_append_38 fTab_23 (kTab_0 ht) rfl ?_
  refine QW.iconst (v := 1) dTab_append_41 (by decide) ?_
  refine QW.iadd dTab_append_42 ?_
  refine MW.puti hX dTab_append_43 fTab_23 (kTab_0 ht) rfl rfl ?_
  refine QW.aload_n dTab_append_46 rfl rfl ?_
  refine MW.geti hX dTab_append_47 fTab_23 (kTab_0 ht) rfl ?_
  exact QW.iret dTab_append_50 rfl rfl k4
theorem dTxt_clear_0 : decode mTxt_clear.2.1 0 = .ok (.aload_n 0, 1) := by decide +kernel
theorem dTxt_clear_1 : decode mTxt_clear.2.1 1 = .ok (.getfield 19, 3) := by decide +kernel
theorem dTxt_clear_4 : decode mTxt_clear.2.1 4 = .ok (.istore_n 1, 1) := by decide +kernel
theorem dTxt_clear_5 : decode mTxt_clear.2.1 5 = .ok (.aload_n 0, 1) := by decide +kernel
theorem dTxt_clear_6 : decode mTxt_clear.2.1 6 = .ok (.iconst 0, 1) := by decide +kernel
theorem dTxt_clear_7 : decode mTxt_clear.2.1 7 = .ok (.putfield 19, 3) := by decide +kernel
theorem dTxt_clear_10 : decode mTxt_clear.2.1 10 = .ok (.iload_n 1, 1) := by decide +kernel
theorem dTxt_clear_11 : decode mTxt_clear.2.1 11 = .ok (.ireturn, 1) := by decide +kernel
theorem bTxt_clear_0 (hX : X.length = 13) (k1 : P (.inl (some (.int (mem 28 1))), (hpo X (mup mem 28 1 0) sw o e))) : QW d mTxt_clear 0 (qen 2 [.ref 28]) [] (hpo X mem sw o e) P := by
  show QW d mTxt_clear 0 [.val (.ref 28), .unset] [] (hpo X mem sw o e) P
  refine QW.aload_n dTxt_clear_0 rfl rfl ?_
  refine MW.geti hX dTxt_clear_1 fTxt_19 rfl rfl ?_
  refine QW.istore_n (ls' := [.val (.ref 28), .val (.int (mem 28 1))]) dTxt_clear_4 rfl rfl ?_
  refine QW.aload_n dTxt_clear_5 rfl rfl ?_
  refine QW.iconst (v := 0) dTxt_clear_6 (by decide) ?_
  refine MW.puti hX dTxt_clear_7 fTxt_19 rfl rfl rfl ?_
  refine QW.iload_n dTxt_clear_10 rfl rfl ?_
  exact QW.iret dTxt_clear_11 rfl rfl k1
theorem dMo_thrown_0 : decode mMo_thrown.2.1 0 = .ok (.aload_n 0, 1) := by decide +kernel
theorem dMo_thrown_1 : decode mMo_thrown.2.1 1 = .ok (.getfield 106, 3) := by decide +kernel
theorem dMo_thrown_4 : decode mMo_thrown.2.1 4 = .ok (.ireturn, 1) := by decide +kernel
theorem bMo_thrown_0 (hX : X.length = 13) (k1 : P (.inl (some (.int (mem 193 0))), (hpo X mem sw o e))) : QW d mMo_thrown 0 (qen 1 [.ref 193]) [] (hpo X mem sw o e) P := by
  show QW d mMo_thrown 0 [.val (.ref 193)] [] (hpo X mem sw o e) P
  refine QW.aload_n dMo_thrown_0 rfl rfl ?_
  refine MW.geti hX dMo_thrown_1 fMo_106 rfl rfl ?_
  exact QW.iret dMo_thrown_4 rfl rfl k1
theorem dMo_isColumn_0 : decode mMo_isColumn.2.1 0 = .ok (.iload_n 1, 1) := by decide +kernel
theorem dMo_isColumn_1 : decode mMo_isColumn.2.1 1 = .ok (.ifCond .lt 29, 3) := by decide +kernel
theorem dMo_isColumn_4 : decode mMo_isColumn.2.1 4 = .ok (.iload_n 1, 1) := by decide +kernel
theorem dMo_isColumn_5 : decode mMo_isColumn.2.1 5 = .ok (.aload_n 0, 1) := by decide +kernel
theorem dMo_isColumn_6 : decode mMo_isColumn.2.1 6 = .ok (.getfield 109, 3) := by decide +kernel
theorem dMo_isColumn_9 : decode mMo_isColumn.2.1 9 = .ok (.if_icmp .ge 21, 3) := by decide +kernel
theorem dMo_isColumn_12 : decode mMo_isColumn.2.1 12 = .ok (.iload_n 2, 1) := by decide +kernel
theorem dMo_isColumn_13 : decode mMo_isColumn.2.1 13 = .ok (.ifCond .lt 17, 3) := by decide +kernel
theorem dMo_isColumn_16 : decode mMo_isColumn.2.1 16 = .ok (.iload_n 2, 1) := by decide +kernel
theorem dMo_isColumn_17 : decode mMo_isColumn.2.1 17 = .ok (.aload_n 0, 1) := by decide +kernel
theorem dMo_isColumn_18 : decode mMo_isColumn.2.1 18 = .ok (.getfield 7, 3) := by decide +kernel
theorem dMo_isColumn_21 : decode mMo_isColumn.2.1 21 = .ok (.iload_n 1, 1) := by decide +kernel
theorem dMo_isColumn_22 : decode mMo_isColumn.2.1 22 = .ok (.iaload, 1) := by decide +kernel
theorem dMo_isColumn_23 : decode mMo_isColumn.2.1 23 = .ok (.if_icmp .ge 7, 3) := by decide +kernel
theorem dMo_isColumn_26 : decode mMo_isColumn.2.1 26 = .ok (.iconst 1, 1) := by decide +kernel
theorem dMo_isColumn_27 : decode mMo_isColumn.2.1 27 = .ok (.goto 4, 3) := by decide +kernel
theorem dMo_isColumn_30 : decode mMo_isColumn.2.1 30 = .ok (.iconst 0, 1) := by decide +kernel
theorem dMo_isColumn_31 : decode mMo_isColumn.2.1 31 = .ok (.ireturn, 1) := by decide +kernel
theorem bMo_isColumn_0 {a1 : Int32} {a2 : Int32} (hX : X.length = 13) (k1 : (a1 < 0) → P (.inl (some (.int 0)), (hpo X mem sw o e))) (k2 : (¬ a1 < 0) → ((mem 193 1) ≤ a1) → P (.inl (some (.int 0)), (hpo X mem sw o e))) (k3 : (¬ a1 < 0) → (¬ (mem 193 1) ≤ a1) → (a2 < 0) → P (.inl (some (.int 0)), (hpo X mem sw o e))) (h4 : (¬ a1 < 0) → (¬ (mem 193 1) ≤ a1) → (¬ a2 < 0) → inx a1 4) (k5 : (¬ a1 < 0) → (¬ (mem 193 1) ≤ a1) → (¬ a2 < 0) → ((mem 194 (Int32.toNatClampNeg a1)) ≤ a2) → P (.inl (some (.int 0)), (hpo X mem sw o e))) (k6 : (¬ a1 < 0) → (¬ (mem 193 1) ≤ a1) → (¬ a2 < 0) → (¬ (mem 194 (Int32.toNatClampNeg a1)) ≤ a2) → P (.inl (some (.int 1)), (hpo X mem sw o e))) : QW d mMo_isColumn 0 (qen 3 [.ref 193, .int a1, .int a2]) [] (hpo X mem sw o e) P := by
  show QW d mMo_isColumn 0 [.val (.ref 193), .val (.int a1), .val (.int a2)] [] (hpo X mem sw o e) P
  refine QW.iload_n dMo_isColumn_0 rfl rfl ?_
  refine QW.if_lt (tgt := 30) dMo_isColumn_1 (by decide) (fun z0 => ?_) (fun z0 => ?_)
  · refine QW.iconst (v := 0) dMo_isColumn_30 (by decide) ?_
    exact QW.iret dMo_isColumn_31 rfl rfl (k1 z0)
  · refine QW.iload_n dMo_isColumn_4 rfl rfl ?_
    refine QW.aload_n dMo_isColumn_5 rfl rfl ?_
    refine MW.geti hX dMo_isColumn_6 fMo_109 rfl rfl ?_
    refine QW.icmp_ge (tgt := 30) dMo_isColumn_9 (by decide) (fun z1 => ?_) (fun z1 => ?_)
    · refine QW.iconst (v := 0) dMo_isColumn_30 (by decide) ?_
      exact QW.iret dMo_isColumn_31 rfl rfl (k2 z0 z1)
    · refine QW.iload_n dMo_isColumn_12 rfl rfl ?_
      refine QW.if_lt (tgt := 30) dMo_isColumn_13 (by decide) (fun z2 => ?_) (fun z2 => ?_)
      · refine QW.iconst (v := 0) dMo_isColumn_30 (by decide) ?_
        exact QW.iret dMo_isColumn_31 rfl rfl (k3 z0 z1 z2)
      · refine QW.iload_n dMo_isColumn_16 rfl rfl ?_
        refine QW.aload_n dMo_isColumn_17 rfl rfl ?_
        refine MW.getr (r' := 194) hX dMo_isColumn_18 fMo_7 rfl rfl (by cases sw <;> rfl) ?_
        refine QW.iload_n dMo_isColumn_21 rfl rfl ?_
        refine MW.iald hX dMo_isColumn_22 rfl (h4 z0 z1 z2).1 (rep_get (h4 z0 z1 z2).2) ?_
        refine QW.icmp_ge (tgt := 30) dMo_isColumn_23 (by decide) (fun z3 => ?_) (fun z3 => ?_)
        · refine QW.iconst (v := 0) dMo_isColumn_30 (by decide) ?_
          exact QW.iret dMo_isColumn_31 rfl rfl (k5 z0 z1 z2 z3)
        · refine QW.iconst (v := 1) dMo_isColumn_26 (by decide) ?_
          refine QW.goto (tgt := 31) dMo_isColumn_27 (by decide) ?_
          exact QW.iret dMo_isColumn_31 rfl rfl (k6 z0 z1 z2 z3)
theorem dMo_table_0 : decode mMo_table.2.1 0 = .ok (.aload_n 0, 1) := by decide +kernel
theorem dMo_table_1 : decode mMo_table.2.1 1 = .ok (.iload_n 1, 1) := by decide +kernel
theorem dMo_table_2 : decode mMo_table.2.1 2 = .ok (.iconst 1, 1) := by decide +kernel
theorem dMo_table_3 : decode mMo_table.2.1 3 = .ok (.if_icmp .lt 8, 3) := by decide +kernel
theorem dMo_table_6 : decode mMo_table.2.1 6 = .ok (.iload_n 1, 1) := by decide +kernel
theorem dMo_table_7 : decode mMo_table.2.1 7 = .ok (.iconst 3, 1) := by decide +kernel
theorem dMo_table_8 : decode mMo_table.2.1 8 = .ok (.if_icmp .le 7, 3) := by decide +kernel
theorem dMo_table_11 : decode mMo_table.2.1 11 = .ok (.iconst 1, 1) := by decide +kernel
theorem dMo_table_12 : decode mMo_table.2.1 12 = .ok (.goto 16, 3) := by decide +kernel
theorem dMo_table_15 : decode mMo_table.2.1 15 = .ok (.aload_n 0, 1) := by decide +kernel
theorem dMo_table_16 : decode mMo_table.2.1 16 = .ok (.getfield 109, 3) := by decide +kernel
theorem dMo_table_19 : decode mMo_table.2.1 19 = .ok (.iconst 4, 1) := by decide +kernel
theorem dMo_table_20 : decode mMo_table.2.1 20 = .ok (.if_icmp .ne 7, 3) := by decide +kernel
theorem dMo_table_23 : decode mMo_table.2.1 23 = .ok (.iconst 2, 1) := by decide +kernel
theorem dMo_table_24 : decode mMo_table.2.1 24 = .ok (.goto 4, 3) := by decide +kernel
theorem dMo_table_27 : decode mMo_table.2.1 27 = .ok (.iconst 0, 1) := by decide +kernel
theorem dMo_table_28 : decode mMo_table.2.1 28 = .ok (.putfield 106, 3) := by decide +kernel
theorem dMo_table_31 : decode mMo_table.2.1 31 = .ok (.aload_n 0, 1) := by decide +kernel
theorem dMo_table_32 : decode mMo_table.2.1 32 = .ok (.getfield 106, 3) := by decide +kernel
theorem dMo_table_35 : decode mMo_table.2.1 35 = .ok (.ifCond .le 5, 3) := by decide +kernel
theorem dMo_table_38 : decode mMo_table.2.1 38 = .ok (.iconst 0, 1) := by decide +kernel
theorem dMo_table_39 : decode mMo_table.2.1 39 = .ok (.ireturn, 1) := by decide +kernel
theorem dMo_table_40 : decode mMo_table.2.1 40 = .ok (.aload_n 0, 1) := by decide +kernel
theorem dMo_table_41 : decode mMo_table.2.1 41 = .ok (.getfield 7, 3) := by decide +kernel
theorem dMo_table_44 : decode mMo_table.2.1 44 = .ok (.aload_n 0, 1) := by decide +kernel
theorem dMo_table_45 : decode mMo_table.2.1 45 = .ok (.getfield 109, 3) := by decide +kernel
theorem dMo_table_48 : decode mMo_table.2.1 48 = .ok (.iload_n 1, 1) := by decide +kernel
theorem dMo_table_49 : decode mMo_table.2.1 49 = .ok (.iastore, 1) := by decide +kernel
theorem dMo_table_50 : decode mMo_table.2.1 50 = .ok (.aload_n 0, 1) := by decide +kernel
theorem dMo_table_51 : decode mMo_table.2.1 51 = .ok (.dup, 1) := by decide +kernel
theorem dMo_table_52 : decode mMo_table.2.1 52 = .ok (.getfield 109, 3) := by decide +kernel
theorem dMo_table_55 : decode mMo_table.2.1 55 = .ok (.iconst 1, 1) := by decide +kernel
theorem dMo_table_56 : decode mMo_table.2.1 56 = .ok (.iadd, 1) := by decide +kernel
theorem dMo_table_57 : decode mMo_table.2.1 57 = .ok (.putfield 109, 3) := by decide +kernel
theorem dMo_table_60 : decode mMo_table.2.1 60 = .ok (.aload_n 0, 1) := by decide +kernel
theorem dMo_table_61 : decode mMo_table.2.1 61 = .ok (.getfield 109, 3) := by decide +kernel
theorem dMo_table_64 : decode mMo_table.2.1 64 = .ok (.iconst 1, 1) := by decide +kernel
theorem dMo_table_65 : decode mMo_table.2.1 65 = .ok (.isub, 1) := by decide +kernel
theorem dMo_table_66 : decode mMo_table.2.1 66 = .ok (.ireturn, 1) := by decide +kernel
def lMo_table_11 (a1 : Int32) : List Slot := [.val (.ref 193), .val (.int a1)]
def lMo_table_28 (a1 : Int32) : List Slot := [.val (.ref 193), .val (.int a1)]
theorem bMo_table_0 {a1 : Int32} (hX : X.length = 13) (k1 : (a1 < 1) → QW d mMo_table 11 (lMo_table_11 a1) [.ref 193] (hpo X mem sw o e) P) (k2 : (¬ a1 < 1) → (a1 ≤ 3) → (¬ (mem 193 1) = 4) → QW d mMo_table 28 (lMo_table_28 a1) [.int 0, .ref 193] (hpo X mem sw o e) P) (k3 : (¬ a1 < 1) → (a1 ≤ 3) → ((mem 193 1) = 4) → QW d mMo_table 28 (lMo_table_28 a1) [.int 2, .ref 193] (hpo X mem sw o e) P) (k4 : (¬ a1 < 1) → (¬ a1 ≤ 3) → QW d mMo_table 11 (lMo_table_11 a1) [.ref 193] (hpo X mem sw o e) P) : QW d mMo_table 0 (qen 2 [.ref 193, .int a1]) [] (hpo X mem sw o e) P := by
  show QW d mMo_table 0 [.val (.ref 193), .val (.int a1)] [] (hpo X mem sw o e) P
  refine QW.aload_n dMo_table_0 rfl rfl ?_
  refine QW.iload_n dMo_table_1 rfl rfl ?_
  refine QW.iconst (v := 1) dMo_table_2 (by decide) ?_
  refine QW.icmp_lt (tgt := 11) dMo_table_3 (by decide) (fun z0 => ?_) (fun z0 => ?_)
  · exact (k1 z0)
  · refine QW.iload_n dMo_table_6 rfl rfl ?_
    refine QW.iconst (v := 3) dMo_table_7 (by decide) ?_
    refine QW.icmp_le (tgt := 15) dMo_table_8 (by decide) (fun z1 => ?_) (fun z1 => ?_)
    · refine QW.aload_n dMo_table_15 rfl rfl ?_
      refine MW.geti hX dMo_table_16 fMo_109 rfl rfl ?_
      refine QW.iconst (v := 4) dMo_table_19 (by decide) ?_
      refine QW.icmp_ne (tgt := 27) dMo_table_20 (by decide) (fun z2 => ?_) (fun z2 => ?_)
      · refine QW.iconst (v := 0) dMo_table_27 (by decide) ?_
        exact (k2 z0 z1 z2)
      · refine QW.iconst (v := 2) dMo_table_23 (by decide) ?_
        refine QW.goto (tgt := 28) dMo_table_24 (by decide) ?_
        exact (k3 z0 z1 z2)
    · exact (k4 z0 z1)
theorem bMo_table_11 {a1 : Int32} (hX : X.length = 13) (k1 : QW d mMo_table 28 (lMo_table_28 a1) [.int 1, .ref 193] (hpo X mem sw o e) P) : QW d mMo_table 11 (lMo_table_11 a1) [.ref 193] (hpo X mem sw o e) P := by
  show QW d mMo_table 11 [.val (.ref 193), .val (.int a1)] [.ref 193] (hpo X mem sw o e) P
  refine QW.iconst (v := 1) dMo_table_11 (by decide) ?_
  refine QW.goto (tgt := 28) dMo_table_12 (by decide) ?_
  exact k1
theorem bMo_table_28 {a1 : Int32} {s1 : Int32} (hX : X.length = 13) (h1 : (((mup mem 193 0 s1) 193 0) ≤ 0) → inx ((mup mem 193 0 s1) 193 1) 4) (k2 : (((mup mem 193 0 s1) 193 0) ≤ 0) → P (.inl (some (.int (((mup (mup (mup mem 193 0 s1) 194 (Int32.toNatClampNeg ((mup mem 193 0 s1) 193 1)) a1) 193 1 (((mup (mup mem 193 0 s1) 194 (Int32.toNatClampNeg ((mup mem 193 0 s1) 193 1)) a1) 193 1) + 1)) 193 1) - 1))), (hpo X (mup (mup (mup mem 193 0 s1) 194 (Int32.toNatClampNeg ((mup mem 193 0 s1) 193 1)) a1) 193 1 (((mup (mup mem 193 0 s1) 194 (Int32.toNatClampNeg ((mup mem 193 0 s1) 193 1)) a1) 193 1) + 1)) sw o e))) (k3 : (¬ ((mup mem 193 0 s1) 193 0) ≤ 0) → P (.inl (some (.int 0)), (hpo X (mup mem 193 0 s1) sw o e))) : QW d mMo_table 28 (lMo_table_28 a1) [.int s1, .ref 193] (hpo X mem sw o e) P := by
  show QW d mMo_table 28 [.val (.ref 193), .val (.int a1)] [.int s1, .ref 193] (hpo X mem sw o e) P
  refine MW.puti hX dMo_table_28 fMo_106 rfl rfl rfl ?_
  refine QW.aload_n dMo_table_31 rfl rfl ?_
  refine MW.geti hX dMo_table_32 fMo_106 rfl rfl ?_
  refine QW.if_le (tgt := 40) dMo_table_35 (by decide) (fun z0 => ?_) (fun z0 => ?_)
  · refine QW.aload_n dMo_table_40 rfl rfl ?_
    refine MW.getr (r' := 194) hX dMo_table_41 fMo_7 rfl rfl (by cases sw <;> rfl) ?_
    refine QW.aload_n dMo_table_44 rfl rfl ?_
    refine MW.geti hX dMo_table_45 fMo_109 rfl rfl ?_
    refine QW.iload_n dMo_table_48 rfl rfl ?_
    refine MW.iast hX dMo_table_49 rfl (h1 z0).1 (rep_get (h1 z0).2) ?_
    refine QW.aload_n dMo_table_50 rfl rfl ?_
    refine QW.dup dMo_table_51 rfl ?_
    refine MW.geti hX dMo_table_52 fMo_109 rfl rfl ?_
    refine QW.iconst (v := 1) dMo_table_55 (by decide) ?_
    refine QW.iadd dMo_table_56 ?_
    refine MW.puti hX dMo_table_57 fMo_109 rfl rfl rfl ?_
    refine QW.aload_n dMo_table_60 rfl rfl ?_
    refine MW.geti hX dMo_table_61 fMo_109 rfl rfl ?_
    refine QW.iconst (v := 1) dMo_table_64 (by decide) ?_
    refine QW.isub dMo_table_65 ?_
    exact QW.iret dMo_table_66 rfl rfl (k2 z0)
  · refine QW.iconst (v := 0) dMo_table_38 (by decide) ?_
    exact QW.iret dMo_table_39 rfl rfl (k3 z0)
theorem dMo_having_0 : decode mMo_having.2.1 0 = .ok (.iconst 0, 1) := by decide +kernel
theorem dMo_having_1 : decode mMo_having.2.1 1 = .ok (.istore 4, 2) := by decide +kernel
theorem dMo_having_3 : decode mMo_having.2.1 3 = .ok (.iconst 0, 1) := by decide +kernel
theorem dMo_having_4 : decode mMo_having.2.1 4 = .ok (.istore 5, 2) := by decide +kernel
theorem dMo_having_6 : decode mMo_having.2.1 6 = .ok (.iload 5, 2) := by decide +kernel
theorem dMo_having_8 : decode mMo_having.2.1 8 = .ok (.aload_n 0, 1) := by decide +kernel
theorem dMo_having_9 : decode mMo_having.2.1 9 = .ok (.getfield 13, 3) := by decide +kernel
theorem dMo_having_12 : decode mMo_having.2.1 12 = .ok (.iload_n 1, 1) := by decide +kernel
theorem dMo_having_13 : decode mMo_having.2.1 13 = .ok (.iaload, 1) := by decide +kernel
theorem dMo_having_14 : decode mMo_having.2.1 14 = .ok (.if_icmp .ge 39, 3) := by decide +kernel
theorem dMo_having_17 : decode mMo_having.2.1 17 = .ok (.iload 4, 2) := by decide +kernel
theorem dMo_having_19 : decode mMo_having.2.1 19 = .ok (.aload_n 0, 1) := by decide +kernel
theorem dMo_having_20 : decode mMo_having.2.1 20 = .ok (.getfield 16, 3) := by decide +kernel
theorem dMo_having_23 : decode mMo_having.2.1 23 = .ok (.bipush 24, 2) := by decide +kernel
theorem dMo_having_25 : decode mMo_having.2.1 25 = .ok (.iload_n 1, 1) := by decide +kernel
theorem dMo_having_26 : decode mMo_having.2.1 26 = .ok (.imul, 1) := by decide +kernel
theorem dMo_having_27 : decode mMo_having.2.1 27 = .ok (.iconst 3, 1) := by decide +kernel
theorem dMo_having_28 : decode mMo_having.2.1 28 = .ok (.iload 5, 2) := by decide +kernel
theorem dMo_having_30 : decode mMo_having.2.1 30 = .ok (.imul, 1) := by decide +kernel
theorem dMo_having_31 : decode mMo_having.2.1 31 = .ok (.iadd, 1) := by decide +kernel
theorem dMo_having_32 : decode mMo_having.2.1 32 = .ok (.iload_n 2, 1) := by decide +kernel
theorem dMo_having_33 : decode mMo_having.2.1 33 = .ok (.iadd, 1) := by decide +kernel
theorem dMo_having_34 : decode mMo_having.2.1 34 = .ok (.iaload, 1) := by decide +kernel
theorem dMo_having_35 : decode mMo_having.2.1 35 = .ok (.iload_n 3, 1) := by decide +kernel
theorem dMo_having_36 : decode mMo_having.2.1 36 = .ok (.if_icmp .ne 7, 3) := by decide +kernel
theorem dMo_having_39 : decode mMo_having.2.1 39 = .ok (.iconst 1, 1) := by decide +kernel
theorem dMo_having_40 : decode mMo_having.2.1 40 = .ok (.goto 4, 3) := by decide +kernel
theorem dMo_having_43 : decode mMo_having.2.1 43 = .ok (.iconst 0, 1) := by decide +kernel
theorem dMo_having_44 : decode mMo_having.2.1 44 = .ok (.iadd, 1) := by decide +kernel
theorem dMo_having_45 : decode mMo_having.2.1 45 = .ok (.istore 4, 2) := by decide +kernel
theorem dMo_having_47 : decode mMo_having.2.1 47 = .ok (.iinc 5 1, 3) := by decide +kernel
theorem dMo_having_50 : decode mMo_having.2.1 50 = .ok (.goto (-44), 3) := by decide +kernel
theorem dMo_having_53 : decode mMo_having.2.1 53 = .ok (.iload 4, 2) := by decide +kernel
theorem dMo_having_55 : decode mMo_having.2.1 55 = .ok (.ireturn, 1) := by decide +kernel
def lMo_having_6 (a1 : Int32) (a2 : Int32) (a3 : Int32) (a4 : Int32) (a5 : Int32) : List Slot := [.val (.ref 193), .val (.int a1), .val (.int a2), .val (.int a3), .val (.int a4), .val (.int a5)]
def lMo_having_44 (a1 : Int32) (a2 : Int32) (a3 : Int32) (a4 : Int32) (a5 : Int32) : List Slot := [.val (.ref 193), .val (.int a1), .val (.int a2), .val (.int a3), .val (.int a4), .val (.int a5)]
theorem bMo_having_0 {a1 : Int32} {a2 : Int32} {a3 : Int32} (hX : X.length = 13) (k1 : QW d mMo_having 6 (lMo_having_6 a1 a2 a3 0 0) [] (hpo X mem sw o e) P) : QW d mMo_having 0 (qen 6 [.ref 193, .int a1, .int a2, .int a3]) [] (hpo X mem sw o e) P := by
  show QW d mMo_having 0 [.val (.ref 193), .val (.int a1), .val (.int a2), .val (.int a3), .unset, .unset] [] (hpo X mem sw o e) P
  refine QW.iconst (v := 0) dMo_having_0 (by decide) ?_
  refine QW.istore (ls' := [.val (.ref 193), .val (.int a1), .val (.int a2), .val (.int a3), .val (.int 0), .unset]) dMo_having_1 rfl ?_
  refine QW.iconst (v := 0) dMo_having_3 (by decide) ?_
  refine QW.istore (ls' := [.val (.ref 193), .val (.int a1), .val (.int a2), .val (.int a3), .val (.int 0), .val (.int 0)]) dMo_having_4 rfl ?_
  exact k1
theorem bMo_having_6 {a1 : Int32} {a2 : Int32} {a3 : Int32} {a4 : Int32} {a5 : Int32} (hX : X.length = 13) (h1 : inx a1 4) (k2 : ((mem 195 (Int32.toNatClampNeg a1)) ≤ a5) → P (.inl (some (.int a4)), (hpo X mem sw o e))) (h3 : (¬ (mem 195 (Int32.toNatClampNeg a1)) ≤ a5) → inx (((24 * a1) + (3 * a5)) + a2) 96) (k4 : (¬ (mem 195 (Int32.toNatClampNeg a1)) ≤ a5) → (¬ (mem 196 (Int32.toNatClampNeg (((24 * a1) + (3 * a5)) + a2))) = a3) → QW d mMo_having 44 (lMo_having_44 a1 a2 a3 a4 a5) [.int 0, .int a4] (hpo X mem sw o e) P) (k5 : (¬ (mem 195 (Int32.toNatClampNeg a1)) ≤ a5) → ((mem 196 (Int32.toNatClampNeg (((24 * a1) + (3 * a5)) + a2))) = a3) → QW d mMo_having 44 (lMo_having_44 a1 a2 a3 a4 a5) [.int 1, .int a4] (hpo X mem sw o e) P) : QW d mMo_having 6 (lMo_having_6 a1 a2 a3 a4 a5) [] (hpo X mem sw o e) P := by
  show QW d mMo_having 6 [.val (.ref 193), .val (.int a1), .val (.int a2), .val (.int a3), .val (.int a4), .val (.int a5)] [] (hpo X mem sw o e) P
  refine QW.iload dMo_having_6 rfl ?_
  refine QW.aload_n dMo_having_8 rfl rfl ?_
  refine MW.getr (r' := 195) hX dMo_having_9 fMo_13 rfl rfl (by cases sw <;> rfl) ?_
  refine QW.iload_n dMo_having_12 rfl rfl ?_
  refine MW.iald hX dMo_having_13 rfl h1.1 (rep_get h1.2) ?_
  refine QW.icmp_ge (tgt := 53) dMo_having_14 (by decide) (fun z0 => ?_) (fun z0 => ?_)
  · refine QW.iload dMo_having_53 rfl ?_
    exact QW.iret dMo_having_55 rfl rfl (k2 z0)
  · refine QW.iload dMo_having_17 rfl ?_
    refine QW.aload_n dMo_having_19 rfl rfl ?_
    refine MW.getr (r' := 196) hX dMo_having_20 fMo_16 rfl rfl (by cases sw <;> rfl) ?_
    refine QW.bipush (v := 24) dMo_having_23 (by decide) ?_
    refine QW.iload_n dMo_having_25 rfl rfl ?_
    refine QW.imul dMo_having_26 ?_
    refine QW.iconst (v := 3) dMo_having_27 (by decide) ?_
    refine QW.iload dMo_having_28 rfl ?_
    refine QW.imul dMo_having_30 ?_
    refine QW.iadd dMo_having_31 ?_
    refine QW.iload_n dMo_having_32 rfl rfl ?_
    refine QW.iadd dMo_having_33 ?_
    refine MW.iald hX dMo_having_34 rfl (h3 z0).1 (rep_get (h3 z0).2) ?_
    refine QW.iload_n dMo_having_35 rfl rfl ?_
    refine QW.icmp_ne (tgt := 43) dMo_having_36 (by decide) (fun z1 => ?_) (fun z1 => ?_)
    · refine QW.iconst (v := 0) dMo_having_43 (by decide) ?_
      exact (k4 z0 z1)
    · refine QW.iconst (v := 1) dMo_having_39 (by decide) ?_
      refine QW.goto (tgt := 44) dMo_having_40 (by decide) ?_
      exact (k5 z0 z1)
theorem bMo_having_44 {a1 : Int32} {a2 : Int32} {a3 : Int32} {a4 : Int32} {a5 : Int32} {s1 : Int32} {s0 : Int32} (hX : X.length = 13) (k1 : QW d mMo_having 6 (lMo_having_6 a1 a2 a3 (s0 + s1) (a5 + 1)) [] (hpo X mem sw o e) P) : QW d mMo_having 44 (lMo_having_44 a1 a2 a3 a4 a5) [.int s1, .int s0] (hpo X mem sw o e) P := by
  show QW d mMo_having 44 [.val (.ref 193), .val (.int a1), .val (.int a2), .val (.int a3), .val (.int a4), .val (.int a5)] [.int s1, .int s0] (hpo X mem sw o e) P
  refine QW.iadd dMo_having_44 ?_
  refine QW.istore (ls' := [.val (.ref 193), .val (.int a1), .val (.int a2), .val (.int a3), .val (.int (s0 + s1)), .val (.int a5)]) dMo_having_45 rfl ?_
  refine MW.iinc (c := 1) (ls' := [.val (.ref 193), .val (.int a1), .val (.int a2), .val (.int a3), .val (.int (s0 + s1)), .val (.int (a5 + 1))]) dMo_having_47 (by decide) rfl rfl ?_
  refine QW.goto (tgt := 6) dMo_having_50 (by decide) ?_
  exact k1
theorem dMo_key_0 : decode mMo_key.2.1 0 = .ok (.aload_n 0, 1) := by decide +kernel
theorem dMo_key_1 : decode mMo_key.2.1 1 = .ok (.aload_n 0, 1) := by decide +kernel
theorem dMo_key_2 : decode mMo_key.2.1 2 = .ok (.iload_n 1, 1) := by decide +kernel
theorem dMo_key_3 : decode mMo_key.2.1 3 = .ok (.iload_n 2, 1) := by decide +kernel
theorem dMo_key_4 : decode mMo_key.2.1 4 = .ok (.invokevirtual 112, 3) := by decide +kernel
theorem dMo_key_7 : decode mMo_key.2.1 7 = .ok (.ifCond .eq 7, 3) := by decide +kernel
theorem dMo_key_10 : decode mMo_key.2.1 10 = .ok (.iconst 0, 1) := by decide +kernel
theorem dMo_key_11 : decode mMo_key.2.1 11 = .ok (.goto 4, 3) := by decide +kernel
theorem dMo_key_14 : decode mMo_key.2.1 14 = .ok (.iconst 1, 1) := by decide +kernel
theorem dMo_key_15 : decode mMo_key.2.1 15 = .ok (.putfield 106, 3) := by decide +kernel
theorem dMo_key_18 : decode mMo_key.2.1 18 = .ok (.iconst 0, 1) := by decide +kernel
theorem dMo_key_19 : decode mMo_key.2.1 19 = .ok (.istore_n 3, 1) := by decide +kernel
theorem dMo_key_20 : decode mMo_key.2.1 20 = .ok (.aload_n 0, 1) := by decide +kernel
theorem dMo_key_21 : decode mMo_key.2.1 21 = .ok (.getfield 106, 3) := by decide +kernel
theorem dMo_key_24 : decode mMo_key.2.1 24 = .ok (.ifCond .ne 53, 3) := by decide +kernel
theorem dMo_key_27 : decode mMo_key.2.1 27 = .ok (.iload_n 3, 1) := by decide +kernel
theorem dMo_key_28 : decode mMo_key.2.1 28 = .ok (.aload_n 0, 1) := by decide +kernel
theorem dMo_key_29 : decode mMo_key.2.1 29 = .ok (.getfield 13, 3) := by decide +kernel
theorem dMo_key_32 : decode mMo_key.2.1 32 = .ok (.iload_n 1, 1) := by decide +kernel
theorem dMo_key_33 : decode mMo_key.2.1 33 = .ok (.iaload, 1) := by decide +kernel
theorem dMo_key_34 : decode mMo_key.2.1 34 = .ok (.if_icmp .ge 43, 3) := by decide +kernel
theorem dMo_key_37 : decode mMo_key.2.1 37 = .ok (.aload_n 0, 1) := by decide +kernel
theorem dMo_key_38 : decode mMo_key.2.1 38 = .ok (.aload_n 0, 1) := by decide +kernel
theorem dMo_key_39 : decode mMo_key.2.1 39 = .ok (.iload_n 1, 1) := by decide +kernel
theorem dMo_key_40 : decode mMo_key.2.1 40 = .ok (.iload_n 2, 1) := by decide +kernel
theorem dMo_key_41 : decode mMo_key.2.1 41 = .ok (.aload_n 0, 1) := by decide +kernel
theorem dMo_key_42 : decode mMo_key.2.1 42 = .ok (.getfield 16, 3) := by decide +kernel
theorem dMo_key_45 : decode mMo_key.2.1 45 = .ok (.bipush 24, 2) := by decide +kernel
theorem dMo_key_47 : decode mMo_key.2.1 47 = .ok (.iload_n 1, 1) := by decide +kernel
theorem dMo_key_48 : decode mMo_key.2.1 48 = .ok (.imul, 1) := by decide +kernel
theorem dMo_key_49 : decode mMo_key.2.1 49 = .ok (.iconst 3, 1) := by decide +kernel
theorem dMo_key_50 : decode mMo_key.2.1 50 = .ok (.iload_n 3, 1) := by decide +kernel
theorem dMo_key_51 : decode mMo_key.2.1 51 = .ok (.imul, 1) := by decide +kernel
theorem dMo_key_52 : decode mMo_key.2.1 52 = .ok (.iadd, 1) := by decide +kernel
theorem dMo_key_53 : decode mMo_key.2.1 53 = .ok (.iload_n 2, 1) := by decide +kernel
theorem dMo_key_54 : decode mMo_key.2.1 54 = .ok (.iadd, 1) := by decide +kernel
theorem dMo_key_55 : decode mMo_key.2.1 55 = .ok (.iaload, 1) := by decide +kernel
theorem dMo_key_56 : decode mMo_key.2.1 56 = .ok (.invokevirtual 116, 3) := by decide +kernel
theorem dMo_key_59 : decode mMo_key.2.1 59 = .ok (.iconst 1, 1) := by decide +kernel
theorem dMo_key_60 : decode mMo_key.2.1 60 = .ok (.if_icmp .le 7, 3) := by decide +kernel
theorem dMo_key_63 : decode mMo_key.2.1 63 = .ok (.iconst 2, 1) := by decide +kernel
theorem dMo_key_64 : decode mMo_key.2.1 64 = .ok (.goto 4, 3) := by decide +kernel
theorem dMo_key_67 : decode mMo_key.2.1 67 = .ok (.iconst 0, 1) := by decide +kernel
theorem dMo_key_68 : decode mMo_key.2.1 68 = .ok (.putfield 106, 3) := by decide +kernel
theorem dMo_key_71 : decode mMo_key.2.1 71 = .ok (.iinc 3 1, 3) := by decide +kernel
theorem dMo_key_74 : decode mMo_key.2.1 74 = .ok (.goto (-54), 3) := by decide +kernel
theorem dMo_key_77 : decode mMo_key.2.1 77 = .ok (.aload_n 0, 1) := by decide +kernel
theorem dMo_key_78 : decode mMo_key.2.1 78 = .ok (.getfield 106, 3) := by decide +kernel
theorem dMo_key_81 : decode mMo_key.2.1 81 = .ok (.ifCond .ne 14, 3) := by decide +kernel
theorem dMo_key_84 : decode mMo_key.2.1 84 = .ok (.aload_n 0, 1) := by decide +kernel
theorem dMo_key_85 : decode mMo_key.2.1 85 = .ok (.getfield 19, 3) := by decide +kernel
theorem dMo_key_88 : decode mMo_key.2.1 88 = .ok (.iconst 3, 1) := by decide +kernel
theorem dMo_key_89 : decode mMo_key.2.1 89 = .ok (.iload_n 1, 1) := by decide +kernel
theorem dMo_key_90 : decode mMo_key.2.1 90 = .ok (.imul, 1) := by decide +kernel
theorem dMo_key_91 : decode mMo_key.2.1 91 = .ok (.iload_n 2, 1) := by decide +kernel
theorem dMo_key_92 : decode mMo_key.2.1 92 = .ok (.iadd, 1) := by decide +kernel
theorem dMo_key_93 : decode mMo_key.2.1 93 = .ok (.iconst 1, 1) := by decide +kernel
theorem dMo_key_94 : decode mMo_key.2.1 94 = .ok (.bastore, 1) := by decide +kernel
theorem dMo_key_95 : decode mMo_key.2.1 95 = .ok (.return_, 1) := by decide +kernel
def lMo_key_7 (a1 : Int32) (a2 : Int32) : List Slot := [.val (.ref 193), .val (.int a1), .val (.int a2), .unset]
def lMo_key_15 (a1 : Int32) (a2 : Int32) : List Slot := [.val (.ref 193), .val (.int a1), .val (.int a2), .unset]
def lMo_key_20 (a1 : Int32) (a2 : Int32) (a3 : Int32) : List Slot := [.val (.ref 193), .val (.int a1), .val (.int a2), .val (.int a3)]
def lMo_key_59 (a1 : Int32) (a2 : Int32) (a3 : Int32) : List Slot := [.val (.ref 193), .val (.int a1), .val (.int a2), .val (.int a3)]
def lMo_key_68 (a1 : Int32) (a2 : Int32) (a3 : Int32) : List Slot := [.val (.ref 193), .val (.int a1), .val (.int a2), .val (.int a3)]
def lMo_key_77 (a1 : Int32) (a2 : Int32) (a3 : Int32) : List Slot := [.val (.ref 193), .val (.int a1), .val (.int a2), .val (.int a3)]
theorem bMo_key_0 {a1 : Int32} {a2 : Int32} (hX : X.length = 13) (k1 : QW d mMo_isColumn 0 (qen 3 [.ref 193, .int a1, .int a2]) [] (hpo X mem sw o e) (qcl d mMo_key 4 7 (lMo_key_7 a1 a2) [.ref 193] P)) : QW (d + 1) mMo_key 0 (qen 4 [.ref 193, .int a1, .int a2]) [] (hpo X mem sw o e) P := by
  show QW (d + 1) mMo_key 0 [.val (.ref 193), .val (.int a1), .val (.int a2), .unset] [] (hpo X mem sw o e) P
  refine QW.aload_n dMo_key_0 rfl rfl ?_
  refine QW.aload_n dMo_key_1 rfl rfl ?_
  refine QW.iload_n dMo_key_2 rfl rfl ?_
  refine QW.iload_n dMo_key_3 rfl rfl ?_
  exact MW.calV (as := [.int a1, .int a2]) (rest := [.ref 193]) hX dMo_key_4 eMo_isColumn lMo_112 iMo_isColumn vMo_isColumn rfl rfl rfl rfl rfl rfl (Nat.le_of_ble_eq_true rfl) rfl k1
theorem bMo_key_7 {a1 : Int32} {a2 : Int32} {s1 : Int32} (hX : X.length = 13) (k1 : (s1 = 0) → QW d mMo_key 15 (lMo_key_15 a1 a2) [.int 1, .ref 193] (hpo X mem sw o e) P) (k2 : (¬ s1 = 0) → QW d mMo_key 15 (lMo_key_15 a1 a2) [.int 0, .ref 193] (hpo X mem sw o e) P) : QW d mMo_key 7 (lMo_key_7 a1 a2) [.int s1, .ref 193] (hpo X mem sw o e) P := by
  show QW d mMo_key 7 [.val (.ref 193), .val (.int a1), .val (.int a2), .unset] [.int s1, .ref 193] (hpo X mem sw o e) P
  refine QW.if_eq (tgt := 14) dMo_key_7 (by decide) (fun z0 => ?_) (fun z0 => ?_)
  · refine QW.iconst (v := 1) dMo_key_14 (by decide) ?_
    exact (k1 z0)
  · refine QW.iconst (v := 0) dMo_key_10 (by decide) ?_
    refine QW.goto (tgt := 15) dMo_key_11 (by decide) ?_
    exact (k2 z0)
theorem bMo_key_15 {a1 : Int32} {a2 : Int32} {s1 : Int32} (hX : X.length = 13) (k1 : QW d mMo_key 20 (lMo_key_20 a1 a2 0) [] (hpo X (mup mem 193 0 s1) sw o e) P) : QW d mMo_key 15 (lMo_key_15 a1 a2) [.int s1, .ref 193] (hpo X mem sw o e) P := by
  show QW d mMo_key 15 [.val (.ref 193), .val (.int a1), .val (.int a2), .unset] [.int s1, .ref 193] (hpo X mem sw o e) P
  refine MW.puti hX dMo_key_15 fMo_106 rfl rfl rfl ?_
  refine QW.iconst (v := 0) dMo_key_18 (by decide) ?_
  refine QW.istore_n (ls' := [.val (.ref 193), .val (.int a1), .val (.int a2), .val (.int 0)]) dMo_key_19 rfl rfl ?_
  exact k1
theorem bMo_key_20 {a1 : Int32} {a2 : Int32} {a3 : Int32} (hX : X.length = 13) (k1 : (¬ (mem 193 0) = 0) → QW (d + 1) mMo_key 77 (lMo_key_77 a1 a2 a3) [] (hpo X mem sw o e) P) (h2 : ((mem 193 0) = 0) → inx a1 4) (k3 : ((mem 193 0) = 0) → ((mem 195 (Int32.toNatClampNeg a1)) ≤ a3) → QW (d + 1) mMo_key 77 (lMo_key_77 a1 a2 a3) [] (hpo X mem sw o e) P) (h4 : ((mem 193 0) = 0) → (¬ (mem 195 (Int32.toNatClampNeg a1)) ≤ a3) → inx (((24 * a1) + (3 * a3)) + a2) 96) (k5 : ((mem 193 0) = 0) → (¬ (mem 195 (Int32.toNatClampNeg a1)) ≤ a3) → QW d mMo_having 0 (qen 6 [.ref 193, .int a1, .int a2, .int (mem 196 (Int32.toNatClampNeg (((24 * a1) + (3 * a3)) + a2)))]) [] (hpo X mem sw o e) (qcl d mMo_key 56 59 (lMo_key_59 a1 a2 a3) [.ref 193] P)) : QW (d + 1) mMo_key 20 (lMo_key_20 a1 a2 a3) [] (hpo X mem sw o e) P := by
  show QW (d + 1) mMo_key 20 [.val (.ref 193), .val (.int a1), .val (.int a2), .val (.int a3)] [] (hpo X mem sw o e) P
  refine QW.aload_n dMo_key_20 rfl rfl ?_
  refine MW.geti hX dMo_key_21 fMo_106 rfl rfl ?_
  refine QW.if_ne (tgt := 77) dMo_key_24 (by decide) (fun z0 => ?_) (fun z0 => ?_)
  · exact (k1 z0)
  · refine QW.iload_n dMo_key_27 rfl rfl ?_
    refine QW.aload_n dMo_key_28 rfl rfl ?_
    refine MW.getr (r' := 195) hX dMo_key_29 fMo_13 rfl rfl (by cases sw <;> rfl) ?_
    refine QW.iload_n dMo_key_32 rfl rfl ?_
    refine MW.iald hX dMo_key_33 rfl (h2 z0).1 (rep_get (h2 z0).2) ?_
    refine QW.icmp_ge (tgt := 77) dMo_key_34 (by decide) (fun z1 => ?_) (fun z1 => ?_)
    · exact (k3 z0 z1)
    · refine QW.aload_n dMo_key_37 rfl rfl ?_
      refine QW.aload_n dMo_key_38 rfl rfl ?_
      refine QW.iload_n dMo_key_39 rfl rfl ?_
      refine QW.iload_n dMo_key_40 rfl rfl ?_
      refine QW.aload_n dMo_key_41 rfl rfl ?_
      refine MW.getr (r' := 196) hX dMo_key_42 fMo_16 rfl rfl (by cases sw <;> rfl) ?_
      refine QW.bipush (v := 24) dMo_key_45 (by decide) ?_
      refine QW.iload_n dMo_key_47 rfl rfl ?_
      refine QW.imul dMo_key_48 ?_
      refine QW.iconst (v := 3) dMo_key_49 (by decide) ?_
      refine QW.iload_n dMo_key_50 rfl rfl ?_
      refine QW.imul dMo_key_51 ?_
      refine QW.iadd dMo_key_52 ?_
      refine QW.iload_n dMo_key_53 rfl rfl ?_
      refine QW.iadd dMo_key_54 ?_
      refine MW.iald hX dMo_key_55 rfl (h4 z0 z1).1 (rep_get (h4 z0 z1).2) ?_
      exact MW.calV (as := [.int a1, .int a2, .int (mem 196 (Int32.toNatClampNeg (((24 * a1) + (3 * a3)) + a2)))]) (rest := [.ref 193]) hX dMo_key_56 eMo_having lMo_116 iMo_having vMo_having rfl rfl rfl rfl rfl rfl (Nat.le_of_ble_eq_true rfl) rfl (k5 z0 z1)
theorem bMo_key_59 {a1 : Int32} {a2 : Int32} {a3 : Int32} {s1 : Int32} (hX : X.length = 13) (k1 : (s1 ≤ 1) → QW d mMo_key 68 (lMo_key_68 a1 a2 a3) [.int 0, .ref 193] (hpo X mem sw o e) P) (k2 : (¬ s1 ≤ 1) → QW d mMo_key 68 (lMo_key_68 a1 a2 a3) [.int 2, .ref 193] (hpo X mem sw o e) P) : QW d mMo_key 59 (lMo_key_59 a1 a2 a3) [.int s1, .ref 193] (hpo X mem sw o e) P := by
  show QW d mMo_key 59 [.val (.ref 193), .val (.int a1), .val (.int a2), .val (.int a3)] [.int s1, .ref 193] (hpo X mem sw o e) P
  refine QW.iconst (v := 1) dMo_key_59 (by decide) ?_
  refine QW.icmp_le (tgt := 67) dMo_key_60 (by decide) (fun z0 => ?_) (fun z0 => ?_)
  · refine QW.iconst (v := 0) dMo_key_67 (by decide) ?_
    exact (k1 z0)
  · refine QW.iconst (v := 2) dMo_key_63 (by decide) ?_
    refine QW.goto (tgt := 68) dMo_key_64 (by decide) ?_
    exact (k2 z0)
theorem bMo_key_68 {a1 : Int32} {a2 : Int32} {a3 : Int32} {s1 : Int32} (hX : X.length = 13) (k1 : QW d mMo_key 20 (lMo_key_20 a1 a2 (a3 + 1)) [] (hpo X (mup mem 193 0 s1) sw o e) P) : QW d mMo_key 68 (lMo_key_68 a1 a2 a3) [.int s1, .ref 193] (hpo X mem sw o e) P := by
  show QW d mMo_key 68 [.val (.ref 193), .val (.int a1), .val (.int a2), .val (.int a3)] [.int s1, .ref 193] (hpo X mem sw o e) P
  refine MW.puti hX dMo_key_68 fMo_106 rfl rfl rfl ?_
  refine MW.iinc (c := 1) (ls' := [.val (.ref 193), .val (.int a1), .val (.int a2), .val (.int (a3 + 1))]) dMo_key_71 (by decide) rfl rfl ?_
  refine QW.goto (tgt := 20) dMo_key_74 (by decide) ?_
  exact k1
theorem bMo_key_77 {a1 : Int32} {a2 : Int32} {a3 : Int32} (hX : X.length = 13) (k1 : (¬ (mem 193 0) = 0) → P (.inl none, (hpo X mem sw o e))) (h2 : ((mem 193 0) = 0) → inx ((3 * a1) + a2) 12) (k3 : ((mem 193 0) = 0) → P (.inl none, (hpo X (mup mem 197 (Int32.toNatClampNeg ((3 * a1) + a2)) 1) sw o e))) : QW d mMo_key 77 (lMo_key_77 a1 a2 a3) [] (hpo X mem sw o e) P := by
  show QW d mMo_key 77 [.val (.ref 193), .val (.int a1), .val (.int a2), .val (.int a3)] [] (hpo X mem sw o e) P
  refine QW.aload_n dMo_key_77 rfl rfl ?_
  refine MW.geti hX dMo_key_78 fMo_106 rfl rfl ?_
  refine QW.if_ne (tgt := 95) dMo_key_81 (by decide) (fun z0 => ?_) (fun z0 => ?_)
  · exact QW.vret dMo_key_95 rfl (k1 z0)
  · refine QW.aload_n dMo_key_84 rfl rfl ?_
    refine MW.getr (r' := 197) hX dMo_key_85 fMo_19 rfl rfl (by cases sw <;> rfl) ?_
    refine QW.iconst (v := 3) dMo_key_88 (by decide) ?_
    refine QW.iload_n dMo_key_89 rfl rfl ?_
    refine QW.imul dMo_key_90 ?_
    refine QW.iload_n dMo_key_91 rfl rfl ?_
    refine QW.iadd dMo_key_92 ?_
    refine QW.iconst (v := 1) dMo_key_93 (by decide) ?_
    refine MW.zast hX dMo_key_94 rfl (h2 z0).1 (rep_get (h2 z0).2) rfl ?_
    exact QW.vret dMo_key_95 rfl (k3 z0)
theorem dMo_insert_0 : decode mMo_insert.2.1 0 = .ok (.aload_n 0, 1) := by decide +kernel
theorem dMo_insert_1 : decode mMo_insert.2.1 1 = .ok (.iload_n 1, 1) := by decide +kernel
theorem dMo_insert_2 : decode mMo_insert.2.1 2 = .ok (.ifCond .lt 11, 3) := by decide +kernel
theorem dMo_insert_5 : decode mMo_insert.2.1 5 = .ok (.iload_n 1, 1) := by decide +kernel
theorem dMo_insert_6 : decode mMo_insert.2.1 6 = .ok (.aload_n 0, 1) := by decide +kernel
theorem dMo_insert_7 : decode mMo_insert.2.1 7 = .ok (.getfield 109, 3) := by decide +kernel
theorem dMo_insert_10 : decode mMo_insert.2.1 10 = .ok (.if_icmp .lt 7, 3) := by decide +kernel
theorem dMo_insert_13 : decode mMo_insert.2.1 13 = .ok (.iconst 1, 1) := by decide +kernel
theorem dMo_insert_14 : decode mMo_insert.2.1 14 = .ok (.goto 19, 3) := by decide +kernel
theorem dMo_insert_17 : decode mMo_insert.2.1 17 = .ok (.aload_n 0, 1) := by decide +kernel
theorem dMo_insert_18 : decode mMo_insert.2.1 18 = .ok (.getfield 13, 3) := by decide +kernel
theorem dMo_insert_21 : decode mMo_insert.2.1 21 = .ok (.iload_n 1, 1) := by decide +kernel
theorem dMo_insert_22 : decode mMo_insert.2.1 22 = .ok (.iaload, 1) := by decide +kernel
theorem dMo_insert_23 : decode mMo_insert.2.1 23 = .ok (.bipush 8, 2) := by decide +kernel
theorem dMo_insert_25 : decode mMo_insert.2.1 25 = .ok (.if_icmp .ne 7, 3) := by decide +kernel
theorem dMo_insert_28 : decode mMo_insert.2.1 28 = .ok (.iconst 2, 1) := by decide +kernel
theorem dMo_insert_29 : decode mMo_insert.2.1 29 = .ok (.goto 4, 3) := by decide +kernel
theorem dMo_insert_32 : decode mMo_insert.2.1 32 = .ok (.iconst 0, 1) := by decide +kernel
theorem dMo_insert_33 : decode mMo_insert.2.1 33 = .ok (.putfield 106, 3) := by decide +kernel
theorem dMo_insert_36 : decode mMo_insert.2.1 36 = .ok (.aload_n 0, 1) := by decide +kernel
theorem dMo_insert_37 : decode mMo_insert.2.1 37 = .ok (.getfield 106, 3) := by decide +kernel
theorem dMo_insert_40 : decode mMo_insert.2.1 40 = .ok (.ifCond .le 5, 3) := by decide +kernel
theorem dMo_insert_43 : decode mMo_insert.2.1 43 = .ok (.iconst 0, 1) := by decide +kernel
theorem dMo_insert_44 : decode mMo_insert.2.1 44 = .ok (.ireturn, 1) := by decide +kernel
theorem dMo_insert_45 : decode mMo_insert.2.1 45 = .ok (.iconst 0, 1) := by decide +kernel
theorem dMo_insert_46 : decode mMo_insert.2.1 46 = .ok (.istore 5, 2) := by decide +kernel
theorem dMo_insert_48 : decode mMo_insert.2.1 48 = .ok (.iload 5, 2) := by decide +kernel
theorem dMo_insert_50 : decode mMo_insert.2.1 50 = .ok (.aload_n 0, 1) := by decide +kernel
theorem dMo_insert_51 : decode mMo_insert.2.1 51 = .ok (.getfield 7, 3) := by decide +kernel
theorem dMo_insert_54 : decode mMo_insert.2.1 54 = .ok (.iload_n 1, 1) := by decide +kernel
theorem dMo_insert_55 : decode mMo_insert.2.1 55 = .ok (.iaload, 1) := by decide +kernel
theorem dMo_insert_56 : decode mMo_insert.2.1 56 = .ok (.if_icmp .ge 70, 3) := by decide +kernel
theorem dMo_insert_59 : decode mMo_insert.2.1 59 = .ok (.iload 5, 2) := by decide +kernel
theorem dMo_insert_61 : decode mMo_insert.2.1 61 = .ok (.ifCond .ne 7, 3) := by decide +kernel
theorem dMo_insert_64 : decode mMo_insert.2.1 64 = .ok (.iload_n 2, 1) := by decide +kernel
theorem dMo_insert_65 : decode mMo_insert.2.1 65 = .ok (.goto 15, 3) := by decide +kernel
theorem dMo_insert_68 : decode mMo_insert.2.1 68 = .ok (.iload 5, 2) := by decide +kernel
theorem dMo_insert_70 : decode mMo_insert.2.1 70 = .ok (.iconst 1, 1) := by decide +kernel
theorem dMo_insert_71 : decode mMo_insert.2.1 71 = .ok (.if_icmp .ne 7, 3) := by decide +kernel
theorem dMo_insert_74 : decode mMo_insert.2.1 74 = .ok (.iload_n 3, 1) := by decide +kernel
theorem dMo_insert_75 : decode mMo_insert.2.1 75 = .ok (.goto 5, 3) := by decide +kernel
theorem dMo_insert_78 : decode mMo_insert.2.1 78 = .ok (.iload 4, 2) := by decide +kernel
theorem dMo_insert_80 : decode mMo_insert.2.1 80 = .ok (.istore 6, 2) := by decide +kernel
theorem dMo_insert_82 : decode mMo_insert.2.1 82 = .ok (.aload_n 0, 1) := by decide +kernel
theorem dMo_insert_83 : decode mMo_insert.2.1 83 = .ok (.aload_n 0, 1) := by decide +kernel
theorem dMo_insert_84 : decode mMo_insert.2.1 84 = .ok (.getfield 19, 3) := by decide +kernel
theorem dMo_insert_87 : decode mMo_insert.2.1 87 = .ok (.iconst 3, 1) := by decide +kernel
theorem dMo_insert_88 : decode mMo_insert.2.1 88 = .ok (.iload_n 1, 1) := by decide +kernel
theorem dMo_insert_89 : decode mMo_insert.2.1 89 = .ok (.imul, 1) := by decide +kernel
theorem dMo_insert_90 : decode mMo_insert.2.1 90 = .ok (.iload 5, 2) := by decide +kernel
theorem dMo_insert_92 : decode mMo_insert.2.1 92 = .ok (.iadd, 1) := by decide +kernel
theorem dMo_insert_93 : decode mMo_insert.2.1 93 = .ok (.baload, 1) := by decide +kernel
theorem dMo_insert_94 : decode mMo_insert.2.1 94 = .ok (.ifCond .eq 19, 3) := by decide +kernel
theorem dMo_insert_97 : decode mMo_insert.2.1 97 = .ok (.aload_n 0, 1) := by decide +kernel
theorem dMo_insert_98 : decode mMo_insert.2.1 98 = .ok (.iload_n 1, 1) := by decide +kernel
theorem dMo_insert_99 : decode mMo_insert.2.1 99 = .ok (.iload 5, 2) := by decide +kernel
theorem dMo_insert_101 : decode mMo_insert.2.1 101 = .ok (.iload 6, 2) := by decide +kernel
theorem dMo_insert_103 : decode mMo_insert.2.1 103 = .ok (.invokevirtual 116, 3) := by decide +kernel
theorem dMo_insert_106 : decode mMo_insert.2.1 106 = .ok (.ifCond .le 7, 3) := by decide +kernel
theorem dMo_insert_109 : decode mMo_insert.2.1 109 = .ok (.iconst 2, 1) := by decide +kernel
theorem dMo_insert_110 : decode mMo_insert.2.1 110 = .ok (.goto 7, 3) := by decide +kernel
theorem dMo_insert_113 : decode mMo_insert.2.1 113 = .ok (.aload_n 0, 1) := by decide +kernel
theorem dMo_insert_114 : decode mMo_insert.2.1 114 = .ok (.getfield 106, 3) := by decide +kernel
theorem dMo_insert_117 : decode mMo_insert.2.1 117 = .ok (.putfield 106, 3) := by decide +kernel
theorem dMo_insert_120 : decode mMo_insert.2.1 120 = .ok (.iinc 5 1, 3) := by decide +kernel
theorem dMo_insert_123 : decode mMo_insert.2.1 123 = .ok (.goto (-75), 3) := by decide +kernel
theorem dMo_insert_126 : decode mMo_insert.2.1 126 = .ok (.aload_n 0, 1) := by decide +kernel
theorem dMo_insert_127 : decode mMo_insert.2.1 127 = .ok (.getfield 106, 3) := by decide +kernel
theorem dMo_insert_130 : decode mMo_insert.2.1 130 = .ok (.ifCond .le 5, 3) := by decide +kernel
theorem dMo_insert_133 : decode mMo_insert.2.1 133 = .ok (.iconst 0, 1) := by decide +kernel
theorem dMo_insert_134 : decode mMo_insert.2.1 134 = .ok (.ireturn, 1) := by decide +kernel
theorem dMo_insert_135 : decode mMo_insert.2.1 135 = .ok (.bipush 24, 2) := by decide +kernel
theorem dMo_insert_137 : decode mMo_insert.2.1 137 = .ok (.iload_n 1, 1) := by decide +kernel
theorem dMo_insert_138 : decode mMo_insert.2.1 138 = .ok (.imul, 1) := by decide +kernel
theorem dMo_insert_139 : decode mMo_insert.2.1 139 = .ok (.iconst 3, 1) := by decide +kernel
theorem dMo_insert_140 : decode mMo_insert.2.1 140 = .ok (.aload_n 0, 1) := by decide +kernel
theorem dMo_insert_141 : decode mMo_insert.2.1 141 = .ok (.getfield 13, 3) := by decide +kernel
theorem dMo_insert_144 : decode mMo_insert.2.1 144 = .ok (.iload_n 1, 1) := by decide +kernel
theorem dMo_insert_145 : decode mMo_insert.2.1 145 = .ok (.iaload, 1) := by decide +kernel
theorem dMo_insert_146 : decode mMo_insert.2.1 146 = .ok (.imul, 1) := by decide +kernel
theorem dMo_insert_147 : decode mMo_insert.2.1 147 = .ok (.iadd, 1) := by decide +kernel
theorem dMo_insert_148 : decode mMo_insert.2.1 148 = .ok (.istore 5, 2) := by decide +kernel
theorem dMo_insert_150 : decode mMo_insert.2.1 150 = .ok (.aload_n 0, 1) := by decide +kernel
theorem dMo_insert_151 : decode mMo_insert.2.1 151 = .ok (.getfield 16, 3) := by decide +kernel
theorem dMo_insert_154 : decode mMo_insert.2.1 154 = .ok (.iload 5, 2) := by decide +kernel
theorem dMo_insert_156 : decode mMo_insert.2.1 156 = .ok (.iload_n 2, 1) := by decide +kernel
theorem dMo_insert_157 : decode mMo_insert.2.1 157 = .ok (.iastore, 1) := by decide +kernel
theorem dMo_insert_158 : decode mMo_insert.2.1 158 = .ok (.aload_n 0, 1) := by decide +kernel
theorem dMo_insert_159 : decode mMo_insert.2.1 159 = .ok (.getfield 16, 3) := by decide +kernel
theorem dMo_insert_162 : decode mMo_insert.2.1 162 = .ok (.iload 5, 2) := by decide +kernel
theorem dMo_insert_164 : decode mMo_insert.2.1 164 = .ok (.iconst 1, 1) := by decide +kernel
theorem dMo_insert_165 : decode mMo_insert.2.1 165 = .ok (.iadd, 1) := by decide +kernel
theorem dMo_insert_166 : decode mMo_insert.2.1 166 = .ok (.iload_n 3, 1) := by decide +kernel
theorem dMo_insert_167 : decode mMo_insert.2.1 167 = .ok (.iastore, 1) := by decide +kernel
theorem dMo_insert_168 : decode mMo_insert.2.1 168 = .ok (.aload_n 0, 1) := by decide +kernel
theorem dMo_insert_169 : decode mMo_insert.2.1 169 = .ok (.getfield 16, 3) := by decide +kernel
theorem dMo_insert_172 : decode mMo_insert.2.1 172 = .ok (.iload 5, 2) := by decide +kernel
theorem dMo_insert_174 : decode mMo_insert.2.1 174 = .ok (.iconst 2, 1) := by decide +kernel
theorem dMo_insert_175 : decode mMo_insert.2.1 175 = .ok (.iadd, 1) := by decide +kernel
theorem dMo_insert_176 : decode mMo_insert.2.1 176 = .ok (.iload 4, 2) := by decide +kernel
theorem dMo_insert_178 : decode mMo_insert.2.1 178 = .ok (.iastore, 1) := by decide +kernel
theorem dMo_insert_179 : decode mMo_insert.2.1 179 = .ok (.aload_n 0, 1) := by decide +kernel
theorem dMo_insert_180 : decode mMo_insert.2.1 180 = .ok (.getfield 13, 3) := by decide +kernel
theorem dMo_insert_183 : decode mMo_insert.2.1 183 = .ok (.iload_n 1, 1) := by decide +kernel
theorem dMo_insert_184 : decode mMo_insert.2.1 184 = .ok (.dup2, 1) := by decide +kernel
theorem dMo_insert_185 : decode mMo_insert.2.1 185 = .ok (.iaload, 1) := by decide +kernel
theorem dMo_insert_186 : decode mMo_insert.2.1 186 = .ok (.iconst 1, 1) := by decide +kernel
theorem dMo_insert_187 : decode mMo_insert.2.1 187 = .ok (.iadd, 1) := by decide +kernel
theorem dMo_insert_188 : decode mMo_insert.2.1 188 = .ok (.iastore, 1) := by decide +kernel
theorem dMo_insert_189 : decode mMo_insert.2.1 189 = .ok (.aload_n 0, 1) := by decide +kernel
theorem dMo_insert_190 : decode mMo_insert.2.1 190 = .ok (.getfield 13, 3) := by decide +kernel
theorem dMo_insert_193 : decode mMo_insert.2.1 193 = .ok (.iload_n 1, 1) := by decide +kernel
theorem dMo_insert_194 : decode mMo_insert.2.1 194 = .ok (.iaload, 1) := by decide +kernel
theorem dMo_insert_195 : decode mMo_insert.2.1 195 = .ok (.ireturn, 1) := by decide +kernel
def lMo_insert_13 (a1 : Int32) (a2 : Int32) (a3 : Int32) (a4 : Int32) : List Slot := [.val (.ref 193), .val (.int a1), .val (.int a2), .val (.int a3), .val (.int a4), .unset, .unset]
def lMo_insert_33 (a1 : Int32) (a2 : Int32) (a3 : Int32) (a4 : Int32) : List Slot := [.val (.ref 193), .val (.int a1), .val (.int a2), .val (.int a3), .val (.int a4), .unset, .unset]
def lMo_insert_48 (a1 : Int32) (a2 : Int32) (a3 : Int32) (a4 : Int32) (a5 : Int32) (w6 : Slot) : List Slot := [.val (.ref 193), .val (.int a1), .val (.int a2), .val (.int a3), .val (.int a4), .val (.int a5), w6]
def lMo_insert_80 (a1 : Int32) (a2 : Int32) (a3 : Int32) (a4 : Int32) (a5 : Int32) (w6 : Slot) : List Slot := [.val (.ref 193), .val (.int a1), .val (.int a2), .val (.int a3), .val (.int a4), .val (.int a5), w6]
def lMo_insert_106 (a1 : Int32) (a2 : Int32) (a3 : Int32) (a4 : Int32) (a5 : Int32) (a6 : Int32) : List Slot := [.val (.ref 193), .val (.int a1), .val (.int a2), .val (.int a3), .val (.int a4), .val (.int a5), .val (.int a6)]
def lMo_insert_113 (a1 : Int32) (a2 : Int32) (a3 : Int32) (a4 : Int32) (a5 : Int32) (a6 : Int32) : List Slot := [.val (.ref 193), .val (.int a1), .val (.int a2), .val (.int a3), .val (.int a4), .val (.int a5), .val (.int a6)]
def lMo_insert_117 (a1 : Int32) (a2 : Int32) (a3 : Int32) (a4 : Int32) (a5 : Int32) (a6 : Int32) : List Slot := [.val (.ref 193), .val (.int a1), .val (.int a2), .val (.int a3), .val (.int a4), .val (.int a5), .val (.int a6)]
theorem bMo_insert_0 {a1 : Int32} {a2 : Int32} {a3 : Int32} {a4 : Int32} (hX : X.length = 13) (k1 : (a1 < 0) → QW d mMo_insert 13 (lMo_insert_13 a1 a2 a3 a4) [.ref 193] (hpo X mem sw o e) P) (h2 : (¬ a1 < 0) → (a1 < (mem 193 1)) → inx a1 4) (k3 : (¬ a1 < 0) → (a1 < (mem 193 1)) → (¬ (mem 195 (Int32.toNatClampNeg a1)) = 8) → QW d mMo_insert 33 (lMo_insert_33 a1 a2 a3 a4) [.int 0, .ref 193] (hpo X mem sw o e) P) (k4 : (¬ a1 < 0) → (a1 < (mem 193 1)) → ((mem 195 (Int32.toNatClampNeg a1)) = 8) → QW d mMo_insert 33 (lMo_insert_33 a1 a2 a3 a4) [.int 2, .ref 193] (hpo X mem sw o e) P) (k5 : (¬ a1 < 0) → (¬ a1 < (mem 193 1)) → QW d mMo_insert 13 (lMo_insert_13 a1 a2 a3 a4) [.ref 193] (hpo X mem sw o e) P) : QW d mMo_insert 0 (qen 7 [.ref 193, .int a1, .int a2, .int a3, .int a4]) [] (hpo X mem sw o e) P := by
  show QW d mMo_insert 0 [.val (.ref 193), .val (.int a1), .val (.int a2), .val (.int a3), .val (.int a4), .unset, .unset] [] (hpo X mem sw o e) P
  refine QW.aload_n dMo_insert_0 rfl rfl ?_
  refine QW.iload_n dMo_insert_1 rfl rfl ?_
  refine QW.if_lt (tgt := 13) dMo_insert_2 (by decide) (fun z0 => ?_) (fun z0 => ?_)
  · exact (k1 z0)
  · refine QW.iload_n dMo_insert_5 rfl rfl ?_
    refine QW.aload_n dMo_insert_6 rfl rfl ?_
    refine MW.geti hX dMo_insert_7 fMo_109 rfl rfl ?_
    refine QW.icmp_lt (tgt := 17) dMo_insert_10 (by decide) (fun z1 => ?_) (fun z1 => ?_)
    · refine QW.aload_n dMo_insert_17 rfl rfl ?_
      refine MW.getr (r' := 195) hX dMo_insert_18 fMo_13 rfl rfl (by cases sw <;> rfl) ?_
      refine QW.iload_n dMo_insert_21 rfl rfl ?_
      refine MW.iald hX dMo_insert_22 rfl (h2 z0 z1).1 (rep_get (h2 z0 z1).2) ?_
      refine QW.bipush (v := 8) dMo_insert_23 (by decide) ?_
      refine QW.icmp_ne (tgt := 32) dMo_insert_25 (by decide) (fun z2 => ?_) (fun z2 => ?_)
      · refine QW.iconst (v := 0) dMo_insert_32 (by decide) ?_
        exact (k3 z0 z1 z2)
      · refine QW.iconst (v := 2) dMo_insert_28 (by decide) ?_
        refine QW.goto (tgt := 33) dMo_insert_29 (by decide) ?_
        exact (k4 z0 z1 z2)
    · exact (k5 z0 z1)
theorem bMo_insert_13 {a1 : Int32} {a2 : Int32} {a3 : Int32} {a4 : Int32} (hX : X.length = 13) (k1 : QW d mMo_insert 33 (lMo_insert_33 a1 a2 a3 a4) [.int 1, .ref 193] (hpo X mem sw o e) P) : QW d mMo_insert 13 (lMo_insert_13 a1 a2 a3 a4) [.ref 193] (hpo X mem sw o e) P := by
  show QW d mMo_insert 13 [.val (.ref 193), .val (.int a1), .val (.int a2), .val (.int a3), .val (.int a4), .unset, .unset] [.ref 193] (hpo X mem sw o e) P
  refine QW.iconst (v := 1) dMo_insert_13 (by decide) ?_
  refine QW.goto (tgt := 33) dMo_insert_14 (by decide) ?_
  exact k1
theorem bMo_insert_33 {a1 : Int32} {a2 : Int32} {a3 : Int32} {a4 : Int32} {s1 : Int32} (hX : X.length = 13) (k1 : (((mup mem 193 0 s1) 193 0) ≤ 0) → QW d mMo_insert 48 (lMo_insert_48 a1 a2 a3 a4 0 .unset) [] (hpo X (mup mem 193 0 s1) sw o e) P) (k2 : (¬ ((mup mem 193 0 s1) 193 0) ≤ 0) → P (.inl (some (.int 0)), (hpo X (mup mem 193 0 s1) sw o e))) : QW d mMo_insert 33 (lMo_insert_33 a1 a2 a3 a4) [.int s1, .ref 193] (hpo X mem sw o e) P := by
  show QW d mMo_insert 33 [.val (.ref 193), .val (.int a1), .val (.int a2), .val (.int a3), .val (.int a4), .unset, .unset] [.int s1, .ref 193] (hpo X mem sw o e) P
  refine MW.puti hX dMo_insert_33 fMo_106 rfl rfl rfl ?_
  refine QW.aload_n dMo_insert_36 rfl rfl ?_
  refine MW.geti hX dMo_insert_37 fMo_106 rfl rfl ?_
  refine QW.if_le (tgt := 45) dMo_insert_40 (by decide) (fun z0 => ?_) (fun z0 => ?_)
  · refine QW.iconst (v := 0) dMo_insert_45 (by decide) ?_
    refine QW.istore (ls' := [.val (.ref 193), .val (.int a1), .val (.int a2), .val (.int a3), .val (.int a4), .val (.int 0), .unset]) dMo_insert_46 rfl ?_
    exact (k1 z0)
  · refine QW.iconst (v := 0) dMo_insert_43 (by decide) ?_
    exact QW.iret dMo_insert_44 rfl rfl (k2 z0)
theorem bMo_insert_48 {a1 : Int32} {a2 : Int32} {a3 : Int32} {a4 : Int32} {a5 : Int32} {w6 : Slot} (hX : X.length = 13) (hw6 : qfr w6) (h1 : inx a1 4) (h2 : ((mem 194 (Int32.toNatClampNeg a1)) ≤ a5) → ((mem 193 0) ≤ 0) → inx a1 4) (h3 : ((mem 194 (Int32.toNatClampNeg a1)) ≤ a5) → ((mem 193 0) ≤ 0) → inx ((24 * a1) + (3 * (mem 195 (Int32.toNatClampNeg a1)))) 96) (h4 : ((mem 194 (Int32.toNatClampNeg a1)) ≤ a5) → ((mem 193 0) ≤ 0) → inx (((24 * a1) + (3 * (mem 195 (Int32.toNatClampNeg a1)))) + 1) 96) (h5 : ((mem 194 (Int32.toNatClampNeg a1)) ≤ a5) → ((mem 193 0) ≤ 0) → inx (((24 * a1) + (3 * (mem 195 (Int32.toNatClampNeg a1)))) + 2) 96) (h6 : ((mem 194 (Int32.toNatClampNeg a1)) ≤ a5) → ((mem 193 0) ≤ 0) → inx a1 4) (h7 : ((mem 194 (Int32.toNatClampNeg a1)) ≤ a5) → ((mem 193 0) ≤ 0) → inx a1 4) (h8 : ((mem 194 (Int32.toNatClampNeg a1)) ≤ a5) → ((mem 193 0) ≤ 0) → inx a1 4) (k9 : ((mem 194 (Int32.toNatClampNeg a1)) ≤ a5) → ((mem 193 0) ≤ 0) → P (.inl (some (.int ((mup (mup (mup (mup mem 196 (Int32.toNatClampNeg ((24 * a1) + (3 * (mem 195 (Int32.toNatClampNeg a1))))) a2) 196 (Int32.toNatClampNeg (((24 * a1) + (3 * (mem 195 (Int32.toNatClampNeg a1)))) + 1)) a3) 196 (Int32.toNatClampNeg (((24 * a1) + (3 * (mem 195 (Int32.toNatClampNeg a1)))) + 2)) a4) 195 (Int32.toNatClampNeg a1) (((mup (mup (mup mem 196 (Int32.toNatClampNeg ((24 * a1) + (3 * (mem 195 (Int32.toNatClampNeg a1))))) a2) 196 (Int32.toNatClampNeg (((24 * a1) + (3 * (mem 195 (Int32.toNatClampNeg a1)))) + 1)) a3) 196 (Int32.toNatClampNeg (((24 * a1) + (3 * (mem 195 (Int32.toNatClampNeg a1)))) + 2)) a4) 195 (Int32.toNatClampNeg a1)) + 1)) 195 (Int32.toNatClampNeg a1)))), (hpo X (mup (mup (mup (mup mem 196 (Int32.toNatClampNeg ((24 * a1) + (3 * (mem 195 (Int32.toNatClampNeg a1))))) a2) 196 (Int32.toNatClampNeg (((24 * a1) + (3 * (mem 195 (Int32.toNatClampNeg a1)))) + 1)) a3) 196 (Int32.toNatClampNeg (((24 * a1) + (3 * (mem 195 (Int32.toNatClampNeg a1)))) + 2)) a4) 195 (Int32.toNatClampNeg a1) (((mup (mup (mup mem 196 (Int32.toNatClampNeg ((24 * a1) + (3 * (mem 195 (Int32.toNatClampNeg a1))))) a2) 196 (Int32.toNatClampNeg (((24 * a1) + (3 * (mem 195 (Int32.toNatClampNeg a1)))) + 1)) a3) 196 (Int32.toNatClampNeg (((24 * a1) + (3 * (mem 195 (Int32.toNatClampNeg a1)))) + 2)) a4) 195 (Int32.toNatClampNeg a1)) + 1)) sw o e))) (k10 : ((mem 194 (Int32.toNatClampNeg a1)) ≤ a5) → (¬ (mem 193 0) ≤ 0) → P (.inl (some (.int 0)), (hpo X mem sw o e))) (k11 : (¬ (mem 194 (Int32.toNatClampNeg a1)) ≤ a5) → (¬ a5 = 0) → (¬ a5 = 1) → QW d mMo_insert 80 (lMo_insert_80 a1 a2 a3 a4 a5 w6) [.int a4] (hpo X mem sw o e) P) (k12 : (¬ (mem 194 (Int32.toNatClampNeg a1)) ≤ a5) → (¬ a5 = 0) → (a5 = 1) → QW d mMo_insert 80 (lMo_insert_80 a1 a2 a3 a4 a5 w6) [.int a3] (hpo X mem sw o e) P) (k13 : (¬ (mem 194 (Int32.toNatClampNeg a1)) ≤ a5) → (a5 = 0) → QW d mMo_insert 80 (lMo_insert_80 a1 a2 a3 a4 a5 w6) [.int a2] (hpo X mem sw o e) P) : QW d mMo_insert 48 (lMo_insert_48 a1 a2 a3 a4 a5 w6) [] (hpo X mem sw o e) P := by
  show QW d mMo_insert 48 [.val (.ref 193), .val (.int a1), .val (.int a2), .val (.int a3), .val (.int a4), .val (.int a5), w6] [] (hpo X mem sw o e) P
  refine QW.iload dMo_insert_48 rfl ?_
  refine QW.aload_n dMo_insert_50 rfl rfl ?_
  refine MW.getr (r' := 194) hX dMo_insert_51 fMo_7 rfl rfl (by cases sw <;> rfl) ?_
  refine QW.iload_n dMo_insert_54 rfl rfl ?_
  refine MW.iald hX dMo_insert_55 rfl h1.1 (rep_get h1.2) ?_
  refine QW.icmp_ge (tgt := 126) dMo_insert_56 (by decide) (fun z0 => ?_) (fun z0 => ?_)
  · refine QW.aload_n dMo_insert_126 rfl rfl ?_
    refine MW.geti hX dMo_insert_127 fMo_106 rfl rfl ?_
    refine QW.if_le (tgt := 135) dMo_insert_130 (by decide) (fun z1 => ?_) (fun z1 => ?_)
    · refine QW.bipush (v := 24) dMo_insert_135 (by decide) ?_
      refine QW.iload_n dMo_insert_137 rfl rfl ?_
      refine QW.imul dMo_insert_138 ?_
      refine QW.iconst (v := 3) dMo_insert_139 (by decide) ?_
      refine QW.aload_n dMo_insert_140 rfl rfl ?_
      refine MW.getr (r' := 195) hX dMo_insert_141 fMo_13 rfl rfl (by cases sw <;> rfl) ?_
      refine QW.iload_n dMo_insert_144 rfl rfl ?_
      refine MW.iald hX dMo_insert_145 rfl (h2 z0 z1).1 (rep_get (h2 z0 z1).2) ?_
      refine QW.imul dMo_insert_146 ?_
      refine QW.iadd dMo_insert_147 ?_
      refine QW.istore (ls' := [.val (.ref 193), .val (.int a1), .val (.int a2), .val (.int a3), .val (.int a4), .val (.int ((24 * a1) + (3 * (mem 195 (Int32.toNatClampNeg a1))))), w6]) dMo_insert_148 rfl ?_
      refine QW.aload_n dMo_insert_150 rfl rfl ?_
      refine MW.getr (r' := 196) hX dMo_insert_151 fMo_16 rfl rfl (by cases sw <;> rfl) ?_
      refine QW.iload dMo_insert_154 rfl ?_
      refine QW.iload_n dMo_insert_156 rfl rfl ?_
      refine MW.iast hX dMo_insert_157 rfl (h3 z0 z1).1 (rep_get (h3 z0 z1).2) ?_
      refine QW.aload_n dMo_insert_158 rfl rfl ?_
      refine MW.getr (r' := 196) hX dMo_insert_159 fMo_16 rfl rfl (by cases sw <;> rfl) ?_
      refine QW.iload dMo_insert_162 rfl ?_
      refine QW.iconst (v := 1) dMo_insert_164 (by decide) ?_
      refine QW.iadd dMo_insert_165 ?_
      refine QW.iload_n dMo_insert_166 rfl rfl ?_
      refine MW.iast hX dMo_insert_167 rfl (h4 z0 z1).1 (rep_get (h4 z0 z1).2) ?_
      refine QW.aload_n dMo_insert_168 rfl rfl ?_
      refine MW.getr (r' := 196) hX dMo_insert_169 fMo_16 rfl rfl (by cases sw <;> rfl) ?_
      refine QW.iload dMo_insert_172 rfl ?_
      refine QW.iconst (v := 2) dMo_insert_174 (by decide) ?_
      refine QW.iadd dMo_insert_175 ?_
      refine QW.iload dMo_insert_176 rfl ?_
      refine MW.iast hX dMo_insert_178 rfl (h5 z0 z1).1 (rep_get (h5 z0 z1).2) ?_
      refine QW.aload_n dMo_insert_179 rfl rfl ?_
      refine MW.getr (r' := 195) hX dMo_insert_180 fMo_13 rfl rfl (by cases sw <;> rfl) ?_
      refine QW.iload_n dMo_insert_183 rfl rfl ?_
      refine QW.dup2 dMo_insert_184 rfl rfl ?_
      refine MW.iald hX dMo_insert_185 rfl (h6 z0 z1).1 (rep_get (h6 z0 z1).2) ?_
      refine QW.iconst (v := 1) dMo_insert_186 (by decide) ?_
      refine QW.iadd dMo_insert_187 ?_
      refine MW.iast hX dMo_insert_188 rfl (h7 z0 z1).1 (rep_get (h7 z0 z1).2) ?_
      refine QW.aload_n dMo_insert_189 rfl rfl ?_
      refine MW.getr (r' := 195) hX dMo_insert_190 fMo_13 rfl rfl (by cases sw <;> rfl) ?_
      refine QW.iload_n dMo_insert_193 rfl rfl ?_
      refine MW.iald hX dMo_insert_194 rfl (h8 z0 z1).1 (rep_get (h8 z0 z1).2) ?_
      exact QW.iret dMo_insert_195 rfl rfl (k9 z0 z1)
    · refine QW.iconst (v := 0) dMo_insert_133 (by decide) ?_
      exact QW.iret dMo_insert_134 rfl rfl (k10 z0 z1)
  · refine QW.iload dMo_insert_59 rfl ?_
    refine QW.if_ne (tgt := 68) dMo_insert_61 (by decide) (fun z1 => ?_) (fun z1 => ?_)
    · refine QW.iload dMo_insert_68 rfl ?_
      refine QW.iconst (v := 1) dMo_insert_70 (by decide) ?_
      refine QW.icmp_ne (tgt := 78) dMo_insert_71 (by decide) (fun z2 => ?_) (fun z2 => ?_)
      · refine QW.iload dMo_insert_78 rfl ?_
        exact (k11 z0 z1 z2)
      · refine QW.iload_n dMo_insert_74 rfl rfl ?_
        refine QW.goto (tgt := 80) dMo_insert_75 (by decide) ?_
        exact (k12 z0 z1 z2)
    · refine QW.iload_n dMo_insert_64 rfl rfl ?_
      refine QW.goto (tgt := 80) dMo_insert_65 (by decide) ?_
      exact (k13 z0 z1)
theorem bMo_insert_80 {a1 : Int32} {a2 : Int32} {a3 : Int32} {a4 : Int32} {a5 : Int32} {w6 : Slot} {s0 : Int32} (hX : X.length = 13) (hw6 : qfr w6) (h1 : inx ((3 * a1) + a5) 12) (k2 : ((mem 197 (Int32.toNatClampNeg ((3 * a1) + a5))) = 0) → QW (d + 1) mMo_insert 113 (lMo_insert_113 a1 a2 a3 a4 a5 s0) [.ref 193] (hpo X mem sw o e) P) (k3 : (¬ (mem 197 (Int32.toNatClampNeg ((3 * a1) + a5))) = 0) → QW d mMo_having 0 (qen 6 [.ref 193, .int a1, .int a5, .int s0]) [] (hpo X mem sw o e) (qcl d mMo_insert 103 106 (lMo_insert_106 a1 a2 a3 a4 a5 s0) [.ref 193] P)) : QW (d + 1) mMo_insert 80 (lMo_insert_80 a1 a2 a3 a4 a5 w6) [.int s0] (hpo X mem sw o e) P := by
  show QW (d + 1) mMo_insert 80 [.val (.ref 193), .val (.int a1), .val (.int a2), .val (.int a3), .val (.int a4), .val (.int a5), w6] [.int s0] (hpo X mem sw o e) P
  refine QW.istore (ls' := [.val (.ref 193), .val (.int a1), .val (.int a2), .val (.int a3), .val (.int a4), .val (.int a5), .val (.int s0)]) dMo_insert_80 (by rcases hw6 with z | ⟨_, z⟩ | ⟨_, z⟩ <;> subst z <;> rfl) ?_
  refine QW.aload_n dMo_insert_82 rfl rfl ?_
  refine QW.aload_n dMo_insert_83 rfl rfl ?_
  refine MW.getr (r' := 197) hX dMo_insert_84 fMo_19 rfl rfl (by cases sw <;> rfl) ?_
  refine QW.iconst (v := 3) dMo_insert_87 (by decide) ?_
  refine QW.iload_n dMo_insert_88 rfl rfl ?_
  refine QW.imul dMo_insert_89 ?_
  refine QW.iload dMo_insert_90 rfl ?_
  refine QW.iadd dMo_insert_92 ?_
  refine MW.zald hX dMo_insert_93 rfl h1.1 (rep_get h1.2) ?_
  refine QW.if_eq (tgt := 113) dMo_insert_94 (by decide) (fun z0 => ?_) (fun z0 => ?_)
  · exact (k2 z0)
  · refine QW.aload_n dMo_insert_97 rfl rfl ?_
    refine QW.iload_n dMo_insert_98 rfl rfl ?_
    refine QW.iload dMo_insert_99 rfl ?_
    refine QW.iload dMo_insert_101 rfl ?_
    exact MW.calV (as := [.int a1, .int a5, .int s0]) (rest := [.ref 193]) hX dMo_insert_103 eMo_having lMo_116 iMo_having vMo_having rfl rfl rfl rfl rfl rfl (Nat.le_of_ble_eq_true rfl) rfl (k3 z0)
theorem bMo_insert_106 {a1 : Int32} {a2 : Int32} {a3 : Int32} {a4 : Int32} {a5 : Int32} {a6 : Int32} {s1 : Int32} (hX : X.length = 13) (k1 : (s1 ≤ 0) → QW d mMo_insert 113 (lMo_insert_113 a1 a2 a3 a4 a5 a6) [.ref 193] (hpo X mem sw o e) P) (k2 : (¬ s1 ≤ 0) → QW d mMo_insert 117 (lMo_insert_117 a1 a2 a3 a4 a5 a6) [.int 2, .ref 193] (hpo X mem sw o e) P) : QW d mMo_insert 106 (lMo_insert_106 a1 a2 a3 a4 a5 a6) [.int s1, .ref 193] (hpo X mem sw o e) P := by
  show QW d mMo_insert 106 [.val (.ref 193), .val (.int a1), .val (.int a2), .val (.int a3), .val (.int a4), .val (.int a5), .val (.int a6)] [.int s1, .ref 193] (hpo X mem sw o e) P
  refine QW.if_le (tgt := 113) dMo_insert_106 (by decide) (fun z0 => ?_) (fun z0 => ?_)
  · exact (k1 z0)
  · refine QW.iconst (v := 2) dMo_insert_109 (by decide) ?_
    refine QW.goto (tgt := 117) dMo_insert_110 (by decide) ?_
    exact (k2 z0)
theorem bMo_insert_113 {a1 : Int32} {a2 : Int32} {a3 : Int32} {a4 : Int32} {a5 : Int32} {a6 : Int32} (hX : X.length = 13) (k1 : QW d mMo_insert 117 (lMo_insert_117 a1 a2 a3 a4 a5 a6) [.int (mem 193 0), .ref 193] (hpo X mem sw o e) P) : QW d mMo_insert 113 (lMo_insert_113 a1 a2 a3 a4 a5 a6) [.ref 193] (hpo X mem sw o e) P := by
  show QW d mMo_insert 113 [.val (.ref 193), .val (.int a1), .val (.int a2), .val (.int a3), .val (.int a4), .val (.int a5), .val (.int a6)] [.ref 193] (hpo X mem sw o e) P
  refine QW.aload_n dMo_insert_113 rfl rfl ?_
  refine MW.geti hX dMo_insert_114 fMo_106 rfl rfl ?_
  exact k1
theorem bMo_insert_117 {a1 : Int32} {a2 : Int32} {a3 : Int32} {a4 : Int32} {a5 : Int32} {a6 : Int32} {s1 : Int32} (hX : X.length = 13) (k1 : QW d mMo_insert 48 (lMo_insert_48 a1 a2 a3 a4 (a5 + 1) (.val (.int a6))) [] (hpo X (mup mem 193 0 s1) sw o e) P) : QW d mMo_insert 117 (lMo_insert_117 a1 a2 a3 a4 a5 a6) [.int s1, .ref 193] (hpo X mem sw o e) P := by
  show QW d mMo_insert 117 [.val (.ref 193), .val (.int a1), .val (.int a2), .val (.int a3), .val (.int a4), .val (.int a5), .val (.int a6)] [.int s1, .ref 193] (hpo X mem sw o e) P
  refine MW.puti hX dMo_insert_117 fMo_106 rfl rfl rfl ?_
  refine MW.iinc (c := 1) (ls' := [.val (.ref 193), .val (.int a1), .val (.int a2), .val (.int a3), .val (.int a4), .val (.int (a5 + 1)), .val (.int a6)]) dMo_insert_120 (by decide) rfl rfl ?_
  refine QW.goto (tgt := 48) dMo_insert_123 (by decide) ?_
  exact k1
theorem dMo_delete_0 : decode mMo_delete.2.1 0 = .ok (.aload_n 0, 1) := by decide +kernel
theorem dMo_delete_1 : decode mMo_delete.2.1 1 = .ok (.aload_n 0, 1) := by decide +kernel
theorem dMo_delete_2 : decode mMo_delete.2.1 2 = .ok (.iload_n 1, 1) := by decide +kernel
theorem dMo_delete_3 : decode mMo_delete.2.1 3 = .ok (.iload_n 2, 1) := by decide +kernel
theorem dMo_delete_4 : decode mMo_delete.2.1 4 = .ok (.invokevirtual 112, 3) := by decide +kernel
theorem dMo_delete_7 : decode mMo_delete.2.1 7 = .ok (.ifCond .eq 7, 3) := by decide +kernel
theorem dMo_delete_10 : decode mMo_delete.2.1 10 = .ok (.iconst 0, 1) := by decide +kernel
theorem dMo_delete_11 : decode mMo_delete.2.1 11 = .ok (.goto 4, 3) := by decide +kernel
theorem dMo_delete_14 : decode mMo_delete.2.1 14 = .ok (.iconst 1, 1) := by decide +kernel
theorem dMo_delete_15 : decode mMo_delete.2.1 15 = .ok (.putfield 106, 3) := by decide +kernel
theorem dMo_delete_18 : decode mMo_delete.2.1 18 = .ok (.aload_n 0, 1) := by decide +kernel
theorem dMo_delete_19 : decode mMo_delete.2.1 19 = .ok (.getfield 106, 3) := by decide +kernel
theorem dMo_delete_22 : decode mMo_delete.2.1 22 = .ok (.ifCond .le 5, 3) := by decide +kernel
theorem dMo_delete_25 : decode mMo_delete.2.1 25 = .ok (.iconst 0, 1) := by decide +kernel
theorem dMo_delete_26 : decode mMo_delete.2.1 26 = .ok (.ireturn, 1) := by decide +kernel
theorem dMo_delete_27 : decode mMo_delete.2.1 27 = .ok (.iconst 0, 1) := by decide +kernel
theorem dMo_delete_28 : decode mMo_delete.2.1 28 = .ok (.istore 4, 2) := by decide +kernel
theorem dMo_delete_30 : decode mMo_delete.2.1 30 = .ok (.iconst 0, 1) := by decide +kernel
theorem dMo_delete_31 : decode mMo_delete.2.1 31 = .ok (.istore 5, 2) := by decide +kernel
theorem dMo_delete_33 : decode mMo_delete.2.1 33 = .ok (.iload 5, 2) := by decide +kernel
theorem dMo_delete_35 : decode mMo_delete.2.1 35 = .ok (.aload_n 0, 1) := by decide +kernel
theorem dMo_delete_36 : decode mMo_delete.2.1 36 = .ok (.getfield 13, 3) := by decide +kernel
theorem dMo_delete_39 : decode mMo_delete.2.1 39 = .ok (.iload_n 1, 1) := by decide +kernel
theorem dMo_delete_40 : decode mMo_delete.2.1 40 = .ok (.iaload, 1) := by decide +kernel
theorem dMo_delete_41 : decode mMo_delete.2.1 41 = .ok (.if_icmp .ge 105, 3) := by decide +kernel
theorem dMo_delete_44 : decode mMo_delete.2.1 44 = .ok (.aload_n 0, 1) := by decide +kernel
theorem dMo_delete_45 : decode mMo_delete.2.1 45 = .ok (.getfield 16, 3) := by decide +kernel
theorem dMo_delete_48 : decode mMo_delete.2.1 48 = .ok (.bipush 24, 2) := by decide +kernel
theorem dMo_delete_50 : decode mMo_delete.2.1 50 = .ok (.iload_n 1, 1) := by decide +kernel
theorem dMo_delete_51 : decode mMo_delete.2.1 51 = .ok (.imul, 1) := by decide +kernel
theorem dMo_delete_52 : decode mMo_delete.2.1 52 = .ok (.iconst 3, 1) := by decide +kernel
theorem dMo_delete_53 : decode mMo_delete.2.1 53 = .ok (.iload 5, 2) := by decide +kernel
theorem dMo_delete_55 : decode mMo_delete.2.1 55 = .ok (.imul, 1) := by decide +kernel
theorem dMo_delete_56 : decode mMo_delete.2.1 56 = .ok (.iadd, 1) := by decide +kernel
theorem dMo_delete_57 : decode mMo_delete.2.1 57 = .ok (.iload_n 2, 1) := by decide +kernel
theorem dMo_delete_58 : decode mMo_delete.2.1 58 = .ok (.iadd, 1) := by decide +kernel
theorem dMo_delete_59 : decode mMo_delete.2.1 59 = .ok (.iaload, 1) := by decide +kernel
theorem dMo_delete_60 : decode mMo_delete.2.1 60 = .ok (.iload_n 3, 1) := by decide +kernel
theorem dMo_delete_61 : decode mMo_delete.2.1 61 = .ok (.if_icmp .ne 7, 3) := by decide +kernel
theorem dMo_delete_64 : decode mMo_delete.2.1 64 = .ok (.iconst 1, 1) := by decide +kernel
theorem dMo_delete_65 : decode mMo_delete.2.1 65 = .ok (.goto 4, 3) := by decide +kernel
theorem dMo_delete_68 : decode mMo_delete.2.1 68 = .ok (.iconst 0, 1) := by decide +kernel
theorem dMo_delete_69 : decode mMo_delete.2.1 69 = .ok (.istore 6, 2) := by decide +kernel
theorem dMo_delete_71 : decode mMo_delete.2.1 71 = .ok (.iconst 0, 1) := by decide +kernel
theorem dMo_delete_72 : decode mMo_delete.2.1 72 = .ok (.istore 7, 2) := by decide +kernel
theorem dMo_delete_74 : decode mMo_delete.2.1 74 = .ok (.iload 7, 2) := by decide +kernel
theorem dMo_delete_76 : decode mMo_delete.2.1 76 = .ok (.iconst 3, 1) := by decide +kernel
theorem dMo_delete_77 : decode mMo_delete.2.1 77 = .ok (.if_icmp .ge 48, 3) := by decide +kernel
theorem dMo_delete_80 : decode mMo_delete.2.1 80 = .ok (.iload 6, 2) := by decide +kernel
theorem dMo_delete_82 : decode mMo_delete.2.1 82 = .ok (.ifCond .ne 43, 3) := by decide +kernel
theorem dMo_delete_85 : decode mMo_delete.2.1 85 = .ok (.aload_n 0, 1) := by decide +kernel
theorem dMo_delete_86 : decode mMo_delete.2.1 86 = .ok (.getfield 16, 3) := by decide +kernel
theorem dMo_delete_89 : decode mMo_delete.2.1 89 = .ok (.bipush 24, 2) := by decide +kernel
theorem dMo_delete_91 : decode mMo_delete.2.1 91 = .ok (.iload_n 1, 1) := by decide +kernel
theorem dMo_delete_92 : decode mMo_delete.2.1 92 = .ok (.imul, 1) := by decide +kernel
theorem dMo_delete_93 : decode mMo_delete.2.1 93 = .ok (.iconst 3, 1) := by decide +kernel
theorem dMo_delete_94 : decode mMo_delete.2.1 94 = .ok (.iload 4, 2) := by decide +kernel
theorem dMo_delete_96 : decode mMo_delete.2.1 96 = .ok (.imul, 1) := by decide +kernel
theorem dMo_delete_97 : decode mMo_delete.2.1 97 = .ok (.iadd, 1) := by decide +kernel
theorem dMo_delete_98 : decode mMo_delete.2.1 98 = .ok (.iload 7, 2) := by decide +kernel
theorem dMo_delete_100 : decode mMo_delete.2.1 100 = .ok (.iadd, 1) := by decide +kernel
theorem dMo_delete_101 : decode mMo_delete.2.1 101 = .ok (.aload_n 0, 1) := by decide +kernel
theorem dMo_delete_102 : decode mMo_delete.2.1 102 = .ok (.getfield 16, 3) := by decide +kernel
theorem dMo_delete_105 : decode mMo_delete.2.1 105 = .ok (.bipush 24, 2) := by decide +kernel
theorem dMo_delete_107 : decode mMo_delete.2.1 107 = .ok (.iload_n 1, 1) := by decide +kernel
theorem dMo_delete_108 : decode mMo_delete.2.1 108 = .ok (.imul, 1) := by decide +kernel
theorem dMo_delete_109 : decode mMo_delete.2.1 109 = .ok (.iconst 3, 1) := by decide +kernel
theorem dMo_delete_110 : decode mMo_delete.2.1 110 = .ok (.iload 5, 2) := by decide +kernel
theorem dMo_delete_112 : decode mMo_delete.2.1 112 = .ok (.imul, 1) := by decide +kernel
theorem dMo_delete_113 : decode mMo_delete.2.1 113 = .ok (.iadd, 1) := by decide +kernel
theorem dMo_delete_114 : decode mMo_delete.2.1 114 = .ok (.iload 7, 2) := by decide +kernel
theorem dMo_delete_116 : decode mMo_delete.2.1 116 = .ok (.iadd, 1) := by decide +kernel
theorem dMo_delete_117 : decode mMo_delete.2.1 117 = .ok (.iaload, 1) := by decide +kernel
theorem dMo_delete_118 : decode mMo_delete.2.1 118 = .ok (.iastore, 1) := by decide +kernel
theorem dMo_delete_119 : decode mMo_delete.2.1 119 = .ok (.iinc 7 1, 3) := by decide +kernel
theorem dMo_delete_122 : decode mMo_delete.2.1 122 = .ok (.goto (-48), 3) := by decide +kernel
theorem dMo_delete_125 : decode mMo_delete.2.1 125 = .ok (.iload 4, 2) := by decide +kernel
theorem dMo_delete_127 : decode mMo_delete.2.1 127 = .ok (.iload 6, 2) := by decide +kernel
theorem dMo_delete_129 : decode mMo_delete.2.1 129 = .ok (.ifCond .eq 7, 3) := by decide +kernel
theorem dMo_delete_132 : decode mMo_delete.2.1 132 = .ok (.iconst 0, 1) := by decide +kernel
theorem dMo_delete_133 : decode mMo_delete.2.1 133 = .ok (.goto 4, 3) := by decide +kernel
theorem dMo_delete_136 : decode mMo_delete.2.1 136 = .ok (.iconst 1, 1) := by decide +kernel
theorem dMo_delete_137 : decode mMo_delete.2.1 137 = .ok (.iadd, 1) := by decide +kernel
theorem dMo_delete_138 : decode mMo_delete.2.1 138 = .ok (.istore 4, 2) := by decide +kernel
theorem dMo_delete_140 : decode mMo_delete.2.1 140 = .ok (.iinc 5 1, 3) := by decide +kernel
theorem dMo_delete_143 : decode mMo_delete.2.1 143 = .ok (.goto (-110), 3) := by decide +kernel
theorem dMo_delete_146 : decode mMo_delete.2.1 146 = .ok (.aload_n 0, 1) := by decide +kernel
theorem dMo_delete_147 : decode mMo_delete.2.1 147 = .ok (.getfield 13, 3) := by decide +kernel
theorem dMo_delete_150 : decode mMo_delete.2.1 150 = .ok (.iload_n 1, 1) := by decide +kernel
theorem dMo_delete_151 : decode mMo_delete.2.1 151 = .ok (.iaload, 1) := by decide +kernel
theorem dMo_delete_152 : decode mMo_delete.2.1 152 = .ok (.iload 4, 2) := by decide +kernel
theorem dMo_delete_154 : decode mMo_delete.2.1 154 = .ok (.isub, 1) := by decide +kernel
theorem dMo_delete_155 : decode mMo_delete.2.1 155 = .ok (.istore 5, 2) := by decide +kernel
theorem dMo_delete_157 : decode mMo_delete.2.1 157 = .ok (.aload_n 0, 1) := by decide +kernel
theorem dMo_delete_158 : decode mMo_delete.2.1 158 = .ok (.getfield 13, 3) := by decide +kernel
theorem dMo_delete_161 : decode mMo_delete.2.1 161 = .ok (.iload_n 1, 1) := by decide +kernel
theorem dMo_delete_162 : decode mMo_delete.2.1 162 = .ok (.iload 4, 2) := by decide +kernel
theorem dMo_delete_164 : decode mMo_delete.2.1 164 = .ok (.iastore, 1) := by decide +kernel
theorem dMo_delete_165 : decode mMo_delete.2.1 165 = .ok (.iload 5, 2) := by decide +kernel
theorem dMo_delete_167 : decode mMo_delete.2.1 167 = .ok (.ireturn, 1) := by decide +kernel
def lMo_delete_7 (a1 : Int32) (a2 : Int32) (a3 : Int32) : List Slot := [.val (.ref 193), .val (.int a1), .val (.int a2), .val (.int a3), .unset, .unset, .unset, .unset]
def lMo_delete_15 (a1 : Int32) (a2 : Int32) (a3 : Int32) : List Slot := [.val (.ref 193), .val (.int a1), .val (.int a2), .val (.int a3), .unset, .unset, .unset, .unset]
def lMo_delete_33 (a1 : Int32) (a2 : Int32) (a3 : Int32) (a4 : Int32) (a5 : Int32) (w6 : Slot) (w7 : Slot) : List Slot := [.val (.ref 193), .val (.int a1), .val (.int a2), .val (.int a3), .val (.int a4), .val (.int a5), w6, w7]
def lMo_delete_69 (a1 : Int32) (a2 : Int32) (a3 : Int32) (a4 : Int32) (a5 : Int32) (w6 : Slot) (w7 : Slot) : List Slot := [.val (.ref 193), .val (.int a1), .val (.int a2), .val (.int a3), .val (.int a4), .val (.int a5), w6, w7]
def lMo_delete_74 (a1 : Int32) (a2 : Int32) (a3 : Int32) (a4 : Int32) (a5 : Int32) (a6 : Int32) (a7 : Int32) : List Slot := [.val (.ref 193), .val (.int a1), .val (.int a2), .val (.int a3), .val (.int a4), .val (.int a5), .val (.int a6), .val (.int a7)]
def lMo_delete_125 (a1 : Int32) (a2 : Int32) (a3 : Int32) (a4 : Int32) (a5 : Int32) (a6 : Int32) (a7 : Int32) : List Slot := [.val (.ref 193), .val (.int a1), .val (.int a2), .val (.int a3), .val (.int a4), .val (.int a5), .val (.int a6), .val (.int a7)]
def lMo_delete_137 (a1 : Int32) (a2 : Int32) (a3 : Int32) (a4 : Int32) (a5 : Int32) (a6 : Int32) (a7 : Int32) : List Slot := [.val (.ref 193), .val (.int a1), .val (.int a2), .val (.int a3), .val (.int a4), .val (.int a5), .val (.int a6), .val (.int a7)]
theorem bMo_delete_0 {a1 : Int32} {a2 : Int32} {a3 : Int32} (hX : X.length = 13) (k1 : QW d mMo_isColumn 0 (qen 3 [.ref 193, .int a1, .int a2]) [] (hpo X mem sw o e) (qcl d mMo_delete 4 7 (lMo_delete_7 a1 a2 a3) [.ref 193] P)) : QW (d + 1) mMo_delete 0 (qen 8 [.ref 193, .int a1, .int a2, .int a3]) [] (hpo X mem sw o e) P := by
  show QW (d + 1) mMo_delete 0 [.val (.ref 193), .val (.int a1), .val (.int a2), .val (.int a3), .unset, .unset, .unset, .unset] [] (hpo X mem sw o e) P
  refine QW.aload_n dMo_delete_0 rfl rfl ?_
  refine QW.aload_n dMo_delete_1 rfl rfl ?_
  refine QW.iload_n dMo_delete_2 rfl rfl ?_
  refine QW.iload_n dMo_delete_3 rfl rfl ?_
  exact MW.calV (as := [.int a1, .int a2]) (rest := [.ref 193]) hX dMo_delete_4 eMo_isColumn lMo_112 iMo_isColumn vMo_isColumn rfl rfl rfl rfl rfl rfl (Nat.le_of_ble_eq_true rfl) rfl k1
theorem bMo_delete_7 {a1 : Int32} {a2 : Int32} {a3 : Int32} {s1 : Int32} (hX : X.length = 13) (k1 : (s1 = 0) → QW d mMo_delete 15 (lMo_delete_15 a1 a2 a3) [.int 1, .ref 193] (hpo X mem sw o e) P) (k2 : (¬ s1 = 0) → QW d mMo_delete 15 (lMo_delete_15 a1 a2 a3) [.int 0, .ref 193] (hpo X mem sw o e) P) : QW d mMo_delete 7 (lMo_delete_7 a1 a2 a3) [.int s1, .ref 193] (hpo X mem sw o e) P := by
  show QW d mMo_delete 7 [.val (.ref 193), .val (.int a1), .val (.int a2), .val (.int a3), .unset, .unset, .unset, .unset] [.int s1, .ref 193] (hpo X mem sw o e) P
  refine QW.if_eq (tgt := 14) dMo_delete_7 (by decide) (fun z0 => ?_) (fun z0 => ?_)
  · refine QW.iconst (v := 1) dMo_delete_14 (by decide) ?_
    exact (k1 z0)
  · refine QW.iconst (v := 0) dMo_delete_10 (by decide) ?_
    refine QW.goto (tgt := 15) dMo_delete_11 (by decide) ?_
    exact (k2 z0)
theorem bMo_delete_15 {a1 : Int32} {a2 : Int32} {a3 : Int32} {s1 : Int32} (hX : X.length = 13) (k1 : (((mup mem 193 0 s1) 193 0) ≤ 0) → QW d mMo_delete 33 (lMo_delete_33 a1 a2 a3 0 0 .unset .unset) [] (hpo X (mup mem 193 0 s1) sw o e) P) (k2 : (¬ ((mup mem 193 0 s1) 193 0) ≤ 0) → P (.inl (some (.int 0)), (hpo X (mup mem 193 0 s1) sw o e))) : QW d mMo_delete 15 (lMo_delete_15 a1 a2 a3) [.int s1, .ref 193] (hpo X mem sw o e) P := by
  show QW d mMo_delete 15 [.val (.ref 193), .val (.int a1), .val (.int a2), .val (.int a3), .unset, .unset, .unset, .unset] [.int s1, .ref 193] (hpo X mem sw o e) P
  refine MW.puti hX dMo_delete_15 fMo_106 rfl rfl rfl ?_
  refine QW.aload_n dMo_delete_18 rfl rfl ?_
  refine MW.geti hX dMo_delete_19 fMo_106 rfl rfl ?_
  refine QW.if_le (tgt := 27) dMo_delete_22 (by decide) (fun z0 => ?_) (fun z0 => ?_)
  · refine QW.iconst (v := 0) dMo_delete_27 (by decide) ?_
    refine QW.istore (ls' := [.val (.ref 193), .val (.int a1), .val (.int a2), .val (.int a3), .val (.int 0), .unset, .unset, .unset]) dMo_delete_28 rfl ?_
    refine QW.iconst (v := 0) dMo_delete_30 (by decide) ?_
    refine QW.istore (ls' := [.val (.ref 193), .val (.int a1), .val (.int a2), .val (.int a3), .val (.int 0), .val (.int 0), .unset, .unset]) dMo_delete_31 rfl ?_
    exact (k1 z0)
  · refine QW.iconst (v := 0) dMo_delete_25 (by decide) ?_
    exact QW.iret dMo_delete_26 rfl rfl (k2 z0)
theorem bMo_delete_33 {a1 : Int32} {a2 : Int32} {a3 : Int32} {a4 : Int32} {a5 : Int32} {w6 : Slot} {w7 : Slot} (hX : X.length = 13) (hw6 : qfr w6) (hw7 : qfr w7) (h1 : inx a1 4) (h2 : ((mem 195 (Int32.toNatClampNeg a1)) ≤ a5) → inx a1 4) (h3 : ((mem 195 (Int32.toNatClampNeg a1)) ≤ a5) → inx a1 4) (k4 : ((mem 195 (Int32.toNatClampNeg a1)) ≤ a5) → P (.inl (some (.int ((mem 195 (Int32.toNatClampNeg a1)) - a4))), (hpo X (mup mem 195 (Int32.toNatClampNeg a1) a4) sw o e))) (h5 : (¬ (mem 195 (Int32.toNatClampNeg a1)) ≤ a5) → inx (((24 * a1) + (3 * a5)) + a2) 96) (k6 : (¬ (mem 195 (Int32.toNatClampNeg a1)) ≤ a5) → (¬ (mem 196 (Int32.toNatClampNeg (((24 * a1) + (3 * a5)) + a2))) = a3) → QW d mMo_delete 69 (lMo_delete_69 a1 a2 a3 a4 a5 w6 w7) [.int 0] (hpo X mem sw o e) P) (k7 : (¬ (mem 195 (Int32.toNatClampNeg a1)) ≤ a5) → ((mem 196 (Int32.toNatClampNeg (((24 * a1) + (3 * a5)) + a2))) = a3) → QW d mMo_delete 69 (lMo_delete_69 a1 a2 a3 a4 a5 w6 w7) [.int 1] (hpo X mem sw o e) P) : QW d mMo_delete 33 (lMo_delete_33 a1 a2 a3 a4 a5 w6 w7) [] (hpo X mem sw o e) P := by
  show QW d mMo_delete 33 [.val (.ref 193), .val (.int a1), .val (.int a2), .val (.int a3), .val (.int a4), .val (.int a5), w6, w7] [] (hpo X mem sw o e) P
  refine QW.iload dMo_delete_33 rfl ?_
  refine QW.aload_n dMo_delete_35 rfl rfl ?_
  refine MW.getr (r' := 195) hX dMo_delete_36 fMo_13 rfl rfl (by cases sw <;> rfl) ?_
  refine QW.iload_n dMo_delete_39 rfl rfl ?_
  refine MW.iald hX dMo_delete_40 rfl h1.1 (rep_get h1.2) ?_
  refine QW.icmp_ge (tgt := 146) dMo_delete_41 (by decide) (fun z0 => ?_) (fun z0 => ?_)
  · refine QW.aload_n dMo_delete_146 rfl rfl ?_
    refine MW.getr (r' := 195) hX dMo_delete_147 fMo_13 rfl rfl (by cases sw <;> rfl) ?_
    refine QW.iload_n dMo_delete_150 rfl rfl ?_
    refine MW.iald hX dMo_delete_151 rfl (h2 z0).1 (rep_get (h2 z0).2) ?_
    refine QW.iload dMo_delete_152 rfl ?_
    refine QW.isub dMo_delete_154 ?_
    refine QW.istore (ls' := [.val (.ref 193), .val (.int a1), .val (.int a2), .val (.int a3), .val (.int a4), .val (.int ((mem 195 (Int32.toNatClampNeg a1)) - a4)), w6, w7]) dMo_delete_155 rfl ?_
    refine QW.aload_n dMo_delete_157 rfl rfl ?_
    refine MW.getr (r' := 195) hX dMo_delete_158 fMo_13 rfl rfl (by cases sw <;> rfl) ?_
    refine QW.iload_n dMo_delete_161 rfl rfl ?_
    refine QW.iload dMo_delete_162 rfl ?_
    refine MW.iast hX dMo_delete_164 rfl (h3 z0).1 (rep_get (h3 z0).2) ?_
    refine QW.iload dMo_delete_165 rfl ?_
    exact QW.iret dMo_delete_167 rfl rfl (k4 z0)
  · refine QW.aload_n dMo_delete_44 rfl rfl ?_
    refine MW.getr (r' := 196) hX dMo_delete_45 fMo_16 rfl rfl (by cases sw <;> rfl) ?_
    refine QW.bipush (v := 24) dMo_delete_48 (by decide) ?_
    refine QW.iload_n dMo_delete_50 rfl rfl ?_
    refine QW.imul dMo_delete_51 ?_
    refine QW.iconst (v := 3) dMo_delete_52 (by decide) ?_
    refine QW.iload dMo_delete_53 rfl ?_
    refine QW.imul dMo_delete_55 ?_
    refine QW.iadd dMo_delete_56 ?_
    refine QW.iload_n dMo_delete_57 rfl rfl ?_
    refine QW.iadd dMo_delete_58 ?_
    refine MW.iald hX dMo_delete_59 rfl (h5 z0).1 (rep_get (h5 z0).2) ?_
    refine QW.iload_n dMo_delete_60 rfl rfl ?_
    refine QW.icmp_ne (tgt := 68) dMo_delete_61 (by decide) (fun z1 => ?_) (fun z1 => ?_)
    · refine QW.iconst (v := 0) dMo_delete_68 (by decide) ?_
      exact (k6 z0 z1)
    · refine QW.iconst (v := 1) dMo_delete_64 (by decide) ?_
      refine QW.goto (tgt := 69) dMo_delete_65 (by decide) ?_
      exact (k7 z0 z1)
theorem bMo_delete_69 {a1 : Int32} {a2 : Int32} {a3 : Int32} {a4 : Int32} {a5 : Int32} {w6 : Slot} {w7 : Slot} {s0 : Int32} (hX : X.length = 13) (hw6 : qfr w6) (hw7 : qfr w7) (k1 : QW d mMo_delete 74 (lMo_delete_74 a1 a2 a3 a4 a5 s0 0) [] (hpo X mem sw o e) P) : QW d mMo_delete 69 (lMo_delete_69 a1 a2 a3 a4 a5 w6 w7) [.int s0] (hpo X mem sw o e) P := by
  show QW d mMo_delete 69 [.val (.ref 193), .val (.int a1), .val (.int a2), .val (.int a3), .val (.int a4), .val (.int a5), w6, w7] [.int s0] (hpo X mem sw o e) P
  refine QW.istore (ls' := [.val (.ref 193), .val (.int a1), .val (.int a2), .val (.int a3), .val (.int a4), .val (.int a5), .val (.int s0), w7]) dMo_delete_69 (by rcases hw6 with z | ⟨_, z⟩ | ⟨_, z⟩ <;> subst z <;> rfl) ?_
  refine QW.iconst (v := 0) dMo_delete_71 (by decide) ?_
  refine QW.istore (ls' := [.val (.ref 193), .val (.int a1), .val (.int a2), .val (.int a3), .val (.int a4), .val (.int a5), .val (.int s0), .val (.int 0)]) dMo_delete_72 (by rcases hw7 with z | ⟨_, z⟩ | ⟨_, z⟩ <;> subst z <;> rfl) ?_
  exact k1
theorem bMo_delete_74 {a1 : Int32} {a2 : Int32} {a3 : Int32} {a4 : Int32} {a5 : Int32} {a6 : Int32} {a7 : Int32} (hX : X.length = 13) (k1 : (3 ≤ a7) → QW d mMo_delete 125 (lMo_delete_125 a1 a2 a3 a4 a5 a6 a7) [] (hpo X mem sw o e) P) (k2 : (¬ 3 ≤ a7) → (¬ a6 = 0) → QW d mMo_delete 125 (lMo_delete_125 a1 a2 a3 a4 a5 a6 a7) [] (hpo X mem sw o e) P) (h3 : (¬ 3 ≤ a7) → (a6 = 0) → inx (((24 * a1) + (3 * a5)) + a7) 96) (h4 : (¬ 3 ≤ a7) → (a6 = 0) → inx (((24 * a1) + (3 * a4)) + a7) 96) (k5 : (¬ 3 ≤ a7) → (a6 = 0) → QW d mMo_delete 74 (lMo_delete_74 a1 a2 a3 a4 a5 a6 (a7 + 1)) [] (hpo X (mup mem 196 (Int32.toNatClampNeg (((24 * a1) + (3 * a4)) + a7)) (mem 196 (Int32.toNatClampNeg (((24 * a1) + (3 * a5)) + a7)))) sw o e) P) : QW d mMo_delete 74 (lMo_delete_74 a1 a2 a3 a4 a5 a6 a7) [] (hpo X mem sw o e) P := by
  show QW d mMo_delete 74 [.val (.ref 193), .val (.int a1), .val (.int a2), .val (.int a3), .val (.int a4), .val (.int a5), .val (.int a6), .val (.int a7)] [] (hpo X mem sw o e) P
  refine QW.iload dMo_delete_74 rfl ?_
  refine QW.iconst (v := 3) dMo_delete_76 (by decide) ?_
  refine QW.icmp_ge (tgt := 125) dMo_delete_77 (by decide) (fun z0 => ?_) (fun z0 => ?_)
  · exact (k1 z0)
  · refine QW.iload dMo_delete_80 rfl ?_
    refine QW.if_ne (tgt := 125) dMo_delete_82 (by decide) (fun z1 => ?_) (fun z1 => ?_)
    · exact (k2 z0 z1)
    · refine QW.aload_n dMo_delete_85 rfl rfl ?_
      refine MW.getr (r' := 196) hX dMo_delete_86 fMo_16 rfl rfl (by cases sw <;> rfl) ?_
      refine QW.bipush (v := 24) dMo_delete_89 (by decide) ?_
      refine QW.iload_n dMo_delete_91 rfl rfl ?_
      refine QW.imul dMo_delete_92 ?_
      refine QW.iconst (v := 3) dMo_delete_93 (by decide) ?_
      refine QW.iload dMo_delete_94 rfl ?_
      refine QW.imul dMo_delete_96 ?_
      refine QW.iadd dMo_delete_97 ?_
      refine QW.iload dMo_delete_98 rfl ?_
      refine QW.iadd dMo_delete_100 ?_
      refine QW.aload_n dMo_delete_101 rfl rfl ?_
      refine MW.getr (r' := 196) hX dMo_delete_102 fMo_16 rfl rfl (by cases sw <;> rfl) ?_
      refine QW.bipush (v := 24) dMo_delete_105 (by decide) ?_
      refine QW.iload_n dMo_delete_107 rfl rfl ?_
      refine QW.imul dMo_delete_108 ?_
      refine QW.iconst (v := 3) dMo_delete_109 (by decide) ?_
      refine QW.iload dMo_delete_110 rfl ?_
      refine QW.imul dMo_delete_112 ?_
      refine QW.iadd dMo_delete_113 ?_
      refine QW.iload dMo_delete_114 rfl ?_
      refine QW.iadd dMo_delete_116 ?_
      refine MW.iald hX dMo_delete_117 rfl (h3 z0 z1).1 (rep_get (h3 z0 z1).2) ?_
      refine MW.iast hX dMo_delete_118 rfl (h4 z0 z1).1 (rep_get (h4 z0 z1).2) ?_
      refine MW.iinc (c := 1) (ls' := [.val (.ref 193), .val (.int a1), .val (.int a2), .val (.int a3), .val (.int a4), .val (.int a5), .val (.int a6), .val (.int (a7 + 1))]) dMo_delete_119 (by decide) rfl rfl ?_
      refine QW.goto (tgt := 74) dMo_delete_122 (by decide) ?_
      exact (k5 z0 z1)
theorem bMo_delete_125 {a1 : Int32} {a2 : Int32} {a3 : Int32} {a4 : Int32} {a5 : Int32} {a6 : Int32} {a7 : Int32} (hX : X.length = 13) (k1 : (a6 = 0) → QW d mMo_delete 137 (lMo_delete_137 a1 a2 a3 a4 a5 a6 a7) [.int 1, .int a4] (hpo X mem sw o e) P) (k2 : (¬ a6 = 0) → QW d mMo_delete 137 (lMo_delete_137 a1 a2 a3 a4 a5 a6 a7) [.int 0, .int a4] (hpo X mem sw o e) P) : QW d mMo_delete 125 (lMo_delete_125 a1 a2 a3 a4 a5 a6 a7) [] (hpo X mem sw o e) P := by
  show QW d mMo_delete 125 [.val (.ref 193), .val (.int a1), .val (.int a2), .val (.int a3), .val (.int a4), .val (.int a5), .val (.int a6), .val (.int a7)] [] (hpo X mem sw o e) P
  refine QW.iload dMo_delete_125 rfl ?_
  refine QW.iload dMo_delete_127 rfl ?_
  refine QW.if_eq (tgt := 136) dMo_delete_129 (by decide) (fun z0 => ?_) (fun z0 => ?_)
  · refine QW.iconst (v := 1) dMo_delete_136 (by decide) ?_
    exact (k1 z0)
  · refine QW.iconst (v := 0) dMo_delete_132 (by decide) ?_
    refine QW.goto (tgt := 137) dMo_delete_133 (by decide) ?_
    exact (k2 z0)
theorem bMo_delete_137 {a1 : Int32} {a2 : Int32} {a3 : Int32} {a4 : Int32} {a5 : Int32} {a6 : Int32} {a7 : Int32} {s1 : Int32} {s0 : Int32} (hX : X.length = 13) (k1 : QW d mMo_delete 33 (lMo_delete_33 a1 a2 a3 (s0 + s1) (a5 + 1) (.val (.int a6)) (.val (.int a7))) [] (hpo X mem sw o e) P) : QW d mMo_delete 137 (lMo_delete_137 a1 a2 a3 a4 a5 a6 a7) [.int s1, .int s0] (hpo X mem sw o e) P := by
  show QW d mMo_delete 137 [.val (.ref 193), .val (.int a1), .val (.int a2), .val (.int a3), .val (.int a4), .val (.int a5), .val (.int a6), .val (.int a7)] [.int s1, .int s0] (hpo X mem sw o e) P
  refine QW.iadd dMo_delete_137 ?_
  refine QW.istore (ls' := [.val (.ref 193), .val (.int a1), .val (.int a2), .val (.int a3), .val (.int (s0 + s1)), .val (.int a5), .val (.int a6), .val (.int a7)]) dMo_delete_138 rfl ?_
  refine MW.iinc (c := 1) (ls' := [.val (.ref 193), .val (.int a1), .val (.int a2), .val (.int a3), .val (.int (s0 + s1)), .val (.int (a5 + 1)), .val (.int a6), .val (.int a7)]) dMo_delete_140 (by decide) rfl rfl ?_
  refine QW.goto (tgt := 33) dMo_delete_143 (by decide) ?_
  exact k1
end BLK
end
