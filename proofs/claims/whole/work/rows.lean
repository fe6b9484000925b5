section
/-- a private method of a class that the tables say can be made, by its rows of tables_1 -/
def lw_okq (q : MethodName × Nat) : Prop := (q.1.cls ≠ "java/lang/invoke/MethodHandle" ∧ q.1.cls ≠ "java/lang/invoke/VarHandle") ∧ Cond.instantiable q.1.cls q.2 ∈ tables_1 ∧ Cond.privateMethod q.1 ∈ tables_1 ∧ Cond.instanceMethod q.1 ∈ tables_1
theorem lw_p0 : lw_okq (⟨"DifferenceFamilies$Group", "findOrder", "(I)I"⟩, 12) := ⟨⟨by decide +kernel, by decide +kernel⟩, List.mem_of_getElem? (i := 26) (by decide +kernel), List.mem_of_getElem? (i := 88) (by decide +kernel), List.mem_of_getElem? (i := 89) (by decide +kernel)⟩
theorem lw_p1 : lw_okq (⟨"DifferenceFamilies$Group", "listAutomorphisms", "()V"⟩, 12) := ⟨⟨by decide +kernel, by decide +kernel⟩, List.mem_of_getElem? (i := 26) (by decide +kernel), List.mem_of_getElem? (i := 96) (by decide +kernel), List.mem_of_getElem? (i := 97) (by decide +kernel)⟩
theorem lw_p2 : lw_okq (⟨"DifferenceFamilies$Group", "listIfAutomorphism", "(II)V"⟩, 12) := ⟨⟨by decide +kernel, by decide +kernel⟩, List.mem_of_getElem? (i := 26) (by decide +kernel), List.mem_of_getElem? (i := 100) (by decide +kernel), List.mem_of_getElem? (i := 101) (by decide +kernel)⟩
theorem lw_p3 : lw_okq (⟨"DifferenceFamilies$Group", "fillMap", "(II[I)V"⟩, 12) := ⟨⟨by decide +kernel, by decide +kernel⟩, List.mem_of_getElem? (i := 26) (by decide +kernel), List.mem_of_getElem? (i := 104) (by decide +kernel), List.mem_of_getElem? (i := 105) (by decide +kernel)⟩
theorem lw_p4 : lw_okq (⟨"DifferenceFamilies", "isElement", "(I)Z"⟩, 13) := ⟨⟨by decide +kernel, by decide +kernel⟩, List.mem_of_getElem? (i := 18) (by decide +kernel), List.mem_of_getElem? (i := 394) (by decide +kernel), List.mem_of_getElem? (i := 395) (by decide +kernel)⟩
theorem lw_p5 : lw_okq (⟨"DifferenceFamilies", "isAutomorphism", "(I)Z"⟩, 13) := ⟨⟨by decide +kernel, by decide +kernel⟩, List.mem_of_getElem? (i := 18) (by decide +kernel), List.mem_of_getElem? (i := 422) (by decide +kernel), List.mem_of_getElem? (i := 423) (by decide +kernel)⟩
theorem lw_p6 : lw_okq (⟨"DifferenceFamilies$Likeness", "mapAll", "([J)I"⟩, 5) := ⟨⟨by decide +kernel, by decide +kernel⟩, List.mem_of_getElem? (i := 169) (by decide +kernel), List.mem_of_getElem? (i := 489) (by decide +kernel), List.mem_of_getElem? (i := 490) (by decide +kernel)⟩
theorem lw_p7 : lw_okq (⟨"DifferenceFamilies$Exchanges", "tryAll", "(IJJI)V"⟩, 5) := ⟨⟨by decide +kernel, by decide +kernel⟩, List.mem_of_getElem? (i := 144) (by decide +kernel), List.mem_of_getElem? (i := 554) (by decide +kernel), List.mem_of_getElem? (i := 555) (by decide +kernel)⟩
theorem lw_p8 : lw_okq (⟨"DifferenceFamilies$Exchanges", "tryFor", "(IJJJI)V"⟩, 5) := ⟨⟨by decide +kernel, by decide +kernel⟩, List.mem_of_getElem? (i := 144) (by decide +kernel), List.mem_of_getElem? (i := 560) (by decide +kernel), List.mem_of_getElem? (i := 561) (by decide +kernel)⟩
theorem lw_p9 : lw_okq (⟨"DifferenceFamilies$Likeness", "listSame", "([J[J)I"⟩, 5) := ⟨⟨by decide +kernel, by decide +kernel⟩, List.mem_of_getElem? (i := 169) (by decide +kernel), List.mem_of_getElem? (i := 645) (by decide +kernel), List.mem_of_getElem? (i := 646) (by decide +kernel)⟩
theorem lw_p10 : lw_okq (⟨"DifferenceFamilies$Likeness", "listImage", "([J[J)I"⟩, 5) := ⟨⟨by decide +kernel, by decide +kernel⟩, List.mem_of_getElem? (i := 169) (by decide +kernel), List.mem_of_getElem? (i := 649) (by decide +kernel), List.mem_of_getElem? (i := 650) (by decide +kernel)⟩
theorem lw_p11 : lw_okq (⟨"DifferenceFamilies$Likeness", "isOwnByFactor", "([JII)Z"⟩, 5) := ⟨⟨by decide +kernel, by decide +kernel⟩, List.mem_of_getElem? (i := 169) (by decide +kernel), List.mem_of_getElem? (i := 658) (by decide +kernel), List.mem_of_getElem? (i := 659) (by decide +kernel)⟩
theorem lw_p12 : lw_okq (⟨"DifferenceFamilies", "slotAt", "(I)LDifferenceFamilies$Slot;"⟩, 13) := ⟨⟨by decide +kernel, by decide +kernel⟩, List.mem_of_getElem? (i := 18) (by decide +kernel), List.mem_of_getElem? (i := 700) (by decide +kernel), List.mem_of_getElem? (i := 701) (by decide +kernel)⟩
theorem lw_p13 : lw_okq (⟨"DifferenceFamilies$Design", "addTranslates", "(J)V"⟩, 3) := ⟨⟨by decide +kernel, by decide +kernel⟩, List.mem_of_getElem? (i := 192) (by decide +kernel), List.mem_of_getElem? (i := 716) (by decide +kernel), List.mem_of_getElem? (i := 717) (by decide +kernel)⟩
theorem lw_p14 : lw_okq (⟨"DifferenceFamilies$Design", "isListedFrom", "(IJ)Z"⟩, 3) := ⟨⟨by decide +kernel, by decide +kernel⟩, List.mem_of_getElem? (i := 192) (by decide +kernel), List.mem_of_getElem? (i := 720) (by decide +kernel), List.mem_of_getElem? (i := 721) (by decide +kernel)⟩
theorem lw_p15 : lw_okq (⟨"DifferenceFamilies$Elimination", "joinsBasis", "(I)Z"⟩, 4) := ⟨⟨by decide +kernel, by decide +kernel⟩, List.mem_of_getElem? (i := 212) (by decide +kernel), List.mem_of_getElem? (i := 759) (by decide +kernel), List.mem_of_getElem? (i := 760) (by decide +kernel)⟩
def lw_privs_1 : List (MethodName × Nat) := [(⟨"DifferenceFamilies$Group", "findOrder", "(I)I"⟩, 12), (⟨"DifferenceFamilies$Group", "listAutomorphisms", "()V"⟩, 12), (⟨"DifferenceFamilies$Group", "listIfAutomorphism", "(II)V"⟩, 12), (⟨"DifferenceFamilies$Group", "fillMap", "(II[I)V"⟩, 12), (⟨"DifferenceFamilies", "isElement", "(I)Z"⟩, 13), (⟨"DifferenceFamilies", "isAutomorphism", "(I)Z"⟩, 13), (⟨"DifferenceFamilies$Likeness", "mapAll", "([J)I"⟩, 5), (⟨"DifferenceFamilies$Exchanges", "tryAll", "(IJJI)V"⟩, 5), (⟨"DifferenceFamilies$Exchanges", "tryFor", "(IJJJI)V"⟩, 5), (⟨"DifferenceFamilies$Likeness", "listSame", "([J[J)I"⟩, 5), (⟨"DifferenceFamilies$Likeness", "listImage", "([J[J)I"⟩, 5), (⟨"DifferenceFamilies$Likeness", "isOwnByFactor", "([JII)Z"⟩, 5), (⟨"DifferenceFamilies", "slotAt", "(I)LDifferenceFamilies$Slot;"⟩, 13), (⟨"DifferenceFamilies$Design", "addTranslates", "(J)V"⟩, 3), (⟨"DifferenceFamilies$Design", "isListedFrom", "(IJ)Z"⟩, 3), (⟨"DifferenceFamilies$Elimination", "joinsBasis", "(I)Z"⟩, 4)]
theorem lw_r1 : ∀ q ∈ lw_privs_1, lw_okq q := List.forall_mem_cons.mpr ⟨lw_p0, List.forall_mem_cons.mpr ⟨lw_p1, List.forall_mem_cons.mpr ⟨lw_p2, List.forall_mem_cons.mpr ⟨lw_p3, List.forall_mem_cons.mpr ⟨lw_p4, List.forall_mem_cons.mpr ⟨lw_p5, List.forall_mem_cons.mpr ⟨lw_p6, List.forall_mem_cons.mpr ⟨lw_p7, List.forall_mem_cons.mpr ⟨lw_p8, List.forall_mem_cons.mpr ⟨lw_p9, List.forall_mem_cons.mpr ⟨lw_p10, List.forall_mem_cons.mpr ⟨lw_p11, List.forall_mem_cons.mpr ⟨lw_p12, List.forall_mem_cons.mpr ⟨lw_p13, List.forall_mem_cons.mpr ⟨lw_p14, List.forall_mem_cons.mpr ⟨lw_p15, fun _ h => absurd h List.not_mem_nil⟩⟩⟩⟩⟩⟩⟩⟩⟩⟩⟩⟩⟩⟩⟩⟩
theorem lw_p16 : lw_okq (⟨"DifferenceFamilies$Elimination", "addToBasis", "(II)V"⟩, 4) := ⟨⟨by decide +kernel, by decide +kernel⟩, List.mem_of_getElem? (i := 212) (by decide +kernel), List.mem_of_getElem? (i := 763) (by decide +kernel), List.mem_of_getElem? (i := 764) (by decide +kernel)⟩
theorem lw_p17 : lw_okq (⟨"DifferenceFamilies$Elimination", "clearColumn", "(II)V"⟩, 4) := ⟨⟨by decide +kernel, by decide +kernel⟩, List.mem_of_getElem? (i := 212) (by decide +kernel), List.mem_of_getElem? (i := 773) (by decide +kernel), List.mem_of_getElem? (i := 774) (by decide +kernel)⟩
theorem lw_p18 : lw_okq (⟨"DifferenceFamilies$Finder", "possibleBits", "(I)I"⟩, 11) := ⟨⟨by decide +kernel, by decide +kernel⟩, List.mem_of_getElem? (i := 231) (by decide +kernel), List.mem_of_getElem? (i := 799) (by decide +kernel), List.mem_of_getElem? (i := 800) (by decide +kernel)⟩
theorem lw_p19 : lw_okq (⟨"DifferenceFamilies$Finder", "isCandidate", "(J)Z"⟩, 11) := ⟨⟨by decide +kernel, by decide +kernel⟩, List.mem_of_getElem? (i := 231) (by decide +kernel), List.mem_of_getElem? (i := 804) (by decide +kernel), List.mem_of_getElem? (i := 805) (by decide +kernel)⟩
theorem lw_p20 : lw_okq (⟨"DifferenceFamilies$Finder", "tryNext", "(II)I"⟩, 11) := ⟨⟨by decide +kernel, by decide +kernel⟩, List.mem_of_getElem? (i := 231) (by decide +kernel), List.mem_of_getElem? (i := 823) (by decide +kernel), List.mem_of_getElem? (i := 824) (by decide +kernel)⟩
theorem lw_p21 : lw_okq (⟨"DifferenceFamilies$Finder", "fits", "(IJ)Z"⟩, 11) := ⟨⟨by decide +kernel, by decide +kernel⟩, List.mem_of_getElem? (i := 231) (by decide +kernel), List.mem_of_getElem? (i := 827) (by decide +kernel), List.mem_of_getElem? (i := 828) (by decide +kernel)⟩
theorem lw_p22 : lw_okq (⟨"DifferenceFamilies$Finder", "isComplete", "(I)Z"⟩, 11) := ⟨⟨by decide +kernel, by decide +kernel⟩, List.mem_of_getElem? (i := 231) (by decide +kernel), List.mem_of_getElem? (i := 832) (by decide +kernel), List.mem_of_getElem? (i := 833) (by decide +kernel)⟩
theorem lw_p23 : lw_okq (⟨"DifferenceFamilies$Finder", "noteSolution", "(I)V"⟩, 11) := ⟨⟨by decide +kernel, by decide +kernel⟩, List.mem_of_getElem? (i := 231) (by decide +kernel), List.mem_of_getElem? (i := 836) (by decide +kernel), List.mem_of_getElem? (i := 837) (by decide +kernel)⟩
theorem lw_p24 : lw_okq (⟨"DifferenceFamilies", "filledBlocks", "()I"⟩, 13) := ⟨⟨by decide +kernel, by decide +kernel⟩, List.mem_of_getElem? (i := 18) (by decide +kernel), List.mem_of_getElem? (i := 854) (by decide +kernel), List.mem_of_getElem? (i := 855) (by decide +kernel)⟩
theorem lw_p25 : lw_okq (⟨"DifferenceFamilies$Text", "parseBlock", "()V"⟩, 7) := ⟨⟨by decide +kernel, by decide +kernel⟩, List.mem_of_getElem? (i := 275) (by decide +kernel), List.mem_of_getElem? (i := 875) (by decide +kernel), List.mem_of_getElem? (i := 876) (by decide +kernel)⟩
theorem lw_p26 : lw_okq (⟨"DifferenceFamilies$Text", "parseElement", "()I"⟩, 7) := ⟨⟨by decide +kernel, by decide +kernel⟩, List.mem_of_getElem? (i := 275) (by decide +kernel), List.mem_of_getElem? (i := 879) (by decide +kernel), List.mem_of_getElem? (i := 880) (by decide +kernel)⟩
theorem lw_p27 : lw_okq (⟨"DifferenceFamilies$Text", "parseNumber", "(I)I"⟩, 7) := ⟨⟨by decide +kernel, by decide +kernel⟩, List.mem_of_getElem? (i := 275) (by decide +kernel), List.mem_of_getElem? (i := 883) (by decide +kernel), List.mem_of_getElem? (i := 884) (by decide +kernel)⟩
theorem lw_p28 : lw_okq (⟨"DifferenceFamilies$Text", "isNextDigit", "()Z"⟩, 7) := ⟨⟨by decide +kernel, by decide +kernel⟩, List.mem_of_getElem? (i := 275) (by decide +kernel), List.mem_of_getElem? (i := 887) (by decide +kernel), List.mem_of_getElem? (i := 888) (by decide +kernel)⟩
theorem lw_p29 : lw_okq (⟨"DifferenceFamilies$Text", "isNext", "(C)Z"⟩, 7) := ⟨⟨by decide +kernel, by decide +kernel⟩, List.mem_of_getElem? (i := 275) (by decide +kernel), List.mem_of_getElem? (i := 891) (by decide +kernel), List.mem_of_getElem? (i := 892) (by decide +kernel)⟩
theorem lw_p30 : lw_okq (⟨"DifferenceFamiliesModel", "findAutomorphisms", "()V"⟩, 32) := ⟨⟨by decide +kernel, by decide +kernel⟩, List.mem_of_getElem? (i := 929) (by decide +kernel), List.mem_of_getElem? (i := 935) (by decide +kernel), List.mem_of_getElem? (i := 936) (by decide +kernel)⟩
theorem lw_p31 : lw_okq (⟨"DifferenceFamiliesModel", "isAutomorphism", "(II)Z"⟩, 32) := ⟨⟨by decide +kernel, by decide +kernel⟩, List.mem_of_getElem? (i := 929) (by decide +kernel), List.mem_of_getElem? (i := 939) (by decide +kernel), List.mem_of_getElem? (i := 940) (by decide +kernel)⟩
def lw_privs_2 : List (MethodName × Nat) := [(⟨"DifferenceFamilies$Elimination", "addToBasis", "(II)V"⟩, 4), (⟨"DifferenceFamilies$Elimination", "clearColumn", "(II)V"⟩, 4), (⟨"DifferenceFamilies$Finder", "possibleBits", "(I)I"⟩, 11), (⟨"DifferenceFamilies$Finder", "isCandidate", "(J)Z"⟩, 11), (⟨"DifferenceFamilies$Finder", "tryNext", "(II)I"⟩, 11), (⟨"DifferenceFamilies$Finder", "fits", "(IJ)Z"⟩, 11), (⟨"DifferenceFamilies$Finder", "isComplete", "(I)Z"⟩, 11), (⟨"DifferenceFamilies$Finder", "noteSolution", "(I)V"⟩, 11), (⟨"DifferenceFamilies", "filledBlocks", "()I"⟩, 13), (⟨"DifferenceFamilies$Text", "parseBlock", "()V"⟩, 7), (⟨"DifferenceFamilies$Text", "parseElement", "()I"⟩, 7), (⟨"DifferenceFamilies$Text", "parseNumber", "(I)I"⟩, 7), (⟨"DifferenceFamilies$Text", "isNextDigit", "()Z"⟩, 7), (⟨"DifferenceFamilies$Text", "isNext", "(C)Z"⟩, 7), (⟨"DifferenceFamiliesModel", "findAutomorphisms", "()V"⟩, 32), (⟨"DifferenceFamiliesModel", "isAutomorphism", "(II)Z"⟩, 32)]
theorem lw_r2 : ∀ q ∈ lw_privs_2, lw_okq q := List.forall_mem_cons.mpr ⟨lw_p16, List.forall_mem_cons.mpr ⟨lw_p17, List.forall_mem_cons.mpr ⟨lw_p18, List.forall_mem_cons.mpr ⟨lw_p19, List.forall_mem_cons.mpr ⟨lw_p20, List.forall_mem_cons.mpr ⟨lw_p21, List.forall_mem_cons.mpr ⟨lw_p22, List.forall_mem_cons.mpr ⟨lw_p23, List.forall_mem_cons.mpr ⟨lw_p24, List.forall_mem_cons.mpr ⟨lw_p25, List.forall_mem_cons.mpr ⟨lw_p26, List.forall_mem_cons.mpr ⟨lw_p27, List.forall_mem_cons.mpr ⟨lw_p28, List.forall_mem_cons.mpr ⟨lw_p29, List.forall_mem_cons.mpr ⟨lw_p30, List.forall_mem_cons.mpr ⟨lw_p31, fun _ h => absurd h List.not_mem_nil⟩⟩⟩⟩⟩⟩⟩⟩⟩⟩⟩⟩⟩⟩⟩⟩
theorem lw_p32 : lw_okq (⟨"DifferenceFamiliesModel", "times", "(II)I"⟩, 32) := ⟨⟨by decide +kernel, by decide +kernel⟩, List.mem_of_getElem? (i := 929) (by decide +kernel), List.mem_of_getElem? (i := 943) (by decide +kernel), List.mem_of_getElem? (i := 944) (by decide +kernel)⟩
theorem lw_p33 : lw_okq (⟨"DifferenceFamiliesModel", "maps", "(III)I"⟩, 32) := ⟨⟨by decide +kernel, by decide +kernel⟩, List.mem_of_getElem? (i := 929) (by decide +kernel), List.mem_of_getElem? (i := 947) (by decide +kernel), List.mem_of_getElem? (i := 948) (by decide +kernel)⟩
theorem lw_p34 : lw_okq (⟨"DifferenceFamiliesModel", "plus", "(II)I"⟩, 32) := ⟨⟨by decide +kernel, by decide +kernel⟩, List.mem_of_getElem? (i := 929) (by decide +kernel), List.mem_of_getElem? (i := 951) (by decide +kernel), List.mem_of_getElem? (i := 952) (by decide +kernel)⟩
theorem lw_p35 : lw_okq (⟨"DifferenceFamiliesModel", "isElement", "(I)Z"⟩, 32) := ⟨⟨by decide +kernel, by decide +kernel⟩, List.mem_of_getElem? (i := 929) (by decide +kernel), List.mem_of_getElem? (i := 1070) (by decide +kernel), List.mem_of_getElem? (i := 1071) (by decide +kernel)⟩
theorem lw_p36 : lw_okq (⟨"DifferenceFamiliesModel", "isNumber", "(I)Z"⟩, 32) := ⟨⟨by decide +kernel, by decide +kernel⟩, List.mem_of_getElem? (i := 929) (by decide +kernel), List.mem_of_getElem? (i := 1091) (by decide +kernel), List.mem_of_getElem? (i := 1092) (by decide +kernel)⟩
theorem lw_p37 : lw_okq (⟨"DifferenceFamiliesModel", "becomes", "(IJ)I"⟩, 32) := ⟨⟨by decide +kernel, by decide +kernel⟩, List.mem_of_getElem? (i := 929) (by decide +kernel), List.mem_of_getElem? (i := 1117) (by decide +kernel), List.mem_of_getElem? (i := 1118) (by decide +kernel)⟩
theorem lw_p38 : lw_okq (⟨"DifferenceFamiliesModel", "notes", "()V"⟩, 32) := ⟨⟨by decide +kernel, by decide +kernel⟩, List.mem_of_getElem? (i := 929) (by decide +kernel), List.mem_of_getElem? (i := 1121) (by decide +kernel), List.mem_of_getElem? (i := 1122) (by decide +kernel)⟩
theorem lw_p39 : lw_okq (⟨"DifferenceFamiliesModel", "translate", "(JI)J"⟩, 32) := ⟨⟨by decide +kernel, by decide +kernel⟩, List.mem_of_getElem? (i := 929) (by decide +kernel), List.mem_of_getElem? (i := 1133) (by decide +kernel), List.mem_of_getElem? (i := 1134) (by decide +kernel)⟩
theorem lw_p40 : lw_okq (⟨"DifferenceFamiliesModel", "imageOf", "(JII)J"⟩, 32) := ⟨⟨by decide +kernel, by decide +kernel⟩, List.mem_of_getElem? (i := 929) (by decide +kernel), List.mem_of_getElem? (i := 1141) (by decide +kernel), List.mem_of_getElem? (i := 1142) (by decide +kernel)⟩
theorem lw_p41 : lw_okq (⟨"DifferenceFamiliesModel", "timesOf", "(JI)J"⟩, 32) := ⟨⟨by decide +kernel, by decide +kernel⟩, List.mem_of_getElem? (i := 929) (by decide +kernel), List.mem_of_getElem? (i := 1152) (by decide +kernel), List.mem_of_getElem? (i := 1153) (by decide +kernel)⟩
theorem lw_p42 : lw_okq (⟨"DifferenceFamiliesModel", "lack", "(I)I"⟩, 32) := ⟨⟨by decide +kernel, by decide +kernel⟩, List.mem_of_getElem? (i := 929) (by decide +kernel), List.mem_of_getElem? (i := 1160) (by decide +kernel), List.mem_of_getElem? (i := 1161) (by decide +kernel)⟩
theorem lw_p43 : lw_okq (⟨"DifferenceFamiliesModel", "counts", "([JI)V"⟩, 32) := ⟨⟨by decide +kernel, by decide +kernel⟩, List.mem_of_getElem? (i := 929) (by decide +kernel), List.mem_of_getElem? (i := 1164) (by decide +kernel), List.mem_of_getElem? (i := 1165) (by decide +kernel)⟩
theorem lw_p44 : lw_okq (⟨"DifferenceFamiliesModel", "minus", "(II)I"⟩, 32) := ⟨⟨by decide +kernel, by decide +kernel⟩, List.mem_of_getElem? (i := 929) (by decide +kernel), List.mem_of_getElem? (i := 1168) (by decide +kernel), List.mem_of_getElem? (i := 1169) (by decide +kernel)⟩
theorem lw_p45 : lw_okq (⟨"DifferenceFamiliesModel", "normalOf", "(J)J"⟩, 32) := ⟨⟨by decide +kernel, by decide +kernel⟩, List.mem_of_getElem? (i := 929) (by decide +kernel), List.mem_of_getElem? (i := 1191) (by decide +kernel), List.mem_of_getElem? (i := 1192) (by decide +kernel)⟩
theorem lw_p46 : lw_okq (⟨"DifferenceFamiliesModel", "indexOfCounts", "()I"⟩, 32) := ⟨⟨by decide +kernel, by decide +kernel⟩, List.mem_of_getElem? (i := 929) (by decide +kernel), List.mem_of_getElem? (i := 1219) (by decide +kernel), List.mem_of_getElem? (i := 1220) (by decide +kernel)⟩
theorem lw_p47 : lw_okq (⟨"DifferenceFamiliesModel", "isMultiplierNow", "(I)Z"⟩, 32) := ⟨⟨by decide +kernel, by decide +kernel⟩, List.mem_of_getElem? (i := 929) (by decide +kernel), List.mem_of_getElem? (i := 1231) (by decide +kernel), List.mem_of_getElem? (i := 1232) (by decide +kernel)⟩
def lw_privs_3 : List (MethodName × Nat) := [(⟨"DifferenceFamiliesModel", "times", "(II)I"⟩, 32), (⟨"DifferenceFamiliesModel", "maps", "(III)I"⟩, 32), (⟨"DifferenceFamiliesModel", "plus", "(II)I"⟩, 32), (⟨"DifferenceFamiliesModel", "isElement", "(I)Z"⟩, 32), (⟨"DifferenceFamiliesModel", "isNumber", "(I)Z"⟩, 32), (⟨"DifferenceFamiliesModel", "becomes", "(IJ)I"⟩, 32), (⟨"DifferenceFamiliesModel", "notes", "()V"⟩, 32), (⟨"DifferenceFamiliesModel", "translate", "(JI)J"⟩, 32), (⟨"DifferenceFamiliesModel", "imageOf", "(JII)J"⟩, 32), (⟨"DifferenceFamiliesModel", "timesOf", "(JI)J"⟩, 32), (⟨"DifferenceFamiliesModel", "lack", "(I)I"⟩, 32), (⟨"DifferenceFamiliesModel", "counts", "([JI)V"⟩, 32), (⟨"DifferenceFamiliesModel", "minus", "(II)I"⟩, 32), (⟨"DifferenceFamiliesModel", "normalOf", "(J)J"⟩, 32), (⟨"DifferenceFamiliesModel", "indexOfCounts", "()I"⟩, 32), (⟨"DifferenceFamiliesModel", "isMultiplierNow", "(I)Z"⟩, 32)]
theorem lw_r3 : ∀ q ∈ lw_privs_3, lw_okq q := List.forall_mem_cons.mpr ⟨lw_p32, List.forall_mem_cons.mpr ⟨lw_p33, List.forall_mem_cons.mpr ⟨lw_p34, List.forall_mem_cons.mpr ⟨lw_p35, List.forall_mem_cons.mpr ⟨lw_p36, List.forall_mem_cons.mpr ⟨lw_p37, List.forall_mem_cons.mpr ⟨lw_p38, List.forall_mem_cons.mpr ⟨lw_p39, List.forall_mem_cons.mpr ⟨lw_p40, List.forall_mem_cons.mpr ⟨lw_p41, List.forall_mem_cons.mpr ⟨lw_p42, List.forall_mem_cons.mpr ⟨lw_p43, List.forall_mem_cons.mpr ⟨lw_p44, List.forall_mem_cons.mpr ⟨lw_p45, List.forall_mem_cons.mpr ⟨lw_p46, List.forall_mem_cons.mpr ⟨lw_p47, fun _ h => absurd h List.not_mem_nil⟩⟩⟩⟩⟩⟩⟩⟩⟩⟩⟩⟩⟩⟩⟩⟩
theorem lw_p48 : lw_okq (⟨"DifferenceFamiliesModel", "listsAsItIs", "()V"⟩, 32) := ⟨⟨by decide +kernel, by decide +kernel⟩, List.mem_of_getElem? (i := 929) (by decide +kernel), List.mem_of_getElem? (i := 1235) (by decide +kernel), List.mem_of_getElem? (i := 1236) (by decide +kernel)⟩
theorem lw_p49 : lw_okq (⟨"DifferenceFamiliesModel", "lists", "([JIII[J)V"⟩, 32) := ⟨⟨by decide +kernel, by decide +kernel⟩, List.mem_of_getElem? (i := 929) (by decide +kernel), List.mem_of_getElem? (i := 1239) (by decide +kernel), List.mem_of_getElem? (i := 1240) (by decide +kernel)⟩
theorem lw_p50 : lw_okq (⟨"DifferenceFamiliesModel", "compared", "([J[J)I"⟩, 32) := ⟨⟨by decide +kernel, by decide +kernel⟩, List.mem_of_getElem? (i := 929) (by decide +kernel), List.mem_of_getElem? (i := 1243) (by decide +kernel), List.mem_of_getElem? (i := 1244) (by decide +kernel)⟩
theorem lw_p51 : lw_okq (⟨"DifferenceFamiliesModel", "canonicalOf", "([JI[J)V"⟩, 32) := ⟨⟨by decide +kernel, by decide +kernel⟩, List.mem_of_getElem? (i := 929) (by decide +kernel), List.mem_of_getElem? (i := 1259) (by decide +kernel), List.mem_of_getElem? (i := 1260) (by decide +kernel)⟩
theorem lw_p52 : lw_okq (⟨"DifferenceFamiliesModel", "develops", "()V"⟩, 32) := ⟨⟨by decide +kernel, by decide +kernel⟩, List.mem_of_getElem? (i := 929) (by decide +kernel), List.mem_of_getElem? (i := 1271) (by decide +kernel), List.mem_of_getElem? (i := 1272) (by decide +kernel)⟩
theorem lw_p53 : lw_okq (⟨"DifferenceFamiliesModel", "rankOf", "(I)I"⟩, 32) := ⟨⟨by decide +kernel, by decide +kernel⟩, List.mem_of_getElem? (i := 929) (by decide +kernel), List.mem_of_getElem? (i := 1295) (by decide +kernel), List.mem_of_getElem? (i := 1296) (by decide +kernel)⟩
theorem lw_p54 : lw_okq (⟨"DifferenceFamiliesModel", "clears", "(III)V"⟩, 32) := ⟨⟨by decide +kernel, by decide +kernel⟩, List.mem_of_getElem? (i := 929) (by decide +kernel), List.mem_of_getElem? (i := 1299) (by decide +kernel), List.mem_of_getElem? (i := 1300) (by decide +kernel)⟩
theorem lw_p55 : lw_okq (⟨"DifferenceFamiliesModel", "findCandidates", "(II)V"⟩, 32) := ⟨⟨by decide +kernel, by decide +kernel⟩, List.mem_of_getElem? (i := 929) (by decide +kernel), List.mem_of_getElem? (i := 1317) (by decide +kernel), List.mem_of_getElem? (i := 1318) (by decide +kernel)⟩
theorem lw_p56 : lw_okq (⟨"DifferenceFamiliesModel", "searches", "(III)I"⟩, 32) := ⟨⟨by decide +kernel, by decide +kernel⟩, List.mem_of_getElem? (i := 929) (by decide +kernel), List.mem_of_getElem? (i := 1321) (by decide +kernel), List.mem_of_getElem? (i := 1322) (by decide +kernel)⟩
theorem lw_p57 : lw_okq (⟨"DifferenceFamiliesModel", "isPartial", "(II)Z"⟩, 32) := ⟨⟨by decide +kernel, by decide +kernel⟩, List.mem_of_getElem? (i := 929) (by decide +kernel), List.mem_of_getElem? (i := 1325) (by decide +kernel), List.mem_of_getElem? (i := 1326) (by decide +kernel)⟩
theorem lw_p58 : lw_okq (⟨"DifferenceFamiliesModel", "isText", "()Z"⟩, 32) := ⟨⟨by decide +kernel, by decide +kernel⟩, List.mem_of_getElem? (i := 929) (by decide +kernel), List.mem_of_getElem? (i := 1355) (by decide +kernel), List.mem_of_getElem? (i := 1356) (by decide +kernel)⟩
theorem lw_p59 : lw_okq (⟨"DifferenceFamiliesModel", "isNextBlock", "()Z"⟩, 32) := ⟨⟨by decide +kernel, by decide +kernel⟩, List.mem_of_getElem? (i := 929) (by decide +kernel), List.mem_of_getElem? (i := 1359) (by decide +kernel), List.mem_of_getElem? (i := 1360) (by decide +kernel)⟩
theorem lw_p60 : lw_okq (⟨"DifferenceFamiliesModel", "isNextElement", "()Z"⟩, 32) := ⟨⟨by decide +kernel, by decide +kernel⟩, List.mem_of_getElem? (i := 929) (by decide +kernel), List.mem_of_getElem? (i := 1363) (by decide +kernel), List.mem_of_getElem? (i := 1364) (by decide +kernel)⟩
theorem lw_p61 : lw_okq (⟨"DifferenceFamiliesModel", "number", "(I)I"⟩, 32) := ⟨⟨by decide +kernel, by decide +kernel⟩, List.mem_of_getElem? (i := 929) (by decide +kernel), List.mem_of_getElem? (i := 1367) (by decide +kernel), List.mem_of_getElem? (i := 1368) (by decide +kernel)⟩
theorem lw_p62 : lw_okq (⟨"DifferenceFamiliesModel", "isDigit", "()Z"⟩, 32) := ⟨⟨by decide +kernel, by decide +kernel⟩, List.mem_of_getElem? (i := 929) (by decide +kernel), List.mem_of_getElem? (i := 1371) (by decide +kernel), List.mem_of_getElem? (i := 1372) (by decide +kernel)⟩
theorem lw_p63 : lw_okq (⟨"DifferenceFamiliesModel", "here", "()I"⟩, 32) := ⟨⟨by decide +kernel, by decide +kernel⟩, List.mem_of_getElem? (i := 929) (by decide +kernel), List.mem_of_getElem? (i := 1375) (by decide +kernel), List.mem_of_getElem? (i := 1376) (by decide +kernel)⟩
def lw_privs_4 : List (MethodName × Nat) := [(⟨"DifferenceFamiliesModel", "listsAsItIs", "()V"⟩, 32), (⟨"DifferenceFamiliesModel", "lists", "([JIII[J)V"⟩, 32), (⟨"DifferenceFamiliesModel", "compared", "([J[J)I"⟩, 32), (⟨"DifferenceFamiliesModel", "canonicalOf", "([JI[J)V"⟩, 32), (⟨"DifferenceFamiliesModel", "develops", "()V"⟩, 32), (⟨"DifferenceFamiliesModel", "rankOf", "(I)I"⟩, 32), (⟨"DifferenceFamiliesModel", "clears", "(III)V"⟩, 32), (⟨"DifferenceFamiliesModel", "findCandidates", "(II)V"⟩, 32), (⟨"DifferenceFamiliesModel", "searches", "(III)I"⟩, 32), (⟨"DifferenceFamiliesModel", "isPartial", "(II)Z"⟩, 32), (⟨"DifferenceFamiliesModel", "isText", "()Z"⟩, 32), (⟨"DifferenceFamiliesModel", "isNextBlock", "()Z"⟩, 32), (⟨"DifferenceFamiliesModel", "isNextElement", "()Z"⟩, 32), (⟨"DifferenceFamiliesModel", "number", "(I)I"⟩, 32), (⟨"DifferenceFamiliesModel", "isDigit", "()Z"⟩, 32), (⟨"DifferenceFamiliesModel", "here", "()I"⟩, 32)]
theorem lw_r4 : ∀ q ∈ lw_privs_4, lw_okq q := List.forall_mem_cons.mpr ⟨lw_p48, List.forall_mem_cons.mpr ⟨lw_p49, List.forall_mem_cons.mpr ⟨lw_p50, List.forall_mem_cons.mpr ⟨lw_p51, List.forall_mem_cons.mpr ⟨lw_p52, List.forall_mem_cons.mpr ⟨lw_p53, List.forall_mem_cons.mpr ⟨lw_p54, List.forall_mem_cons.mpr ⟨lw_p55, List.forall_mem_cons.mpr ⟨lw_p56, List.forall_mem_cons.mpr ⟨lw_p57, List.forall_mem_cons.mpr ⟨lw_p58, List.forall_mem_cons.mpr ⟨lw_p59, List.forall_mem_cons.mpr ⟨lw_p60, List.forall_mem_cons.mpr ⟨lw_p61, List.forall_mem_cons.mpr ⟨lw_p62, List.forall_mem_cons.mpr ⟨lw_p63, fun _ h => absurd h List.not_mem_nil⟩⟩⟩⟩⟩⟩⟩⟩⟩⟩⟩⟩⟩⟩⟩⟩
theorem lw_p64 : lw_okq (⟨"DifferenceFamiliesModel", "used", "()I"⟩, 32) := ⟨⟨by decide +kernel, by decide +kernel⟩, List.mem_of_getElem? (i := 929) (by decide +kernel), List.mem_of_getElem? (i := 1389) (by decide +kernel), List.mem_of_getElem? (i := 1390) (by decide +kernel)⟩
def lw_privs_5 : List (MethodName × Nat) := [(⟨"DifferenceFamiliesModel", "used", "()I"⟩, 32)]
theorem lw_r5 : ∀ q ∈ lw_privs_5, lw_okq q := List.forall_mem_cons.mpr ⟨lw_p64, fun _ h => absurd h List.not_mem_nil⟩
def lw_privs : List (MethodName × Nat) := lw_privs_1 ++ (lw_privs_2 ++ (lw_privs_3 ++ (lw_privs_4 ++ (lw_privs_5))))
def lw_tbl : List Cond := k2_sels lw_privs ++ tables_1
theorem lw_privs_ok : ∀ q ∈ lw_privs, lw_okq q := by
  show ∀ q ∈ lw_privs_1 ++ (lw_privs_2 ++ (lw_privs_3 ++ (lw_privs_4 ++ (lw_privs_5)))), lw_okq q
  exact List.forall_mem_append.mpr ⟨lw_r1, List.forall_mem_append.mpr ⟨lw_r2, List.forall_mem_append.mpr ⟨lw_r3, List.forall_mem_append.mpr ⟨lw_r4, lw_r5⟩⟩⟩⟩
end
section
def nC0 : String := "DifferenceFamilies$Design"
def fT0 : u_T := fun k => List.getD [("DifferenceFamilies$Design", "group", "LDifferenceFamilies$Group;", true), ("DifferenceFamilies$Design", "sets", "[J", true), ("DifferenceFamilies$Design", "size", "I", false)] k ("", "", "", false)
def fY0 : Nat → FieldType := fun k => List.getD [FieldType.object "DifferenceFamilies$Group", FieldType.array .long, FieldType.int] k .int
def nC1 : String := "DifferenceFamilies$Differences"
def fT1 : u_T := fun k => List.getD [("DifferenceFamilies$Differences", "group", "LDifferenceFamilies$Group;", true), ("DifferenceFamilies$Differences", "counts", "[I", true)] k ("", "", "", false)
def fY1 : Nat → FieldType := fun k => List.getD [FieldType.object "DifferenceFamilies$Group", FieldType.array .int] k .int
def nC2 : String := "DifferenceFamilies$Elimination"
def fT2 : u_T := fun k => List.getD [("DifferenceFamilies$Elimination", "group", "LDifferenceFamilies$Group;", true), ("DifferenceFamilies$Elimination", "row", "[I", true), ("DifferenceFamilies$Elimination", "basis", "[I", true), ("DifferenceFamilies$Elimination", "leads", "J", false)] k ("", "", "", false)
def fY2 : Nat → FieldType := fun k => List.getD [FieldType.object "DifferenceFamilies$Group", FieldType.array .int, FieldType.array .int, FieldType.long] k .int
def nC3 : String := "DifferenceFamilies$Exchanges"
def fT3 : u_T := fun k => List.getD [("DifferenceFamilies$Exchanges", "group", "LDifferenceFamilies$Group;", true), ("DifferenceFamilies$Exchanges", "differences", "LDifferenceFamilies$Differences;", true), ("DifferenceFamilies$Exchanges", "bestBlock", "I", false), ("DifferenceFamilies$Exchanges", "bestSet", "J", false), ("DifferenceFamilies$Exchanges", "bestLack", "I", false)] k ("", "", "", false)
def fY3 : Nat → FieldType := fun k => List.getD [FieldType.object "DifferenceFamilies$Group", FieldType.object "DifferenceFamilies$Differences", FieldType.int, FieldType.long, FieldType.int] k .int
def nC4 : String := "DifferenceFamilies$Finder"
def fT4 : u_T := fun k => List.getD [("DifferenceFamilies$Finder", "group", "LDifferenceFamilies$Group;", true), ("DifferenceFamilies$Finder", "found", "[J", true), ("DifferenceFamilies$Finder", "map", "[I", true), ("DifferenceFamilies$Finder", "limits", "[I", true), ("DifferenceFamilies$Finder", "counts", "[I", true), ("DifferenceFamilies$Finder", "nextTry", "[I", true), ("DifferenceFamilies$Finder", "chosen", "[J", true), ("DifferenceFamilies$Finder", "firstSolution", "[J", true), ("DifferenceFamilies$Finder", "candidateCount", "I", false), ("DifferenceFamilies$Finder", "stepsMade", "I", false), ("DifferenceFamilies$Finder", "solutions", "I", false)] k ("", "", "", false)
def fY4 : Nat → FieldType := fun k => List.getD [FieldType.object "DifferenceFamilies$Group", FieldType.array .long, FieldType.array .int, FieldType.array .int, FieldType.array .int, FieldType.array .int, FieldType.array .long, FieldType.array .long, FieldType.int, FieldType.int, FieldType.int] k .int
def nC5 : String := "DifferenceFamilies$Group"
def fT5 : u_T := fun k => List.getD [("DifferenceFamilies$Group", "n", "I", false), ("DifferenceFamilies$Group", "m", "I", false), ("DifferenceFamilies$Group", "order", "I", false), ("DifferenceFamilies$Group", "everything", "J", false), ("DifferenceFamilies$Group", "lastSeconds", "J", false), ("DifferenceFamilies$Group", "automorphismCount", "I", false), ("DifferenceFamilies$Group", "first", "[I", true), ("DifferenceFamilies$Group", "second", "[I", true), ("DifferenceFamilies$Group", "orders", "[I", true), ("DifferenceFamilies$Group", "trial", "[I", true), ("DifferenceFamilies$Group", "imagesOfFirst", "[I", true), ("DifferenceFamilies$Group", "imagesOfSecond", "[I", true)] k ("", "", "", false)
def fY5 : Nat → FieldType := fun k => List.getD [FieldType.int, FieldType.int, FieldType.int, FieldType.long, FieldType.long, FieldType.int, FieldType.array .int, FieldType.array .int, FieldType.array .int, FieldType.array .int, FieldType.array .int, FieldType.array .int] k .int
def nC6 : String := "DifferenceFamilies$History"
def fT6 : u_T := fun k => List.getD [("DifferenceFamilies$History", "states", "[J", true), ("DifferenceFamilies$History", "size", "I", false)] k ("", "", "", false)
def fY6 : Nat → FieldType := fun k => List.getD [FieldType.array .long, FieldType.int] k .int
def nC7 : String := "DifferenceFamilies$Likeness"
def fT7 : u_T := fun k => List.getD [("DifferenceFamilies$Likeness", "group", "LDifferenceFamilies$Group;", true), ("DifferenceFamilies$Likeness", "map", "[I", true), ("DifferenceFamilies$Likeness", "own", "[J", true), ("DifferenceFamilies$Likeness", "other", "[J", true), ("DifferenceFamilies$Likeness", "least", "[J", true)] k ("", "", "", false)
def fY7 : Nat → FieldType := fun k => List.getD [FieldType.object "DifferenceFamilies$Group", FieldType.array .int, FieldType.array .long, FieldType.array .long, FieldType.array .long] k .int
def nC8 : String := "DifferenceFamilies$Slot"
def fT8 : u_T := fun k => List.getD [("DifferenceFamilies$Slot", "kept", "[J", true), ("DifferenceFamilies$Slot", "keptHole", "J", false), ("DifferenceFamilies$Slot", "filled", "Z", false)] k ("", "", "", false)
def fY8 : Nat → FieldType := fun k => List.getD [FieldType.array .long, FieldType.long, FieldType.boolean] k .int
def nC9 : String := "DifferenceFamilies$Text"
def fT9 : u_T := fun k => List.getD [("DifferenceFamilies$Text", "group", "LDifferenceFamilies$Group;", true), ("DifferenceFamilies$Text", "characters", "[C", true), ("DifferenceFamilies$Text", "sets", "[J", true), ("DifferenceFamilies$Text", "length", "I", false), ("DifferenceFamilies$Text", "setCount", "I", false), ("DifferenceFamilies$Text", "position", "I", false), ("DifferenceFamilies$Text", "fault", "I", false)] k ("", "", "", false)
def fY9 : Nat → FieldType := fun k => List.getD [FieldType.object "DifferenceFamilies$Group", FieldType.array .char, FieldType.array .long, FieldType.int, FieldType.int, FieldType.int, FieldType.int] k .int
def nC10 : String := "DifferenceFamilies"
def fT10 : u_T := fun k => List.getD [("DifferenceFamilies", "group", "LDifferenceFamilies$Group;", true), ("DifferenceFamilies", "blocks", "[J", true), ("DifferenceFamilies", "history", "LDifferenceFamilies$History;", true), ("DifferenceFamilies", "differences", "LDifferenceFamilies$Differences;", true), ("DifferenceFamilies", "exchanges", "LDifferenceFamilies$Exchanges;", true), ("DifferenceFamilies", "likeness", "LDifferenceFamilies$Likeness;", true), ("DifferenceFamilies", "design", "LDifferenceFamilies$Design;", true), ("DifferenceFamilies", "elimination", "LDifferenceFamilies$Elimination;", true), ("DifferenceFamilies", "finder", "LDifferenceFamilies$Finder;", true), ("DifferenceFamilies", "text", "LDifferenceFamilies$Text;", true), ("DifferenceFamilies", "firstSlot", "LDifferenceFamilies$Slot;", true), ("DifferenceFamilies", "secondSlot", "LDifferenceFamilies$Slot;", true), ("DifferenceFamilies", "hole", "J", false)] k ("", "", "", false)
def fY10 : Nat → FieldType := fun k => List.getD [FieldType.object "DifferenceFamilies$Group", FieldType.array .long, FieldType.object "DifferenceFamilies$History", FieldType.object "DifferenceFamilies$Differences", FieldType.object "DifferenceFamilies$Exchanges", FieldType.object "DifferenceFamilies$Likeness", FieldType.object "DifferenceFamilies$Design", FieldType.object "DifferenceFamilies$Elimination", FieldType.object "DifferenceFamilies$Finder", FieldType.object "DifferenceFamilies$Text", FieldType.object "DifferenceFamilies$Slot", FieldType.object "DifferenceFamilies$Slot", FieldType.long] k .int
def nC11 : String := "DifferenceFamiliesModel"
def fT11 : u_T := fun k => List.getD [("DifferenceFamiliesModel", "n", "I", false), ("DifferenceFamiliesModel", "m", "I", false), ("DifferenceFamiliesModel", "v", "I", false), ("DifferenceFamiliesModel", "hole", "J", false), ("DifferenceFamiliesModel", "blocks", "[J", true), ("DifferenceFamiliesModel", "past", "[J", true), ("DifferenceFamiliesModel", "pasts", "I", false), ("DifferenceFamiliesModel", "kept", "[J", true), ("DifferenceFamiliesModel", "isKept", "[Z", true), ("DifferenceFamiliesModel", "text", "[I", true), ("DifferenceFamiliesModel", "length", "I", false), ("DifferenceFamiliesModel", "many", "I", false), ("DifferenceFamiliesModel", "first", "[I", true), ("DifferenceFamiliesModel", "second", "[I", true), ("DifferenceFamiliesModel", "steps", "I", false), ("DifferenceFamiliesModel", "candidates", "I", false), ("DifferenceFamiliesModel", "solution", "I", false), ("DifferenceFamiliesModel", "found", "[J", true), ("DifferenceFamiliesModel", "counts", "[I", true), ("DifferenceFamiliesModel", "listed", "I", false), ("DifferenceFamiliesModel", "list", "[J", true), ("DifferenceFamiliesModel", "other", "[J", true), ("DifferenceFamiliesModel", "best", "[J", true), ("DifferenceFamiliesModel", "designs", "I", false), ("DifferenceFamiliesModel", "design", "[J", true), ("DifferenceFamiliesModel", "matrix", "[I", true), ("DifferenceFamiliesModel", "candidate", "[J", true), ("DifferenceFamiliesModel", "tried", "[J", true), ("DifferenceFamiliesModel", "next", "[I", true), ("DifferenceFamiliesModel", "told", "I", false), ("DifferenceFamiliesModel", "toldBlocks", "[J", true), ("DifferenceFamiliesModel", "place", "I", false)] k ("", "", "", false)
def fY11 : Nat → FieldType := fun k => List.getD [FieldType.int, FieldType.int, FieldType.int, FieldType.long, FieldType.array .long, FieldType.array .long, FieldType.int, FieldType.array .long, FieldType.array .boolean, FieldType.array .int, FieldType.int, FieldType.int, FieldType.array .int, FieldType.array .int, FieldType.int, FieldType.int, FieldType.int, FieldType.array .long, FieldType.array .int, FieldType.int, FieldType.array .long, FieldType.array .long, FieldType.array .long, FieldType.int, FieldType.array .long, FieldType.array .int, FieldType.array .long, FieldType.array .long, FieldType.array .int, FieldType.int, FieldType.array .long, FieldType.int] k .int
def cls_ : List vw_C := [(nC0, fT0, 3), (nC1, fT1, 2), (nC2, fT2, 4), (nC3, fT3, 5), (nC4, fT4, 11), (nC5, fT5, 12), (nC6, fT6, 2), (nC7, fT7, 5), (nC8, fT8, 3), (nC9, fT9, 7), (nC10, fT10, 13), (nC11, fT11, 32)]
/-- how many fields a kind of object has -/
def nfl (c : Nat) : Nat := List.getD [3, 2, 4, 5, 11, 12, 2, 5, 3, 7, 13, 32] c 0
/-- what a field holds: 0 an int, 1 a long, 2 a reference -/
def ftl (c k : Nat) : Nat := List.getD (List.getD [[2, 2, 0], [2, 2], [2, 2, 2, 1], [2, 2, 0, 1, 0], [2, 2, 2, 2, 2, 2, 2, 2, 0, 0, 0], [0, 0, 0, 1, 1, 0, 2, 2, 2, 2, 2, 2], [2, 0], [2, 2, 2, 2, 2], [2, 1, 0], [2, 2, 2, 0, 0, 0, 0], [2, 2, 2, 2, 2, 2, 2, 2, 2, 2, 2, 2, 1], [0, 0, 0, 1, 2, 2, 0, 2, 2, 2, 0, 0, 2, 2, 0, 0, 0, 2, 2, 0, 2, 2, 2, 0, 2, 2, 2, 2, 2, 0, 2, 0]] c []) k 0
/-- what stands at a place: an array (kind, length) or an object (its kind) -/
def kd (p : Nat) : (Nat × Nat) ⊕ Nat := List.getD [.inr 10, .inr 5, .inl (0, 40), .inl (0, 40), .inl (0, 40), .inl (0, 40), .inl (0, 480), .inl (0, 480), .inr 1, .inl (0, 40), .inl (1, 6), .inr 6, .inl (1, 30), .inr 3, .inr 7, .inl (0, 40), .inl (1, 6), .inl (1, 6), .inl (1, 6), .inr 0, .inl (1, 240), .inr 2, .inl (0, 40), .inl (0, 1600), .inr 4, .inl (1, 2130), .inl (0, 40), .inl (0, 40), .inl (0, 200), .inl (0, 4), .inl (1, 4), .inl (1, 6), .inr 9, .inl (2, 160), .inl (1, 6), .inr 8, .inl (1, 6), .inr 8, .inl (1, 6), .inr 11, .inl (1, 6), .inl (1, 30), .inl (1, 14), .inl (3, 2), .inl (0, 160), .inl (0, 500), .inl (0, 500), .inl (1, 4), .inl (0, 40), .inl (1, 6), .inl (1, 6), .inl (1, 6), .inl (1, 240), .inl (0, 9600), .inl (1, 3000), .inl (1, 4), .inl (0, 5), .inl (1, 6)] p (.inr 99)
/-- the references between the cells, once all are made -/
def rfl_ (p k : Nat) : Option Nat := List.getD (List.getD ([[some 1, some 10, some 11, some 8, some 13, some 14, some 19, some 21, some 24, some 32, some 35, some 37, none], [none, none, none, none, none, none, some 2, some 3, some 4, some 5, some 6, some 7], [], [], [], [], [], [], [some 1, some 9], [], [], [some 12, none], [], [some 1, some 8, none, none, none], [some 1, some 15, some 16, some 17, some 18], [], [], [], [], [some 1, some 20, none], [], [some 1, some 22, some 23, none], [], [], [some 1, some 25, some 26, some 27, some 28, some 29, some 30, some 31, none, none, none], [], [], [], [], [], [], [], [some 1, some 33, some 34, none, none, none, none], [], [], [some 36, none, none], [], [some 38, none, none], [], [none, none, none, none, some 40, some 41, none, some 42, some 43, some 44, none, none, some 45, some 46, none, none, none, some 47, some 48, none, some 49, some 50, some 51, none, some 52, some 53, some 54, some 55, some 56, none, some 57, none], [], [], [], [], [], [], [], [], [], [], [], [], [], [], [], [], [], []] : List (List (Option Nat))) p []) k none
/-- the references by stage: at stage 0 the first object has none yet -/
def Rf (f : Nat) : Nat → Nat → Option Nat := fun p k => match p with
  | 0 => if f = 0 then none else rfl_ 0 k
  | p + 1 => rfl_ (p + 1) k
/-- how many cells there are by stage -/
def Nf (f : Nat) : Nat := if f = 0 then 8 else 58
theorem Nf_8 {f p : Nat} (h : p < 8) : p < Nf f := by unfold Nf; split <;> omega
theorem Nf_58 {p : Nat} (h : p < 58) : p < Nf 1 := h
end
section

abbrev RefT : Type := Nat → Nat → Option Nat
abbrev Wd : Type := (Nat → Nat → Int32) × (Nat → Nat → Int64)
abbrev MI : Type := MethodName × ByteArray × Nat × Option FieldType × Room
/-- a value of mine: a reference is a place; at base b the place p has the address b + p -/
def cvB (b : Nat) : Value → Value
  | .ref p => .ref (b + p)
  | v => v
def cLB (b : Nat) (L : List (Nat × Value)) : List (Nat × Value) := L.map (fun q => (q.1, cvB b q.2))
def aty : Nat → FieldType := fun t => List.getD [FieldType.int, FieldType.long, FieldType.char, FieldType.boolean] t .int
def tysB (cA : Nat → ClassId) : List (ClassId × FieldType) := [(cA 0, .int), (cA 1, .long), (cA 2, .char), (cA 3, .boolean)]
def fvB (b : Nat) (R : RefT) (w : Wd) (p t k : Nat) : Value := if t = 0 then .int (w.1 p k) else if t = 1 then .long (w.2 p k) else match R p k with
  | some q => .ref (b + q)
  | none => .null
def arB (w : Wd) (p t n : Nat) : vp_A := (n, if t = 1 then .inr (.inl (w.2 p)) else .inl (w.1 p))
def fsB (b : Nat) (R : RefT) (w : Wd) (p ci : Nat) : List Value := (List.range (nfl ci)).map (fun k => fvB b R w p (ftl ci k) k)
def celB (cA : Nat → ClassId) (b : Nat) (R : RefT) (w : Wd) (p : Nat) : va_E := match kd p with
  | .inl q => .inl (cA q.1, arB w p q.1 q.2)
  | .inr ci => .inr (ci, fsB b R w p ci)
def wsB (cA : Nat → ClassId) (b N : Nat) (R : RefT) (w : Wd) : va_W := (List.range N).map (fun p => (b + p, celB cA b R w p))
def isArr : Cond → Bool
  | .arrayClass _ => true
  | _ => false
def okW (w : Cond) : Bool := (w.onTables && w.keepsH) || isArr w
def TB (U : State) : Prop := ∀ w ∈ lw_tbl, okW w = true → ∀ args : Array Value, w.before args U = true
theorem tb_use {U : State} {args : Array Value} {w : Cond} (h : TB U) (hw : w ∈ lw_tbl) (ho : okW w = true) : w.before args U = true := h w hw ho args
theorem isArr_of {w : Cond} (h : isArr w = true) : ∃ ty, w = .arrayClass ty := by
  cases w <;> first | exact ⟨_, rfl⟩ | exact absurd h (by simp [isArr])
theorem arr_vm {ty : FieldType} {A A' : Array Value} {s U : State} (hv : s.vm = U.vm) (h : (Cond.arrayClass ty).before A s = true) : (Cond.arrayClass ty).before A' U = true := by
  simp only [Cond.before, Cond.holds, Cond.value] at h ⊢
  rw [← hv]
  exact h
theorem tb_of {U : State} {A : Array Value} (h : ∀ w ∈ lw_tbl, w.before A U = true) : TB U := by
  intro w hw ho args
  unfold okW at ho
  rw [Bool.or_eq_true, Bool.and_eq_true] at ho
  rcases ho with ho | ho
  · exact va_tabs ho.1 rfl (h w hw)
  · obtain ⟨ty, rfl⟩ := isArr_of ho
    exact arr_vm rfl (h _ hw)
theorem tb_warm {s U : State} (hW : s.WarmedH U.vm) (h : TB s) : TB U := by
  intro w hw ho args
  have h0 := h w hw ho #[]
  unfold okW at ho
  rw [Bool.or_eq_true, Bool.and_eq_true] at ho
  rcases ho with ho | ho
  · have h1 := Cond.onTables_warmH (T := U) (args' := args) hW ho.1 ho.2 h0
    rwa [State.setVm_self] at h1
  · obtain ⟨ty, rfl⟩ := isArr_of ho
    exact word_at hW (Or.inr ⟨_, rfl⟩) h0
theorem tb_same {s U : State} (hv : s.vm = U.vm) (h : TB s) : TB U := by
  intro w hw ho args
  have h0 := h w hw ho #[]
  unfold okW at ho
  rw [Bool.or_eq_true, Bool.and_eq_true] at ho
  rcases ho with ho | ho
  · exact va_tabs ho.1 hv h0
  · obtain ⟨ty, rfl⟩ := isArr_of ho
    exact arr_vm hv h0
def HL (D : va_G) (cA : Nat → ClassId) (b N : Nat) (R : RefT) (w : Wd) (U : State) : Prop := U.heap.size = b + N ∧ va_P D cls_ (wsB cA b N R w) U.heap ∧ va_K D cls_ (tysB cA) U ∧ TB U
abbrev QT : Type := Option Value → Nat → RefT → Wd → Prop
def QF (M : MI) (b : Nat) (D : va_G) (cA : Nat → ClassId) (Q : QT) : Array Value → State → Outcome → State → Prop := fun _ st oc t =>
  (∃ (r : Option Value) (N : Nat) (R : RefT) (w : Wd), oc = .returned (r.map (cvB b)) ∧ Q r N R w ∧ HL D cA b N R w t) ∧ t.heap.size = st.heap.size + M.2.2.2.2.cells ∧ va_F (fun q => b ≤ q) st t
def FrC (M : MI) (D : va_G) (cA : Nat → ClassId) (b N k : Nat) (p : Program) (s : State) (m : MethodId) (meth : Method) (c : Code) : Prop :=
  p.tables.exec = Jvm.exec ∧ c.code = M.2.1 ∧ c.maxLocals = M.2.2.1 ∧ s.vm.findClass M.1.cls = some m.cls ∧ meth.locks = false ∧ meth.sig.returnType = M.2.2.2.1 ∧ meth.name = M.1.name ∧ TB s ∧ va_K D cls_ (tysB cA) s ∧ b ≤ s.heap.size ∧ s.heap.size + k = b + N
/-- from pc, with these values and this world, the method comes to an end with Q -/
def Ex (M : MI) (pc : Nat) (L : List (Nat × Value)) (st : List Value) (N : Nat) (R : RefT) (w : Wd) (k n : Nat) (Q : QT) : Prop :=
  ∀ (p : Program) (l : Launch) (e : Env) (s : State) (m : MethodId) (args : Array Value) (below : List Frame) (meth : Method) (c : Code) (D : va_G) (cA : Nat → ClassId) (b : Nat) (H : Heap) (locs : List Loc) (ls : Array Slot),
    FrC M D cA b N k p s m meth c → va_P D cls_ (wsB cA b N R w) H → va_S (fun q => b ≤ q) s.heap H locs → lv_has ls M.2.2.1 (cLB b L) →
    W p l e M.2.2.2.2 s m args below meth c H locs k n (MQ below (QF M b D cA Q) args s M.2.2.2.2.cells M.2.2.2.2.slots (fun q => b ≤ q)) (F0 m pc ls (st.map (cvB b)))
/-- a method's contract -/
def Runs (M : MI) (as : List Value) (N : Nat) (R : RefT) (w : Wd) (Q : QT) : Prop :=
  ∀ (l : Launch) (D : va_G) (cA : Nat → ClassId) (b : Nat), Met l M.1 [.code M.1 M.2.1 M.2.2.1 M.2.2.2.1] M.2.2.2.2 (va_Pc (as.map (cvB b)) (HL D cA b N R w)) (QF M b D cA Q) M.2.2.2.2.cells M.2.2.2.2.slots (fun q => b ≤ q)
theorem wsB_at {cA : Nat → ClassId} {b N : Nat} {R : RefT} {w : Wd} {q : Nat} (h : q < N) : (wsB cA b N R w)[q]? = some (b + q, celB cA b R w q) := by
  simp [wsB, h]
theorem wsB_inv {cA : Nat → ClassId} {b N : Nat} {R : RefT} {w : Wd} {k : Nat} {x : Nat × va_E} (h : (wsB cA b N R w)[k]? = some x) : k < N ∧ x = (b + k, celB cA b R w k) := by
  have hk : k < N := by
    have := (List.getElem?_eq_some_iff.mp h).1
    simpa [wsB] using this
  rw [wsB_at hk] at h
  exact ⟨hk, (Option.some.inj h).symm⟩
theorem wsB_D {cA : Nat → ClassId} {b N : Nat} {R : RefT} {w : Wd} : va_D (fun q => b ≤ q) (wsB cA b N R w) := by
  refine ⟨fun i j x y hi hj hxy => ?_, fun k q hk => ?_⟩
  · obtain ⟨-, rfl⟩ := wsB_inv hi
    obtain ⟨-, rfl⟩ := wsB_inv hj
    simp at hxy
    exact hxy
  · obtain ⟨-, rfl⟩ := wsB_inv hk
    simp
theorem wsB_set {D : va_G} {cA : Nat → ClassId} {b N : Nat} {R R' : RefT} {w w' : Wd} {q : Nat} {e : va_E} {H : Heap} (hq : q < N) (hP : va_P D cls_ ((wsB cA b N R w).set q (b + q, e)) H) (he : celB cA b R' w' q = e) (ho : ∀ p, p ≠ q → celB cA b R' w' p = celB cA b R w p) : va_P D cls_ (wsB cA b N R' w') H := by
  intro k x hx
  obtain ⟨hk, rfl⟩ := wsB_inv hx
  by_cases hkq : k = q
  · subst hkq
    refine hP k _ ?_
    rw [List.getElem?_set_self (by simpa [wsB] using hk), he]
  · refine hP k _ ?_
    rw [List.getElem?_set_ne (Ne.symm hkq), wsB_at hk, ho k hkq]
theorem celB_a {cA : Nat → ClassId} {b : Nat} {R : RefT} {w : Wd} {q t n : Nat} (h : kd q = .inl (t, n)) : celB cA b R w q = .inl (cA t, arB w q t n) := by
  simp [celB, h]
theorem celB_o {cA : Nat → ClassId} {b : Nat} {R : RefT} {w : Wd} {q ci : Nat} (h : kd q = .inr ci) : celB cA b R w q = .inr (ci, fsB b R w q ci) := by
  simp [celB, h]
def upI (w : Wd) (q j : Nat) (x : Int32) : Wd := (fun p k => if p = q ∧ k = j then x else w.1 p k, w.2)
def upL (w : Wd) (q j : Nat) (x : Int64) : Wd := (w.1, fun p k => if p = q ∧ k = j then x else w.2 p k)
def upR (R : RefT) (q j : Nat) (x : Nat) : RefT := fun p k => if p = q ∧ k = j then some x else R p k
theorem celB_upI {cA : Nat → ClassId} {b : Nat} {R : RefT} {w : Wd} {q j p : Nat} {x : Int32} (h : p ≠ q) : celB cA b R (upI w q j x) p = celB cA b R w p := by
  simp [celB, arB, fsB, fvB, upI, h]
theorem celB_upL {cA : Nat → ClassId} {b : Nat} {R : RefT} {w : Wd} {q j p : Nat} {x : Int64} (h : p ≠ q) : celB cA b R (upL w q j x) p = celB cA b R w p := by
  simp [celB, arB, fsB, fvB, upL, h]
theorem celB_upR {cA : Nat → ClassId} {b : Nat} {R : RefT} {w : Wd} {q j p : Nat} {x : Nat} (h : p ≠ q) : celB cA b (upR R q j x) w p = celB cA b R w p := by
  simp [celB, arB, fsB, fvB, upR, h]
theorem fsB_at {b : Nat} {R : RefT} {w : Wd} {p ci k : Nat} (h : k < nfl ci) : (fsB b R w p ci)[k]? = some (fvB b R w p (ftl ci k) k) := by
  simp [fsB, h]
theorem fsB_len {b : Nat} {R : RefT} {w : Wd} {p ci : Nat} : (fsB b R w p ci).length = nfl ci := by simp [fsB]
theorem fsB_set {b : Nat} {R R' : RefT} {w w' : Wd} {p ci k : Nat} {v : Value} (hv : fvB b R' w' p (ftl ci k) k = v) (ho : ∀ j, j ≠ k → fvB b R' w' p (ftl ci j) j = fvB b R w p (ftl ci j) j) : fsB b R' w' p ci = (fsB b R w p ci).set k v := by
  apply List.ext_getElem?
  intro j
  by_cases hj : j < nfl ci
  · rw [fsB_at hj]
    by_cases hjk : j = k
    · subst hjk
      rw [List.getElem?_set_self (by rw [fsB_len]; exact hj), hv]
    · rw [List.getElem?_set_ne (Ne.symm hjk), fsB_at hj, ho j hjk]
  · rw [List.getElem?_eq_none (by rw [fsB_len]; omega), List.getElem?_eq_none (by rw [List.length_set, fsB_len]; omega)]
theorem cLB_at {b : Nat} {L : List (Nat × Value)} {j i : Nat} {v : Value} (h : L[j]? = some (i, v)) : (cLB b L)[j]? = some (i, cvB b v) := by
  simp [cLB, h]
theorem cvB_cat (b : Nat) (v : Value) : (cvB b v).category = v.category := by cases v <;> rfl
def stL (i : Nat) (v : Value) (L : List (Nat × Value)) : List (Nat × Value) := (i, v) :: L.filter (fun q => !(q.1 == i) && !(q.1 + 1 == i && q.2.category == 2))
def stL2 (i : Nat) (v : Value) (L : List (Nat × Value)) : List (Nat × Value) := (i, v) :: L.filter (fun q => !(q.1 == i) && (!(q.1 == i + 1) && !(q.1 + 1 == i && q.2.category == 2)))
theorem cLB_f {b : Nat} {g : Nat × Value → Bool} (hg : ∀ q, g (q.1, cvB b q.2) = g q) (L : List (Nat × Value)) : cLB b (L.filter g) = (cLB b L).filter g := by
  simp only [cLB, List.filter_map]
  congr 1
  apply List.filter_congr
  intro q _
  exact (hg q).symm
theorem cLB_st {b i : Nat} {v : Value} {L : List (Nat × Value)} : cLB b (stL i v L) = (i, cvB b v) :: (cLB b L).filter (fun q => !(q.1 == i) && !(q.1 + 1 == i && q.2.category == 2)) := by
  show (i, cvB b v) :: cLB b (L.filter _) = _
  rw [cLB_f (fun q => by simp [cvB_cat])]
theorem cLB_st2 {b i : Nat} {v : Value} {L : List (Nat × Value)} : cLB b (stL2 i v L) = (i, cvB b v) :: (cLB b L).filter (fun q => !(q.1 == i) && (!(q.1 == i + 1) && !(q.1 + 1 == i && q.2.category == 2))) := by
  show (i, cvB b v) :: cLB b (L.filter _) = _
  rw [cLB_f (fun q => by simp [cvB_cat])]
theorem lvB_pick {b nL : Nat} {ls : Array Slot} {X L' : List (Nat × Value)} (ks : List Nat) (hp : lv_pick X ks = L') (h : lv_has ls nL (cLB b X)) : lv_has ls nL (cLB b L') := by
  refine ⟨h.1, h.2.1, fun q hq => h.2.2 q ?_⟩
  simp only [cLB, List.mem_map] at hq ⊢
  obtain ⟨a, ha, rfl⟩ := hq
  rw [← hp] at ha
  obtain ⟨j, -, hj⟩ := List.mem_filterMap.mp ha
  exact ⟨a, List.mem_of_getElem? hj, rfl⟩
section XR
variable {M : MI} {pc : Nat} {L L' : List (Nat × Value)} {st : List Value} {N : Nat} {R : RefT} {w : Wd} {k n : Nat} {Q : QT}
theorem x_iconst {i : Int} {v : Int32} (hd : decode M.2.1 pc = .ok (.iconst i, 1)) (hv : Int32.ofInt i = v) (h : Ex M (pc + 1) L (.int v :: st) N R w k n Q) : Ex M pc L (st) N R w k n Q := fun p l e s m args below meth c D cA b H locs ls F hP hS hl => lv_iconst F.1 F.2.1 hd hv (h p l e s m args below meth c D cA b H locs ls F hP hS hl)
theorem x_bipush {i : Int} {v : Int32} (hd : decode M.2.1 pc = .ok (.bipush i, 2)) (hv : (Int8.ofInt i).toInt32 = v) (h : Ex M (pc + 2) L (.int v :: st) N R w k n Q) : Ex M pc L (st) N R w k n Q := fun p l e s m args below meth c D cA b H locs ls F hP hS hl => lv_bipush F.1 F.2.1 hd hv (h p l e s m args below meth c D cA b H locs ls F hP hS hl)
theorem x_sipush {i : Int} {v : Int32} (hd : decode M.2.1 pc = .ok (.sipush i, 3)) (hv : (Int16.ofInt i).toInt32 = v) (h : Ex M (pc + 3) L (.int v :: st) N R w k n Q) : Ex M pc L (st) N R w k n Q := fun p l e s m args below meth c D cA b H locs ls F hP hS hl => lv_sipush F.1 F.2.1 hd hv (h p l e s m args below meth c D cA b H locs ls F hP hS hl)
theorem x_lconst {i : Fin 2} {v : Int64} (hd : decode M.2.1 pc = .ok (.lconst i, 1)) (hv : Int64.ofNat (i : Nat) = v) (h : Ex M (pc + 1) L (.long v :: st) N R w k n Q) : Ex M pc L (st) N R w k n Q := fun p l e s m args below meth c D cA b H locs ls F hP hS hl => lv_lconst F.1 F.2.1 hd hv (h p l e s m args below meth c D cA b H locs ls F hP hS hl)
theorem x_iload_n {i : Fin 4} {x : Int32} (j : Nat) (hd : decode M.2.1 pc = .ok (.iload_n i, 1)) (hj : L[j]? = some ((i : Nat), .int x)) (h : Ex M (pc + 1) L (.int x :: st) N R w k n Q) : Ex M pc L (st) N R w k n Q := fun p l e s m args below meth c D cA b H locs ls F hP hS hl => lv_iload_n F.1 F.2.1 hd rfl (lv_at hl j (cLB_at hj)) (h p l e s m args below meth c D cA b H locs ls F hP hS hl)
theorem x_iload {i : Nat} {x : Int32} (j : Nat) (hd : decode M.2.1 pc = .ok (.iload i, 2)) (hj : L[j]? = some (i, .int x)) (h : Ex M (pc + 2) L (.int x :: st) N R w k n Q) : Ex M pc L (st) N R w k n Q := fun p l e s m args below meth c D cA b H locs ls F hP hS hl => lv_iload F.1 F.2.1 hd (lv_at hl j (cLB_at hj)) (h p l e s m args below meth c D cA b H locs ls F hP hS hl)
theorem x_lload_n {i : Fin 4} {x : Int64} (j : Nat) (hd : decode M.2.1 pc = .ok (.lload_n i, 1)) (hj : L[j]? = some ((i : Nat), .long x)) (h : Ex M (pc + 1) L (.long x :: st) N R w k n Q) : Ex M pc L (st) N R w k n Q := fun p l e s m args below meth c D cA b H locs ls F hP hS hl => lv_lload_n F.1 F.2.1 hd rfl (lv_at hl j (cLB_at hj)) (h p l e s m args below meth c D cA b H locs ls F hP hS hl)
theorem x_lload {i : Nat} {x : Int64} (j : Nat) (hd : decode M.2.1 pc = .ok (.lload i, 2)) (hj : L[j]? = some (i, .long x)) (h : Ex M (pc + 2) L (.long x :: st) N R w k n Q) : Ex M pc L (st) N R w k n Q := fun p l e s m args below meth c D cA b H locs ls F hP hS hl => lv_lload F.1 F.2.1 hd (lv_at hl j (cLB_at hj)) (h p l e s m args below meth c D cA b H locs ls F hP hS hl)
theorem x_aload_n {i : Fin 4} {x : Nat} (j : Nat) (hd : decode M.2.1 pc = .ok (.aload_n i, 1)) (hj : L[j]? = some ((i : Nat), .ref x)) (h : Ex M (pc + 1) L (.ref x :: st) N R w k n Q) : Ex M pc L (st) N R w k n Q := fun p l e s m args below meth c D cA b H locs ls F hP hS hl => lv_aload_n F.1 F.2.1 hd rfl (lv_at hl j (cLB_at hj)) (h p l e s m args below meth c D cA b H locs ls F hP hS hl)
theorem x_aload {i : Nat} {x : Nat} (j : Nat) (hd : decode M.2.1 pc = .ok (.aload i, 2)) (hj : L[j]? = some (i, .ref x)) (h : Ex M (pc + 2) L (.ref x :: st) N R w k n Q) : Ex M pc L (st) N R w k n Q := fun p l e s m args below meth c D cA b H locs ls F hP hS hl => lv_aload F.1 F.2.1 hd (lv_at hl j (cLB_at hj)) (h p l e s m args below meth c D cA b H locs ls F hP hS hl)
theorem x_iadd {x y : Int32} (hd : decode M.2.1 pc = .ok (.iadd, 1)) (h : Ex M (pc + 1) L (.int (x + y) :: st) N R w k n Q) : Ex M pc L (.int y :: .int x :: st) N R w k n Q := fun p l e s m args below meth c D cA b H locs ls F hP hS hl => lv_iadd F.1 F.2.1 hd (h p l e s m args below meth c D cA b H locs ls F hP hS hl)
theorem x_isub {x y : Int32} (hd : decode M.2.1 pc = .ok (.isub, 1)) (h : Ex M (pc + 1) L (.int (x - y) :: st) N R w k n Q) : Ex M pc L (.int y :: .int x :: st) N R w k n Q := fun p l e s m args below meth c D cA b H locs ls F hP hS hl => lv_isub F.1 F.2.1 hd (h p l e s m args below meth c D cA b H locs ls F hP hS hl)
theorem x_imul {x y : Int32} (hd : decode M.2.1 pc = .ok (.imul, 1)) (h : Ex M (pc + 1) L (.int (x * y) :: st) N R w k n Q) : Ex M pc L (.int y :: .int x :: st) N R w k n Q := fun p l e s m args below meth c D cA b H locs ls F hP hS hl => lv_imul F.1 F.2.1 hd (h p l e s m args below meth c D cA b H locs ls F hP hS hl)
theorem x_iand {x y : Int32} (hd : decode M.2.1 pc = .ok (.iand, 1)) (h : Ex M (pc + 1) L (.int (x &&& y) :: st) N R w k n Q) : Ex M pc L (.int y :: .int x :: st) N R w k n Q := fun p l e s m args below meth c D cA b H locs ls F hP hS hl => lv_iand F.1 F.2.1 hd (h p l e s m args below meth c D cA b H locs ls F hP hS hl)
theorem x_ishr {x y : Int32} (hd : decode M.2.1 pc = .ok (.ishr, 1)) (h : Ex M (pc + 1) L (.int (x >>> (y &&& 31)) :: st) N R w k n Q) : Ex M pc L (.int y :: .int x :: st) N R w k n Q := fun p l e s m args below meth c D cA b H locs ls F hP hS hl => lv_ishr F.1 F.2.1 hd (h p l e s m args below meth c D cA b H locs ls F hP hS hl)
theorem x_idiv {x y : Int32} (hd : decode M.2.1 pc = .ok (.idiv, 1)) (hne : ¬ y = 0) (h : Ex M (pc + 1) L (.int (x / y) :: st) N R w k n Q) : Ex M pc L (.int y :: .int x :: st) N R w k n Q := fun p l e s m args below meth c D cA b H locs ls F hP hS hl => lv_idiv F.1 F.2.1 hd hne (h p l e s m args below meth c D cA b H locs ls F hP hS hl)
theorem x_irem {x y : Int32} (hd : decode M.2.1 pc = .ok (.irem, 1)) (hne : ¬ y = 0) (h : Ex M (pc + 1) L (.int (x - x / y * y) :: st) N R w k n Q) : Ex M pc L (.int y :: .int x :: st) N R w k n Q := fun p l e s m args below meth c D cA b H locs ls F hP hS hl => lv_irem F.1 F.2.1 hd hne (h p l e s m args below meth c D cA b H locs ls F hP hS hl)
theorem x_ineg {x : Int32} (hd : decode M.2.1 pc = .ok (.ineg, 1)) (h : Ex M (pc + 1) L (.int (-x) :: st) N R w k n Q) : Ex M pc L (.int x :: st) N R w k n Q := fun p l e s m args below meth c D cA b H locs ls F hP hS hl => lv_ineg F.1 F.2.1 hd (h p l e s m args below meth c D cA b H locs ls F hP hS hl)
theorem x_ladd {x y : Int64} (hd : decode M.2.1 pc = .ok (.ladd, 1)) (h : Ex M (pc + 1) L (.long (x + y) :: st) N R w k n Q) : Ex M pc L (.long y :: .long x :: st) N R w k n Q := fun p l e s m args below meth c D cA b H locs ls F hP hS hl => lv_ladd F.1 F.2.1 hd (h p l e s m args below meth c D cA b H locs ls F hP hS hl)
theorem x_lsub {x y : Int64} (hd : decode M.2.1 pc = .ok (.lsub, 1)) (h : Ex M (pc + 1) L (.long (x - y) :: st) N R w k n Q) : Ex M pc L (.long y :: .long x :: st) N R w k n Q := fun p l e s m args below meth c D cA b H locs ls F hP hS hl => lv_lsub F.1 F.2.1 hd (h p l e s m args below meth c D cA b H locs ls F hP hS hl)
theorem x_lmul {x y : Int64} (hd : decode M.2.1 pc = .ok (.lmul, 1)) (h : Ex M (pc + 1) L (.long (x * y) :: st) N R w k n Q) : Ex M pc L (.long y :: .long x :: st) N R w k n Q := fun p l e s m args below meth c D cA b H locs ls F hP hS hl => lv_lmul F.1 F.2.1 hd (h p l e s m args below meth c D cA b H locs ls F hP hS hl)
theorem x_land {x y : Int64} (hd : decode M.2.1 pc = .ok (.land, 1)) (h : Ex M (pc + 1) L (.long (x &&& y) :: st) N R w k n Q) : Ex M pc L (.long y :: .long x :: st) N R w k n Q := fun p l e s m args below meth c D cA b H locs ls F hP hS hl => lv_land F.1 F.2.1 hd (h p l e s m args below meth c D cA b H locs ls F hP hS hl)
theorem x_lor {x y : Int64} (hd : decode M.2.1 pc = .ok (.lor, 1)) (h : Ex M (pc + 1) L (.long (x ||| y) :: st) N R w k n Q) : Ex M pc L (.long y :: .long x :: st) N R w k n Q := fun p l e s m args below meth c D cA b H locs ls F hP hS hl => lv_lor F.1 F.2.1 hd (h p l e s m args below meth c D cA b H locs ls F hP hS hl)
theorem x_lxor {x y : Int64} (hd : decode M.2.1 pc = .ok (.lxor, 1)) (h : Ex M (pc + 1) L (.long (x ^^^ y) :: st) N R w k n Q) : Ex M pc L (.long y :: .long x :: st) N R w k n Q := fun p l e s m args below meth c D cA b H locs ls F hP hS hl => lv_lxor F.1 F.2.1 hd (h p l e s m args below meth c D cA b H locs ls F hP hS hl)
theorem x_ldiv {x y : Int64} (hd : decode M.2.1 pc = .ok (.ldiv, 1)) (hne : ¬ y = 0) (h : Ex M (pc + 1) L (.long (x / y) :: st) N R w k n Q) : Ex M pc L (.long y :: .long x :: st) N R w k n Q := fun p l e s m args below meth c D cA b H locs ls F hP hS hl => lv_ldiv F.1 F.2.1 hd hne (h p l e s m args below meth c D cA b H locs ls F hP hS hl)
theorem x_lneg {x : Int64} (hd : decode M.2.1 pc = .ok (.lneg, 1)) (h : Ex M (pc + 1) L (.long (-x) :: st) N R w k n Q) : Ex M pc L (.long x :: st) N R w k n Q := fun p l e s m args below meth c D cA b H locs ls F hP hS hl => lv_lneg F.1 F.2.1 hd (h p l e s m args below meth c D cA b H locs ls F hP hS hl)
theorem x_lcmp {x y : Int64} (hd : decode M.2.1 pc = .ok (.lcmp, 1)) (h : Ex M (pc + 1) L (.int (lg_cmp x y) :: st) N R w k n Q) : Ex M pc L (.long y :: .long x :: st) N R w k n Q := fun p l e s m args below meth c D cA b H locs ls F hP hS hl => W.lcmp F.1 F.2.1 hd (h p l e s m args below meth c D cA b H locs ls F hP hS hl)
theorem x_i2l {x : Int32} (hd : decode M.2.1 pc = .ok (.i2l, 1)) (h : Ex M (pc + 1) L (.long x.toInt64 :: st) N R w k n Q) : Ex M pc L (.int x :: st) N R w k n Q := fun p l e s m args below meth c D cA b H locs ls F hP hS hl => lv_i2l F.1 F.2.1 hd rfl (h p l e s m args below meth c D cA b H locs ls F hP hS hl)
theorem x_l2i {x : Int64} (hd : decode M.2.1 pc = .ok (.l2i, 1)) (h : Ex M (pc + 1) L (.int x.toInt32 :: st) N R w k n Q) : Ex M pc L (.long x :: st) N R w k n Q := fun p l e s m args below meth c D cA b H locs ls F hP hS hl => lv_l2i F.1 F.2.1 hd rfl (h p l e s m args below meth c D cA b H locs ls F hP hS hl)
theorem x_i2c {x : Int32} (hd : decode M.2.1 pc = .ok (.i2c, 1)) (h : Ex M (pc + 1) L (.int (x.toUInt32 % 65536).toInt32 :: st) N R w k n Q) : Ex M pc L (.int x :: st) N R w k n Q := fun p l e s m args below meth c D cA b H locs ls F hP hS hl => lv_i2c F.1 F.2.1 hd rfl (h p l e s m args below meth c D cA b H locs ls F hP hS hl)
theorem x_lushr {x : Int64} {y : Int32} (hd : decode M.2.1 pc = .ok (.lushr, 1)) (h : Ex M (pc + 1) L (.long (x.toUInt64 >>> (y.toInt64.toUInt64 &&& Int64.toUInt64 63)).toInt64 :: st) N R w k n Q) : Ex M pc L (.int y :: .long x :: st) N R w k n Q := fun p l e s m args below meth c D cA b H locs ls F hP hS hl => lv_lushr F.1 F.2.1 hd rfl (h p l e s m args below meth c D cA b H locs ls F hP hS hl)
theorem x_lshl {x : Int64} {y : Int32} (hd : decode M.2.1 pc = .ok (.lshl, 1)) (h : Ex M (pc + 1) L (.long (x <<< (y.toInt64 &&& 63)) :: st) N R w k n Q) : Ex M pc L (.int y :: .long x :: st) N R w k n Q := fun p l e s m args below meth c D cA b H locs ls F hP hS hl => lv_lshl F.1 F.2.1 hd rfl (h p l e s m args below meth c D cA b H locs ls F hP hS hl)
theorem x_lshr {x : Int64} {y : Int32} (hd : decode M.2.1 pc = .ok (.lshr, 1)) (h : Ex M (pc + 1) L (.long (x >>> (y.toInt64 &&& 63)) :: st) N R w k n Q) : Ex M pc L (.int y :: .long x :: st) N R w k n Q := fun p l e s m args below meth c D cA b H locs ls F hP hS hl => lv_lshr F.1 F.2.1 hd rfl (h p l e s m args below meth c D cA b H locs ls F hP hS hl)
theorem x_dup {v : Value} (hd : decode M.2.1 pc = .ok (.dup, 1)) (hc : v.category = 1) (h : Ex M (pc + 1) L (v :: v :: st) N R w k n Q) : Ex M pc L (v :: st) N R w k n Q := fun p l e s m args below meth c D cA b H locs ls F hP hS hl => lv_dup F.1 F.2.1 hd ((cvB_cat b v).trans hc) (h p l e s m args below meth c D cA b H locs ls F hP hS hl)
theorem x_pop {v : Value} (hd : decode M.2.1 pc = .ok (.pop, 1)) (hc : v.category = 1) (h : Ex M (pc + 1) L (st) N R w k n Q) : Ex M pc L (v :: st) N R w k n Q := fun p l e s m args below meth c D cA b H locs ls F hP hS hl => lv_pop F.1 F.2.1 hd ((cvB_cat b v).trans hc) (h p l e s m args below meth c D cA b H locs ls F hP hS hl)
theorem x_dup2 {v u : Value} (hd : decode M.2.1 pc = .ok (.dup2, 1)) (hc : v.category = 1) (hc2 : u.category = 1) (h : Ex M (pc + 1) L (v :: u :: v :: u :: st) N R w k n Q) : Ex M pc L (v :: u :: st) N R w k n Q := fun p l e s m args below meth c D cA b H locs ls F hP hS hl => lv_dup2_11 F.1 F.2.1 hd ((cvB_cat b v).trans hc) ((cvB_cat b u).trans hc2) (h p l e s m args below meth c D cA b H locs ls F hP hS hl)
theorem x_ldc {i : Nat} {v : Int32} (hd : decode M.2.1 pc = .ok (.ldc i, 2)) (hc : Jvm.Cond.constant M.1.cls i v ∈ lw_tbl) (h : Ex M (pc + 2) L (.int v :: st) N R w k n Q) : Ex M pc L (st) N R w k n Q := fun p l e s m args below meth c D cA b H locs ls F hP hS hl => lv_ldc F.1 F.2.1 F.2.2.2.1 (tb_use F.2.2.2.2.2.2.2.1 hc rfl) hd (h p l e s m args below meth c D cA b H locs ls F hP hS hl)
theorem x_ldc2 {i : Nat} {v : Int64} (hd : decode M.2.1 pc = .ok (.ldc2_w i, 3)) (hc : Jvm.Cond.constantLong M.1.cls i v ∈ lw_tbl) (h : Ex M (pc + 3) L (.long v :: st) N R w k n Q) : Ex M pc L (st) N R w k n Q := fun p l e s m args below meth c D cA b H locs ls F hP hS hl => lv_ldc2 F.1 F.2.1 F.2.2.2.1 (tb_use F.2.2.2.2.2.2.2.1 hc rfl) hd (h p l e s m args below meth c D cA b H locs ls F hP hS hl)
theorem x_if_eq {x : Int32} {off : Int} (tgt : Nat) (hd : decode M.2.1 pc = .ok (.ifCond .eq off, 3)) (ht : (pc : Int) + off = (tgt : Int)) (h1 : x = 0 → Ex M tgt L st N R w k n Q) (h2 : ¬ x = 0 → Ex M (pc + 3) L st N R w k n Q) : Ex M pc L (.int x :: st) N R w k n Q := fun p l e s m args below meth c D cA b H locs ls F hP hS hl => lv_if_eq F.1 F.2.1 hd ht (fun z => h1 z p l e s m args below meth c D cA b H locs ls F hP hS hl) (fun z => h2 z p l e s m args below meth c D cA b H locs ls F hP hS hl)
theorem x_icmp_eq {x y : Int32} {off : Int} (tgt : Nat) (hd : decode M.2.1 pc = .ok (.if_icmp .eq off, 3)) (ht : (pc : Int) + off = (tgt : Int)) (h1 : x = y → Ex M tgt L st N R w k n Q) (h2 : ¬ x = y → Ex M (pc + 3) L st N R w k n Q) : Ex M pc L (.int y :: .int x :: st) N R w k n Q := fun p l e s m args below meth c D cA b H locs ls F hP hS hl => lv_icmp_eq F.1 F.2.1 hd ht (fun z => h1 z p l e s m args below meth c D cA b H locs ls F hP hS hl) (fun z => h2 z p l e s m args below meth c D cA b H locs ls F hP hS hl)
theorem x_lif_eq {x y : Int64} {off : Int} (tgt : Nat) (hd1 : decode M.2.1 pc = .ok (.lcmp, 1)) (hd : decode M.2.1 (pc + 1) = .ok (.ifCond .eq off, 3)) (ht : ((pc + 1 : Nat) : Int) + off = (tgt : Int)) (h1 : x = y → Ex M tgt L st N R w k n Q) (h2 : ¬ x = y → Ex M (pc + 4) L st N R w k n Q) : Ex M pc L (.long y :: .long x :: st) N R w k n Q := x_lcmp hd1 (x_if_eq tgt hd ht (fun z => h1 (by first | exact (lg_cmp_eq _ _).mp z | exact fun y2 => z ((lg_cmp_eq _ _).mpr y2) | simpa [(lg_cmp_eq _ _)] using z)) (fun z => h2 (by first | exact (lg_cmp_eq _ _).mp z | exact fun y2 => z ((lg_cmp_eq _ _).mpr y2) | simpa [(lg_cmp_eq _ _)] using z)))
theorem x_if_ne {x : Int32} {off : Int} (tgt : Nat) (hd : decode M.2.1 pc = .ok (.ifCond .ne off, 3)) (ht : (pc : Int) + off = (tgt : Int)) (h1 : ¬ x = 0 → Ex M tgt L st N R w k n Q) (h2 : x = 0 → Ex M (pc + 3) L st N R w k n Q) : Ex M pc L (.int x :: st) N R w k n Q := fun p l e s m args below meth c D cA b H locs ls F hP hS hl => lv_if_ne F.1 F.2.1 hd ht (fun z => h1 z p l e s m args below meth c D cA b H locs ls F hP hS hl) (fun z => h2 z p l e s m args below meth c D cA b H locs ls F hP hS hl)
theorem x_icmp_ne {x y : Int32} {off : Int} (tgt : Nat) (hd : decode M.2.1 pc = .ok (.if_icmp .ne off, 3)) (ht : (pc : Int) + off = (tgt : Int)) (h1 : ¬ x = y → Ex M tgt L st N R w k n Q) (h2 : x = y → Ex M (pc + 3) L st N R w k n Q) : Ex M pc L (.int y :: .int x :: st) N R w k n Q := fun p l e s m args below meth c D cA b H locs ls F hP hS hl => lv_icmp_ne F.1 F.2.1 hd ht (fun z => h1 z p l e s m args below meth c D cA b H locs ls F hP hS hl) (fun z => h2 z p l e s m args below meth c D cA b H locs ls F hP hS hl)
theorem x_lif_ne {x y : Int64} {off : Int} (tgt : Nat) (hd1 : decode M.2.1 pc = .ok (.lcmp, 1)) (hd : decode M.2.1 (pc + 1) = .ok (.ifCond .ne off, 3)) (ht : ((pc + 1 : Nat) : Int) + off = (tgt : Int)) (h1 : ¬ x = y → Ex M tgt L st N R w k n Q) (h2 : x = y → Ex M (pc + 4) L st N R w k n Q) : Ex M pc L (.long y :: .long x :: st) N R w k n Q := x_lcmp hd1 (x_if_ne tgt hd ht (fun z => h1 (by first | exact (lg_cmp_eq _ _).mp z | exact fun y2 => z ((lg_cmp_eq _ _).mpr y2) | simpa [(lg_cmp_eq _ _)] using z)) (fun z => h2 (by first | exact (lg_cmp_eq _ _).mp z | exact fun y2 => z ((lg_cmp_eq _ _).mpr y2) | simpa [(lg_cmp_eq _ _)] using z)))
theorem x_if_lt {x : Int32} {off : Int} (tgt : Nat) (hd : decode M.2.1 pc = .ok (.ifCond .lt off, 3)) (ht : (pc : Int) + off = (tgt : Int)) (h1 : x < 0 → Ex M tgt L st N R w k n Q) (h2 : ¬ x < 0 → Ex M (pc + 3) L st N R w k n Q) : Ex M pc L (.int x :: st) N R w k n Q := fun p l e s m args below meth c D cA b H locs ls F hP hS hl => lv_if_lt F.1 F.2.1 hd ht (fun z => h1 z p l e s m args below meth c D cA b H locs ls F hP hS hl) (fun z => h2 z p l e s m args below meth c D cA b H locs ls F hP hS hl)
theorem x_icmp_lt {x y : Int32} {off : Int} (tgt : Nat) (hd : decode M.2.1 pc = .ok (.if_icmp .lt off, 3)) (ht : (pc : Int) + off = (tgt : Int)) (h1 : x < y → Ex M tgt L st N R w k n Q) (h2 : ¬ x < y → Ex M (pc + 3) L st N R w k n Q) : Ex M pc L (.int y :: .int x :: st) N R w k n Q := fun p l e s m args below meth c D cA b H locs ls F hP hS hl => lv_icmp_lt F.1 F.2.1 hd ht (fun z => h1 z p l e s m args below meth c D cA b H locs ls F hP hS hl) (fun z => h2 z p l e s m args below meth c D cA b H locs ls F hP hS hl)
theorem x_lif_lt {x y : Int64} {off : Int} (tgt : Nat) (hd1 : decode M.2.1 pc = .ok (.lcmp, 1)) (hd : decode M.2.1 (pc + 1) = .ok (.ifCond .lt off, 3)) (ht : ((pc + 1 : Nat) : Int) + off = (tgt : Int)) (h1 : x < y → Ex M tgt L st N R w k n Q) (h2 : ¬ x < y → Ex M (pc + 4) L st N R w k n Q) : Ex M pc L (.long y :: .long x :: st) N R w k n Q := x_lcmp hd1 (x_if_lt tgt hd ht (fun z => h1 (by first | exact (lg_cmp_lt _ _).mp z | exact fun y2 => z ((lg_cmp_lt _ _).mpr y2) | simpa [(lg_cmp_lt _ _)] using z)) (fun z => h2 (by first | exact (lg_cmp_lt _ _).mp z | exact fun y2 => z ((lg_cmp_lt _ _).mpr y2) | simpa [(lg_cmp_lt _ _)] using z)))
theorem x_if_ge {x : Int32} {off : Int} (tgt : Nat) (hd : decode M.2.1 pc = .ok (.ifCond .ge off, 3)) (ht : (pc : Int) + off = (tgt : Int)) (h1 : 0 ≤ x → Ex M tgt L st N R w k n Q) (h2 : ¬ 0 ≤ x → Ex M (pc + 3) L st N R w k n Q) : Ex M pc L (.int x :: st) N R w k n Q := fun p l e s m args below meth c D cA b H locs ls F hP hS hl => lv_if_ge F.1 F.2.1 hd ht (fun z => h1 z p l e s m args below meth c D cA b H locs ls F hP hS hl) (fun z => h2 z p l e s m args below meth c D cA b H locs ls F hP hS hl)
theorem x_icmp_ge {x y : Int32} {off : Int} (tgt : Nat) (hd : decode M.2.1 pc = .ok (.if_icmp .ge off, 3)) (ht : (pc : Int) + off = (tgt : Int)) (h1 : y ≤ x → Ex M tgt L st N R w k n Q) (h2 : ¬ y ≤ x → Ex M (pc + 3) L st N R w k n Q) : Ex M pc L (.int y :: .int x :: st) N R w k n Q := fun p l e s m args below meth c D cA b H locs ls F hP hS hl => lv_icmp_ge F.1 F.2.1 hd ht (fun z => h1 z p l e s m args below meth c D cA b H locs ls F hP hS hl) (fun z => h2 z p l e s m args below meth c D cA b H locs ls F hP hS hl)
theorem x_lif_ge {x y : Int64} {off : Int} (tgt : Nat) (hd1 : decode M.2.1 pc = .ok (.lcmp, 1)) (hd : decode M.2.1 (pc + 1) = .ok (.ifCond .ge off, 3)) (ht : ((pc + 1 : Nat) : Int) + off = (tgt : Int)) (h1 : y ≤ x → Ex M tgt L st N R w k n Q) (h2 : ¬ y ≤ x → Ex M (pc + 4) L st N R w k n Q) : Ex M pc L (.long y :: .long x :: st) N R w k n Q := x_lcmp hd1 (x_if_ge tgt hd ht (fun z => h1 (by first | exact (lg_cmp_ge _ _).mp z | exact fun y2 => z ((lg_cmp_ge _ _).mpr y2) | simpa [(lg_cmp_ge _ _)] using z)) (fun z => h2 (by first | exact (lg_cmp_ge _ _).mp z | exact fun y2 => z ((lg_cmp_ge _ _).mpr y2) | simpa [(lg_cmp_ge _ _)] using z)))
theorem x_if_gt {x : Int32} {off : Int} (tgt : Nat) (hd : decode M.2.1 pc = .ok (.ifCond .gt off, 3)) (ht : (pc : Int) + off = (tgt : Int)) (h1 : 0 < x → Ex M tgt L st N R w k n Q) (h2 : ¬ 0 < x → Ex M (pc + 3) L st N R w k n Q) : Ex M pc L (.int x :: st) N R w k n Q := fun p l e s m args below meth c D cA b H locs ls F hP hS hl => lv_if_gt F.1 F.2.1 hd ht (fun z => h1 z p l e s m args below meth c D cA b H locs ls F hP hS hl) (fun z => h2 z p l e s m args below meth c D cA b H locs ls F hP hS hl)
theorem x_icmp_gt {x y : Int32} {off : Int} (tgt : Nat) (hd : decode M.2.1 pc = .ok (.if_icmp .gt off, 3)) (ht : (pc : Int) + off = (tgt : Int)) (h1 : y < x → Ex M tgt L st N R w k n Q) (h2 : ¬ y < x → Ex M (pc + 3) L st N R w k n Q) : Ex M pc L (.int y :: .int x :: st) N R w k n Q := fun p l e s m args below meth c D cA b H locs ls F hP hS hl => lv_icmp_gt F.1 F.2.1 hd ht (fun z => h1 z p l e s m args below meth c D cA b H locs ls F hP hS hl) (fun z => h2 z p l e s m args below meth c D cA b H locs ls F hP hS hl)
theorem x_lif_gt {x y : Int64} {off : Int} (tgt : Nat) (hd1 : decode M.2.1 pc = .ok (.lcmp, 1)) (hd : decode M.2.1 (pc + 1) = .ok (.ifCond .gt off, 3)) (ht : ((pc + 1 : Nat) : Int) + off = (tgt : Int)) (h1 : y < x → Ex M tgt L st N R w k n Q) (h2 : ¬ y < x → Ex M (pc + 4) L st N R w k n Q) : Ex M pc L (.long y :: .long x :: st) N R w k n Q := x_lcmp hd1 (x_if_gt tgt hd ht (fun z => h1 (by first | exact (lg_cmp_gt _ _).mp z | exact fun y2 => z ((lg_cmp_gt _ _).mpr y2) | simpa [(lg_cmp_gt _ _)] using z)) (fun z => h2 (by first | exact (lg_cmp_gt _ _).mp z | exact fun y2 => z ((lg_cmp_gt _ _).mpr y2) | simpa [(lg_cmp_gt _ _)] using z)))
theorem x_if_le {x : Int32} {off : Int} (tgt : Nat) (hd : decode M.2.1 pc = .ok (.ifCond .le off, 3)) (ht : (pc : Int) + off = (tgt : Int)) (h1 : x ≤ 0 → Ex M tgt L st N R w k n Q) (h2 : ¬ x ≤ 0 → Ex M (pc + 3) L st N R w k n Q) : Ex M pc L (.int x :: st) N R w k n Q := fun p l e s m args below meth c D cA b H locs ls F hP hS hl => lv_if_le F.1 F.2.1 hd ht (fun z => h1 z p l e s m args below meth c D cA b H locs ls F hP hS hl) (fun z => h2 z p l e s m args below meth c D cA b H locs ls F hP hS hl)
theorem x_icmp_le {x y : Int32} {off : Int} (tgt : Nat) (hd : decode M.2.1 pc = .ok (.if_icmp .le off, 3)) (ht : (pc : Int) + off = (tgt : Int)) (h1 : x ≤ y → Ex M tgt L st N R w k n Q) (h2 : ¬ x ≤ y → Ex M (pc + 3) L st N R w k n Q) : Ex M pc L (.int y :: .int x :: st) N R w k n Q := fun p l e s m args below meth c D cA b H locs ls F hP hS hl => lv_icmp_le F.1 F.2.1 hd ht (fun z => h1 z p l e s m args below meth c D cA b H locs ls F hP hS hl) (fun z => h2 z p l e s m args below meth c D cA b H locs ls F hP hS hl)
theorem x_lif_le {x y : Int64} {off : Int} (tgt : Nat) (hd1 : decode M.2.1 pc = .ok (.lcmp, 1)) (hd : decode M.2.1 (pc + 1) = .ok (.ifCond .le off, 3)) (ht : ((pc + 1 : Nat) : Int) + off = (tgt : Int)) (h1 : x ≤ y → Ex M tgt L st N R w k n Q) (h2 : ¬ x ≤ y → Ex M (pc + 4) L st N R w k n Q) : Ex M pc L (.long y :: .long x :: st) N R w k n Q := x_lcmp hd1 (x_if_le tgt hd ht (fun z => h1 (by first | exact (lg_cmp_le _ _).mp z | exact fun y2 => z ((lg_cmp_le _ _).mpr y2) | simpa [(lg_cmp_le _ _)] using z)) (fun z => h2 (by first | exact (lg_cmp_le _ _).mp z | exact fun y2 => z ((lg_cmp_le _ _).mpr y2) | simpa [(lg_cmp_le _ _)] using z)))
theorem x_goto {off : Int} (tgt : Nat) (hd : decode M.2.1 pc = .ok (.goto off, 3)) (ht : (pc : Int) + off = (tgt : Int)) (h : Ex M tgt L st N R w k n Q) : Ex M pc L st N R w k n Q := fun p l e s m args below meth c D cA b H locs ls F hP hS hl => lv_goto F.1 F.2.1 hd ht (h p l e s m args below meth c D cA b H locs ls F hP hS hl)
theorem x_istore_n {i : Fin 4} {x : Int32} (ks : List Nat) (hd : decode M.2.1 pc = .ok (.istore_n i, 1)) (hn : (i : Nat) < M.2.2.1) (hL : lv_pick (stL (i : Nat) (.int x) L) ks = L') (h : Ex M (pc + 1) L' st N R w k n Q) : Ex M pc L (.int x :: st) N R w k n Q := fun p l e s m args below meth c D cA b H locs ls F hP hS hl => lv_istore_n F.1 F.2.1 hd rfl hl hn rfl (fun ls2 hl2 => h p l e s m args below meth c D cA b H locs ls2 F hP hS (lvB_pick ks hL (by rw [cLB_st]; exact hl2)))
theorem x_istore {i : Nat} {x : Int32} (ks : List Nat) (hd : decode M.2.1 pc = .ok (.istore i, 2)) (hn : i < M.2.2.1) (hL : lv_pick (stL i (.int x) L) ks = L') (h : Ex M (pc + 2) L' st N R w k n Q) : Ex M pc L (.int x :: st) N R w k n Q := fun p l e s m args below meth c D cA b H locs ls F hP hS hl => lv_istore F.1 F.2.1 hd hl hn rfl (fun ls2 hl2 => h p l e s m args below meth c D cA b H locs ls2 F hP hS (lvB_pick ks hL (by rw [cLB_st]; exact hl2)))
theorem x_astore_n {i : Fin 4} {x : Nat} (ks : List Nat) (hd : decode M.2.1 pc = .ok (.astore_n i, 1)) (hn : (i : Nat) < M.2.2.1) (hL : lv_pick (stL (i : Nat) (.ref x) L) ks = L') (h : Ex M (pc + 1) L' st N R w k n Q) : Ex M pc L (.ref x :: st) N R w k n Q := fun p l e s m args below meth c D cA b H locs ls F hP hS hl => lv_astore_n F.1 F.2.1 hd rfl hl hn rfl (fun ls2 hl2 => h p l e s m args below meth c D cA b H locs ls2 F hP hS (lvB_pick ks hL (by rw [cLB_st]; exact hl2)))
theorem x_astore {i : Nat} {x : Nat} (ks : List Nat) (hd : decode M.2.1 pc = .ok (.astore i, 2)) (hn : i < M.2.2.1) (hL : lv_pick (stL i (.ref x) L) ks = L') (h : Ex M (pc + 2) L' st N R w k n Q) : Ex M pc L (.ref x :: st) N R w k n Q := fun p l e s m args below meth c D cA b H locs ls F hP hS hl => lv_astore F.1 F.2.1 hd hl hn rfl (fun ls2 hl2 => h p l e s m args below meth c D cA b H locs ls2 F hP hS (lvB_pick ks hL (by rw [cLB_st]; exact hl2)))
theorem x_lstore_n {i : Fin 4} {x : Int64} (ks : List Nat) (hd : decode M.2.1 pc = .ok (.lstore_n i, 1)) (hn : (i : Nat) + 1 < M.2.2.1) (hL : lv_pick (stL2 (i : Nat) (.long x) L) ks = L') (h : Ex M (pc + 1) L' st N R w k n Q) : Ex M pc L (.long x :: st) N R w k n Q := fun p l e s m args below meth c D cA b H locs ls F hP hS hl => lv_lstore_n F.1 F.2.1 hd rfl hl hn rfl (fun ls2 hl2 => h p l e s m args below meth c D cA b H locs ls2 F hP hS (lvB_pick ks hL (by rw [cLB_st2]; exact hl2)))
theorem x_lstore {i : Nat} {x : Int64} (ks : List Nat) (hd : decode M.2.1 pc = .ok (.lstore i, 2)) (hn : i + 1 < M.2.2.1) (hL : lv_pick (stL2 i (.long x) L) ks = L') (h : Ex M (pc + 2) L' st N R w k n Q) : Ex M pc L (.long x :: st) N R w k n Q := fun p l e s m args below meth c D cA b H locs ls F hP hS hl => lv_lstore F.1 F.2.1 hd hl hn rfl (fun ls2 hl2 => h p l e s m args below meth c D cA b H locs ls2 F hP hS (lvB_pick ks hL (by rw [cLB_st2]; exact hl2)))
theorem x_iinc {i : Nat} {d : Int} {x v : Int32} (j : Nat) (ks : List Nat) (hd : decode M.2.1 pc = .ok (.iinc i d, 3)) (hj : L[j]? = some (i, .int x)) (hv : x + Int32.ofInt d = v) (hn : i < M.2.2.1) (hL : lv_pick (stL i (.int v) L) ks = L') (h : Ex M (pc + 3) L' st N R w k n Q) : Ex M pc L st N R w k n Q := fun p l e s m args below meth c D cA b H locs ls F hP hS hl => lv_iinc (v := v) F.1 F.2.1 hd hl (k := j) (cLB_at hj) hv hn rfl (fun ls2 hl2 => h p l e s m args below meth c D cA b H locs ls2 F hP hS (lvB_pick ks hL (by rw [cLB_st]; exact hl2)))
theorem x_perm (ks : List Nat) (hL : lv_pick L ks = L') (h : Ex M pc L' st N R w k n Q) : Ex M pc L st N R w k n Q := fun p l e s m args below meth c D cA b H locs ls F hP hS hl => h p l e s m args below meth c D cA b H locs ls F hP hS (lvB_pick ks hL hl)
/-- arrays -/
theorem x_iald {q len : Nat} {i : Int32} (hd : decode M.2.1 pc = .ok (.iaload, 1)) (hk : kd q = .inl (0, len)) (hq : q < N) (hin : vp_in i len) (h : Ex M (pc + 1) L (.int (w.1 q i.toNatClampNeg) :: st) N R w k n Q) : Ex M pc L (.int i :: .ref q :: st) N R w k n Q := fun p l e s m args below meth c D cA b H locs ls F hP hS hl =>
  va_iald (n := len) (f := w.1 q) (cA := cA 0) F.1 F.2.1 F.2.2.2.2.2.2.2.2.1 hP q 0 (by rw [wsB_at hq, celB_a hk]; rfl) rfl hin hd (h p l e s m args below meth c D cA b H locs ls F hP hS hl)
theorem x_lald {q len : Nat} {i : Int32} (hd : decode M.2.1 pc = .ok (.laload, 1)) (hk : kd q = .inl (1, len)) (hq : q < N) (hin : vp_in i len) (h : Ex M (pc + 1) L (.long (w.2 q i.toNatClampNeg) :: st) N R w k n Q) : Ex M pc L (.int i :: .ref q :: st) N R w k n Q := fun p l e s m args below meth c D cA b H locs ls F hP hS hl =>
  va_lald (n := len) (f := w.2 q) (cA := cA 1) F.1 F.2.1 F.2.2.2.2.2.2.2.2.1 hP q 1 (by rw [wsB_at hq, celB_a hk]; rfl) rfl hin hd (h p l e s m args below meth c D cA b H locs ls F hP hS hl)
theorem x_cald {q len : Nat} {i : Int32} (hd : decode M.2.1 pc = .ok (.caload, 1)) (hk : kd q = .inl (2, len)) (hq : q < N) (hin : vp_in i len) (h : Ex M (pc + 1) L (.int (w.1 q i.toNatClampNeg) :: st) N R w k n Q) : Ex M pc L (.int i :: .ref q :: st) N R w k n Q := fun p l e s m args below meth c D cA b H locs ls F hP hS hl =>
  va_cald (n := len) (f := w.1 q) (cA := cA 2) F.1 F.2.1 F.2.2.2.2.2.2.2.2.1 hP q 2 (by rw [wsB_at hq, celB_a hk]; rfl) rfl hin hd (h p l e s m args below meth c D cA b H locs ls F hP hS hl)
theorem x_zald {q len : Nat} {i : Int32} (hd : decode M.2.1 pc = .ok (.baload, 1)) (hk : kd q = .inl (3, len)) (hq : q < N) (hin : vp_in i len) (h : Ex M (pc + 1) L (.int (w.1 q i.toNatClampNeg) :: st) N R w k n Q) : Ex M pc L (.int i :: .ref q :: st) N R w k n Q := fun p l e s m args below meth c D cA b H locs ls F hP hS hl =>
  va_zald (n := len) (f := w.1 q) (cA := cA 3) F.1 F.2.1 F.2.2.2.2.2.2.2.2.1 hP q 3 (by rw [wsB_at hq, celB_a hk]; rfl) rfl hin hd (h p l e s m args below meth c D cA b H locs ls F hP hS hl)
theorem arB_upI {w : Wd} {q t len j : Nat} {x : Int32} (ht : t ≠ 1) : arB (upI w q j x) q t len = (len, .inl (upd (w.1 q) j x)) := by
  simp only [arB, upI, if_neg ht]
  congr 2
  funext a
  by_cases ha : a = j <;> simp [upd, ha]
theorem arB_upL {w : Wd} {q len j : Nat} {x : Int64} : arB (upL w q j x) q 1 len = (len, .inr (.inl (vp_updL (w.2 q) j x))) := by
  simp only [arB, upL, if_pos]
  congr 3
  funext a
  by_cases ha : a = j <;> simp [vp_updL, ha]
theorem x_iast {q len : Nat} {i x : Int32} (hd : decode M.2.1 pc = .ok (.iastore, 1)) (hk : kd q = .inl (0, len)) (hq : q < N) (hin : vp_in i len) (h : Ex M (pc + 1) L st N R (upI w q i.toNatClampNeg x) k n Q) : Ex M pc L (.int x :: .int i :: .ref q :: st) N R w k n Q := fun p l e s m args below meth c D cA b H locs ls F hP hS hl =>
  va_iast (n := len) (f := w.1 q) (cA := cA 0) F.1 F.2.1 F.2.2.2.2.2.2.2.2.1 hP wsB_D hS q 0 (by rw [wsB_at hq, celB_a hk]; rfl) rfl hin hd (fun H1 locs1 hP1 _ hS1 => h p l e s m args below meth c D cA b H1 locs1 ls F (wsB_set hq hP1 (by rw [celB_a hk, arB_upI (by decide)]) (fun p hp => celB_upI hp)) hS1 hl)
theorem x_cast {q len : Nat} {i x : Int32} (hd : decode M.2.1 pc = .ok (.castore, 1)) (hk : kd q = .inl (2, len)) (hq : q < N) (hin : vp_in i len) (h : Ex M (pc + 1) L st N R (upI w q i.toNatClampNeg (vp_nar .char x)) k n Q) : Ex M pc L (.int x :: .int i :: .ref q :: st) N R w k n Q := fun p l e s m args below meth c D cA b H locs ls F hP hS hl =>
  va_cast (n := len) (f := w.1 q) (cA := cA 2) F.1 F.2.1 F.2.2.2.2.2.2.2.2.1 hP wsB_D hS q 2 (by rw [wsB_at hq, celB_a hk]; rfl) rfl hin hd (fun H1 locs1 hP1 _ hS1 => h p l e s m args below meth c D cA b H1 locs1 ls F (wsB_set hq hP1 (by rw [celB_a hk, arB_upI (by decide)]) (fun p hp => celB_upI hp)) hS1 hl)
theorem x_zast {q len : Nat} {i x : Int32} (hd : decode M.2.1 pc = .ok (.bastore, 1)) (hk : kd q = .inl (3, len)) (hq : q < N) (hin : vp_in i len) (h : Ex M (pc + 1) L st N R (upI w q i.toNatClampNeg (vp_nar .boolean x)) k n Q) : Ex M pc L (.int x :: .int i :: .ref q :: st) N R w k n Q := fun p l e s m args below meth c D cA b H locs ls F hP hS hl =>
  va_zast (n := len) (f := w.1 q) (cA := cA 3) F.1 F.2.1 F.2.2.2.2.2.2.2.2.1 hP wsB_D hS q 3 (by rw [wsB_at hq, celB_a hk]; rfl) rfl hin hd (fun H1 locs1 hP1 _ hS1 => h p l e s m args below meth c D cA b H1 locs1 ls F (wsB_set hq hP1 (by rw [celB_a hk, arB_upI (by decide)]) (fun p hp => celB_upI hp)) hS1 hl)
theorem x_last {q len : Nat} {i : Int32} {x : Int64} (hd : decode M.2.1 pc = .ok (.lastore, 1)) (hk : kd q = .inl (1, len)) (hq : q < N) (hin : vp_in i len) (h : Ex M (pc + 1) L st N R (upL w q i.toNatClampNeg x) k n Q) : Ex M pc L (.long x :: .int i :: .ref q :: st) N R w k n Q := fun p l e s m args below meth c D cA b H locs ls F hP hS hl =>
  va_last (n := len) (f := w.2 q) (cA := cA 1) F.1 F.2.1 F.2.2.2.2.2.2.2.2.1 hP wsB_D hS q 1 (by rw [wsB_at hq, celB_a hk]; rfl) rfl hin hd (fun H1 locs1 hP1 _ hS1 => h p l e s m args below meth c D cA b H1 locs1 ls F (wsB_set hq hP1 (by rw [celB_a hk, arB_upL]) (fun p hp => celB_upL hp)) hS1 hl)
theorem x_alen {q t len : Nat} {v : Int32} (hd : decode M.2.1 pc = .ok (.arraylength, 1)) (hk : kd q = .inl (t, len)) (ht : t < 4) (hq : q < N) (hv : Int32.ofNat len = v) (h : Ex M (pc + 1) L (.int v :: st) N R w k n Q) : Ex M pc L (.ref q :: st) N R w k n Q := fun p l e s m args below meth c D cA b H locs ls F hP hS hl =>
  va_alen (cA := cA t) (x := arB w q t len) (ty := aty t) F.1 F.2.1 F.2.2.2.2.2.2.2.2.1 hP q t (by rw [wsB_at hq, celB_a hk]) (by
    rcases t with _ | _ | _ | _ | t
    · rfl
    · rfl
    · rfl
    · rfl
    · omega) hv hd (h p l e s m args below meth c D cA b H locs ls F hP hS hl)
/-- fields -/
theorem u_ok (C : String) (T : u_T) (N : Nat) : ∀ w ∈ u_ws C T N, okW w = true := by
  intro w hw
  obtain ⟨j, -, rfl⟩ := List.mem_map.mp hw
  unfold u_lay
  split <;> rfl
theorem tb_us {U : State} {args : Array Value} {C : String} {T : u_T} {N : Nat} (h : TB U) (hin : ∀ w ∈ u_ws C T N, w ∈ lw_tbl) : ∀ w ∈ u_ws C T N, w.before args U = true := fun w hw => tb_use h (hin w hw) (u_ok C T N w hw)
def KndOK (ci : Nat) (C : String) (T : u_T) (ty : Nat → FieldType) : Prop := cls_[ci]? = some (C, T, nfl ci) ∧ (∀ w ∈ u_ws C T (nfl ci), w ∈ lw_tbl) ∧ (∀ k, k < nfl ci → parseFieldDescriptor (T k).2.2.1 = some (ty k)) ∧ (∀ a, a < nfl ci → ∀ b, b < nfl ci → a ≠ b → (T a).2.1 ≠ (T b).2.1)
def FLk (own : String) (idx : Nat) (T : u_T) (j : Nat) : Prop := Cond.fieldLink own idx (T j).1 (T j).2.1 (T j).2.2.1 ∈ lw_tbl ∨ ∃ host, Cond.fieldLinkNest own idx (T j).1 (T j).2.1 (T j).2.2.1 host ∈ lw_tbl
def FGet (own : String) (idx ci j : Nat) : Prop := ∃ (C : String) (T : u_T) (ty : Nat → FieldType), KndOK ci C T ty ∧ j < nfl ci ∧ FLk own idx T j
def FPut (own : String) (idx ci j : Nat) (t : FieldType) : Prop := ∃ (C : String) (T : u_T) (ty : Nat → FieldType), KndOK ci C T ty ∧ j < nfl ci ∧ FLk own idx T j ∧ (T j).2.2.2 = false ∧ parseFieldDescriptor (T j).2.2.1 = some t
def FPutF (own : String) (idx ci j : Nat) (t : FieldType) : Prop := ∃ (C : String) (T : u_T) (ty : Nat → FieldType), KndOK ci C T ty ∧ j < nfl ci ∧ Cond.fieldLink own idx (T j).1 (T j).2.1 (T j).2.2.1 ∈ lw_tbl ∧ (T j).2.2.2 = true ∧ (T j).1 = own ∧ parseFieldDescriptor (T j).2.2.1 = some t
theorem x_getV {idx ci j q : Nat} (v : Value) (hd : decode M.2.1 pc = .ok (.getfield idx, 3)) (hf : FGet M.1.cls idx ci j) (hk : kd q = .inr ci) (hq : q < N) (hv : ∀ b, fvB b R w q (ftl ci j) j = cvB b v) (h : Ex M (pc + 3) L (v :: st) N R w k n Q) : Ex M pc L (.ref q :: st) N R w k n Q := by
  intro p l e s m args below meth c D cA b H locs ls F hP hS hl
  obtain ⟨C, T, ty, ⟨k1, k2, k3, k4⟩, hj, hlk⟩ := hf
  have he : (wsB cA b N R w)[q]? = some (b + q, .inr (ci, fsB b R w q ci)) := by rw [wsB_at hq, celB_o hk]
  have hfs : (fsB b R w q ci)[j]? = some (cvB b v) := by rw [fsB_at hj, hv]
  rcases hlk with hlk | ⟨host, hlk⟩
  · exact va_get (ref := (T j).1) F.1 F.2.1 (tb_us F.2.2.2.2.2.2.2.1 k2) (fun _ hw => hw) F.2.2.2.1 F.2.2.2.2.2.2.2.2.1 hP q he k1 j hj (tb_use F.2.2.2.2.2.2.2.1 hlk rfl) (fun _ h9 => h9) hfs hd (h p l e s m args below meth c D cA b H locs ls F hP hS hl)
  · exact va_getN (ref := (T j).1) F.1 F.2.1 (tb_us F.2.2.2.2.2.2.2.1 k2) (fun _ hw => hw) F.2.2.2.1 F.2.2.2.2.2.2.2.2.1 hP q he k1 j hj (tb_use F.2.2.2.2.2.2.2.1 hlk rfl) (fun _ h9 => h9) hfs hd (h p l e s m args below meth c D cA b H locs ls F hP hS hl)
theorem x_getI {idx q : Nat} (ci j : Nat) (hd : decode M.2.1 pc = .ok (.getfield idx, 3)) (hf : FGet M.1.cls idx ci j) (hk : kd q = .inr ci) (ht : ftl ci j = 0) (hq : q < N) (h : Ex M (pc + 3) L (.int (w.1 q j) :: st) N R w k n Q) : Ex M pc L (.ref q :: st) N R w k n Q := x_getV (.int (w.1 q j)) hd hf hk hq (fun b => by simp [fvB, ht, cvB]) h
theorem x_getL {idx q : Nat} (ci j : Nat) (hd : decode M.2.1 pc = .ok (.getfield idx, 3)) (hf : FGet M.1.cls idx ci j) (hk : kd q = .inr ci) (ht : ftl ci j = 1) (hq : q < N) (h : Ex M (pc + 3) L (.long (w.2 q j) :: st) N R w k n Q) : Ex M pc L (.ref q :: st) N R w k n Q := x_getV (.long (w.2 q j)) hd hf hk hq (fun b => by simp [fvB, ht, cvB]) h
theorem x_getR {idx q : Nat} (ci j q2 : Nat) (hd : decode M.2.1 pc = .ok (.getfield idx, 3)) (hf : FGet M.1.cls idx ci j) (hk : kd q = .inr ci) (ht : ftl ci j = 2) (hr : R q j = some q2) (hq : q < N) (h : Ex M (pc + 3) L (.ref q2 :: st) N R w k n Q) : Ex M pc L (.ref q :: st) N R w k n Q := x_getV (.ref q2) hd hf hk hq (fun b => by simp [fvB, ht, hr, cvB]) h
theorem x_putV {idx ci j q : Nat} {t : FieldType} {v : Value} {w' : Wd} (hd : decode M.2.1 pc = .ok (.putfield idx, 3)) (hf : FPut M.1.cls idx ci j t) (hk : kd q = .inr ci) (hq : q < N) (hn : ∀ b, narrow t (cvB b v) = cvB b v ∧ fits t (cvB b v) = true) (hv : ∀ b, fvB b R w' q (ftl ci j) j = cvB b v) (ho : ∀ b i, i ≠ j → fvB b R w' q (ftl ci i) i = fvB b R w q (ftl ci i) i) (hc : ∀ cA b p, p ≠ q → celB cA b R w' p = celB cA b R w p) (h : Ex M (pc + 3) L st N R w' k n Q) : Ex M pc L (v :: .ref q :: st) N R w k n Q := by
  intro p l e s m args below meth c D cA b H locs ls F hP hS hl
  obtain ⟨C, T, ty, ⟨k1, k2, k3, k4⟩, hj, hlk, hfin, hpt⟩ := hf
  have he : (wsB cA b N R w)[q]? = some (b + q, .inr (ci, fsB b R w q ci)) := by rw [wsB_at hq, celB_o hk]
  rcases hlk with hlk | ⟨host, hlk⟩
  · exact va_put (ref := (T j).1) F.1 F.2.1 (tb_us F.2.2.2.2.2.2.2.1 k2) (fun _ hw => hw) ty k3 k4 F.2.2.2.1 F.2.2.2.2.2.2.2.2.1 hP wsB_D hS q he k1 j hj (tb_use F.2.2.2.2.2.2.2.1 hlk rfl) (fun _ h9 => h9) hfin hpt (hn b).1 (hn b).2 (by rw [fsB_len]; exact hj) hd (fun H1 locs1 hP1 _ hS1 => h p l e s m args below meth c D cA b H1 locs1 ls F (wsB_set hq hP1 (by rw [celB_o hk, fsB_set (hv b) (ho b)]) (fun p hp => hc cA b p hp)) hS1 hl)
  · exact va_putN (ref := (T j).1) F.1 F.2.1 (tb_us F.2.2.2.2.2.2.2.1 k2) (fun _ hw => hw) ty k3 k4 F.2.2.2.1 F.2.2.2.2.2.2.2.2.1 hP wsB_D hS q he k1 j hj (tb_use F.2.2.2.2.2.2.2.1 hlk rfl) (fun _ h9 => h9) hfin hpt (hn b).1 (hn b).2 (by rw [fsB_len]; exact hj) hd (fun H1 locs1 hP1 _ hS1 => h p l e s m args below meth c D cA b H1 locs1 ls F (wsB_set hq hP1 (by rw [celB_o hk, fsB_set (hv b) (ho b)]) (fun p hp => hc cA b p hp)) hS1 hl)
theorem x_putI {idx q : Nat} (ci j : Nat) {x : Int32} (hd : decode M.2.1 pc = .ok (.putfield idx, 3)) (hf : FPut M.1.cls idx ci j .int) (hk : kd q = .inr ci) (ht : ftl ci j = 0) (hq : q < N) (h : Ex M (pc + 3) L st N R (upI w q j x) k n Q) : Ex M pc L (.int x :: .ref q :: st) N R w k n Q := x_putV hd hf hk hq (fun _ => ⟨rfl, rfl⟩) (fun b => by simp [fvB, ht, upI, cvB]) (fun b i hi => by simp [fvB, upI, hi]) (fun cA b p hp => celB_upI hp) h
theorem x_putZ {idx q : Nat} (ci j : Nat) {x : Int32} (hd : decode M.2.1 pc = .ok (.putfield idx, 3)) (hf : FPut M.1.cls idx ci j .boolean) (hk : kd q = .inr ci) (ht : ftl ci j = 0) (hq : q < N) (hx : narrow .boolean (.int x) = .int x ∧ fits .boolean (.int x) = true) (h : Ex M (pc + 3) L st N R (upI w q j x) k n Q) : Ex M pc L (.int x :: .ref q :: st) N R w k n Q := x_putV hd hf hk hq (fun _ => hx) (fun b => by simp [fvB, ht, upI, cvB]) (fun b i hi => by simp [fvB, upI, hi]) (fun cA b p hp => celB_upI hp) h
theorem x_putL {idx q : Nat} (ci j : Nat) {x : Int64} (hd : decode M.2.1 pc = .ok (.putfield idx, 3)) (hf : FPut M.1.cls idx ci j .long) (hk : kd q = .inr ci) (ht : ftl ci j = 1) (hq : q < N) (h : Ex M (pc + 3) L st N R (upL w q j x) k n Q) : Ex M pc L (.long x :: .ref q :: st) N R w k n Q := x_putV hd hf hk hq (fun _ => ⟨rfl, rfl⟩) (fun b => by simp [fvB, ht, upL, cvB]) (fun b i hi => by simp [fvB, upL, hi]) (fun cA b p hp => celB_upL hp) h
end XR
end
section
section XC
variable {p : Program} {l : Launch} {e : Env} {s : State} {m : MethodId} {args : Array Value} {below : List Frame} {meth : Method} {c : Code} {H : Heap} {locs : List Loc} {cells slots : Nat} {Qw : State → Prop} {RM : Room}
theorem W_sized {g : JFrame} (h : H.size ≤ s.heap.size + cells → W p l e RM s m args below meth c H locs cells slots Qw g) : W p l e RM s m args below meth c H locs cells slots Qw g := by
  intro T hT X
  have h1 : T.heap.size ≤ s.heap.size + cells := X.same.2.2.1
  rw [hT] at h1
  exact h h1 T hT X
theorem size_eq {D : va_G} {cA : Nat → ClassId} {b N k : Nat} {R : RefT} {w : Wd} (hb : b ≤ s.heap.size) (hN : s.heap.size + k = b + N) (hP : va_P D cls_ (wsB cA b N R w) H) (hS : va_S (fun q => b ≤ q) s.heap H locs) (hle : H.size ≤ s.heap.size + k) : H.size = b + N := by
  rcases Nat.eq_zero_or_pos N with h0 | h0
  · have := hS.1
    omega
  · have h1 := (hP (N - 1) _ (wsB_at (by omega))).lt
    simp only at h1
    omega
end XC
theorem cvB_list (b : Nat) (r : Option Value) (st : List Value) : (r.map (cvB b)).toList ++ st.map (cvB b) = (r.toList ++ st).map (cvB b) := by
  cases r <;> simp
section XD
variable {M : MI} {pc : Nat} {L L' : List (Nat × Value)} {st : List Value} {N : Nat} {R : RefT} {w : Wd} {k n : Nat} {Q : QT}
/-- a call's continuation -/
theorem run_go {M' : MI} {Q' : QT} {p : Program} {l : Launch} {e : Env} {s : State} {m : MethodId} {args : Array Value} {below : List Frame} {meth : Method} {c : Code} {D : va_G} {cA : Nat → ClassId} {b : Nat} {H : Heap} {locs : List Loc} {ls : Array Slot} {st0 : List Value} {a : Array Value}
    (F : FrC M D cA b N k p s m meth c) (hH : H.size = b + N) (hS : va_S (fun q => b ≤ q) s.heap H locs) (hl : lv_has ls M.2.2.1 (cLB b L))
    (hr : va_Run p l e M.2.2.2.2 s m args below meth c H locs k n M'.2.2.2.2.cells M'.2.2.2.2.slots (F0 m pc ls st0) (st.map (cvB b)) (QF M' b D cA Q' a) (fun q => b ≤ q))
    (hQ : ∀ r N' R' w', Q' r N' R' w' → Ex M (pc + 3) L (r.toList ++ st) N' R' w' (k + M'.2.2.2.2.cells) (n + M'.2.2.2.2.slots) Q) :
    W p l e M.2.2.2.2 s m args below meth c H locs k n (MQ below (QF M b D cA Q) args s M.2.2.2.2.cells M.2.2.2.2.slots (fun q => b ≤ q)) (F0 m pc ls st0) := by
  intro T hT X
  obtain ⟨v, st₀, t, T', Lc, h0, X', hL, e1, e2, ⟨⟨r, N', R', w', hv, hq, hHL⟩, hcel, hz, hk⟩, stp⟩ := hr T hT X
  have hv2 : v = r.map (cvB b) := by injection hv
  subst hv2
  rw [h0] at hcel hz hk
  obtain ⟨f1, f2, f3, f4, f5, f6, f7, f8, f9, f10, f11⟩ := F
  have hN' : s.heap.size + (k + M'.2.2.2.2.cells) = b + N' := by
    have := hHL.1
    omega
  obtain ⟨t2, a1, b1⟩ := hQ r N' R' w' hq p l e s m args below meth c D cA b T'.heap (locs ++ Lc) ls ⟨f1, f2, f3, f4, f5, f6, f7, f8, f9, f10, hN'⟩ (by rw [e1]; exact hHL.2.1)
    ⟨Nat.le_trans hS.1 (by rw [e1]; exact hz), fun q h1 h2 => by rw [e1, hk q (Nat.lt_of_lt_of_le h1 hS.1) h2]; exact hS.2.1 q h1 h2, fun q hq => by
      rcases List.mem_append.mp hq with h | h
      · exact hS.2.2 q h
      · exact hL q h⟩ hl T' rfl X'
  refine ⟨t2, stp t2 ?_, b1⟩
  show Steps p.tables e below (T'.setTop (F0 m (pc + 3) ls ((r.map (cvB b)).toList ++ st.map (cvB b)))) t2
  rw [cvB_list]
  exact a1
theorem blind_HL {D : va_G} {cA : Nat → ClassId} {b : Nat} {av : List Value} : FrameBlind (va_Pc av (HL D cA b N R w)) := by
  intro a U g mk hq
  obtain ⟨q0, q1, q2, q3, q4⟩ := hq
  exact ⟨q0, q1, q2, va_K.moved (u := U) (U := U.calling g mk a) (Vm.Alike.refl U.vm) q3, tb_same (s := U) (U := U.calling g mk a) rfl q4⟩
/-- what a call's facts are -/
def CC (M' : MI) (na : Nat) : Prop := Cond.code M'.1 M'.2.1 M'.2.2.1 M'.2.2.2.1 ∈ lw_tbl ∧ (M'.1.cls ≠ "java/lang/invoke/MethodHandle" ∧ M'.1.cls ≠ "java/lang/invoke/VarHandle") ∧ (parseMethodDescriptor M'.1.desc).map (fun d => d.parameters.length) = some na ∧ Cond.initialized M'.1.cls ∈ lw_tbl
def MLk (own : String) (idx : Nat) (M' : MI) : Prop := Cond.methodLink own idx M'.1 ∈ lw_tbl ∨ ∃ host, Cond.methodLinkNest own idx M'.1 host ∈ lw_tbl
def CV (M' : MI) (na : Nat) : Prop := CC M' na ∧ Cond.instanceMethod M'.1 ∈ lw_tbl ∧ Cond.selects M'.1.cls M'.1 M'.1 ∈ lw_tbl
def CS (M' : MI) (na : Nat) : Prop := CC M' na ∧ Cond.static M'.1 ∈ lw_tbl
def CI (M' : MI) (na : Nat) : Prop := CC M' na ∧ Cond.instanceMethod M'.1 ∈ lw_tbl ∧ M'.1.name = "<init>" ∧ M'.2.2.2.1 = none
def Fits (M' : MI) (M : MI) : Prop := M'.2.2.2.2.frames + 1 ≤ M.2.2.2.2.frames ∧ 8 + (M'.2.2.1 + 11) + M'.2.2.2.2.locals ≤ M.2.2.2.2.locals
theorem cc_len {M' : MI} {na : Nat} (h : (parseMethodDescriptor M'.1.desc).map (fun d => d.parameters.length) = some na) : ∀ sig, parseMethodDescriptor M'.1.desc = some sig → na = sig.parameters.length := by
  intro sig h2
  rw [h2] at h
  exact (Option.some.inj h).symm
theorem cc_ws {M' : MI} {s : State} (hT : TB s) (hc : Cond.code M'.1 M'.2.1 M'.2.2.1 M'.2.2.2.1 ∈ lw_tbl) : ∀ w ∈ [Cond.code M'.1 M'.2.1 M'.2.2.1 M'.2.2.2.1], ∀ (a' : Array Value) (U : State), s.WarmedH U.vm → w.before a' U = true := by
  intro w hw a' U hW
  rw [List.mem_singleton.mp hw]
  exact tb_use (tb_warm hW hT) hc rfl
theorem cvB_rev (b : Nat) (as : List Value) : (as.map (cvB b)).reverse = (as.reverse).map (cvB b) := by simp
theorem hl_pre {D : va_G} {cA : Nat → ClassId} {b : Nat} {s : State} {H : Heap} {av : List Value} (hH : H.size = b + N) (hP : va_P D cls_ (wsB cA b N R w) H) (hK : va_K D cls_ (tysB cA) s) (hT : TB s) : ∀ U : State, U.heap = H → s.WarmedH U.vm → va_Pc av (HL D cA b N R w) av.toArray U :=
  fun U hU hW => ⟨rfl, by rw [hU]; exact hH, by rw [hU]; exact hP, va_K.moved hW.alike hK, tb_warm hW hT⟩
theorem x_callV {idx q na ci : Nat} (M' : MI) (as : List Value) (hd : decode M.2.1 pc = .ok (.invokevirtual idx, 3)) (hlk : MLk M.1.cls idx M') (hc : CV M' na) (hk : kd q = .inr ci) (hcn : (cls_[ci]?).map (fun x => x.1) = some M'.1.cls) (hq : q < N) (hn : as.length = na) (hw : (st.map fun v => v.category).sum ≤ 8) (hR : Fits M' M) (hf : k + M'.2.2.2.2.cells ≤ M.2.2.2.2.cells ∧ n + M'.2.2.2.2.slots ≤ M.2.2.2.2.slots)
    (h : Runs M' (.ref q :: as) N R w (fun r N' R' w' => Ex M (pc + 3) L (r.toList ++ st) N' R' w' (k + M'.2.2.2.2.cells) (n + M'.2.2.2.2.slots) Q)) : Ex M pc L (as.reverse ++ .ref q :: st) N R w k n Q := by
  intro p l e s m args below meth c D cA b H locs ls F hP hS hl
  obtain ⟨f1, f2, f3, f4, f5, f6, f7, f8, f9, f10, f11⟩ := F
  refine W_sized (fun hle => ?_)
  have hH := size_eq f10 f11 hP hS hle
  obtain ⟨⟨c1, c2, c3, c4⟩, c5, c6⟩ := hc
  obtain ⟨x, hx, hxn⟩ : ∃ x, cls_[ci]? = some x ∧ x.1 = M'.1.cls := by
    cases hx : cls_[ci]? with
    | none => rw [hx] at hcn; cases hcn
    | some x => rw [hx] at hcn; exact ⟨x, rfl, Option.some.inj hcn⟩
  have hrec := va_recv f9 hP hx (show (wsB cA b N R w)[q]? = some (b + q, .inr (ci, fsB b R w q ci)) by rw [wsB_at hq, celB_o hk])
  rw [hxn] at hrec
  have hst : ((as.reverse ++ .ref q :: st).map (cvB b)) = (as.map (cvB b)).reverse ++ .ref (b + q) :: st.map (cvB b) := by simp [cvB]
  have hww : ((st.map (cvB b)).map fun v => v.category).sum ≤ 8 := by
    rw [List.map_map, show ((fun v : Value => v.category) ∘ cvB b) = (fun v => v.category) from funext (fun v => cvB_cat b v)]
    exact hw
  rw [hst]
  have hpre := hl_pre (av := (.ref q :: as).map (cvB b)) hH hP f9 f8
  rcases hlk with hlk | ⟨host, hlk⟩
  · exact run_go ⟨f1, f2, f3, f4, f5, f6, f7, f8, f9, f10, f11⟩ hH hS hl
      (va_runV (C := M'.1.cls) (bytes := M'.2.1) (maxL := M'.2.2.1) (ret := M'.2.2.2.1) (nL := M.2.2.1) (own := M.1.cls) (Ts := []) (n := na) (As := as.map (cvB b)) (rest := st.map (cvB b)) ⟨f1, f2, f3, f4, fun _ h9 => by cases h9⟩ (h l D cA b)
        ⟨⟨rfl, rfl, hR.1, hR.2, cc_ws f8 c1, List.mem_singleton.mpr rfl, tb_use f8 c1 rfl, tb_use f8 c4 rfl, c2, cc_len c3, tb_use f8 hlk rfl⟩, tb_use f8 c5 rfl, tb_use f8 c6 rfl⟩
        ⟨blind_HL, hrec, hpre⟩ rfl (by rw [List.length_map]; exact hn) hl.1 rfl (lv_room hww) hd hf) (fun _ _ _ _ z => z)
  · exact run_go ⟨f1, f2, f3, f4, f5, f6, f7, f8, f9, f10, f11⟩ hH hS hl
      (va_runVN (host := host) (C := M'.1.cls) (bytes := M'.2.1) (maxL := M'.2.2.1) (ret := M'.2.2.2.1) (nL := M.2.2.1) (own := M.1.cls) (Ts := []) (n := na) (As := as.map (cvB b)) (rest := st.map (cvB b)) ⟨f1, f2, f3, f4, fun _ h9 => by cases h9⟩ (h l D cA b)
        ⟨⟨⟨rfl, rfl, hR.1, hR.2, cc_ws f8 c1, List.mem_singleton.mpr rfl⟩, tb_use f8 c1 rfl, tb_use f8 c4 rfl, c2, cc_len c3, tb_use f8 hlk rfl⟩, tb_use f8 c5 rfl, tb_use f8 c6 rfl⟩
        ⟨blind_HL, hrec, hpre⟩ rfl (by rw [List.length_map]; exact hn) hl.1 rfl (lv_room hww) hd hf) (fun _ _ _ _ z => z)
theorem x_callS {idx na : Nat} (M' : MI) (as : List Value) (hd : decode M.2.1 pc = .ok (.invokestatic idx, 3)) (hlk : MLk M.1.cls idx M') (hc : CS M' na) (hn : as.length = na) (hw : (st.map fun v => v.category).sum ≤ 8) (hR : Fits M' M) (hf : k + M'.2.2.2.2.cells ≤ M.2.2.2.2.cells ∧ n + M'.2.2.2.2.slots ≤ M.2.2.2.2.slots)
    (h : Runs M' as N R w (fun r N' R' w' => Ex M (pc + 3) L (r.toList ++ st) N' R' w' (k + M'.2.2.2.2.cells) (n + M'.2.2.2.2.slots) Q)) : Ex M pc L (as.reverse ++ st) N R w k n Q := by
  intro p l e s m args below meth c D cA b H locs ls F hP hS hl
  obtain ⟨f1, f2, f3, f4, f5, f6, f7, f8, f9, f10, f11⟩ := F
  refine W_sized (fun hle => ?_)
  have hH := size_eq f10 f11 hP hS hle
  obtain ⟨⟨c1, c2, c3, c4⟩, c5⟩ := hc
  have hst : ((as.reverse ++ st).map (cvB b)) = (as.map (cvB b)).reverse ++ st.map (cvB b) := by simp
  have hww : ((st.map (cvB b)).map fun v => v.category).sum ≤ 8 := by
    rw [List.map_map, show ((fun v : Value => v.category) ∘ cvB b) = (fun v => v.category) from funext (fun v => cvB_cat b v)]
    exact hw
  rw [hst]
  have hpre := hl_pre (av := as.map (cvB b)) hH hP f9 f8
  rcases hlk with hlk | ⟨host, hlk⟩
  · exact run_go ⟨f1, f2, f3, f4, f5, f6, f7, f8, f9, f10, f11⟩ hH hS hl
      (va_runS (bytes := M'.2.1) (maxL := M'.2.2.1) (ret := M'.2.2.2.1) (nL := M.2.2.1) (own := M.1.cls) (Ts := []) (n := na) (As := as.map (cvB b)) (rest := st.map (cvB b)) ⟨f1, f2, f3, f4, fun _ h9 => by cases h9⟩ (h l D cA b)
        ⟨⟨rfl, rfl, hR.1, hR.2, cc_ws f8 c1, List.mem_singleton.mpr rfl, tb_use f8 c1 rfl, tb_use f8 c4 rfl, c2, cc_len c3, tb_use f8 hlk rfl⟩, tb_use f8 c5 rfl⟩
        ⟨blind_HL, hpre⟩ rfl (by rw [List.length_map]; exact hn) hl.1 rfl (lv_room hww) hd hf) (fun _ _ _ _ z => z)
  · exact run_go ⟨f1, f2, f3, f4, f5, f6, f7, f8, f9, f10, f11⟩ hH hS hl
      (va_runSN (host := host) (bytes := M'.2.1) (maxL := M'.2.2.1) (ret := M'.2.2.2.1) (nL := M.2.2.1) (own := M.1.cls) (Ts := []) (n := na) (As := as.map (cvB b)) (rest := st.map (cvB b)) ⟨f1, f2, f3, f4, fun _ h9 => by cases h9⟩ (h l D cA b)
        ⟨⟨⟨rfl, rfl, hR.1, hR.2, cc_ws f8 c1, List.mem_singleton.mpr rfl⟩, tb_use f8 c1 rfl, tb_use f8 c4 rfl, c2, cc_len c3, tb_use f8 hlk rfl⟩, tb_use f8 c5 rfl, trivial⟩
        ⟨blind_HL, hpre⟩ rfl (by rw [List.length_map]; exact hn) hl.1 rfl (lv_room hww) hd hf) (fun _ _ _ _ z => z)
theorem x_callI {idx q na : Nat} (M' : MI) (as : List Value) (hd : decode M.2.1 pc = .ok (.invokespecial idx, 3)) (hlk : MLk M.1.cls idx M') (hc : CI M' na) (hn : as.length = na) (hw : (st.map fun v => v.category).sum ≤ 8) (hR : Fits M' M) (hf : k + M'.2.2.2.2.cells ≤ M.2.2.2.2.cells ∧ n + M'.2.2.2.2.slots ≤ M.2.2.2.2.slots)
    (h : Runs M' (.ref q :: as) N R w (fun r N' R' w' => Ex M (pc + 3) L (r.toList ++ st) N' R' w' (k + M'.2.2.2.2.cells) (n + M'.2.2.2.2.slots) Q)) : Ex M pc L (as.reverse ++ .ref q :: st) N R w k n Q := by
  intro p l e s m args below meth c D cA b H locs ls F hP hS hl
  obtain ⟨f1, f2, f3, f4, f5, f6, f7, f8, f9, f10, f11⟩ := F
  refine W_sized (fun hle => ?_)
  have hH := size_eq f10 f11 hP hS hle
  obtain ⟨⟨c1, c2, c3, c4⟩, c5, c6, c7⟩ := hc
  have hst : ((as.reverse ++ .ref q :: st).map (cvB b)) = (as.map (cvB b)).reverse ++ .ref (b + q) :: st.map (cvB b) := by simp [cvB]
  have hww : ((st.map (cvB b)).map fun v => v.category).sum ≤ 8 := by
    rw [List.map_map, show ((fun v : Value => v.category) ∘ cvB b) = (fun v => v.category) from funext (fun v => cvB_cat b v)]
    exact hw
  rw [hst]
  have hpre := hl_pre (av := (.ref q :: as).map (cvB b)) hH hP f9 f8
  have c1' : Cond.code M'.1 M'.2.1 M'.2.2.1 none ∈ lw_tbl := c7 ▸ c1
  have hw1 := cc_ws f8 c1
  have hmem : Cond.code M'.1 M'.2.1 M'.2.2.1 none ∈ [Cond.code M'.1 M'.2.1 M'.2.2.1 M'.2.2.2.1] := by rw [c7]; exact List.mem_singleton.mpr rfl
  rcases hlk with hlk | ⟨host, hlk⟩
  · exact run_go ⟨f1, f2, f3, f4, f5, f6, f7, f8, f9, f10, f11⟩ hH hS hl
      (va_runI (bytes := M'.2.1) (maxL := M'.2.2.1) (nL := M.2.2.1) (own := M.1.cls) (Ts := []) (n := na) (b := b + q) (As := as.map (cvB b)) (rest := st.map (cvB b)) ⟨f1, f2, f3, f4, fun _ h9 => by cases h9⟩ (h l D cA b)
        ⟨⟨rfl, rfl, hR.1, hR.2, hw1, hmem, tb_use f8 c1' rfl, tb_use f8 c4 rfl, c2, cc_len c3, tb_use f8 hlk rfl⟩, c6, tb_use f8 c5 rfl⟩
        ⟨blind_HL, hpre⟩ rfl (by rw [List.length_map]; exact hn) hl.1 rfl (lv_room hww) hd hf) (fun _ _ _ _ z => z)
  · exact run_go ⟨f1, f2, f3, f4, f5, f6, f7, f8, f9, f10, f11⟩ hH hS hl
      (va_runIN (host := host) (bytes := M'.2.1) (maxL := M'.2.2.1) (nL := M.2.2.1) (own := M.1.cls) (Ts := []) (n := na) (b := b + q) (As := as.map (cvB b)) (rest := st.map (cvB b)) ⟨f1, f2, f3, f4, fun _ h9 => by cases h9⟩ (h l D cA b)
        ⟨⟨⟨rfl, rfl, hR.1, hR.2, hw1, hmem⟩, tb_use f8 c1' rfl, tb_use f8 c4 rfl, c2, cc_len c3, tb_use f8 hlk rfl⟩, c6, tb_use f8 c5 rfl⟩
        ⟨blind_HL, hpre⟩ rfl (by rw [List.length_map]; exact hn) hl.1 rfl (lv_room hww) hd hf) (fun _ _ _ _ z => z)
/-- the ends -/
theorem ret_QF {p : Program} {s t : State} {m : MethodId} {meth : Method} {c : Code} {D : va_G} {cA : Nat → ClassId} {b : Nat} {H : Heap} {locs : List Loc} {args : Array Value} {r : Option Value} (F : FrC M D cA b N k p s m meth c) (hH : H.size = b + N) (hP : va_P D cls_ (wsB cA b N R w) H) (hS : va_S (fun q => b ≤ q) s.heap H locs) (hk : k = M.2.2.2.2.cells) (h : Q r N R w) (ht : t.heap = H) (hW : s.WarmedH t.vm) : QF M b D cA Q args s (.returned (r.map (cvB b))) t := by
  obtain ⟨f1, f2, f3, f4, f5, f6, f7, f8, f9, f10, f11⟩ := F
  exact ⟨⟨r, N, R, w, rfl, h, by rw [ht]; exact hH, by rw [ht]; exact hP, va_K.moved hW.alike f9, tb_warm hW f8⟩, by rw [ht, hH]; omega, hS.F ht⟩
theorem x_iret {x : Int32} (hd : decode M.2.1 pc = .ok (.ireturn, 1)) (hr : M.2.2.2.1 = some .int) (hk : k = M.2.2.2.2.cells) (hn : n ≤ M.2.2.2.2.slots) (h : Q (some (.int x)) N R w) : Ex M pc L [.int x] N R w k n Q := by
  intro p l e s m args below meth c D cA b H locs ls F hP hS hl
  refine W_sized (fun hle => ?_)
  have hH := size_eq F.2.2.2.2.2.2.2.2.2.1 F.2.2.2.2.2.2.2.2.2.2 hP hS hle
  refine W.widen (k := M.2.2.2.2.cells) (n := M.2.2.2.2.slots) (Nat.le_of_eq hk) hn ?_
  exact W.iret (v := x) F.1 F.2.1 (F.2.2.2.2.2.1.trans hr) (fun t ht hW => ret_QF F hH hP hS hk h ht hW) hS.2.2 hd (hlocks := F.2.2.2.2.1)
theorem x_zret {x : Int32} (hd : decode M.2.1 pc = .ok (.ireturn, 1)) (hr : M.2.2.2.1 = some .boolean) (hx : narrow .boolean (.int x) = .int x) (hk : k = M.2.2.2.2.cells) (hn : n ≤ M.2.2.2.2.slots) (h : Q (some (.int x)) N R w) : Ex M pc L [.int x] N R w k n Q := by
  intro p l e s m args below meth c D cA b H locs ls F hP hS hl
  refine W_sized (fun hle => ?_)
  have hH := size_eq F.2.2.2.2.2.2.2.2.2.1 F.2.2.2.2.2.2.2.2.2.2 hP hS hle
  refine W.widen (k := M.2.2.2.2.cells) (n := M.2.2.2.2.slots) (Nat.le_of_eq hk) hn ?_
  exact W.zret (v := x) F.1 F.2.1 (F.2.2.2.2.2.1.trans hr) hx (fun t ht hW => ret_QF F hH hP hS hk h ht hW) hS.2.2 hd (hlocks := F.2.2.2.2.1)
theorem x_lret {x : Int64} (hd : decode M.2.1 pc = .ok (.lreturn, 1)) (hr : M.2.2.2.1 = some .long) (hk : k = M.2.2.2.2.cells) (hn : n ≤ M.2.2.2.2.slots) (h : Q (some (.long x)) N R w) : Ex M pc L [.long x] N R w k n Q := by
  intro p l e s m args below meth c D cA b H locs ls F hP hS hl
  refine W_sized (fun hle => ?_)
  have hH := size_eq F.2.2.2.2.2.2.2.2.2.1 F.2.2.2.2.2.2.2.2.2.2 hP hS hle
  refine W.widen (k := M.2.2.2.2.cells) (n := M.2.2.2.2.slots) (Nat.le_of_eq hk) hn ?_
  exact W.lret (v := x) F.1 F.2.1 (F.2.2.2.2.2.1.trans hr) (fun t ht hW => ret_QF F hH hP hS hk h ht hW) hS.2.2 hd (hlocks := F.2.2.2.2.1)
theorem x_vret (hd : decode M.2.1 pc = .ok (.return_, 1)) (hr : M.2.2.2.1 = none) (hk : k = M.2.2.2.2.cells) (hn : n ≤ M.2.2.2.2.slots) (h : Q none N R w) : Ex M pc L [] N R w k n Q := by
  intro p l e s m args below meth c D cA b H locs ls F hP hS hl
  refine W_sized (fun hle => ?_)
  have hH := size_eq F.2.2.2.2.2.2.2.2.2.1 F.2.2.2.2.2.2.2.2.2.2 hP hS hle
  refine W.widen (k := M.2.2.2.2.cells) (n := M.2.2.2.2.slots) (Nat.le_of_eq hk) hn ?_
  exact W.vret F.1 F.2.1 (F.2.2.2.2.2.1.trans hr) (fun t ht hW => ret_QF (r := none) F hH hP hS hk h ht hW) hS.2.2 hd (hlocks := F.2.2.2.2.1)
theorem x_aret {q : Nat} {nm : String} (hd : decode M.2.1 pc = .ok (.areturn, 1)) (hr : M.2.2.2.1 = some (.object nm)) (hk : k = M.2.2.2.2.cells) (hn : n ≤ M.2.2.2.2.slots) (h : Q (some (.ref q)) N R w) : Ex M pc L [.ref q] N R w k n Q := by
  intro p l e s m args below meth c D cA b H locs ls F hP hS hl
  refine W_sized (fun hle => ?_)
  have hH := size_eq F.2.2.2.2.2.2.2.2.2.1 F.2.2.2.2.2.2.2.2.2.2 hP hS hle
  refine W.widen (k := M.2.2.2.2.cells) (n := M.2.2.2.2.slots) (Nat.le_of_eq hk) hn ?_
  exact W.aret (v := .ref (b + q)) F.1 F.2.1 (F.2.2.2.2.2.1.trans hr) (Or.inl ⟨_, rfl⟩) (Or.inr ⟨_, rfl⟩) (fun t ht hW => ret_QF (r := some (.ref q)) F hH hP hS hk h ht hW) hS.2.2 hd (hlocks := F.2.2.2.2.1)
/-- a method's contract out of its walk -/
theorem cLB_args (b : Nat) : ∀ (i : Nat) (as : List Value), lv_args i (as.map (cvB b)) = cLB b (lv_args i as)
  | _, [] => rfl
  | i, v :: vs => by
    simp only [List.map_cons, lv_args, cLB, cvB_cat]
    congr 1
    exact cLB_args b _ vs
theorem lg_sl_len (b : Nat) : ∀ as : List Value, (lg_sl (as.map (cvB b))).length = (lg_sl as).length
  | [] => rfl
  | v :: vs => by
    have ih := lg_sl_len b vs
    simp only [lg_sl, List.map_cons, List.flatMap_cons, List.length_append] at ih ⊢
    rw [ih, cvB_cat]
    congr 1
    split <;> rfl
theorem runs_of {as : List Value} (hy : plainName M.1.cls = true) (hlen : (lg_sl as).length ≤ M.2.2.1) (hL : lv_args 0 as = L) (h : Ex M 0 L [] N R w 0 0 Q) : Runs M as N R w Q := by
  intro l D cA b
  refine Met.ofW (cc := M.2.1) (maxL := M.2.2.1) (ret := M.2.2.2.1) hy rfl ?_
  intro p e s m args below meth c s₁ B hml hv
  obtain ⟨rfl, h1, h2, h3, h4⟩ := hv
  have hlen2 : (lg_sl (as.map (cvB b))).length ≤ M.2.2.1 := by rw [lg_sl_len]; exact hlen
  have hl := lv_entry (as.map (cvB b)) (n := M.2.2.1) hlen2
  rw [lg_entry_eq]
  rw [cLB_args, hL] at hl
  exact h p l e s m _ below meth c D cA b s.heap [] _ ⟨B.exec, B.bytes, hml, findClass_of_methodNamed B.named, B.notSynchronized, B.returns, (name_of_methodNamed B.named B.method).1, h4, h3, by omega, by omega⟩ h2 va_S.rf hl
theorem Met_mono {l : Launch} {y : MethodName} {ws : List Cond} {rm : Room} {Pc : Array Value → State → Prop} {Qc Qc' : Array Value → State → Outcome → State → Prop} {mc ms : Nat} {free : Addr → Prop} (h : Met l y ws rm Pc Qc mc ms free) (hQ : ∀ a st o t, Qc a st o t → Qc' a st o t) : Met l y ws rm Pc Qc' mc ms free := by
  intro p e ha hc hk s m args below hf hap hP hK
  obtain ⟨t, o, h1, h2, h3, h4, h5⟩ := h p e ha hc hk s m args below hf hap hP hK
  exact ⟨t, o, h1, h2, h3, hQ _ _ _ _ h4, h5⟩
theorem Runs.mono {as : List Value} {Q' : QT} (h : Runs M as N R w Q) (hQ : ∀ r N' R' w', Q r N' R' w' → Q' r N' R' w') : Runs M as N R w Q' := fun l D cA b => Met_mono (h l D cA b) (fun a st o t hq => by
  obtain ⟨⟨r, N', R', w', e1, e2, e3⟩, e4⟩ := hq
  exact ⟨⟨r, N', R', w', e1, hQ _ _ _ _ e2, e3⟩, e4⟩)
end XD
end
section
section XM
variable {M : MI} {pc : Nat} {L L' : List (Nat × Value)} {st : List Value} {N : Nat} {R : RefT} {w : Wd} {k n : Nat} {Q : QT}
/-- System.arraycopy of longs -/
def cpL (w : Wd) (q0 q1 sp dp c : Nat) : Wd := (w.1, fun p => if p = q1 then va_cpy (w.2 q0) (w.2 q1) sp dp c else w.2 p)
theorem celB_cpL {cA : Nat → ClassId} {b : Nat} {q0 q1 sp dp c p : Nat} (h : p ≠ q1) : celB cA b R (cpL w q0 q1 sp dp c) p = celB cA b R w p := by
  simp [celB, arB, fsB, fvB, cpL, h]
theorem sum_cat (b : Nat) (st : List Value) : ((st.map (cvB b)).map fun v => v.category).sum = (st.map fun v => v.category).sum := by
  rw [List.map_map, show ((fun v : Value => v.category) ∘ cvB b) = (fun v => v.category) from funext (fun v => cvB_cat b v)]
def CpOK (own : String) (idx : Nat) : Prop := Cond.methodLink own idx arraycopyName ∈ lw_tbl ∧ Cond.native arraycopyName ∈ lw_tbl ∧ Cond.static arraycopyName ∈ lw_tbl ∧ Cond.initialized "java/lang/System" ∈ lw_tbl
theorem x_copy {idx q0 q1 l0 l1 : Nat} {sp dp c : Int32} (hd : decode M.2.1 pc = .ok (.invokestatic idx, 3)) (hc : CpOK M.1.cls idx) (hk0 : kd q0 = .inl (1, l0)) (hk1 : kd q1 = .inl (1, l1)) (hq0 : q0 < N) (hq1 : q1 < N) (h1 : ¬ sp < 0) (h2 : ¬ dp < 0) (h3 : ¬ c < 0) (h4 : sp.toNatClampNeg + c.toNatClampNeg ≤ l0) (h5 : dp.toNatClampNeg + c.toNatClampNeg ≤ l1)
    (hw : (st.map fun v => v.category).sum ≤ 8) (hR : 1 ≤ M.2.2.2.2.frames ∧ 26 ≤ M.2.2.2.2.locals) (h : Ex M (pc + 3) L st N R (cpL w q0 q1 sp.toNatClampNeg dp.toNatClampNeg c.toNatClampNeg) k n Q) : Ex M pc L (.int c :: .int dp :: .ref q1 :: .int sp :: .ref q0 :: st) N R w k n Q := by
  intro p l e s m args below meth cd D cA b H locs ls F hP hS hl
  obtain ⟨c1, c2, c3, c4⟩ := hc
  have hT := F.2.2.2.2.2.2.2.1
  refine va_copyl (n0 := l0) (n1 := l1) (f := w.2 q0) (g := w.2 q1) (c0 := cA 1) (c1 := cA 1) (ty := .long) F.1 F.2.1 (F.2.2.1.trans hl.1.symm) F.2.2.2.1 (tb_use hT c1 rfl) (tb_use hT c2 rfl) (tb_use hT c3 rfl) (tb_use hT c4 rfl) F.2.2.2.2.2.2.2.2.1 hP wsB_D hS q0 q1 1 1 (by rw [wsB_at hq0, celB_a hk0]; rfl) (by rw [wsB_at hq1, celB_a hk1]; rfl) rfl rfl rfl h1 h2 h3 h4 h5 (fun _ _ => rfl) hR.1 ?_ hd (fun H1 locs1 hP1 _ hS1 => h p l e s m args below meth cd D cA b H1 locs1 ls F (wsB_set hq1 hP1 ?_ (fun p hp => celB_cpL hp)) hS1 hl)
  · rw [sum_cat, show nativeFrameWords "java/lang/System" "arraycopy" 5 = 7 from by decide +kernel]
    omega
  · rw [celB_a hk1]
    simp [arB, cpL]
/-- Object's own constructor -/
theorem x_obj {idx q : Nat} (hd : decode M.2.1 pc = .ok (.invokespecial idx, 3)) (hc : Cond.methodLink M.1.cls idx Lib.objectInit ∈ lw_tbl ∧ Cond.instanceMethod Lib.objectInit ∈ lw_tbl ∧ Cond.code Lib.objectInit ⟨#[0xb1]⟩ 1 none ∈ lw_tbl) (hw : (st.map fun v => v.category).sum ≤ 8) (hR : 1 ≤ M.2.2.2.2.frames ∧ 20 ≤ M.2.2.2.2.locals) (h : Ex M (pc + 3) L st N R w k n Q) : Ex M pc L (.ref q :: st) N R w k n Q := by
  intro p l e s m args below meth c D cA b H locs ls F hP hS hl
  have hT := F.2.2.2.2.2.2.2.1
  refine W.objInit (rest := st.map (cvB b)) F.1 F.2.1 F.2.2.2.1 (tb_use hT hc.1 rfl) (tb_use hT hc.2.1 rfl) (tb_use hT hc.2.2 rfl) rfl (hl.1.trans F.2.2.1.symm) rfl hd hR.1 ?_ (h p l e s m args below meth c D cA b H locs ls F hP hS hl)
  rw [sum_cat]
  show 2 * 0 + _ + 12 ≤ _
  omega
theorem fresh_eq {b N q : Nat} {cA : Nat → ClassId} {e : va_E} {H1 : Heap} {D : va_G} (hP : va_P D cls_ (wsB cA b N R w ++ [(q, e)]) H1) (hD : va_D (fun q => b ≤ q) (wsB cA b N R w ++ [(q, e)])) (hz : H1.size ≤ b + N + 1) : q = b + N := by
  have hlen : (wsB cA b N R w).length = N := by simp [wsB]
  have hlast : (wsB cA b N R w ++ [(q, e)])[N]? = some (q, e) := by
    rw [List.getElem?_append_right (by omega), hlen, Nat.sub_self]
    rfl
  have h1 : q < H1.size := (hP N _ hlast).lt
  have h2 : b ≤ q := hD.2 N _ hlast
  rcases Nat.lt_or_ge q (b + N) with h3 | h3
  · exfalso
    have hi : q - b < N := by omega
    have hl : (wsB cA b N R w ++ [(q, e)])[q - b]? = some (b + (q - b), celB cA b R w (q - b)) := by
      rw [List.getElem?_append_left (by omega), wsB_at hi]
    have := hD.1 (q - b) N _ _ hl hlast (by simp; omega)
    omega
  · omega
theorem wsB_push {D : va_G} {cA : Nat → ClassId} {b : Nat} {e : va_E} {H : Heap} (hP : va_P D cls_ (wsB cA b N R w ++ [(b + N, e)]) H) (he : celB cA b R w N = e) : va_P D cls_ (wsB cA b (N + 1) R w) H := by
  intro j x hx
  obtain ⟨hj, rfl⟩ := wsB_inv hx
  have hlen : (wsB cA b N R w).length = N := by simp [wsB]
  refine hP j _ ?_
  rcases Nat.lt_or_ge j N with h | h
  · rw [List.getElem?_append_left (by omega), wsB_at h]
  · have : j = N := by omega
    subst this
    rw [List.getElem?_append_right (by omega), hlen, Nat.sub_self, he]
    rfl
theorem FrC_up {p : Program} {s : State} {m : MethodId} {meth : Method} {c : Code} {D : va_G} {cA : Nat → ClassId} {b : Nat} (F : FrC M D cA b N k p s m meth c) : FrC M D cA b (N + 1) (k + 1) p s m meth c := by
  obtain ⟨f1, f2, f3, f4, f5, f6, f7, f8, f9, f10, f11⟩ := F
  exact ⟨f1, f2, f3, f4, f5, f6, f7, f8, f9, f10, by omega⟩
def NewOK (own : String) (idx ci : Nat) : Prop := ∃ (C : String) (T : u_T) (ty : Nat → FieldType), KndOK ci C T ty ∧ Cond.classLink own idx C ∈ lw_tbl ∧ Cond.instantiable C (nfl ci) ∈ lw_tbl ∧ Cond.initialized C ∈ lw_tbl ∧ ∀ j, j < nfl ci → defaultValue (ty j) = if ftl ci j = 0 then .int 0 else if ftl ci j = 1 then .long 0 else .null
theorem x_new {idx : Nat} (ci : Nat) (hd : decode M.2.1 pc = .ok (.new idx, 3)) (hc : NewOK M.1.cls idx ci) (hk : kd N = .inr ci) (h0 : (∀ j, w.1 N j = 0) ∧ (∀ j, w.2 N j = 0) ∧ ∀ j, R N j = none) (hcells : k + 1 ≤ M.2.2.2.2.cells) (hslots : n + nfl ci ≤ M.2.2.2.2.slots) (h : Ex M (pc + 3) L (.ref N :: st) (N + 1) R w (k + 1) (n + nfl ci) Q) : Ex M pc L st N R w k n Q := by
  intro p l e s m args below meth c D cA b H locs ls F hP hS hl
  obtain ⟨C, T, ty, ⟨k1, k2, k3, k4⟩, c1, c2, c3, c4⟩ := hc
  have hT := F.2.2.2.2.2.2.2.1
  have hb := F.2.2.2.2.2.2.2.2.2.1
  have hsz := F.2.2.2.2.2.2.2.2.2.2
  refine va_new (fs := fsB b R w N ci) (A := fun q => b ≤ q) F.1 F.2.1 (tb_us hT k2) (fun _ hw => hw) ty k3 F.2.2.2.1 (tb_use hT c1 rfl) (tb_use hT c2 rfl) (tb_use hT c3 rfl) F.2.2.2.2.2.2.2.2.1 hP wsB_D hS (fun q hq => Nat.le_trans hb hq) k1 ?_ hcells hslots hd (fun q H1 hP1 hD1 hS1 => W_sized (fun hle => ?_))
  · intro j hj
    rw [c4 j hj]
    simp only [vp_V, List.getD_eq_getElem?_getD, fsB_at hj, Option.getD_some, fvB, h0.1, h0.2.1, h0.2.2]
  · have hq := fresh_eq hP1 hD1 (by omega)
    subst hq
    exact h p l e s m args below meth c D cA b H1 locs ls (FrC_up F) (wsB_push hP1 (celB_o hk)) hS1 hl
theorem x_newa {t len : Nat} {i : Int32} (at_ : ArrayType) (hd : decode M.2.1 pc = .ok (.newarray at_, 2)) (ha : Cond.arrayClass (newarray.typeOf at_) ∈ lw_tbl) (ht : t < 4) (hty : newarray.typeOf at_ = aty t) (hi : ¬ i < 0) (hn : i.toNatClampNeg = len) (hby : len * componentBytes (aty t) ≤ 536870912) (hk : kd N = .inl (t, len)) (h0 : (∀ j, w.1 N j = 0) ∧ (∀ j, w.2 N j = 0)) (hcells : k + 1 ≤ M.2.2.2.2.cells) (hslots : n + len ≤ M.2.2.2.2.slots) (h : Ex M (pc + 2) L (.ref N :: st) (N + 1) R w (k + 1) (n + len) Q) : Ex M pc L (.int i :: st) N R w k n Q := by
  intro p l e s m args below meth c D cA b H locs ls F hP hS hl
  have hT := F.2.2.2.2.2.2.2.1
  have hK := F.2.2.2.2.2.2.2.2.1
  have hb := F.2.2.2.2.2.2.2.2.2.1
  have hsz := F.2.2.2.2.2.2.2.2.2.2
  refine va_newa (a0 := arB w N t len) (ty := aty t) (N' := len) (A := fun q => b ≤ q) F.1 F.2.1 (tb_use hT ha rfl) hty hK hP wsB_D hS (fun q hq => Nat.le_trans hb hq) ?_ hi hn hby hcells hslots hd (fun q cA2 H1 hK1 hP1 hD1 hS1 => W_sized (fun hle => ?_))
  · intro cA2
    rcases t with _ | _ | _ | _ | t
    · simp [arB, vp_cell, aty, defaultValue, h0.1]
    · simp [arB, vp_cell, aty, defaultValue, h0.2]
    · simp [arB, vp_cell, aty, defaultValue, h0.1]
    · simp [arB, vp_cell, aty, defaultValue, h0.1]
    · omega
  · have hq := fresh_eq hP1 hD1 (by omega)
    subst hq
    have h1 := (hK1.2 4 (cA2, aty t) rfl).2
    have hcA : cA2 = cA t := by
      rcases t with _ | _ | _ | _ | t
      · exact Option.some.inj (h1.symm.trans (hK.2 0 _ rfl).2)
      · exact Option.some.inj (h1.symm.trans (hK.2 1 _ rfl).2)
      · exact Option.some.inj (h1.symm.trans (hK.2 2 _ rfl).2)
      · exact Option.some.inj (h1.symm.trans (hK.2 3 _ rfl).2)
      · omega
    subst hcA
    exact h p l e s m args below meth c D cA b H1 locs ls (FrC_up F) (wsB_push hP1 (celB_a hk)) hS1 hl
theorem x_putF {idx q q2 : Nat} (ci j : Nat) {t : FieldType} (hd : decode M.2.1 pc = .ok (.putfield idx, 3)) (hnm : M.1.name = "<init>") (hf : FPutF M.1.cls idx ci j t) (hk : kd q = .inr ci) (hft : ftl ci j = 2) (hq : q < N) (hn : ∀ a, narrow t (.ref a) = .ref a ∧ fits t (.ref a) = true) (h : Ex M (pc + 3) L st N (upR R q j q2) w k n Q) : Ex M pc L (.ref q2 :: .ref q :: st) N R w k n Q := by
  intro p l e s m args below meth c D cA b H locs ls F hP hS hl
  obtain ⟨C, T, ty, ⟨k1, k2, k3, k4⟩, hj, hlk, hfin, hown, hpt⟩ := hf
  have hT := F.2.2.2.2.2.2.2.1
  have he : (wsB cA b N R w)[q]? = some (b + q, .inr (ci, fsB b R w q ci)) := by rw [wsB_at hq, celB_o hk]
  refine va_putF (ref := (T j).1) (v := .ref (b + q2)) F.1 F.2.1 (tb_us hT k2) (fun _ hw => hw) ty k3 k4 F.2.2.2.1 F.2.2.2.2.2.2.2.2.1 hP wsB_D hS q he k1 j hj (tb_use hT hlk rfl) (fun _ h9 => h9) hfin (F.2.2.2.2.2.2.1.trans hnm) hown hpt (hn _).1 (hn _).2 (by rw [fsB_len]; exact hj) hd (fun H1 locs1 hP1 _ hS1 => h p l e s m args below meth c D cA b H1 locs1 ls F (wsB_set hq hP1 ?_ (fun p hp => celB_upR hp)) hS1 hl)
  rw [celB_o hk, fsB_set (R := R) (R' := upR R q j q2) (w := w) (k := j) (v := .ref (b + q2))]
  · simp [fvB, hft, upR]
  · intro i hi
    simp [fvB, upR, hi]
end XM
end
section
def bI (z : Bool) : Int32 := if z then 1 else 0
theorem nz (z : Bool) : narrow .boolean (.int (bI z)) = .int (bI z) := by cases z <;> decide
def qI (f : Nat) (K : Int32 → Wd → Prop) : QT := fun r N R w => N = Nf f ∧ R = Rf f ∧ ∃ x, r = some (.int x) ∧ K x w
def qL (f : Nat) (K : Int64 → Wd → Prop) : QT := fun r N R w => N = Nf f ∧ R = Rf f ∧ ∃ x, r = some (.long x) ∧ K x w
def qZ (f : Nat) (K : Bool → Wd → Prop) : QT := fun r N R w => N = Nf f ∧ R = Rf f ∧ ∃ x, r = some (.int (bI x)) ∧ K x w
def qP (f : Nat) (K : Nat → Wd → Prop) : QT := fun r N R w => N = Nf f ∧ R = Rf f ∧ ∃ x, r = some (.ref x) ∧ K x w
def qV (f : Nat) (K : Wd → Prop) : QT := fun r N R w => N = Nf f ∧ R = Rf f ∧ r = none ∧ K w
def RunI (f : Nat) (M : MI) (as : List Value) (w : Wd) (K : Int32 → Wd → Prop) : Prop := Runs M as (Nf f) (Rf f) w (qI f K)
def RunL (f : Nat) (M : MI) (as : List Value) (w : Wd) (K : Int64 → Wd → Prop) : Prop := Runs M as (Nf f) (Rf f) w (qL f K)
def RunZ (f : Nat) (M : MI) (as : List Value) (w : Wd) (K : Bool → Wd → Prop) : Prop := Runs M as (Nf f) (Rf f) w (qZ f K)
def RunP (f : Nat) (M : MI) (as : List Value) (w : Wd) (K : Nat → Wd → Prop) : Prop := Runs M as (Nf f) (Rf f) w (qP f K)
def RunV (f : Nat) (M : MI) (as : List Value) (w : Wd) (K : Wd → Prop) : Prop := Runs M as (Nf f) (Rf f) w (qV f K)
/-- the walk within a method that makes nothing -/
def E (f : Nat) (M : MI) (pc : Nat) (L : List (Nat × Value)) (st : List Value) (w : Wd) (Q : QT) : Prop := Ex M pc L st (Nf f) (Rf f) w 0 0 Q
theorem RunI.mono {f : Nat} {M : MI} {as : List Value} {w : Wd} {K K' : Int32 → Wd → Prop} (h : RunI f M as w K) (hK : ∀ x w', K x w' → K' x w') : RunI f M as w K' := Runs.mono h (fun _ _ _ _ ⟨a, b, x, c, d⟩ => ⟨a, b, x, c, hK x _ d⟩)
theorem RunL.mono {f : Nat} {M : MI} {as : List Value} {w : Wd} {K K' : Int64 → Wd → Prop} (h : RunL f M as w K) (hK : ∀ x w', K x w' → K' x w') : RunL f M as w K' := Runs.mono h (fun _ _ _ _ ⟨a, b, x, c, d⟩ => ⟨a, b, x, c, hK x _ d⟩)
theorem RunZ.mono {f : Nat} {M : MI} {as : List Value} {w : Wd} {K K' : Bool → Wd → Prop} (h : RunZ f M as w K) (hK : ∀ x w', K x w' → K' x w') : RunZ f M as w K' := Runs.mono h (fun _ _ _ _ ⟨a, b, x, c, d⟩ => ⟨a, b, x, c, hK x _ d⟩)
theorem RunP.mono {f : Nat} {M : MI} {as : List Value} {w : Wd} {K K' : Nat → Wd → Prop} (h : RunP f M as w K) (hK : ∀ x w', K x w' → K' x w') : RunP f M as w K' := Runs.mono h (fun _ _ _ _ ⟨a, b, x, c, d⟩ => ⟨a, b, x, c, hK x _ d⟩)
theorem RunV.mono {f : Nat} {M : MI} {as : List Value} {w : Wd} {K K' : Wd → Prop} (h : RunV f M as w K) (hK : ∀ w', K w' → K' w') : RunV f M as w K' := Runs.mono h (fun _ _ _ _ ⟨a, b, c, d⟩ => ⟨a, b, c, hK _ d⟩)
theorem mt {w : Cond} (i : Nat) (h : tables_1[i]? = some w) : w ∈ lw_tbl := List.mem_append_right _ (List.mem_of_getElem? h)
theorem mp {w : Cond} (i : Nat) (h : (k2_sels lw_privs)[i]? = some w) : w ∈ lw_tbl := List.mem_append_left _ (List.mem_of_getElem? h)
section XT
variable {f : Nat} {M : MI} {pc : Nat} {L L' : List (Nat × Value)} {st : List Value} {w : Wd} {Q : QT}
abbrev Z0 (M' : MI) : Prop := M'.2.2.2.2.cells = 0 ∧ M'.2.2.2.2.slots = 0
theorem zfit {M' M : MI} (h : Z0 M') : 0 + M'.2.2.2.2.cells ≤ M.2.2.2.2.cells ∧ 0 + M'.2.2.2.2.slots ≤ M.2.2.2.2.slots := by
  rw [h.1, h.2]
  exact ⟨Nat.zero_le _, Nat.zero_le _⟩
theorem x_callVI {idx q na ci : Nat} (M' : MI) (as : List Value) {K : Int32 → Wd → Prop} (hd : decode M.2.1 pc = .ok (.invokevirtual idx, 3)) (hlk : MLk M.1.cls idx M') (hc : CV M' na) (hk : kd q = .inr ci) (hcn : (cls_[ci]?).map (fun x => x.1) = some M'.1.cls) (hq : q < Nf f) (hn : as.length = na) (hw : (st.map fun v => v.category).sum ≤ 8) (hR : Fits M' M) (hz : Z0 M') (h : RunI f M' (.ref q :: as) w K) (h2 : ∀ x w1, K x w1 → E f M (pc + 3) L (.int x :: st) w1 Q) : E f M pc L (as.reverse ++ .ref q :: st) w Q :=
  x_callV M' as hd hlk hc hk hcn hq hn hw hR (zfit hz) (Runs.mono h (fun r N' R' w' ⟨a, b, x, c, d⟩ => by subst a; subst b; subst c; rw [hz.1, hz.2]; exact h2 x w' d))
theorem x_callSI {idx na : Nat} (M' : MI) (as : List Value) {K : Int32 → Wd → Prop} (hd : decode M.2.1 pc = .ok (.invokestatic idx, 3)) (hlk : MLk M.1.cls idx M') (hc : CS M' na) (hn : as.length = na) (hw : (st.map fun v => v.category).sum ≤ 8) (hR : Fits M' M) (hz : Z0 M') (h : RunI f M' as w K) (h2 : ∀ x w1, K x w1 → E f M (pc + 3) L (.int x :: st) w1 Q) : E f M pc L (as.reverse ++ st) w Q :=
  x_callS M' as hd hlk hc hn hw hR (zfit hz) (Runs.mono h (fun r N' R' w' ⟨a, b, x, c, d⟩ => by subst a; subst b; subst c; rw [hz.1, hz.2]; exact h2 x w' d))
theorem x_callVL {idx q na ci : Nat} (M' : MI) (as : List Value) {K : Int64 → Wd → Prop} (hd : decode M.2.1 pc = .ok (.invokevirtual idx, 3)) (hlk : MLk M.1.cls idx M') (hc : CV M' na) (hk : kd q = .inr ci) (hcn : (cls_[ci]?).map (fun x => x.1) = some M'.1.cls) (hq : q < Nf f) (hn : as.length = na) (hw : (st.map fun v => v.category).sum ≤ 8) (hR : Fits M' M) (hz : Z0 M') (h : RunL f M' (.ref q :: as) w K) (h2 : ∀ x w1, K x w1 → E f M (pc + 3) L (.long x :: st) w1 Q) : E f M pc L (as.reverse ++ .ref q :: st) w Q :=
  x_callV M' as hd hlk hc hk hcn hq hn hw hR (zfit hz) (Runs.mono h (fun r N' R' w' ⟨a, b, x, c, d⟩ => by subst a; subst b; subst c; rw [hz.1, hz.2]; exact h2 x w' d))
theorem x_callSL {idx na : Nat} (M' : MI) (as : List Value) {K : Int64 → Wd → Prop} (hd : decode M.2.1 pc = .ok (.invokestatic idx, 3)) (hlk : MLk M.1.cls idx M') (hc : CS M' na) (hn : as.length = na) (hw : (st.map fun v => v.category).sum ≤ 8) (hR : Fits M' M) (hz : Z0 M') (h : RunL f M' as w K) (h2 : ∀ x w1, K x w1 → E f M (pc + 3) L (.long x :: st) w1 Q) : E f M pc L (as.reverse ++ st) w Q :=
  x_callS M' as hd hlk hc hn hw hR (zfit hz) (Runs.mono h (fun r N' R' w' ⟨a, b, x, c, d⟩ => by subst a; subst b; subst c; rw [hz.1, hz.2]; exact h2 x w' d))
theorem x_callVZ {idx q na ci : Nat} (M' : MI) (as : List Value) {K : Bool → Wd → Prop} (hd : decode M.2.1 pc = .ok (.invokevirtual idx, 3)) (hlk : MLk M.1.cls idx M') (hc : CV M' na) (hk : kd q = .inr ci) (hcn : (cls_[ci]?).map (fun x => x.1) = some M'.1.cls) (hq : q < Nf f) (hn : as.length = na) (hw : (st.map fun v => v.category).sum ≤ 8) (hR : Fits M' M) (hz : Z0 M') (h : RunZ f M' (.ref q :: as) w K) (h2 : ∀ x w1, K x w1 → E f M (pc + 3) L (.int (bI x) :: st) w1 Q) : E f M pc L (as.reverse ++ .ref q :: st) w Q :=
  x_callV M' as hd hlk hc hk hcn hq hn hw hR (zfit hz) (Runs.mono h (fun r N' R' w' ⟨a, b, x, c, d⟩ => by subst a; subst b; subst c; rw [hz.1, hz.2]; exact h2 x w' d))
theorem x_callSZ {idx na : Nat} (M' : MI) (as : List Value) {K : Bool → Wd → Prop} (hd : decode M.2.1 pc = .ok (.invokestatic idx, 3)) (hlk : MLk M.1.cls idx M') (hc : CS M' na) (hn : as.length = na) (hw : (st.map fun v => v.category).sum ≤ 8) (hR : Fits M' M) (hz : Z0 M') (h : RunZ f M' as w K) (h2 : ∀ x w1, K x w1 → E f M (pc + 3) L (.int (bI x) :: st) w1 Q) : E f M pc L (as.reverse ++ st) w Q :=
  x_callS M' as hd hlk hc hn hw hR (zfit hz) (Runs.mono h (fun r N' R' w' ⟨a, b, x, c, d⟩ => by subst a; subst b; subst c; rw [hz.1, hz.2]; exact h2 x w' d))
theorem x_callVP {idx q na ci : Nat} (M' : MI) (as : List Value) {K : Nat → Wd → Prop} (hd : decode M.2.1 pc = .ok (.invokevirtual idx, 3)) (hlk : MLk M.1.cls idx M') (hc : CV M' na) (hk : kd q = .inr ci) (hcn : (cls_[ci]?).map (fun x => x.1) = some M'.1.cls) (hq : q < Nf f) (hn : as.length = na) (hw : (st.map fun v => v.category).sum ≤ 8) (hR : Fits M' M) (hz : Z0 M') (h : RunP f M' (.ref q :: as) w K) (h2 : ∀ x w1, K x w1 → E f M (pc + 3) L (.ref x :: st) w1 Q) : E f M pc L (as.reverse ++ .ref q :: st) w Q :=
  x_callV M' as hd hlk hc hk hcn hq hn hw hR (zfit hz) (Runs.mono h (fun r N' R' w' ⟨a, b, x, c, d⟩ => by subst a; subst b; subst c; rw [hz.1, hz.2]; exact h2 x w' d))
theorem x_callSP {idx na : Nat} (M' : MI) (as : List Value) {K : Nat → Wd → Prop} (hd : decode M.2.1 pc = .ok (.invokestatic idx, 3)) (hlk : MLk M.1.cls idx M') (hc : CS M' na) (hn : as.length = na) (hw : (st.map fun v => v.category).sum ≤ 8) (hR : Fits M' M) (hz : Z0 M') (h : RunP f M' as w K) (h2 : ∀ x w1, K x w1 → E f M (pc + 3) L (.ref x :: st) w1 Q) : E f M pc L (as.reverse ++ st) w Q :=
  x_callS M' as hd hlk hc hn hw hR (zfit hz) (Runs.mono h (fun r N' R' w' ⟨a, b, x, c, d⟩ => by subst a; subst b; subst c; rw [hz.1, hz.2]; exact h2 x w' d))
theorem x_callVV {idx q na ci : Nat} (M' : MI) (as : List Value) {K : Wd → Prop} (hd : decode M.2.1 pc = .ok (.invokevirtual idx, 3)) (hlk : MLk M.1.cls idx M') (hc : CV M' na) (hk : kd q = .inr ci) (hcn : (cls_[ci]?).map (fun x => x.1) = some M'.1.cls) (hq : q < Nf f) (hn : as.length = na) (hw : (st.map fun v => v.category).sum ≤ 8) (hR : Fits M' M) (hz : Z0 M') (h : RunV f M' (.ref q :: as) w K) (h2 : ∀ w1, K w1 → E f M (pc + 3) L st w1 Q) : E f M pc L (as.reverse ++ .ref q :: st) w Q :=
  x_callV M' as hd hlk hc hk hcn hq hn hw hR (zfit hz) (Runs.mono h (fun r N' R' w' ⟨a, b, c, d⟩ => by subst a; subst b; subst c; rw [hz.1, hz.2]; exact h2 w' d))
theorem x_callSV {idx na : Nat} (M' : MI) (as : List Value) {K : Wd → Prop} (hd : decode M.2.1 pc = .ok (.invokestatic idx, 3)) (hlk : MLk M.1.cls idx M') (hc : CS M' na) (hn : as.length = na) (hw : (st.map fun v => v.category).sum ≤ 8) (hR : Fits M' M) (hz : Z0 M') (h : RunV f M' as w K) (h2 : ∀ w1, K w1 → E f M (pc + 3) L st w1 Q) : E f M pc L (as.reverse ++ st) w Q :=
  x_callS M' as hd hlk hc hn hw hR (zfit hz) (Runs.mono h (fun r N' R' w' ⟨a, b, c, d⟩ => by subst a; subst b; subst c; rw [hz.1, hz.2]; exact h2 w' d))
theorem x_retI {x : Int32} {K : Int32 → Wd → Prop} (hd : decode M.2.1 pc = .ok (.ireturn, 1)) (hr : M.2.2.2.1 = some .int) (hz : Z0 M) (h : K x w) : E f M pc L [.int x] w (qI f K) := x_iret hd hr hz.1.symm (by rw [hz.2]; exact Nat.le_refl 0) ⟨rfl, rfl, x, rfl, h⟩
theorem x_retZ {x : Int32} {z : Bool} {K : Bool → Wd → Prop} (hd : decode M.2.1 pc = .ok (.ireturn, 1)) (hr : M.2.2.2.1 = some .boolean) (hx : x = bI z) (hz : Z0 M) (h : K z w) : E f M pc L [.int x] w (qZ f K) := x_zret hd hr (by rw [hx]; exact nz z) hz.1.symm (by rw [hz.2]; exact Nat.le_refl 0) ⟨rfl, rfl, z, by rw [hx], h⟩
theorem x_retL {x : Int64} {K : Int64 → Wd → Prop} (hd : decode M.2.1 pc = .ok (.lreturn, 1)) (hr : M.2.2.2.1 = some .long) (hz : Z0 M) (h : K x w) : E f M pc L [.long x] w (qL f K) := x_lret hd hr hz.1.symm (by rw [hz.2]; exact Nat.le_refl 0) ⟨rfl, rfl, x, rfl, h⟩
theorem x_retV {K : Wd → Prop} (hd : decode M.2.1 pc = .ok (.return_, 1)) (hr : M.2.2.2.1 = none) (hz : Z0 M) (h : K w) : E f M pc L [] w (qV f K) := x_vret hd hr hz.1.symm (by rw [hz.2]; exact Nat.le_refl 0) ⟨rfl, rfl, rfl, h⟩
theorem x_retP {x : Nat} {nm : String} {K : Nat → Wd → Prop} (hd : decode M.2.1 pc = .ok (.areturn, 1)) (hr : M.2.2.2.1 = some (.object nm)) (hz : Z0 M) (h : K x w) : E f M pc L [.ref x] w (qP f K) := x_aret hd hr hz.1.symm (by rw [hz.2]; exact Nat.le_refl 0) ⟨rfl, rfl, x, rfl, h⟩
theorem x_zif_eq {z : Bool} {off : Int} (tgt : Nat) (hd : decode M.2.1 pc = .ok (.ifCond .eq off, 3)) (ht : (pc : Int) + off = (tgt : Int)) (h1 : z = false → E f M tgt L st w Q) (h2 : z = true → E f M (pc + 3) L st w Q) : E f M pc L (.int (bI z) :: st) w Q := x_if_eq tgt hd ht (fun c => h1 (by cases z <;> first | rfl | exact absurd c (by decide))) (fun c => h2 (by cases z <;> first | rfl | exact absurd rfl c))
theorem x_zif_ne {z : Bool} {off : Int} (tgt : Nat) (hd : decode M.2.1 pc = .ok (.ifCond .ne off, 3)) (ht : (pc : Int) + off = (tgt : Int)) (h1 : z = true → E f M tgt L st w Q) (h2 : z = false → E f M (pc + 3) L st w Q) : E f M pc L (.int (bI z) :: st) w Q := x_if_ne tgt hd ht (fun c => h1 (by cases z <;> first | rfl | exact absurd rfl c)) (fun c => h2 (by cases z <;> first | rfl | exact absurd c (by decide)))
theorem x_iastE {q len : Nat} {i x : Int32} (hd : decode M.2.1 pc = .ok (.iastore, 1)) (hk : kd q = .inl (0, len)) (hq : q < Nf f) (hin : vp_in i len) (h : ∀ w', w' = upI w q i.toNatClampNeg x → E f M (pc + 1) L st w' Q) : E f M pc L (.int x :: .int i :: .ref q :: st) w Q := x_iast hd hk hq hin (h _ rfl)
theorem x_castE {q len : Nat} {i x : Int32} (hd : decode M.2.1 pc = .ok (.castore, 1)) (hk : kd q = .inl (2, len)) (hq : q < Nf f) (hin : vp_in i len) (h : ∀ w', w' = upI w q i.toNatClampNeg (vp_nar .char x) → E f M (pc + 1) L st w' Q) : E f M pc L (.int x :: .int i :: .ref q :: st) w Q := x_cast hd hk hq hin (h _ rfl)
theorem x_zastE {q len : Nat} {i x : Int32} (hd : decode M.2.1 pc = .ok (.bastore, 1)) (hk : kd q = .inl (3, len)) (hq : q < Nf f) (hin : vp_in i len) (h : ∀ w', w' = upI w q i.toNatClampNeg (vp_nar .boolean x) → E f M (pc + 1) L st w' Q) : E f M pc L (.int x :: .int i :: .ref q :: st) w Q := x_zast hd hk hq hin (h _ rfl)
theorem x_lastE {q len : Nat} {i : Int32} {x : Int64} (hd : decode M.2.1 pc = .ok (.lastore, 1)) (hk : kd q = .inl (1, len)) (hq : q < Nf f) (hin : vp_in i len) (h : ∀ w', w' = upL w q i.toNatClampNeg x → E f M (pc + 1) L st w' Q) : E f M pc L (.long x :: .int i :: .ref q :: st) w Q := x_last hd hk hq hin (h _ rfl)
theorem x_putIE {idx q : Nat} (ci j : Nat) {x : Int32} (hd : decode M.2.1 pc = .ok (.putfield idx, 3)) (hf : FPut M.1.cls idx ci j .int) (hk : kd q = .inr ci) (ht : ftl ci j = 0) (hq : q < Nf f) (h : ∀ w', w' = upI w q j x → E f M (pc + 3) L st w' Q) : E f M pc L (.int x :: .ref q :: st) w Q := x_putI ci j hd hf hk ht hq (h _ rfl)
theorem x_putZE {idx q : Nat} (ci j : Nat) {x : Int32} (hd : decode M.2.1 pc = .ok (.putfield idx, 3)) (hf : FPut M.1.cls idx ci j .boolean) (hk : kd q = .inr ci) (ht : ftl ci j = 0) (hq : q < Nf f) (hx : narrow .boolean (.int x) = .int x ∧ fits .boolean (.int x) = true) (h : ∀ w', w' = upI w q j x → E f M (pc + 3) L st w' Q) : E f M pc L (.int x :: .ref q :: st) w Q := x_putZ ci j hd hf hk ht hq hx (h _ rfl)
theorem x_putLE {idx q : Nat} (ci j : Nat) {x : Int64} (hd : decode M.2.1 pc = .ok (.putfield idx, 3)) (hf : FPut M.1.cls idx ci j .long) (hk : kd q = .inr ci) (ht : ftl ci j = 1) (hq : q < Nf f) (h : ∀ w', w' = upL w q j x → E f M (pc + 3) L st w' Q) : E f M pc L (.long x :: .ref q :: st) w Q := x_putL ci j hd hf hk ht hq (h _ rfl)
theorem x_copyE {idx q0 q1 l0 l1 : Nat} {sp dp c : Int32} (hd : decode M.2.1 pc = .ok (.invokestatic idx, 3)) (hc : CpOK M.1.cls idx) (hk0 : kd q0 = .inl (1, l0)) (hk1 : kd q1 = .inl (1, l1)) (hq0 : q0 < Nf f) (hq1 : q1 < Nf f) (hh : (¬ sp < 0) ∧ (¬ dp < 0) ∧ (¬ c < 0) ∧ sp.toNatClampNeg + c.toNatClampNeg ≤ l0 ∧ dp.toNatClampNeg + c.toNatClampNeg ≤ l1) (hw : (st.map fun v => v.category).sum ≤ 8) (hR : 1 ≤ M.2.2.2.2.frames ∧ 26 ≤ M.2.2.2.2.locals) (h : ∀ w', w' = cpL w q0 q1 sp.toNatClampNeg dp.toNatClampNeg c.toNatClampNeg → E f M (pc + 3) L st w' Q) : E f M pc L (.int c :: .int dp :: .ref q1 :: .int sp :: .ref q0 :: st) w Q := x_copy hd hc hk0 hk1 hq0 hq1 hh.1 hh.2.1 hh.2.2.1 hh.2.2.2.1 hh.2.2.2.2 hw hR (h _ rfl)
theorem x_istore_nE {i : Fin 4} {x x' : Int32} (ks : List Nat) (hd : decode M.2.1 pc = .ok (.istore_n i, 1)) (hn : (i : Nat) < M.2.2.1) (he : x' = x) (hL : lv_pick (stL (i : Nat) (.int x') L) ks = L') (h : E f M (pc + 1) L' st w Q) : E f M pc L (.int x :: st) w Q := by subst he; exact x_istore_n ks hd hn hL h
theorem x_istoreE {i : Nat} {x x' : Int32} (ks : List Nat) (hd : decode M.2.1 pc = .ok (.istore i, 2)) (hn : i < M.2.2.1) (he : x' = x) (hL : lv_pick (stL i (.int x') L) ks = L') (h : E f M (pc + 2) L' st w Q) : E f M pc L (.int x :: st) w Q := by subst he; exact x_istore ks hd hn hL h
theorem x_lstore_nE {i : Fin 4} {x x' : Int64} (ks : List Nat) (hd : decode M.2.1 pc = .ok (.lstore_n i, 1)) (hn : (i : Nat) + 1 < M.2.2.1) (he : x' = x) (hL : lv_pick (stL2 (i : Nat) (.long x') L) ks = L') (h : E f M (pc + 1) L' st w Q) : E f M pc L (.long x :: st) w Q := by subst he; exact x_lstore_n ks hd hn hL h
theorem x_lstoreE {i : Nat} {x x' : Int64} (ks : List Nat) (hd : decode M.2.1 pc = .ok (.lstore i, 2)) (hn : i + 1 < M.2.2.1) (he : x' = x) (hL : lv_pick (stL2 i (.long x') L) ks = L') (h : E f M (pc + 2) L' st w Q) : E f M pc L (.long x :: st) w Q := by subst he; exact x_lstore ks hd hn hL h
theorem x_iincE {i : Nat} {d : Int} {x v : Int32} (j : Nat) (ks : List Nat) (hd : decode M.2.1 pc = .ok (.iinc i d, 3)) (hj : L[j]? = some (i, .int x)) (hv : v = x + Int32.ofInt d) (hn : i < M.2.2.1) (hL : lv_pick (stL i (.int v) L) ks = L') (h : E f M (pc + 3) L' st w Q) : E f M pc L st w Q := x_iinc j ks hd hj hv.symm hn hL h
end XT
end
